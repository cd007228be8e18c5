theorem wL94 {σ : hd_M} {i j : Nat} {x : Int64} : (hd_wL σ 94 i x).2 94 j = if j = i then x else σ.2 94 j := by
  show va_up σ.2 94 (va_up (σ.2 94) i x) 94 j = _
  rw [hd_up_eq]
  rfl
theorem rTok_i {σ : hd_M} {t : Tk} (h : rTok σ t) : σ.1 94 8 = nI t.2.2 := h.1
theorem tkF_b {tp : List Nat} {a f : Nat} (h : a < tp.length) (hB : isB (bt tp a) = true) : tkF tp (f + 1) a = tkF tp f (a + 1) := by
  show (if a < tp.length then _ else _) = _
  rw [if_pos h, if_pos hB]
theorem tkF_t {tp : List Nat} {a f : Nat} (h : a < tp.length) (hB : isB (bt tp a) = false) : tkF tp (f + 1) a = ((tokE tp a).1, (tokE tp a).2.1, a) :: tkF tp f (tokE tp a).2.2 := by
  show (if a < tp.length then _ else _) = _
  rw [if_pos h, if_neg (by rw [hB]; decide)]
theorem tkF_e {tp : List Nat} {a f : Nat} (h : ¬ a < tp.length) : tkF tp (f + 1) a = [(0, 0, tp.length)] := by
  show (if a < tp.length then _ else _) = _
  rw [if_neg h]
theorem sgK_f : ∀ b, b < 256 → ((b = 60 ∨ b = 62 ∨ b = 61 ∨ b = 35 ∨ b = 43 ∨ b = 45 ∨ b = 42 ∨ b = 47 ∨ b = 40 ∨ b = 41 ∨ b = 59) → (isSg (sgK b) = true ∧ rcK (sgK b) = b)) ∧ (¬ (b = 60 ∨ b = 62 ∨ b = 61 ∨ b = 35 ∨ b = 43 ∨ b = 45 ∨ b = 42 ∨ b = 47 ∨ b = 40 ∨ b = 41 ∨ b = 59) → sgK b = 1) := by decide +kernel
theorem isL_r {b : Nat} (h : isL b = true) : 1 ≤ b ∧ b < 256 := by
  unfold isL at h
  simp at h
  omega
theorem wdL_s {tp : List Nat} {s e : Nat} (h : s ≤ e) (he : e < tp.length) : wdL tp s (e + 1) = wdL tp s e ++ [bt tp e] := by
  have h1 : (tp.drop s).length = tp.length - s := List.length_drop
  unfold wdL
  rw [show e + 1 - s = (e - s) + 1 by omega, List.take_add_one]
  congr 1
  rw [List.getElem?_drop, show s + (e - s) = e by omega]
  unfold bt
  rw [List.getD_eq_getElem?_getD, List.getElem?_eq_getElem he]
  rfl
theorem runE_all {p : Nat → Bool} {tp : List Nat} : ∀ (n a : Nat), tp.length - a ≤ n → ∀ i, a ≤ i → i < runE p tp (tp.length - a) a → p (bt tp i) = true
  | 0, a, h, i, h1, h2 => by
    rw [runE_n (by omega)] at h2
    omega
  | n + 1, a, h, i, h1, h2 => by
    by_cases q : a < tp.length ∧ p (bt tp a) = true
    · rw [runE_s q.1 q.2] at h2
      by_cases qi : i = a
      · rw [qi]; exact q.2
      · exact runE_all n (a + 1) (by omega) i (by omega) h2
    · rw [runE_n q] at h2
      omega
theorem wdL_all {tp : List Nat} {s e : Nat} (he : e ≤ tp.length) (h : ∀ i, s ≤ i → i < e → isL (bt tp i) = true) : ∀ b ∈ wdL tp s e, 1 ≤ b ∧ b < 256 := by
  intro b hb
  obtain ⟨i, hi, rfl⟩ := List.mem_iff_getElem.mp hb
  have hl : (wdL tp s e).length ≤ e - s := by
    unfold wdL
    rw [List.length_take]
    omega
  have e1 : (wdL tp s e)[i] = bt tp (s + i) := by
    rw [← wdL_at he (show i < e - s by omega), List.getD_eq_getElem?_getD, List.getElem?_eq_getElem hi]
    rfl
  rw [e1]
  exact isL_r (h (s + i) (by omega) (by omega))
theorem sX8_nextToken {G : hd_G} {σ : hd_M} {P : hd_M → Prop} {tp : List Nat} {ts : List Tk} {a0 : Nat} (ht : tok tp) (hT : rTape σ tp) (ha0 : a0 ≤ tp.length) (h7 : σ.1 94 7 = nI a0) (hts : ∀ f, tp.length - a0 < f → tkF tp f a0 = ts) (h : ∀ σ', agK σ σ' → rTs σ' tp ts → P σ') : EVv G mX8_nextToken SH [.ref 94] σ P := by
  have l3 := ht.1
  have bb : ∀ i, i < tp.length → bt tp i < 256 := fun i hi => ht.2 _ (getD_mem (d := 0) hi)
  have upto : ∀ (X : hd_X), hd_CX G mX8_nextToken X (hd_Zv P) SH (0, 0) → ∀ (n a : Nat) (s : hd_M), tp.length - a ≤ n → a ≤ tp.length → agK σ s → s.1 94 7 = nI a → (∀ f, tp.length - a < f → tkF tp f a = ts) → hd_J G mX8_nextToken X SH (0, 0) 0 [(0, .ref 94)] [] s := by
    intro X hX
    -- the token at a
    have one : ∀ (a : Nat) (s : hd_M), a ≤ tp.length → agK σ s → s.1 94 7 = nI a → (∀ f, tp.length - a < f → tkF tp f a = ts) → ¬ (a < tp.length ∧ isB (bt tp a) = true) → ∀ s5, s5 = hd_wI s 94 8 (s.1 94 7) → EVi G mX8_byteAt SH [.ref 94, .int (s5.1 94 7)] s5 (fun y7 s6 => ∀ v8 : Int32, v8 = y7 → (0 ≤ v8 → EVi G mX8_isDigit SH [.int v8] s6 (fun y10 s9 => (y10 = 0 → EVi G mX8_isLetter SH [.int v8] s9 (fun y12 s11 => (y12 = 0 → ∀ s13, s13 = hd_wI s11 94 7 ((s11.1 94 7) + 1) → (v8 = 60 → hd_J G mX8_nextToken X SH (0, 0) 321 [(0, .ref 94), (1, .int v8)] [] s13) ∧ (¬ v8 = 60 → (v8 = 62 → hd_J G mX8_nextToken X SH (0, 0) 321 [(0, .ref 94), (1, .int v8)] [] s13) ∧ (¬ v8 = 62 → (v8 = 61 → hd_J G mX8_nextToken X SH (0, 0) 321 [(0, .ref 94), (1, .int v8)] [] s13) ∧ (¬ v8 = 61 → (v8 = 35 → hd_J G mX8_nextToken X SH (0, 0) 321 [(0, .ref 94), (1, .int v8)] [] s13) ∧ (¬ v8 = 35 → (v8 = 43 → hd_J G mX8_nextToken X SH (0, 0) 321 [(0, .ref 94), (1, .int v8)] [] s13) ∧ (¬ v8 = 43 → (v8 = 45 → hd_J G mX8_nextToken X SH (0, 0) 321 [(0, .ref 94), (1, .int v8)] [] s13) ∧ (¬ v8 = 45 → (v8 = 42 → hd_J G mX8_nextToken X SH (0, 0) 321 [(0, .ref 94), (1, .int v8)] [] s13) ∧ (¬ v8 = 42 → (v8 = 47 → hd_J G mX8_nextToken X SH (0, 0) 321 [(0, .ref 94), (1, .int v8)] [] s13) ∧ (¬ v8 = 47 → (v8 = 40 → hd_J G mX8_nextToken X SH (0, 0) 321 [(0, .ref 94), (1, .int v8)] [] s13) ∧ (¬ v8 = 40 → (v8 = 41 → hd_J G mX8_nextToken X SH (0, 0) 321 [(0, .ref 94), (1, .int v8)] [] s13) ∧ (¬ v8 = 41 → (¬ v8 = 59 → ∀ v14 : Int32, v14 = 0 → (v14 = 0 → ∀ s15, s15 = hd_wI s13 94 9 3 → (v8 = 60 → hd_J G mX8_nextToken X SH (0, 0) 352 [(0, .ref 94), (1, .int v8)] [] s15) ∧ (¬ v8 = 60 → (¬ v8 = 62 → hd_J G mX8_nextToken X SH (0, 0) 390 [] [] s15) ∧ (v8 = 62 → hd_J G mX8_nextToken X SH (0, 0) 352 [(0, .ref 94), (1, .int v8)] [] s15))) ∧ (¬ v14 = 0 → ∀ s16, s16 = hd_wI s13 94 9 v8 → (v8 = 60 → hd_J G mX8_nextToken X SH (0, 0) 352 [(0, .ref 94), (1, .int v8)] [] s16) ∧ (¬ v8 = 60 → (¬ v8 = 62 → hd_J G mX8_nextToken X SH (0, 0) 390 [] [] s16) ∧ (v8 = 62 → hd_J G mX8_nextToken X SH (0, 0) 352 [(0, .ref 94), (1, .int v8)] [] s16)))) ∧ (v8 = 59 → hd_J G mX8_nextToken X SH (0, 0) 321 [(0, .ref 94), (1, .int v8)] [] s13)))))))))))) ∧ (¬ y12 = 0 → ∀ s17, s17 = hd_wI s11 94 9 2 → ∀ s18, s18 = hd_wL s17 94 11 0 → hd_J G mX8_nextToken X SH (0, 0) 161 [(0, .ref 94)] [] s18))) ∧ (¬ y10 = 0 → ∀ s19, s19 = hd_wI s9 94 9 1 → ∀ s20, s20 = hd_wI s19 94 10 0 → hd_J G mX8_nextToken X SH (0, 0) 85 [(0, .ref 94)] [] s20))) ∧ (v8 < 0 → ∀ s21, s21 = hd_wI s6 94 9 0 → hd_J G mX8_nextToken X SH (0, 0) 390 [] [] s21)) := by
      intro a s ha ag0 e7 hf hnb s5 e5
      rw [e7] at e5
      have a5 : agK σ s5 := by rw [e5]; exact agK_w ag0 (by decide)
      have f7 : s5.1 94 7 = nI a := by rw [e5, wI_eq, if_neg (by decide)]; exact e7
      have f8 : s5.1 94 8 = nI a := by rw [e5, wI_eq, if_pos rfl]
      have T5 := rTape_K hT a5
      have done : ∀ (s' : hd_M) (k v e : Nat), agK σ s' → a < tp.length → tokE tp a = (k, v, e) → rTok s' (k, v, a) → s'.1 94 7 = nI e → hd_J G mX8_nextToken X SH (0, 0) 390 [] [] s' := by
        intro s' k v e a' hal he rt r7
        have hB : isB (bt tp a) = false := by
          cases hb : isB (bt tp a) with
          | false => rfl
          | true => exact absurd ⟨hal, hb⟩ hnb
        have te := tokE_end hal
        rw [he] at te
        refine wX8_nextToken_390 hX (h s' a' ⟨(k, v, a), tkF tp (tp.length - e + 1) e, ?_, rt, fun _ => ⟨e, te.2, r7, fun f hf2 => tkF_st _ _ _ hf2 (by omega)⟩⟩)
        rw [← hf (tp.length - e + 1 + 1 + (e - a)) (by omega)]
        rw [show tp.length - e + 1 + 1 + (e - a) = (tp.length - e + 1 + (e - a)) + 1 by omega, tkF_t hal hB, he]
        congr 1
        show tkF tp (tp.length - e + 1 + (e - a)) e = tkF tp (tp.length - e + 1) e
        exact tkF_st _ _ _ (by omega) (by omega)
      rw [f7]
      refine sX8_byteAt T5 ht ha (fun v8 e8 => ?_)
      by_cases hal : a < tp.length
      · have hbb := bb a hal
        have e8n : v8 = nI (bt tp a) := by rw [e8]; unfold btI; rw [if_pos hal]
        refine b_le (by rw [e8n]; exact nI_pos' (by omega)) ?_
        rw [e8]
        refine sX8_isDigit ht ?_
        rw [decide_eq_true hal, Bool.true_and]
        cases hD : isD (bt tp a) with
        | true =>
          have hdb : 48 ≤ bt tp a ∧ bt tp a ≤ 57 := by unfold isD at hD; simpa using hD
          have hL : isL (bt tp a) = false := by unfold isL; simp; omega
          have te : tokE tp a = (2, numV tp (tp.length - (a + 1)) (a + 1) (bt tp a - 48), runE isD tp (tp.length - a) a) := by
            unfold tokE
            rw [if_neg (by rw [hL]; decide), if_pos hD]
          refine b_eq' (by decide) (fun s19 e19 s20 e20 => ?_)
          have a20 : agK σ s20 := by rw [e20, e19]; exact agK_w (agK_w a5 (by decide)) (by decide)
          have key : ∀ (n i m v : Nat) (s' : hd_M), tp.length - i ≤ n → a ≤ i → i ≤ tp.length → agK σ s' → s'.1 94 7 = nI i → s'.1 94 8 = nI a → s'.1 94 9 = 1 → s'.1 94 10 = nI m → m < 1000000 → v = min 10000 m → (i = a → m = 0) → runE isD tp (tp.length - a) a = runE isD tp (tp.length - i) i → (a < i → numV tp (tp.length - (a + 1)) (a + 1) (bt tp a - 48) = numV tp (tp.length - i) i v) → hd_J G mX8_nextToken X SH (0, 0) 85 [(0, .ref 94)] [] s' := by
            intro n
            induction n with
            | zero =>
              intro i m v s' hn hai hi ag' g7 g8 g9 g10 hm hv h0 hr hnv
              have T' := rTape_K hT ag'
              refine wX8_nextToken_85 hX ?_
              rw [g7]
              refine sX8_byteAt T' ht hi (sX8_isDigit ht ?_)
              rw [decide_eq_false (by omega), Bool.false_and]
              refine b_eq rfl ?_
              rw [runE_n (a := i) (by omega)] at hr
              have hv2 := hnv (by
                rcases Nat.lt_or_ge a i with q | q
                · exact q
                · omega)
              rw [numV_n (a := i) (by omega)] at hv2
              refine done s' _ _ _ ag' hal te ⟨g8, Or.inr (Or.inl ⟨rfl, g9, m, by omega, g10, ?_⟩)⟩ (by rw [hr]; exact g7)
              show numV tp (tp.length - (a + 1)) (a + 1) (bt tp a - 48) = min 10000 m
              rw [hv2]; exact hv
            | succ n ih =>
              intro i m v s' hn hai hi ag' g7 g8 g9 g10 hm hv h0 hr hnv
              have T' := rTape_K hT ag'
              refine wX8_nextToken_85 hX ?_
              rw [g7]
              refine sX8_byteAt T' ht hi (sX8_isDigit ht ?_)
              cases hq : (decide (i < tp.length) && isD (bt tp i)) with
              | false =>
                have hq2 : ¬ (i < tp.length ∧ isD (bt tp i) = true) := by simpa using hq
                refine b_eq rfl ?_
                have hai2 : a < i := by
                  rcases Nat.lt_or_ge a i with q | q
                  · exact q
                  · have : i = a := by omega
                    rw [this] at hq2
                    exact absurd ⟨hal, hD⟩ hq2
                rw [runE_n hq2] at hr
                have hv2 := hnv hai2
                rw [numV_n hq2] at hv2
                refine done s' _ _ _ ag' hal te ⟨g8, Or.inr (Or.inl ⟨rfl, g9, m, by omega, g10, ?_⟩)⟩ (by rw [hr]; exact g7)
                show numV tp (tp.length - (a + 1)) (a + 1) (bt tp a - 48) = min 10000 m
                rw [hv2]; exact hv
              | true =>
                have hq2 : i < tp.length ∧ isD (bt tp i) = true := by simpa using hq
                have hdi : 48 ≤ bt tp i ∧ bt tp i ≤ 57 := by have := hq2.2; unfold isD at this; simpa using this
                rw [runE_s hq2.1 hq2.2] at hr
                refine b_eq' (by decide) ?_
                have nextV : ∀ v', v' = min 10000 (v * 10 + (bt tp i - 48)) → (a < i + 1 → numV tp (tp.length - (a + 1)) (a + 1) (bt tp a - 48) = numV tp (tp.length - (i + 1)) (i + 1) v') := by
                  intro v' hv' _
                  by_cases q : i = a
                  · subst q
                    have hm0 := h0 rfl
                    rw [hv', hv, hm0]
                    congr 1
                    omega
                  · rw [hnv (by omega), numV_s hq2.1 hq2.2, hv']
                refine c_le 100000 (m : Int) rfl g10 (fun z => fun s5' e5' => ?_) (fun z => ?_)
                · rw [g7, nI_1] at e5'
                  refine ih (i + 1) m 10000 s5' (by omega) (by omega) (by omega) (by rw [e5']; exact agK_w ag' (by decide)) (by rw [e5', wI_eq, if_pos rfl]) (by rw [e5', wI_eq, if_neg (by decide)]; exact g8) (by rw [e5', wI_eq, if_neg (by decide)]; exact g9) (by rw [e5', wI_eq, if_neg (by decide)]; exact g10) hm (by omega) (fun q => by omega) hr (nextV _ (by omega))
                · rw [g7]
                  refine sX8_byteAt T' ht hi (fun s8' e8' s9' e9' => ?_)
                  have e8' : s8' = hd_wI s' 94 10 (nI (10 * m + (bt tp i - 48))) := by
                    rw [e8', g10]
                    unfold btI
                    rw [if_pos hq2.1, show (10 : Int32) = nI 10 from rfl, pk_mul, nI_add, show (48 : Int32) = nI 48 from rfl, pk_sub (by omega), show 10 * m + bt tp i - 48 = 10 * m + (bt tp i - 48) by omega]
                  have k7 : s8'.1 94 7 = nI i := by rw [e8', wI_eq, if_neg (by decide)]; exact g7
                  rw [k7, nI_1] at e9'
                  refine ih (i + 1) (10 * m + (bt tp i - 48)) (min 10000 (10 * m + (bt tp i - 48))) s9' (by omega) (by omega) (by omega) (by rw [e9', e8']; exact agK_w (agK_w ag' (by decide)) (by decide)) (by rw [e9', wI_eq, if_pos rfl]) (by rw [e9', wI_eq, if_neg (by decide), e8', wI_eq, if_neg (by decide)]; exact g8) (by rw [e9', wI_eq, if_neg (by decide), e8', wI_eq, if_neg (by decide)]; exact g9) (by rw [e9', wI_eq, if_neg (by decide), e8', wI_eq, if_pos rfl]) (by omega) rfl (fun q => by omega) hr (nextV _ (by omega))
          exact key _ a 0 0 s20 (Nat.le_refl _) (Nat.le_refl _) ha a20 (by rw [e20, wI_eq, if_neg (by decide), e19, wI_eq, if_neg (by decide)]; exact f7) (by rw [e20, wI_eq, if_neg (by decide), e19, wI_eq, if_neg (by decide)]; exact f8) (by rw [e20, wI_eq, if_neg (by decide), e19, wI_eq, if_pos rfl]) (by rw [e20, wI_eq, if_pos rfl]; rfl) (by decide) rfl (fun _ => rfl) rfl (fun q => by omega)
        | false =>
          refine b_eq rfl (sX8_isLetter ht ?_)
          rw [decide_eq_true hal, Bool.true_and]
          cases hL : isL (bt tp a) with
          | true =>
            have te : tokE tp a = (wdK (wdL tp a (runE isL tp (tp.length - a) a)), 0, runE isL tp (tp.length - a) a) := by
              unfold tokE
              rw [if_pos hL]
              rfl
            have rl := runE_r (p := isL) (tp := tp) _ a (Nat.le_refl _) ha
            have al := runE_all (p := isL) (tp := tp) _ a (Nat.le_refl _)
            refine b_eq' (by decide) (fun s17 e17 s18 e18 => ?_)
            have a18 : agK σ s18 := by rw [e18, e17]; exact agK_l (agK_w a5 (by decide))
            have w18 : ∀ j, s18.1 94 j = if j = 9 then 2 else s5.1 94 j := fun j => by rw [e18]; show s17.1 94 j = _; rw [e17, wI_eq]
            have fin : ∀ (i : Nat) (s' : hd_M), runE isL tp (tp.length - a) a = i → agK σ s' → s'.1 94 7 = nI i → s'.1 94 8 = nI a → s'.1 94 9 = 2 → s'.2 94 11 = lN (pkN ((wdL tp a i).take 7)) → ((s'.1 94 7) - (s'.1 94 8) ≤ 7 → hd_J G mX8_nextToken X SH (0, 0) 390 [] [] s') ∧ (7 < (s'.1 94 7) - (s'.1 94 8) → ∀ s5, s5 = hd_wL s' 94 11 0 → hd_J G mX8_nextToken X SH (0, 0) 390 [] [] s5) := by
              intro i s' hi ag' g7 g8 g9 g11
              have wl := wdL_len (tp := tp) (s := a) (e := i) (by omega) (by omega)
              have wa : ∀ b ∈ wdL tp a i, 1 ≤ b ∧ b < 256 := wdL_all (by omega) (fun j h1 h2 => al j h1 (by omega))
              have rt : ∀ s'' : hd_M, s''.1 94 8 = nI a → s''.1 94 9 = 2 → s''.2 94 11 = lN (pkW (wdL tp a i)) → rTok s'' (wdK (wdL tp a i), 0, a) := fun s'' k8 k9 k11 => ⟨k8, Or.inr (Or.inr (Or.inr ⟨wdK_r _, k9, pkW (wdL tp a i), pkW_lt wa, k11, fun k hk1 hk2 => pkW_iff wa hk1 hk2⟩))⟩
              rw [hi] at te
              rw [g7, g8, pk_sub (by omega)]
              refine c_le ((i - a : Nat) : Int) 7 rfl rfl (fun z => ?_) (fun z => fun s5 e5 => ?_)
              · refine done s' _ _ _ ag' hal te (rt s' g8 g9 ?_) g7
                rw [g11]
                unfold pkW
                rw [if_pos (by omega), List.take_of_length_le (by omega)]
              · refine done s5 _ _ _ (by rw [e5]; exact agK_l ag') hal te (rt s5 (by rw [e5]; exact g8) (by rw [e5]; exact g9) ?_) (by rw [e5]; exact g7)
                unfold pkW
                rw [if_neg (by omega), e5, wL94, if_pos rfl]
                rfl
            have key : ∀ (n i : Nat) (s' : hd_M), tp.length - i ≤ n → a ≤ i → i ≤ tp.length → runE isL tp (tp.length - a) a = runE isL tp (tp.length - i) i → agK σ s' → s'.1 94 7 = nI i → s'.1 94 8 = nI a → s'.1 94 9 = 2 → s'.2 94 11 = lN (pkN ((wdL tp a i).take 7)) → hd_J G mX8_nextToken X SH (0, 0) 161 [(0, .ref 94)] [] s' := by
              intro n
              induction n with
              | zero =>
                intro i s' hn hai hi hr ag' g7 g8 g9 g11
                have T' := rTape_K hT ag'
                rw [runE_n (a := i) (by omega)] at hr
                have f0 := fin i s' hr ag' g7 g8 g9 g11
                refine wX8_nextToken_161 hX ?_
                rw [show (EVi G mX8_byteAt SH [.ref 94, .int (s'.1 94 7)] s') = (EVi G mX8_byteAt SH [.ref 94, .int (nI i)] s') by rw [g7]]
                refine sX8_byteAt T' ht hi (sX8_isLetter ht ?_)
                rw [decide_eq_false (by omega), Bool.false_and]
                exact b_eq rfl f0
              | succ n ih =>
                intro i s' hn hai hi hr ag' g7 g8 g9 g11
                have T' := rTape_K hT ag'
                refine wX8_nextToken_161 hX ?_
                rw [show (EVi G mX8_byteAt SH [.ref 94, .int (s'.1 94 7)] s') = (EVi G mX8_byteAt SH [.ref 94, .int (nI i)] s') by rw [g7]]
                refine sX8_byteAt T' ht hi (sX8_isLetter ht ?_)
                cases hq : (decide (i < tp.length) && isL (bt tp i)) with
                | false =>
                  have hq2 : ¬ (i < tp.length ∧ isL (bt tp i) = true) := by simpa using hq
                  rw [runE_n hq2] at hr
                  exact b_eq rfl (fin i s' hr ag' g7 g8 g9 g11)
                | true =>
                  have hq2 : i < tp.length ∧ isL (bt tp i) = true := by simpa using hq
                  rw [runE_s hq2.1 hq2.2] at hr
                  have wl := wdL_len (tp := tp) (s := a) (e := i) hai hi
                  have wa : ∀ b ∈ wdL tp a i, 1 ≤ b ∧ b < 256 := wdL_all hi (fun j h1 h2 => al j h1 (by
                    have := runE_r (p := isL) (tp := tp) _ (i + 1) (Nat.le_refl _) (by omega)
                    omega))
                  refine b_eq' (by decide) ?_
                  have e78 : (s'.1 94 7) - (s'.1 94 8) = nI (i - a) := by rw [g7, g8, pk_sub hai]
                  refine c_le 7 ((i - a : Nat) : Int) rfl e78 (fun z => fun s6 e6 => ?_) (fun z => ?_)
                  · rw [g7, nI_1] at e6
                    have w6 : ∀ j, j ≠ 7 → s6.1 94 j = s'.1 94 j := fun j hj => by rw [e6, wI_eq, if_neg hj]
                    refine ih (i + 1) s6 (by omega) (by omega) (by omega) hr (by rw [e6]; exact agK_w ag' (by decide)) (by rw [e6, wI_eq, if_pos rfl]) (by rw [w6 8 (by decide)]; exact g8) (by rw [w6 9 (by decide)]; exact g9) ?_
                    rw [e6]
                    show s'.2 94 11 = _
                    rw [g11, wdL_s hai hq2.1, List.take_append_of_le_length (by omega)]
                  · rw [show (EVi G mX8_byteAt SH [.ref 94, .int (s'.1 94 7)] s') = (EVi G mX8_byteAt SH [.ref 94, .int (nI i)] s') by rw [g7]]
                    refine sX8_byteAt T' ht hi (fun s9 e9 s10 e10 => ?_)
                    have tk : (wdL tp a i).take 7 = wdL tp a i := List.take_of_length_le (by omega)
                    have hx : pkN (wdL tp a i) < 2 ^ 48 := by
                      have := pkR_lt (l := (wdL tp a i).reverse) (fun b hb => (wa b (List.mem_reverse.mp hb)).2)
                      rw [List.length_reverse] at this
                      exact Nat.lt_of_lt_of_le this (Nat.pow_le_pow_right (n := 256) (by decide) (show (wdL tp a i).length ≤ 6 by omega))
                    have e9 : s9 = hd_wL s' 94 11 (lN (pkN (wdL tp a (i + 1)))) := by
                      rw [e9, g11, tk]
                      unfold btI
                      rw [if_pos hq2.1, shl8 hx (bb i hq2.1), wdL_s hai hq2.1, pkN_app]
                    have k7 : s9.1 94 7 = nI i := by rw [e9]; exact g7
                    rw [k7, nI_1] at e10
                    have w10 : ∀ j, j ≠ 7 → s10.1 94 j = s'.1 94 j := fun j hj => by rw [e10, wI_eq, if_neg hj, e9]; rfl
                    refine ih (i + 1) s10 (by omega) (by omega) (by omega) hr (by rw [e10, e9]; exact agK_w (agK_l ag') (by decide)) (by rw [e10, wI_eq, if_pos rfl]) (by rw [w10 8 (by decide)]; exact g8) (by rw [w10 9 (by decide)]; exact g9) ?_
                    rw [e10]
                    show s9.2 94 11 = _
                    rw [e9]
                    have wl2 := wdL_len (tp := tp) (s := a) (e := i + 1) (by omega) (by omega)
                    rw [wL94, if_pos rfl, List.take_of_length_le (by omega)]
            refine key _ a s18 (Nat.le_refl _) (Nat.le_refl _) ha rfl a18 (by rw [w18, if_neg (by decide)]; exact f7) (by rw [w18, if_neg (by decide)]; exact f8) (by rw [w18, if_pos rfl]) ?_
            rw [e18]
            rw [wL94, if_pos rfl]
            unfold wdL
            rw [Nat.sub_self, List.take_zero]
            rfl
          | false =>
            refine b_eq rfl (fun s13 e13 => ?_)
            rw [f7, nI_1] at e13
            have a13 : agK σ s13 := by rw [e13]; exact agK_w a5 (by decide)
            have T13 := rTape_K hT a13
            have g7 : s13.1 94 7 = nI (a + 1) := by rw [e13, wI_eq, if_pos rfl]
            have g8 : s13.1 94 8 = nI a := by rw [e13, wI_eq, if_neg (by decide)]; exact f8
            have e8' : btI tp a = nI (bt tp a) := by unfold btI; rw [if_pos hal]
            rw [e8']
            have hsg := sgK_f (bt tp a) hbb
            have teN : ¬ ((bt tp a = 60 ∨ bt tp a = 62) ∧ a + 1 < tp.length ∧ bt tp (a + 1) = 61) → tokE tp a = (sgK (bt tp a), 0, a + 1) := by
              intro hn
              unfold tokE
              rw [if_neg (by rw [hL]; decide), if_neg (by rw [hD]; decide), if_neg hn]
            have teY : (bt tp a = 60 ∨ bt tp a = 62) → a + 1 < tp.length → bt tp (a + 1) = 61 → tokE tp a = (if bt tp a = 60 then 26 else 28, 0, a + 2) := by
              intro h1 h2 h3
              unfold tokE
              rw [if_neg (by rw [hL]; decide), if_neg (by rw [hD]; decide), if_pos ⟨h1, h2, h3⟩]
            have ck : ∀ (k : Nat) (A B : Prop), k < 128 → (bt tp a = k → A) → (bt tp a ≠ k → B) → (nI (bt tp a) = nI k → A) ∧ (¬ nI (bt tp a) = nI k → B) := fun k A B hk f g => c_eq (bt tp a : Int) (k : Int) rfl rfl (fun z => f (by omega)) (fun z => g (by omega))
            have j352 : (bt tp a = 60 ∨ bt tp a = 62) → ∀ s15, s15 = hd_wI s13 94 9 (nI (bt tp a)) → hd_J G mX8_nextToken X SH (0, 0) 352 [(0, .ref 94), (1, .int (nI (bt tp a)))] [] s15 := by
              intro hb s15 e15
              have a15 : agK σ s15 := by rw [e15]; exact agK_w a13 (by decide)
              have k7 : s15.1 94 7 = nI (a + 1) := by rw [e15, wI_eq, if_neg (by decide)]; exact g7
              have k8 : s15.1 94 8 = nI a := by rw [e15, wI_eq, if_neg (by decide)]; exact g8
              have k9 : s15.1 94 9 = nI (bt tp a) := by rw [e15, wI_eq, if_pos rfl]
              refine wX8_nextToken_352 hX _ ?_
              rw [k7]
              refine sX8_byteAt (rTape_K hT a15) ht (by omega) ?_
              obtain ⟨z, ez, z1, z2, z3, z4⟩ := btI_z (a := a + 1) ht
              rw [ez]
              refine c_ne z 61 rfl rfl (fun hz => ?_) (fun hz => fun s3 e3 => ?_)
              · refine done s15 _ _ _ a15 hal (teN (fun q => hz (by rw [z3 q.2.1, q.2.2]; rfl))) ⟨k8, Or.inr (Or.inr (Or.inl ⟨Or.inr (hsg.1 (by omega)).1, ?_⟩))⟩ k7
                show s15.1 94 9 = nI (rcK (sgK (bt tp a)))
                rw [(hsg.1 (by omega)).2]
                exact k9
              · have h2 : a + 1 < tp.length := by
                  rcases Nat.lt_or_ge (a + 1) tp.length with q | q
                  · exact q
                  · have := z4 (by omega)
                    omega
                have h3 : bt tp (a + 1) = 61 := by have := z3 h2; omega
                have te := teY hb h2 h3
                rw [k7, nI_1] at e3
                have a3 : agK σ s3 := by rw [e3]; exact agK_w a15 (by decide)
                have m7 : s3.1 94 7 = nI (a + 2) := by rw [e3, wI_eq, if_pos rfl]
                have m8 : s3.1 94 8 = nI a := by rw [e3, wI_eq, if_neg (by decide)]; exact k8
                have c := ck 60 (∀ s5, s5 = hd_wI s3 94 9 4 → hd_J G mX8_nextToken X SH (0, 0) 390 [] [] s5) (∀ s4, s4 = hd_wI s3 94 9 5 → hd_J G mX8_nextToken X SH (0, 0) 390 [] [] s4) (by decide) (fun q s5 e5 => ?_) (fun q s4 e4 => ?_)
                · exact ⟨c.2, c.1⟩
                · rw [if_pos q] at te
                  exact done s5 _ _ _ (by rw [e5]; exact agK_w a3 (by decide)) hal te ⟨by rw [e5, wI_eq, if_neg (by decide)]; exact m8, Or.inr (Or.inr (Or.inl ⟨Or.inr rfl, by rw [e5, wI_eq, if_pos rfl]; rfl⟩))⟩ (by rw [e5, wI_eq, if_neg (by decide)]; exact m7)
                · rw [if_neg q] at te
                  exact done s4 _ _ _ (by rw [e4]; exact agK_w a3 (by decide)) hal te ⟨by rw [e4, wI_eq, if_neg (by decide)]; exact m8, Or.inr (Or.inr (Or.inl ⟨Or.inr rfl, by rw [e4, wI_eq, if_pos rfl]; rfl⟩))⟩ (by rw [e4, wI_eq, if_neg (by decide)]; exact m7)
            have j321 : (bt tp a = 60 ∨ bt tp a = 62 ∨ bt tp a = 61 ∨ bt tp a = 35 ∨ bt tp a = 43 ∨ bt tp a = 45 ∨ bt tp a = 42 ∨ bt tp a = 47 ∨ bt tp a = 40 ∨ bt tp a = 41 ∨ bt tp a = 59) → hd_J G mX8_nextToken X SH (0, 0) 321 [(0, .ref 94), (1, .int (nI (bt tp a)))] [] s13 := by
              intro hb
              refine wX8_nextToken_321 hX _ (fun v1 e1 => ?_)
              rw [e1]
              refine b_eq' (by decide) (fun s3 e3 => ?_)
              refine ck 60 _ _ (by decide) (fun q => j352 (Or.inl q) s3 e3) (fun q => ?_)
              have c := ck 62 (hd_J G mX8_nextToken X SH (0, 0) 352 [(0, .ref 94), (1, .int (nI (bt tp a)))] [] s3) (hd_J G mX8_nextToken X SH (0, 0) 390 [] [] s3) (by decide) (fun q2 => j352 (Or.inr q2) s3 e3) (fun q2 => ?_)
              · exact ⟨c.2, c.1⟩
              · refine done s3 _ _ _ (by rw [e3]; exact agK_w a13 (by decide)) hal (teN (fun w => by omega)) ⟨by rw [e3, wI_eq, if_neg (by decide)]; exact g8, Or.inr (Or.inr (Or.inl ⟨Or.inr (hsg.1 hb).1, ?_⟩))⟩ (by rw [e3, wI_eq, if_neg (by decide)]; exact g7)
                show s3.1 94 9 = nI (rcK (sgK (bt tp a)))
                rw [(hsg.1 hb).2, e3, wI_eq, if_pos rfl]
            refine ck 60 _ _ (by decide) (fun q => j321 (by omega)) (fun q1 => ck 62 _ _ (by decide) (fun q => j321 (by omega)) (fun q2 => ck 61 _ _ (by decide) (fun q => j321 (by omega)) (fun q3 => ck 35 _ _ (by decide) (fun q => j321 (by omega)) (fun q4 => ck 43 _ _ (by decide) (fun q => j321 (by omega)) (fun q5 => ck 45 _ _ (by decide) (fun q => j321 (by omega)) (fun q6 => ck 42 _ _ (by decide) (fun q => j321 (by omega)) (fun q7 => ck 47 _ _ (by decide) (fun q => j321 (by omega)) (fun q8 => ck 40 _ _ (by decide) (fun q => j321 (by omega)) (fun q9 => ck 41 _ _ (by decide) (fun q => j321 (by omega)) (fun q10 => ?_))))))))))
            have last : bt tp a ≠ 59 → ∀ v14 : Int32, v14 = 0 → (v14 = 0 → ∀ s15, s15 = hd_wI s13 94 9 3 → (nI (bt tp a) = 60 → hd_J G mX8_nextToken X SH (0, 0) 352 [(0, .ref 94), (1, .int (nI (bt tp a)))] [] s15) ∧ (¬ nI (bt tp a) = 60 → (¬ nI (bt tp a) = 62 → hd_J G mX8_nextToken X SH (0, 0) 390 [] [] s15) ∧ (nI (bt tp a) = 62 → hd_J G mX8_nextToken X SH (0, 0) 352 [(0, .ref 94), (1, .int (nI (bt tp a)))] [] s15))) ∧ (¬ v14 = 0 → ∀ s16, s16 = hd_wI s13 94 9 (nI (bt tp a)) → (nI (bt tp a) = 60 → hd_J G mX8_nextToken X SH (0, 0) 352 [(0, .ref 94), (1, .int (nI (bt tp a)))] [] s16) ∧ (¬ nI (bt tp a) = 60 → (¬ nI (bt tp a) = 62 → hd_J G mX8_nextToken X SH (0, 0) 390 [] [] s16) ∧ (nI (bt tp a) = 62 → hd_J G mX8_nextToken X SH (0, 0) 352 [(0, .ref 94), (1, .int (nI (bt tp a)))] [] s16))) := by
              intro q11 v14 e14
              rw [e14]
              refine b_eq rfl (fun s15 e15 => ?_)
              refine ck 60 _ _ (by decide) (fun q => absurd q q1) (fun _ => ?_)
              have c := ck 62 (hd_J G mX8_nextToken X SH (0, 0) 352 [(0, .ref 94), (1, .int (nI (bt tp a)))] [] s15) (hd_J G mX8_nextToken X SH (0, 0) 390 [] [] s15) (by decide) (fun q => absurd q q2) (fun _ => ?_)
              · exact ⟨c.2, c.1⟩
              · have k1 := hsg.2 (by omega)
                have te := teN (fun w => by omega)
                rw [k1] at te
                exact done s15 _ _ _ (by rw [e15]; exact agK_w a13 (by decide)) hal te ⟨by rw [e15, wI_eq, if_neg (by decide)]; exact g8, Or.inr (Or.inr (Or.inl ⟨Or.inl rfl, by rw [e15, wI_eq, if_pos rfl]; rfl⟩))⟩ (by rw [e15, wI_eq, if_neg (by decide)]; exact g7)
            have c := ck 59 (hd_J G mX8_nextToken X SH (0, 0) 321 [(0, .ref 94), (1, .int (nI (bt tp a)))] [] s13) _ (by decide) (fun q => j321 (by omega)) (fun q => last q)
            exact ⟨c.2, c.1⟩
      · have e8n : v8 = -1 := by rw [e8]; unfold btI; rw [if_neg hal]
        rw [e8n]
        refine b_le' (by decide) (fun s21 e21 => wX8_nextToken_390 hX (h s21 (by rw [e21]; exact agK_w a5 (by decide)) ⟨(0, 0, tp.length), [], ?_, ⟨?_, Or.inl ⟨rfl, by rw [e21, wI_eq, if_pos rfl]⟩⟩, fun q => absurd rfl q⟩))
        · rw [← hf (0 + 1) (by omega), tkF_e hal]
        · rw [e21, wI_eq, if_neg (by decide), f8, show a = tp.length by omega]
    intro n
    induction n with
    | zero =>
      intro a s hn ha ag0 e7 hf
      refine wX8_nextToken_0 hX ?_
      have T0 := rTape_K hT ag0
      rw [e7]
      refine sX8_byteAt T0 ht ha ?_
      have hb : btI tp a = -1 := by unfold btI; rw [if_neg (by omega)]
      rw [hb]
      refine b_eq' (by decide) ?_
      rw [e7]
      refine sX8_byteAt T0 ht ha ?_
      rw [hb]
      refine b_ne (by decide) ?_
      exact one a s ha ag0 e7 hf (by omega)
    | succ n ih =>
      intro a s hn ha ag0 e7 hf
      have T0 := rTape_K hT ag0
      have skip : a < tp.length → isB (bt tp a) = true → hd_J G mX8_nextToken X SH (0, 0) 26 [(0, .ref 94)] [] s := by
        intro hal hB
        refine wX8_nextToken_26 hX (fun s1 e1 => ?_)
        rw [e7, nI_1] at e1
        refine ih (a + 1) s1 (by omega) (by omega) (by rw [e1]; exact agK_w ag0 (by decide)) (by rw [e1, wI_eq, if_pos rfl]) (fun f hf2 => ?_)
        rw [← tkF_b (f := f) hal hB]
        exact hf (f + 1) (by omega)
      obtain ⟨z, ez, z1, z2, z3, z4⟩ := btI_z (a := a) ht
      refine wX8_nextToken_0 hX ?_
      rw [e7]
      refine sX8_byteAt T0 ht ha ?_
      rw [ez]
      have lt : 0 ≤ z → a < tp.length := fun hz => by
        rcases Nat.lt_or_ge a tp.length with q | q
        · exact q
        · have := z4 (by omega)
          omega
      refine c_eq z 32 rfl rfl (fun q => skip (lt (by omega)) (isB_t (by have := z3 (lt (by omega)); omega))) (fun q => ?_)
      rw [e7]
      refine sX8_byteAt T0 ht ha ?_
      rw [ez]
      refine c_ne z 10 rfl rfl (fun q2 => ?_) (fun q2 => skip (lt (by omega)) (isB_t (by have := z3 (lt (by omega)); omega)))
      exact one a s ha ag0 e7 hf (fun w => by
        have h1 := z3 w.1
        have h2 := w.2
        rw [isB_f (by omega) (by omega)] at h2
        cases h2)
  exact EVv_of pn_X8 rfl rfl rfl (fun X hX => upto X hX _ a0 σ (Nat.le_refl _) ha0 agK_rf h7 hts)
