def rKs (σ : hd_M) (t : Nat) (K : List (Nat → Nat)) : Prop := σ.1 97 (730 * t) = nI K.length ∧ ∀ k, k < K.length → ∀ j, j < 5 → us (kg K k 0) j = true → σ.1 97 (730 * t + 1 + 5 * k + j) = nI (kg K k j) ∧ kg K k j < 20000
theorem kg_mem {K : List (Nat → Nat)} {k : Nat} (h : k < K.length) : kg K k ∈ K := by
  unfold kg
  rw [List.getD_eq_getElem?_getD, List.getElem?_eq_getElem h]
  exact List.getElem_mem h
theorem sX8_hasWhen {G : hd_G} {σ : hd_M} {P : Int32 → hd_M → Prop} {t x : Nat} {K : List (Nat → Nat)} (h12 : σ.1 94 12 = nI (730 * t)) (ht : t < 4) (hK : rKs σ t K) (hl : K.length ≤ 24) (hx : x < 6) (h : P (zI (cl_bit (K.any (isRule x)))) σ) : EVi G mX8_hasWhen SH [.ref 94, .int (nI x)] σ P := by
  refine wX8_hasWhen _ (fun X hX v1 e1 => ?_)
  rw [e1]
  have main : ∀ (n j : Nat), j + n = K.length → (∀ i, i < j → isRule x (kg K i) = false) → hd_J G mX8_hasWhen X SH (0, 0) 2 [(0, .ref 94), (1, .int (nI x)), (2, .int (nI j))] [] σ := by
    intro n
    induction n with
    | zero =>
      intro j hj hi
      refine wX8_hasWhen_2 hX _ _ ?_
      rw [h12, nI_clamp (by omega), hK.1]
      refine ⟨hd_vn (by omega) (by decide), b_le (nI_le (by omega) (by omega)) ⟨Or.inl rfl, ?_⟩⟩
      have : K.any (isRule x) = false := List.any_eq_false.mpr (fun c hc => by
        obtain ⟨i, hi1, hi2⟩ := List.mem_iff_getElem.mp hc
        have := hi i (by omega)
        unfold kg at this
        rw [List.getD_eq_getElem?_getD, List.getElem?_eq_getElem hi1] at this
        rw [← hi2]
        simpa using this)
      rw [this] at h
      exact h
    | succ n ih =>
      intro j hj hi
      have hj' : j < K.length := by omega
      have c0 := hK.2 j hj' 0 (by decide) (us_0 _)
      have e5 : nI (730 * t) + 1 + 5 * nI j = nI (730 * t + 1 + 5 * j + 0) := by
        rw [show (5 : Int32) = nI 5 from rfl, pk_mul, nI_1, nI_add]
        rfl
      have e6 : nI (730 * t) + 2 + 5 * nI j = nI (730 * t + 1 + 5 * j + 1) := by
        rw [show (5 : Int32) = nI 5 from rfl, show (2 : Int32) = nI 2 from rfl, pk_mul, nI_add, nI_add]
        congr 1
        omega
      have nx : isRule x (kg K j) = false → hd_J G mX8_hasWhen X SH (0, 0) 2 [(0, .ref 94), (1, .int (nI x)), (2, .int (nI j + 1))] [] σ := fun z => by
        rw [nI_1]
        refine ih (j + 1) (by omega) (fun i hi2 => ?_)
        by_cases zi : i = j
        · rw [zi]; exact z
        · exact hi i (by omega)
      have er : isRule x (kg K j) = (decide (kg K j 0 = 0) && decide (kg K j 1 = x)) := by
        unfold isRule
        rw [if_pos hx]
      refine wX8_hasWhen_2 hX _ _ ?_
      rw [h12, e5, e6, nI_clamp (show 730 * t < 2 ^ 31 by omega), nI_clamp (show 730 * t + 1 + 5 * j + 0 < 2 ^ 31 by omega), nI_clamp (show 730 * t + 1 + 5 * j + 1 < 2 ^ 31 by omega), hK.1, c0.1]
      refine ⟨hd_vn (by omega) (by decide), b_le' (nI_lt (by omega) (by omega)) ⟨hd_vn (by omega) (by decide), c_ne (kg K j 0 : Int) 0 rfl rfl (fun z v e => ?_) (fun z => ⟨hd_vn (by omega) (by decide), ?_⟩) (by omega)⟩⟩
      · rw [e]
        exact nx (by rw [er, decide_eq_false (by omega)]; rfl)
      · have z0 : kg K j 0 = 0 := by omega
        have c1 := hK.2 j hj' 1 (by decide) (by rw [z0]; rfl)
        rw [c1.1]
        refine c_ne (kg K j 1 : Int) (x : Int) rfl rfl (fun w v e => ?_) (fun w => ⟨Or.inr rfl, ?_⟩) (by omega)
        · rw [e]
          exact nx (by rw [er, decide_eq_false (show ¬ kg K j 1 = x by omega), Bool.and_false])
        · have : K.any (isRule x) = true := List.any_eq_true.mpr ⟨kg K j, kg_mem hj', by rw [er, decide_eq_true z0, decide_eq_true (show kg K j 1 = x by omega)]; rfl⟩
          rw [this] at h
          exact h
  exact main K.length 0 (by omega) (fun i hi => absurd hi (by omega))
theorem pStep_six {k : Tk} {cd : List Nat} (hb : ¬ (31 ≤ k.1 ∧ k.1 ≤ 34)) : pStep 6 k (([], none, 0, false, false), false, cd) = if k.1 = 3 then .inr (.inr cd) else .inl 1 := by
  unfold pStep
  rw [if_neg (show ¬ (false = true) by decide), if_neg hb, if_neg (fun w => w.2.2.1 rfl), if_neg (fun w => w.2.1 rfl), if_neg (fun w => w.2.1 rfl), if_neg (fun w => absurd w.2 (by show ¬ 0 < 0; omega))]
  by_cases h3 : k.1 = 3
  · rw [if_pos ⟨h3, rfl, Or.inr rfl⟩, if_pos h3]
    simp [wO, wR]
  · rw [if_neg (fun w => h3 w.1), if_neg h3]
def ASK (s : Nat) (K : List (Nat → Nat)) (cd : List Nat) (ts : List Tk) : CR := if s = 0 then bN 5 ts (fun p ts1 => if K.any (isRule p) = true then .inl (4, plc ts) else pRule 0 p p cd ts1) else pRule s (s + 3) 0 cd ts
theorem pRule_e {s r x : Nat} {cd cd' : List Nat} {k : Tk} {ts ts' : List Tk} (h : pRun r ts (S0 cd) = if k.1 = 3 then .inr (ts', cd') else .inl (1, k.2.2)) : pRule s r x cd ts = if k.1 = 3 then .inr (ts', mkC [s, x, cd.length, cd'.length], cd') else .inl (1, k.2.2) := by
  by_cases h3 : k.1 = 3
  · rw [if_pos h3] at h ⊢
    exact pRule_k h
  · rw [if_neg h3] at h ⊢
    exact pRule_f h
theorem FL_nil {σ : hd_M} {b : Nat} : FL σ b [] := fun i hi => absurd hi (by simp)
theorem sX8_asked {G : hd_G} {σ0 σ : hd_M} {P : Int32 → hd_M → Prop} {tp : List Nat} {t n s : Nat} {K : List (Nat → Nat)} {cd : List Nat} {ts : List Tk} (ht : tok tp) (hT : rTape σ0 tp) (hn : n = K.length) (hn24 : n < 24) (hs : s = 0 ∨ (3 ≤ s ∧ s ≤ 5)) (hL : LSt σ0 σ tp t (730 * t + 1 + 5 * n) cd [] ts) (h20 : σ.1 94 20 = nI s) (hK : rKs σ t K) (hlen : cd.length + ts.length ≤ 300) (hF : ∀ f p σ', ASK s K cd ts = .inl (f, p) → agL t (730 * t + 1 + 5 * n) σ0 σ' → rFl σ' f p → P (nI f) σ') (hD : ∀ x cd' k ts' σ', ASK s K cd ts = (if k.1 = 3 then .inr (ts', mkC [s, x, cd.length, cd'.length], cd') else .inl (1, k.2.2)) → agL t (730 * t + 1 + 5 * n) σ0 σ' → rEnd σ' tp t cd' k ts' → (s = 0 → x < 6 ∧ σ'.1 97 (730 * t + 1 + 5 * n + 1) = nI x) → σ'.1 97 (730 * t + 1 + 5 * n + 2) = nI cd.length → σ'.1 97 (730 * t + 1 + 5 * n + 3) = nI cd'.length → cd.length ≤ 300 → P 0 σ') : EVi G mX8_asked SH [.ref 94, .int (nI (730 * t + 1 + 5 * n)), .int (nI s)] σ P := by
  have t4 := hL.2.1.2.1
  generalize hbb : 730 * t + 1 + 5 * n = b at *
  have hb : b + 4 < 730 * t + 125 := by omega
  refine wX8_asked _ _ (fun X hX => ?_)
  -- the rule itself, behind what stands before it
  have J49 : ∀ (r x : Nat) (us : List Tk) (s1 : hd_M), r < 9 → soR r = s → (r = 6 ↔ s = 3) → us.length ≤ ts.length → ASK s K cd ts = pRule s r x cd us → agL t b σ0 s1 → rC s1 t cd → s1.1 94 18 = 0 → rTs s1 tp us → s1.1 94 20 = nI s → (s = 0 → x < 6 ∧ s1.1 97 (b + 1) = nI x) → hd_J G mX8_asked X SH (0, 0) 49 [(0, .ref 94), (1, .int (nI b)), (2, .int (nI s))] [] s1 := by
    intro r x us s1 hr hso h63 lu ea a1 c1 z18 t1 z20 hx
    refine wX8_asked_49 hX _ _ ?_
    rw [show (2 : Int32) = nI 2 from rfl, show nI b + 3 = nI (b + 3) from nI_add b 3, nI_add]
    refine ⟨hd_vn (by omega) (by decide), fun s2 e2 => ?_⟩
    rw [nI_clamp (by omega), c1.2.2.1] at e2
    have e94 : s2.1 94 = s1.1 94 := by rw [e2, wI_ne (by decide)]
    have a2 : agL t b σ0 s2 := by rw [e2]; exact agL_97 a1 (by omega)
    have c2 : rC s2 t cd := ⟨by rw [e94]; exact c1.1, c1.2.1, by rw [e94]; exact c1.2.2.1, fun i hi => by
      rw [e2, wI_eq, wI_eq, if_neg (by omega), if_neg (by omega)]
      exact c1.2.2.2 i hi⟩
    have M2 : rM0 s2 tp t r (S0 cd) us := by
      refine ⟨c2, by rw [e94, z18]; rfl, by rw [e94, z20, hso], rTs_cg t1 (fun j _ _ => by rw [e94]) (by rw [e2]; rfl), rTape_L hT a2, S0_ok r cd, ?_⟩
      show 0 + cd.length + us.length ≤ 300
      omega
    have fin : ∀ (cd' : List Nat) (k : Tk) (ts' : List Tk) (s3 : hd_M), pRun r us (S0 cd) = (if k.1 = 3 then .inr (ts', cd') else .inl (1, k.2.2)) → agG t s2 s3 → rEnd s3 tp t cd' k ts' → ∀ v4 : Int32, v4 = 0 → vp_in (nI (b + 3)) 2920 ∧ (∀ s5, s5 = hd_wI s3 97 ((nI (b + 3)).toNatClampNeg) (s3.1 94 14) → P v4 s5) := by
      intro cd' k ts' s3 er a3 E v4 e4
      refine ⟨hd_vn (by omega) (by decide), fun s5 e5 => ?_⟩
      rw [nI_clamp (by omega), E.1.2.2.1] at e5
      have f94 : s5.1 94 = s3.1 94 := by rw [e5, wI_ne (by decide)]
      have lo : ∀ j, j < 730 * t + 125 → j ≠ b + 3 → s5.1 97 j = s2.1 97 j := fun j j1 j2 => by rw [e5, wI_eq, if_neg j2, a3.2.2 j (by omega)]
      rw [e4]
      refine hD x cd' k ts' s5 (ea.trans (pRule_e er)) (by rw [e5]; exact agL_97 (agL_tr a2 (agL_G (by omega) a3)) (by omega)) ⟨⟨by rw [f94]; exact E.1.1, E.1.2.1, by rw [f94]; exact E.1.2.2.1, fun i hi => ?_⟩, by rw [f94]; exact E.2.1, rTs_cg E.2.2.1 (fun j _ _ => by rw [f94]) (by rw [e5]; rfl), E.2.2.2⟩ (fun z => ⟨(hx z).1, ?_⟩) ?_ ?_ (by omega)
      · rw [e5, wI_eq, wI_eq, if_neg (by omega), if_neg (by omega)]
        exact E.1.2.2.2 i hi
      · rw [lo (b + 1) (by omega) (by omega), e2, wI_eq, if_neg (by omega)]
        exact (hx z).2
      · rw [lo (b + 2) (by omega) (by omega), e2, wI_eq, if_pos rfl]
      · rw [e5, wI_eq, if_pos rfl]
    have flt : ∀ (f p : Nat) (s3 : hd_M), pRun r us (S0 cd) = .inl (f, p) → agG t s2 s3 → 1 ≤ f → f < 7 → s3.1 94 8 = nI p → ∀ v4 : Int32, v4 = nI f → vp_in (nI (b + 3)) 2920 ∧ (∀ s5, s5 = hd_wI s3 97 ((nI (b + 3)).toNatClampNeg) (s3.1 94 14) → P v4 s5) := by
      intro f p s3 er a3 f1 f2 p3 v4 e4
      refine ⟨hd_vn (by omega) (by decide), fun s5 e5 => ?_⟩
      rw [nI_clamp (by omega)] at e5
      rw [e4]
      exact hF f p s5 (ea.trans (pRule_f er)) (by rw [e5]; exact agL_97 (agL_tr a2 (agL_G (by omega) a3)) (by omega)) ⟨f1, f2, by rw [e5, wI_ne (by decide)]; exact p3⟩
    refine c_ne (s : Int) 3 rfl rfl (fun n3 => ?_) (fun n3 => ?_)
    · have r6 : r ≠ 6 := fun z => by have := h63.mp z; omega
      exact sX8_either ht hr r6 M2 (fun f p s3 e a f1 f2 p3 => flt f p s3 e a f1 f2 p3) (fun cd' k ts' s3 e a E _ => fin cd' k ts' s3 e a E)
    · have r6 : r = 6 := h63.mpr (by omega)
      subst r6
      refine sX8_summed ht hr M2 (fun _ _ _ w => w.2.1 rfl) (fun f p s3 e a f1 f2 p3 => flt f p s3 e a f1 f2 p3) (fun cd' k ts' s3 e a M3 b3 _ => fin cd' k ts' s3 ?_ a ⟨M3.1, M3.2.1, M3.2.2.2.1, ?_⟩)
      · show pRun 6 us (([], none, 0, false, false), true, cd) = _
        rw [e]
        have ep := pStep_six (k := k) (cd := cd') b3
        by_cases h3 : k.1 = 3
        · rw [if_pos h3] at ep ⊢
          exact pRun_d ep
        · rw [if_neg h3] at ep ⊢
          exact pRun_f ep
      · have := M3.2.2.2.2.2.2
        have this : 0 + cd'.length + (k :: ts').length ≤ 300 := this
        omega
  obtain ⟨L1, L2, L3, L4, L5⟩ := hL
  refine c_ne (s : Int) 0 rfl rfl (fun z => ?_) (fun z => ?_)
  · have so : soR (s + 3) = s := by unfold soR; rw [if_neg (by omega)]; omega
    refine J49 (s + 3) 0 ts σ (by omega) so (by omega) (Nat.le_refl _) ?_ L1 L2 L3 L4 h20 (fun w => by omega)
    unfold ASK
    rw [if_neg (by omega)]
  · have s0 : s = 0 := by omega
    subst s0
    have ea : ASK 0 K cd ts = bN 5 ts (fun p ts1 => if K.any (isRule p) = true then .inl (4, plc ts) else pRule 0 p p cd ts1) := rfl
    obtain ⟨k, us', eu⟩ := rTs_ne L4
    subst eu
    have hk := rTs_hd L4
    have fig : (∀ x us, pN 5 (k :: us') = .inr (x, us) → K.any (isRule x) = false) → EVi G mX8_figure SH [.ref 94, .int (nI b + 1), .int 5] σ (fun y2 s1 => ∀ v3 : Int32, v3 = y2 → (v3 = 0 → hd_J G mX8_asked X SH (0, 0) 49 [(0, .ref 94), (1, .int (nI b)), (2, .int (nI 0))] [] s1) ∧ (¬ v3 = 0 → P v3 s1)) := by
      intro hno
      rw [show nI b + 1 = nI (b + 1 + ([] : List Nat).length) by rw [nI_1]; rfl]
      refine sX8_figure (m := 5) ht hT hb (by show 0 < 4; omega) ⟨L1, L2, L3, L4, L5⟩ (by decide) (fun f e fl v3 e3 => ?_) (fun x us s1 e le x5 Ls v3 e3 => b_eq e3 ?_)
      · rw [e3]
        exact b_eq' (f_nz fl.1 (by have := fl.2.1; omega)) (hF f _ σ (ea.trans (bN_f e)) L1 fl)
      · have so : soR x = 0 := by unfold soR; rw [if_pos (by omega)]
        refine J49 x x us s1 (by omega) so (by omega) (by omega) ?_ Ls.1 Ls.2.1 Ls.2.2.1 Ls.2.2.2.1 ?_ (fun _ => ⟨by omega, Ls.2.2.2.2 0 (by simp)⟩)
        · rw [ea, bN_k e, if_neg (by rw [hno x us e]; decide)]
        · rw [Ls.1.2.1 20 (by omega), ← L1.2.1 20 (by omega)]; exact h20
    have cn := c_nu hk (A := (6 ≤ σ.1 94 10 → EVi G mX8_figure SH [.ref 94, .int (nI b + 1), .int 5] σ (fun y5 s4 => ∀ v6 : Int32, v6 = y5 → (v6 = 0 → hd_J G mX8_asked X SH (0, 0) 49 [(0, .ref 94), (1, .int (nI b)), (2, .int (nI 0))] [] s4) ∧ (¬ v6 = 0 → P v6 s4))) ∧ (σ.1 94 10 < 6 → EVi G mX8_hasWhen SH [.ref 94, .int (σ.1 94 10)] σ (fun y8 s7 => (y8 = 0 → EVi G mX8_figure SH [.ref 94, .int (nI b + 1), .int 5] s7 (fun y10 s9 => ∀ v11 : Int32, v11 = y10 → (v11 = 0 → hd_J G mX8_asked X SH (0, 0) 49 [(0, .ref 94), (1, .int (nI b)), (2, .int (nI 0))] [] s9) ∧ (¬ v11 = 0 → P v11 s9))) ∧ (¬ y8 = 0 → P 4 s7)))) (B := EVi G mX8_figure SH [.ref 94, .int (nI b + 1), .int 5] σ (fun y2 s1 => ∀ v3 : Int32, v3 = y2 → (v3 = 0 → hd_J G mX8_asked X SH (0, 0) 49 [(0, .ref 94), (1, .int (nI b)), (2, .int (nI 0))] [] s1) ∧ (¬ v3 = 0 → P v3 s1))) (fun z2 => by
      obtain ⟨v, v1, v2, v3⟩ := num_of hk z2
      rw [v2]
      have ep : pN 5 (k :: us') = (if k.1 = 2 then (if k.2.1 ≤ 5 then .inr (k.2.1, us') else .inl (2, k.2.2)) else .inl (1, k.2.2)) := rfl
      rw [if_pos z2] at ep
      refine c_le (6 : Int) (v : Int) rfl rfl (fun w => fig (fun x us e => ?_)) (fun w => ?_)
      · rw [ep, if_neg (by omega)] at e
        cases e
      · have e : k.2.1 = v := by omega
        rw [if_pos (by omega), e] at ep
        refine sX8_hasWhen L2.1 t4 hK (by omega) (by omega) ⟨fun y => fig (fun x us e => ?_), fun y => ?_⟩
        · rw [cl_bit_z] at y
          rw [ep] at e
          injection e with e
          injection e with e1 e2
          rw [← e1]
          exact y
        · rw [cl_bit_z] at y
          refine hF 4 k.2.2 σ ?_ L1 ⟨by decide, by decide, hk.1⟩
          rw [ea, bN_k ep, if_pos (by simpa using y)]
          rfl) (fun z2 => fig (fun x us e => by
      have ep : pN 5 (k :: us') = (if k.1 = 2 then (if k.2.1 ≤ 5 then .inr (k.2.1, us') else .inl (2, k.2.2)) else .inl (1, k.2.2)) := rfl
      rw [ep, if_neg z2] at e
      cases e))
    exact ⟨cn.2, cn.1⟩
