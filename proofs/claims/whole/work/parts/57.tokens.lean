theorem kwS : ∀ j, j < 15 → hd_sl.getD j 0 = (kwT.getD j ([], 0)).1.length ∧ (kwT.getD j ([], 0)).1.length < 8 ∧ ∀ i, i < (kwT.getD j ([], 0)).1.length → (hd_sb.getD j []).getD i 0 = nI ((kwT.getD j ([], 0)).1.getD i 0) ∧ (kwT.getD j ([], 0)).1.getD i 0 < 128 := by decide +kernel
def wdL (tp : List Nat) (s e : Nat) : List Nat := (tp.drop s).take (e - s)
theorem wdL_len {tp : List Nat} {s e : Nat} (h : s ≤ e) (h2 : e ≤ tp.length) : (wdL tp s e).length = e - s := by
  unfold wdL
  rw [List.length_take, List.length_drop]
  omega
theorem wdL_at {tp : List Nat} {s e i : Nat} (h2 : e ≤ tp.length) (hi : i < e - s) : (wdL tp s e).getD i 0 = bt tp (s + i) := by
  unfold wdL bt
  rw [getD_take hi]
  simp only [List.getD_eq_getElem?_getD, List.getElem?_drop]
theorem ext_getD {l m : List Nat} (hl : l.length = m.length) (h : ∀ i, i < l.length → l.getD i 0 = m.getD i 0) : l = m := by
  refine List.ext_getElem hl (fun i h1 h2 => ?_)
  have := h i h1
  simpa [List.getD_eq_getElem?_getD, h1, h2] using this
theorem sX6_isWord {G : hd_G} {σ : hd_M} {P : Int32 → hd_M → Prop} {tp : List Nat} {s e j : Nat} (hj : j < 15) (ht : tok tp) (hA : tkA σ tp e) (hs : σ.1 63 10 = nI s) (hse : s ≤ e) (he : e ≤ tp.length) (h : P (zI (cl_bit (decide (wdL tp s e = (kwT.getD j ([], 0)).1)))) σ) : EVi G mX6_isWord SH [.ref 63, .ref (5000 + j)] σ P := by
  have l3 := ht.1
  have bb : ∀ i, i < tp.length → bt tp i < 256 := fun i hi => ht.2 _ (getD_mem (d := 0) hi)
  obtain ⟨k1, k2, k3⟩ := kwS j hj
  refine wX6_isWord _ (fun X hX => ⟨⟨by omega, by omega⟩, sJ0_length hj ?_⟩)
  have hl : Int32.ofNat (hd_sl.getD j 0) = nI (kwT.getD j ([], 0)).1.length := by rw [k1]; rfl
  rw [hl, hA.2.2.1, hs, pk_sub hse]
  refine c_eq ((e - s : Nat) : Int) ((kwT.getD j ([], 0)).1.length : Int) rfl rfl (fun z => fun v3 e3 => ?_) (fun z => ⟨Or.inl rfl, ?_⟩)
  · have hlen : (wdL tp s e).length = (kwT.getD j ([], 0)).1.length := by rw [wdL_len hse he]; omega
    have key : ∀ i, i ≤ e - s → (∀ i', i' < i → (wdL tp s e).getD i' 0 = (kwT.getD j ([], 0)).1.getD i' 0) → hd_J G mX6_isWord X SH (0, 0) 20 [(0, .ref 63), (1, .ref (5000 + j)), (2, .int (nI i))] [] σ := by
      refine hd_upto (n := e - s) (fun i => (∀ i', i' < i → (wdL tp s e).getD i' 0 = (kwT.getD j ([], 0)).1.getD i' 0) → hd_J G mX6_isWord X SH (0, 0) 20 [(0, .ref 63), (1, .ref (5000 + j)), (2, .int (nI i))] [] σ) (fun i hi ih inv => ?_)
      refine wX6_isWord_20 hX _ _ ⟨⟨by omega, by omega⟩, sJ0_length hj ?_⟩
      rw [hl]
      refine c_le ((kwT.getD j ([], 0)).1.length : Int) (i : Int) rfl rfl (fun z2 => ⟨Or.inr rfl, ?_⟩) (fun z2 => ?_)
      · have : wdL tp s e = (kwT.getD j ([], 0)).1 := ext_getD hlen (fun i' hi' => inv i' (by omega))
        rw [decide_eq_true this] at h
        exact h
      · have hik : i < (kwT.getD j ([], 0)).1.length := by omega
        rw [hA.2.1, hs, nI_add, hA.1, show (1 : Int32).toNatClampNeg = 1 from rfl, nI_clamp (show s + i < 2 ^ 31 by omega), hA.2.2.2.1 (s + i) (by omega)]
        refine b_le' (nI_lt (by omega) (by omega)) ⟨by decide, hd_k1 ⟨hd_vn (by omega) (by decide), ⟨by omega, by omega⟩, sJ0_charAt hj (by rw [k1]; exact hik) ?_⟩⟩
        rw [(k3 i hik).1]
        refine c_eqk _ (bb (s + i) (by omega)) (fun z3 => fun v5 e5 => ?_) (fun z3 => ⟨Or.inl rfl, ?_⟩) (k3 i hik).2
        · rw [e5, nI_1]
          refine ih (by omega) (fun i' hi' => ?_)
          by_cases q : i' = i
          · rw [q, wdL_at he (by omega)]
            exact z3
          · exact inv i' (by omega)
        · rw [decide_eq_false (fun q => z3 (by rw [← wdL_at he (by omega : i < e - s), q]))] at h
          exact h
    rw [e3]
    exact key 0 (Nat.zero_le _) (fun i' hi' => absurd hi' (by omega))
  · rw [decide_eq_false (fun q => z (by
      have := wdL_len hse he
      rw [q] at this
      omega))] at h
    exact h
theorem sX6_kindOfWord {G : hd_G} {σ : hd_M} {P : Int32 → hd_M → Prop} {tp : List Nat} {s e : Nat} (ht : tok tp) (hA : tkA σ tp e) (hs : σ.1 63 10 = nI s) (hse : s ≤ e) (he : e ≤ tp.length) (h : P (nI (kwF (wdL tp s e) kwT)) σ) : EVi G mX6_kindOfWord SH [.ref 63] σ P := by
  generalize hw : wdL tp s e = w at h
  refine wX6_kindOfWord (sX6_isWord (j := 0) (by decide) ht hA hs hse he ?_)
  rw [hw]
  by_cases q0 : w = [116, 105, 108, 116]
  · rw [decide_eq_true (show w = (kwT.getD 0 ([], 0)).1 from q0)]
    rw [q0] at h
    exact b_eq' (by decide) h
  rw [decide_eq_false (show ¬ w = (kwT.getD 0 ([], 0)).1 from q0)]
  refine b_eq rfl (sX6_isWord (j := 1) (by decide) ht hA hs hse he ?_)
  rw [hw]
  by_cases q1 : w = [111, 110]
  · rw [decide_eq_true (show w = (kwT.getD 1 ([], 0)).1 from q1)]
    rw [q1] at h
    exact b_eq' (by decide) h
  rw [decide_eq_false (show ¬ w = (kwT.getD 1 ([], 0)).1 from q1)]
  refine b_eq rfl (sX6_isWord (j := 2) (by decide) ht hA hs hse he ?_)
  rw [hw]
  by_cases q2 : w = [112, 97, 114, 116]
  · rw [decide_eq_true (show w = (kwT.getD 2 ([], 0)).1 from q2)]
    rw [q2] at h
    exact b_eq' (by decide) h
  rw [decide_eq_false (show ¬ w = (kwT.getD 2 ([], 0)).1 from q2)]
  refine b_eq rfl (sX6_isWord (j := 3) (by decide) ht hA hs hse he ?_)
  rw [hw]
  by_cases q3 : w = [97, 116]
  · rw [decide_eq_true (show w = (kwT.getD 3 ([], 0)).1 from q3)]
    rw [q3] at h
    exact b_eq' (by decide) h
  rw [decide_eq_false (show ¬ w = (kwT.getD 3 ([], 0)).1 from q3)]
  refine b_eq rfl (sX6_isWord (j := 4) (by decide) ht hA hs hse he ?_)
  rw [hw]
  by_cases q4 : w = [111, 114]
  · rw [decide_eq_true (show w = (kwT.getD 4 ([], 0)).1 from q4)]
    rw [q4] at h
    exact b_eq' (by decide) h
  rw [decide_eq_false (show ¬ w = (kwT.getD 4 ([], 0)).1 from q4)]
  refine b_eq rfl (sX6_isWord (j := 5) (by decide) ht hA hs hse he ?_)
  rw [hw]
  by_cases q5 : w = [97, 110, 100]
  · rw [decide_eq_true (show w = (kwT.getD 5 ([], 0)).1 from q5)]
    rw [q5] at h
    exact b_eq' (by decide) h
  rw [decide_eq_false (show ¬ w = (kwT.getD 5 ([], 0)).1 from q5)]
  refine b_eq rfl (sX6_isWord (j := 6) (by decide) ht hA hs hse he ?_)
  rw [hw]
  by_cases q6 : w = [110, 111, 116]
  · rw [decide_eq_true (show w = (kwT.getD 6 ([], 0)).1 from q6)]
    rw [q6] at h
    exact b_eq' (by decide) h
  rw [decide_eq_false (show ¬ w = (kwT.getD 6 ([], 0)).1 from q6)]
  refine b_eq rfl (sX6_isWord (j := 7) (by decide) ht hA hs hse he ?_)
  rw [hw]
  by_cases q7 : w = [119, 104, 101, 110]
  · rw [decide_eq_true (show w = (kwT.getD 7 ([], 0)).1 from q7)]
    rw [q7] at h
    exact b_eq' (by decide) h
  rw [decide_eq_false (show ¬ w = (kwT.getD 7 ([], 0)).1 from q7)]
  refine b_eq rfl (sX6_isWord (j := 8) (by decide) ht hA hs hse he ?_)
  rw [hw]
  by_cases q8 : w = [119, 105, 116, 104]
  · rw [decide_eq_true (show w = (kwT.getD 8 ([], 0)).1 from q8)]
    rw [q8] at h
    exact b_eq' (by decide) h
  rw [decide_eq_false (show ¬ w = (kwT.getD 8 ([], 0)).1 from q8)]
  refine b_eq rfl (sX6_isWord (j := 9) (by decide) ht hA hs hse he ?_)
  rw [hw]
  by_cases q9 : w = [116, 111]
  · rw [decide_eq_true (show w = (kwT.getD 9 ([], 0)).1 from q9)]
    rw [q9] at h
    exact b_eq' (by decide) h
  rw [decide_eq_false (show ¬ w = (kwT.getD 9 ([], 0)).1 from q9)]
  refine b_eq rfl (sX6_isWord (j := 10) (by decide) ht hA hs hse he ?_)
  rw [hw]
  by_cases q10 : w = [115, 101, 116]
  · rw [decide_eq_true (show w = (kwT.getD 10 ([], 0)).1 from q10)]
    rw [q10] at h
    exact b_eq' (by decide) h
  rw [decide_eq_false (show ¬ w = (kwT.getD 10 ([], 0)).1 from q10)]
  refine b_eq rfl (sX6_isWord (j := 11) (by decide) ht hA hs hse he ?_)
  rw [hw]
  by_cases q11 : w = [115, 111, 117, 110, 100]
  · rw [decide_eq_true (show w = (kwT.getD 11 ([], 0)).1 from q11)]
    rw [q11] at h
    exact b_eq' (by decide) h
  rw [decide_eq_false (show ¬ w = (kwT.getD 11 ([], 0)).1 from q11)]
  refine b_eq rfl (sX6_isWord (j := 12) (by decide) ht hA hs hse he ?_)
  rw [hw]
  by_cases q12 : w = [111, 112, 101, 110]
  · rw [decide_eq_true (show w = (kwT.getD 12 ([], 0)).1 from q12)]
    rw [q12] at h
    exact b_eq' (by decide) h
  rw [decide_eq_false (show ¬ w = (kwT.getD 12 ([], 0)).1 from q12)]
  refine b_eq rfl (sX6_isWord (j := 13) (by decide) ht hA hs hse he ?_)
  rw [hw]
  by_cases q13 : w = [115, 116, 111, 112, 115]
  · rw [decide_eq_true (show w = (kwT.getD 13 ([], 0)).1 from q13)]
    rw [q13] at h
    exact b_eq' (by decide) h
  rw [decide_eq_false (show ¬ w = (kwT.getD 13 ([], 0)).1 from q13)]
  refine b_eq rfl (sX6_isWord (j := 14) (by decide) ht hA hs hse he ?_)
  rw [hw]
  by_cases q14 : w = [100, 111]
  · rw [decide_eq_true (show w = (kwT.getD 14 ([], 0)).1 from q14)]
    rw [q14] at h
    exact b_eq' (by decide) h
  rw [decide_eq_false (show ¬ w = (kwT.getD 14 ([], 0)).1 from q14)]
  refine b_eq rfl ?_
  simp only [kwF, kwT, q0, q1, q2, q3, q4, q5, q6, q7, q8, q9, q10, q11, q12, q13, q14, if_false] at h
  exact h
theorem sX6_addA {G : hd_G} {σ σ0 : hd_M} {P : hd_M → Prop} {tp : List Nat} {ts : List Tk} {k v s a : Nat} (hA : tkA σ tp a) (hC : tkC σ ts) (hl : ts.length < 301) (hs : σ.1 63 10 = nI s) (h0 : ag tw σ0 σ) (h : ∀ σ', ag tw σ0 σ' → tkA σ' tp a → tkC σ' (ts ++ [(k, v, s)]) → P σ') : EVv G mX6_add SH [.ref 63, .int (nI k), .int (nI v)] σ P :=
  sX6_add hC hl hs (fun s1 a1 j1 C1 => h s1 (ag_tr h0 a1) (tkA_w hA (fun j hj => j1 j (by omega)) (by rw [j1 7 (by decide)]; exact hA.2.2.1) (a1 1 (by decide)).1) C1)
theorem sX6_findSign {G : hd_G} {σ : hd_M} {P : hd_M → Prop} {tp : List Nat} {ts : List Tk} {b : Nat} (ht : tok tp) (hA : tkA σ tp (b + 1)) (hC : tkC σ ts) (hl : ts.length ≤ b) (hs : σ.1 63 10 = nI b) (hb : b < tp.length) (hL : isL (bt tp b) = false) (hD : isD (bt tp b) = false) (h : ∀ σ', ag tw σ σ' → tkA σ' tp (tokE tp b).2.2 → tkC σ' (ts ++ [((tokE tp b).1, (tokE tp b).2.1, b)]) → P σ') : EVv G mX6_findSign SH [.ref 63, .int (zI (sb (bt tp b)))] σ P := by
  have l3 := ht.1
  have bb : ∀ i, i < tp.length → bt tp i < 256 := fun i hi => ht.2 _ (getD_mem (d := 0) hi)
  have hbb := bb b hb
  unfold tokE at h
  rw [if_neg (by rw [hL]; decide), if_neg (by rw [hD]; decide)] at h
  refine wX6_findSign _ (fun X hX => ?_)
  have plain : ¬ ((bt tp b = 60 ∨ bt tp b = 62) ∧ b + 1 < tp.length ∧ bt tp (b + 1) = 61) → EVi G mX6_kindOfSign SH [.int (zI (sb (bt tp b)))] σ (fun y3 s2 => EVv G mX6_add SH [.ref 63, .int y3, .int 0] s2 (fun s4 => hd_J G mX6_findSign X SH (0, 0) 87 [] [] s4)) := by
    intro hn
    rw [if_neg hn] at h
    refine sX6_kindOfSign hbb (sX6_addA (v := 0) hA hC (by omega) hs ag_rf (fun s1 a1 A1 C1 => wX6_findSign_87 hX (h s1 a1 A1 C1)))
  have two : (bt tp b = 60 ∨ bt tp b = 62) → b + 1 < tp.length → bt tp (b + 1) = 61 → hd_J G mX6_findSign X SH (0, 0) 47 [(0, .ref 63), (1, .int (zI (sb (bt tp b))))] [] σ := by
    intro h1 h2 h3
    rw [if_pos ⟨h1, h2, h3⟩] at h
    refine wX6_findSign_47 hX _ (fun s1 e1 => ?_)
    rw [hA.2.2.1, nI_1] at e1
    have j1 : ∀ j, j ≠ 7 → s1.1 63 j = σ.1 63 j := fun j hj => by rw [e1, wI_eq, if_neg hj]
    have r1 : ∀ k, k ≠ 63 → s1.1 k = σ.1 k := fun k hk => by rw [e1, wI_ne hk]
    have A1 : tkA s1 tp (b + 2) := tkA_w hA (fun j hj => j1 j (by omega)) (by rw [e1, wI_eq, if_pos rfl]) (r1 1 (by decide))
    have C1 := tkC_cg hC (j1 3 (by decide)) (r1 64 (by decide)) (r1 65 (by decide)) (r1 66 (by decide))
    have a1 : ag tw σ s1 := by rw [e1]; exact ag_wI ag_rf (by decide)
    have s10 : s1.1 63 10 = nI b := by rw [j1 10 (by decide)]; exact hs
    have ceq := c_eqk (b := bt tp b) (A := EVv G mX6_add SH [.ref 63, .int 26, .int 0] s1 (fun s3 => hd_J G mX6_findSign X SH (0, 0) 87 [] [] s3)) (B := EVv G mX6_add SH [.ref 63, .int 28, .int 0] s1 (fun s2 => hd_J G mX6_findSign X SH (0, 0) 87 [] [] s2)) 60 hbb (fun z => ?_) (fun z => ?_)
    · exact ⟨ceq.2, ceq.1⟩
    · rw [if_pos z] at h
      exact sX6_addA (k := 26) (v := 0) A1 C1 (by omega) s10 a1 (fun s2 a2 A2 C2 => wX6_findSign_87 hX (h s2 a2 A2 C2))
    · rw [if_neg z] at h
      exact sX6_addA (k := 28) (v := 0) A1 C1 (by omega) s10 a1 (fun s2 a2 A2 C2 => wX6_findSign_87 hX (h s2 a2 A2 C2))
  have br : ∀ v : Int32, v = 1 → b + 1 < tp.length → bt tp (b + 1) = 61 → (v = 0 → EVi G mX6_kindOfSign SH [.int (zI (sb (bt tp b)))] σ (fun y3 s2 => EVv G mX6_add SH [.ref 63, .int y3, .int 0] s2 (fun s4 => hd_J G mX6_findSign X SH (0, 0) 87 [] [] s4))) ∧ (¬ v = 0 → (zI (sb (bt tp b)) = 60 → hd_J G mX6_findSign X SH (0, 0) 47 [(0, .ref 63), (1, .int (zI (sb (bt tp b))))] [] σ) ∧ (¬ zI (sb (bt tp b)) = 60 → (¬ zI (sb (bt tp b)) = 62 → EVi G mX6_kindOfSign SH [.int (zI (sb (bt tp b)))] σ (fun y6 s5 => EVv G mX6_add SH [.ref 63, .int y6, .int 0] s5 (fun s7 => hd_J G mX6_findSign X SH (0, 0) 87 [] [] s7))) ∧ (zI (sb (bt tp b)) = 62 → hd_J G mX6_findSign X SH (0, 0) 47 [(0, .ref 63), (1, .int (zI (sb (bt tp b))))] [] σ))) := by
    intro v ev h2 h3
    rw [ev]
    refine b_eq' (by decide) (c_eqk 60 hbb (fun z => two (Or.inl z) h2 h3) (fun z => ?_))
    have c := c_eqk (b := bt tp b) (A := hd_J G mX6_findSign X SH (0, 0) 47 [(0, .ref 63), (1, .int (zI (sb (bt tp b))))] [] σ) (B := EVi G mX6_kindOfSign SH [.int (zI (sb (bt tp b)))] σ (fun y6 s5 => EVv G mX6_add SH [.ref 63, .int y6, .int 0] s5 (fun s7 => hd_J G mX6_findSign X SH (0, 0) 87 [] [] s7))) 62 hbb (fun z2 => two (Or.inr z2) h2 h3) (fun z2 => plain (fun q => by rcases q.1 with q | q <;> contradiction))
    exact ⟨c.2, c.1⟩
  rw [hA.2.1, hA.2.2.1]
  refine c_le (tp.length : Int) ((b + 1 : Nat) : Int) rfl rfl (fun z => fun v1 e1 => ?_) (fun z => ?_)
  · rw [e1]
    exact b_eq rfl (plain (fun q => by omega))
  · have h2 : b + 1 < tp.length := by omega
    rw [hA.1, show (1 : Int32).toNatClampNeg = 1 from rfl, nI_clamp (show b + 1 < 2 ^ 31 by omega), hA.2.2.2.1 (b + 1) h2]
    refine ⟨by decide, hd_k1 ⟨hd_vn (by omega) (by decide), ?_⟩⟩
    have c := c_eqk (b := bt tp (b + 1)) (A := ∀ v15 : Int32, v15 = 1 → (v15 = 0 → EVi G mX6_kindOfSign SH [.int (zI (sb (bt tp b)))] σ (fun y17 s16 => EVv G mX6_add SH [.ref 63, .int y17, .int 0] s16 (fun s18 => hd_J G mX6_findSign X SH (0, 0) 87 [] [] s18))) ∧ (¬ v15 = 0 → (zI (sb (bt tp b)) = 60 → hd_J G mX6_findSign X SH (0, 0) 47 [(0, .ref 63), (1, .int (zI (sb (bt tp b))))] [] σ) ∧ (¬ zI (sb (bt tp b)) = 60 → (¬ zI (sb (bt tp b)) = 62 → EVi G mX6_kindOfSign SH [.int (zI (sb (bt tp b)))] σ (fun y20 s19 => EVv G mX6_add SH [.ref 63, .int y20, .int 0] s19 (fun s21 => hd_J G mX6_findSign X SH (0, 0) 87 [] [] s21))) ∧ (zI (sb (bt tp b)) = 62 → hd_J G mX6_findSign X SH (0, 0) 47 [(0, .ref 63), (1, .int (zI (sb (bt tp b))))] [] σ)))) (B := True) 61 (bb (b + 1) h2) (fun z3 => fun v ev => br v ev h2 z3) (fun _ => trivial)
    refine ⟨fun z3 => fun v8 e8 => ?_, c.1⟩
    rw [e8]
    exact b_eq rfl (plain (fun q => z3 (by rw [q.2.2]; rfl)))
theorem sX6_findOne {G : hd_G} {σ : hd_M} {P : hd_M → Prop} {tp : List Nat} {ts : List Tk} {b : Nat} (ht : tok tp) (hA : tkA σ tp b) (hC : tkC σ ts) (hl : ts.length ≤ b) (hb : b < tp.length) (h : ∀ σ', ag tw σ σ' → tkA σ' tp (tokE tp b).2.2 → tkC σ' (ts ++ [((tokE tp b).1, (tokE tp b).2.1, b)]) → P σ') : EVv G mX6_findOne SH [.ref 63, .int (zI (sb (bt tp b)))] σ P := by
  have l3 := ht.1
  have bb : ∀ i, i < tp.length → bt tp i < 256 := fun i hi => ht.2 _ (getD_mem (d := 0) hi)
  have hbb := bb b hb
  refine wX6_findOne _ (fun X hX s1 e1 s2 e2 => ?_)
  rw [hA.2.2.1] at e1
  have f1 : s1.1 63 7 = nI b := by rw [e1, wI_eq, if_neg (by decide)]; exact hA.2.2.1
  rw [f1, nI_1] at e2
  have j2 : ∀ j, j ≠ 7 → j ≠ 10 → s2.1 63 j = σ.1 63 j := fun j h1 h2 => by rw [e2, wI_eq, if_neg h1, e1, wI_eq, if_neg h2]
  have r2 : ∀ k, k ≠ 63 → s2.1 k = σ.1 k := fun k hk => by rw [e2, wI_ne hk, e1, wI_ne hk]
  have A2 : tkA s2 tp (b + 1) := tkA_w hA (fun j hj => j2 j (by omega) (by omega)) (by rw [e2, wI_eq, if_pos rfl]) (r2 1 (by decide))
  have C2 := tkC_cg hC (j2 3 (by decide) (by decide)) (r2 64 (by decide)) (r2 65 (by decide)) (r2 66 (by decide))
  have a2 : ag tw σ s2 := by rw [e2, e1]; exact ag_wI (ag_wI ag_rf (by decide)) (by decide)
  have s10 : s2.1 63 10 = nI b := by rw [e2, wI_eq, if_neg (by decide), e1, wI_eq, if_pos rfl]
  refine sX6_isLetter hbb ?_
  cases hL : isL (bt tp b) with
  | false =>
    refine b_eq rfl (sX6_isDigit hbb ?_)
    cases hD : isD (bt tp b) with
    | false => exact b_eq rfl (sX6_findSign ht A2 C2 hl s10 hb hL hD (fun s7 a7 A7 C7 => h s7 (ag_tr a2 a7) A7 C7))
    | true =>
      unfold tokE at h
      rw [if_neg (by rw [hL]; decide), if_pos hD] at h
      exact b_eq' (by decide) (sX6_findNumber ht A2 C2 hl s10 hb hD (fun s7 a7 A7 C7 => h s7 (ag_tr a2 a7) A7 C7))
  | true =>
    unfold tokE at h
    rw [if_pos hL, runE_s hb hL] at h
    refine b_eq' (by decide) ?_
    have fin : ∀ (i : Nat) (s : hd_M), b < i → i ≤ tp.length → ag tw σ s → tkA s tp i → tkC s ts → s.1 63 10 = nI b → (∀ σ', ag tw σ σ' → tkA σ' tp i → tkC σ' (ts ++ [(wdK (wdL tp b i), 0, b)]) → P σ') → (¬ (s.1 63 7) - (s.1 63 10) = 1 → EVi G mX6_kindOfWord SH [.ref 63] s (fun y2 s1 => EVv G mX6_add SH [.ref 63, .int y2, .int 0] s1 (fun s3 => P s3))) ∧ ((s.1 63 7) - (s.1 63 10) = 1 → EVi G mX6_kindOfLetter SH [.int (zI (sb (bt tp b)))] s (fun y5 s4 => EVv G mX6_add SH [.ref 63, .int y5, .int 0] s4 (fun s6 => P s6))) := by
      intro i s hi hi2 a A C s10 h
      rw [A.2.2.1, s10, pk_sub (by omega)]
      unfold wdK at h
      rw [wdL_len (by omega) hi2] at h
      refine c_ne ((i - b : Nat) : Int) 1 rfl rfl (fun z => ?_) (fun z => ?_)
      · rw [if_neg (by omega)] at h
        exact sX6_kindOfWord ht A s10 (by omega) hi2 (sX6_addA (v := 0) A C (by omega) s10 a h)
      · rw [if_pos (by omega), wdL_at hi2 (by omega), Nat.add_zero] at h
        exact sX6_kindOfLetter hbb (sX6_addA (v := 0) A C (by omega) s10 a h)
    have key : ∀ (n i : Nat) (s : hd_M), tp.length - i ≤ n → b < i → i ≤ tp.length → ag tw σ s → tkA s tp i → tkC s ts → s.1 63 10 = nI b → (∀ σ', ag tw σ σ' → tkA σ' tp (runE isL tp (tp.length - i) i) → tkC σ' (ts ++ [(wdK (wdL tp b (runE isL tp (tp.length - i) i)), 0, b)]) → P σ') → hd_J G mX6_findOne X SH (0, 0) 25 [(0, .ref 63), (1, .int (zI (sb (bt tp b))))] [] s := by
      intro n
      induction n with
      | zero =>
        intro i s hn hb2 hi a A C s10 h
        rw [runE_n (by omega)] at h
        refine wX6_findOne_25 hX _ ?_
        rw [A.2.1]
        refine b_le (by rw [A.2.2.1]; exact nI_le (by omega) (by omega)) (fin i s hb2 hi a A C s10 h)
      | succ n ih =>
        intro i s hn hb2 hi a A C s10 h
        refine wX6_findOne_25 hX _ ?_
        refine c_le (tp.length : Int) (i : Int) A.2.1 A.2.2.1 (fun z => ?_) (fun z => ?_)
        · rw [runE_n (by omega)] at h
          exact fin i s hb2 hi a A C s10 h
        · have hil : i < tp.length := by omega
          have e7 : (s.1 63 7).toNatClampNeg = i := by rw [A.2.2.1]; exact nI_clamp (by omega)
          rw [A.1, show (1 : Int32).toNatClampNeg = 1 from rfl, e7, A.2.2.2.1 i hil]
          refine ⟨by decide, hd_k1 ⟨by rw [A.2.2.1]; exact hd_vn (by omega) (by decide), sX6_isLetter (bb i hil) ?_⟩⟩
          cases hLi : isL (bt tp i) with
          | false =>
            rw [runE_n (by rw [hLi]; simp)] at h
            exact b_eq rfl (fin i s hb2 hi a A C s10 h)
          | true =>
            rw [runE_s hil hLi] at h
            refine b_eq' (by decide) (fun s15 e15 => ?_)
            rw [A.2.2.1, nI_1] at e15
            have j15 : ∀ j, j ≠ 7 → s15.1 63 j = s.1 63 j := fun j hj => by rw [e15, wI_eq, if_neg hj]
            have r15 : ∀ k, k ≠ 63 → s15.1 k = s.1 k := fun k hk => by rw [e15, wI_ne hk]
            exact ih (i + 1) s15 (by omega) (by omega) (by omega) (by rw [e15]; exact ag_wI a (by decide)) (tkA_w A (fun j hj => j15 j (by omega)) (by rw [e15, wI_eq, if_pos rfl]) (r15 1 (by decide))) (tkC_cg C (j15 3 (by decide)) (r15 64 (by decide)) (r15 65 (by decide)) (r15 66 (by decide))) (by rw [j15 10 (by decide)]; exact s10) h
    exact key _ (b + 1) s2 (Nat.le_refl _) (by omega) (by omega) a2 A2 C2 s10 h
theorem sX6_find {G : hd_G} {σ : hd_M} {P : hd_M → Prop} {tp : List Nat} (ht : tok tp) (hT : ∀ j, j < tp.length → σ.1 1 j = zI (sb (bt tp j))) (h : ∀ σ' ts, ag tw σ σ' → ts = tkF tp 301 0 → ts.length ≤ 301 → tkC σ' ts → σ'.1 63 4 = 0 → P σ') : EVv G mX6_find SH [.ref 63, .ref 1, .int (nI tp.length)] σ P := by
  have l3 := ht.1
  have bb : ∀ i, i < tp.length → bt tp i < 256 := fun i hi => ht.2 _ (getD_mem (d := 0) hi)
  refine wX6_find _ (fun X hX => ⟨⟨by decide, by decide⟩, fun s1 e1 s2 e2 s3 e3 s4 e4 s5 e5 v6 e6 => ?_⟩)
  have e2 : s2 = hd_wI s1 63 6 (nI tp.length) := by
    rw [e2]
    have q : (if nI tp.length < Int32.ofNat 300 then nI tp.length else Int32.ofNat 300) = nI tp.length := by
      by_cases z : tp.length < 300
      · rw [if_pos (show nI tp.length < Int32.ofNat 300 from nI_lt (b := 300) z (by decide))]
      · rw [if_neg (show ¬ nI tp.length < Int32.ofNat 300 from nI_nlt (b := 300) (by omega) (by omega)), show tp.length = 300 by omega]
        rfl
    rw [q, if_neg (show ¬ (300 : Int32) < nI tp.length from nI_nlt (a := 300) l3 (by decide))]
  have a5 : ag tw σ s5 := by rw [e5, e4, e3, e2, e1]; exact ag_wI (ag_wI (ag_wI (ag_wI (ag_wI ag_rf (by decide)) (by decide)) (by decide)) (by decide)) (by decide)
  have z5 : s5.1 63 4 = 0 := by rw [e5, wI_eq, if_pos rfl]
  have A5 : tkA s5 tp 0 := by
    refine ⟨?_, ?_, ?_, fun j hj => ?_, z5⟩
    · rw [e5, wI_eq, if_neg (by decide), e4, wI_eq, if_neg (by decide), e3, wI_eq, if_neg (by decide), e2, wI_eq, if_neg (by decide), e1, wI_eq, if_pos rfl]; rfl
    · rw [e5, wI_eq, if_neg (by decide), e4, wI_eq, if_neg (by decide), e3, wI_eq, if_neg (by decide), e2, wI_eq, if_pos rfl]
    · rw [e5, wI_eq, if_neg (by decide), e4, wI_eq, if_neg (by decide), e3, wI_eq, if_pos rfl]; rfl
    · rw [(a5 1 (by decide)).1]; exact hT j hj
  have C5 : tkC s5 [] := ⟨by rw [e5, wI_eq, if_neg (by decide), e4, wI_eq, if_pos rfl]; rfl, fun j hj => absurd hj (by show ¬ j < 0; omega)⟩
  have fin : ∀ (a : Nat) (s : hd_M) (ts : List Tk), tp.length ≤ a → ts.length ≤ 300 → ag tw σ s → tkA s tp a → tkC s ts → (∀ f, tp.length - a < f → ts ++ tkF tp f a = tkF tp 301 0) → ∀ s3, s3 = hd_wI s 63 10 (s.1 63 6) → EVv G mX6_add SH [.ref 63, .int 0, .int 0] s3 (fun s4 => P s4) := by
    intro a s ts ha hts ag0 A C hf s3 e3
    rw [A.2.1] at e3
    have j3 : ∀ j, j ≠ 10 → s3.1 63 j = s.1 63 j := fun j hj => by rw [e3, wI_eq, if_neg hj]
    have r3 : ∀ k, k ≠ 63 → s3.1 k = s.1 k := fun k hk => by rw [e3, wI_ne hk]
    have A3 : tkA s3 tp a := tkA_w A (fun j hj => j3 j (by omega)) (by rw [j3 7 (by decide)]; exact A.2.2.1) (r3 1 (by decide))
    have C3 := tkC_cg C (j3 3 (by decide)) (r3 64 (by decide)) (r3 65 (by decide)) (r3 66 (by decide))
    refine sX6_addA (k := 0) (v := 0) (s := tp.length) A3 C3 (by omega) (by rw [e3, wI_eq, if_pos rfl]) (show ag tw σ s3 by rw [e3]; exact ag_wI ag0 (by decide)) (fun s4 a4 A4 C4 => ?_)
    have h1 := hf 1 (by omega)
    have h2 : tkF tp 1 a = [(0, 0, tp.length)] := by
      show (if a < tp.length then _ else _) = _
      rw [if_neg (by omega)]
    rw [h2] at h1
    rw [h1] at C4
    refine h s4 _ a4 rfl (by rw [← h1]; simp; omega) C4 A4.2.2.2.2
  have key : ∀ (n a i : Nat) (s : hd_M) (ts : List Tk), tp.length - a ≤ n → a ≤ tp.length → i ≤ a → ts.length ≤ a → ag tw σ s → tkA s tp a → tkC s ts → (∀ f, tp.length - a < f → ts ++ tkF tp f a = tkF tp 301 0) → hd_J G mX6_find X SH (0, 0) 38 [(0, .ref 63), (3, .int (nI i))] [] s := by
    intro n
    induction n with
    | zero =>
      intro a i s ts hn ha hi hts ag0 A C hf
      have f0 := fin a s ts (by omega) (by omega) ag0 A C hf
      exact wX6_find_38 hX _ ⟨fun _ => f0, fun _ => ⟨fun _ => f0, fun z => by
        rw [A.2.1, A.2.2.1] at z
        exact absurd z (nI_nlt (by omega) (by omega))⟩⟩
    | succ n ih =>
      intro a i s ts hn ha hi hts ag0 A C hf
      refine wX6_find_38 hX _ (c_le 300 (i : Int) rfl rfl (fun z => fin a s ts (by omega) (by omega) ag0 A C hf) (fun z => c_le (tp.length : Int) (a : Int) A.2.1 A.2.2.1 (fun z2 => fin a s ts (by omega) (by omega) ag0 A C hf) (fun z2 => ?_)))
      have hal : a < tp.length := by omega
      have e7 : (s.1 63 7).toNatClampNeg = a := by rw [A.2.2.1]; exact nI_clamp (by omega)
      have v7 : vp_in (s.1 63 7) 300 := by rw [A.2.2.1]; exact hd_vn (by omega) (by decide)
      rw [A.1, show (1 : Int32).toNatClampNeg = 1 from rfl, e7, A.2.2.2.1 a hal]
      have blank : isB (bt tp a) = true → ∀ s5, s5 = hd_wI s 63 7 ((s.1 63 7) + 1) → ∀ v6 : Int32, v6 = nI i + 1 → hd_J G mX6_find X SH (0, 0) 38 [(0, .ref 63), (3, .int v6)] [] s5 := by
        intro hB s5 e5 v6 e6
        rw [A.2.2.1, nI_1] at e5
        rw [e6, nI_1]
        have j5 : ∀ j, j ≠ 7 → s5.1 63 j = s.1 63 j := fun j hj => by rw [e5, wI_eq, if_neg hj]
        have r5 : ∀ k, k ≠ 63 → s5.1 k = s.1 k := fun k hk => by rw [e5, wI_ne hk]
        refine ih (a + 1) (i + 1) s5 ts (by omega) (by omega) (by omega) (by omega) (by rw [e5]; exact ag_wI ag0 (by decide)) (tkA_w A (fun j hj => j5 j (by omega)) (by rw [e5, wI_eq, if_pos rfl]) (r5 1 (by decide))) (tkC_cg C (j5 3 (by decide)) (r5 64 (by decide)) (r5 65 (by decide)) (r5 66 (by decide))) (fun f hf2 => ?_)
        have h1 := hf (f + 1) (by omega)
        have h2 : tkF tp (f + 1) a = tkF tp f (a + 1) := by
          show (if a < tp.length then _ else _) = _
          rw [if_pos hal, if_pos hB]
        rwa [h2] at h1
      refine ⟨by decide, hd_k1 ⟨v7, c_eqk 32 (bb a hal) (fun q => blank (isB_t (Or.inl q))) (fun q1 => ⟨by decide, hd_k1 ⟨v7, ?_⟩⟩)⟩⟩
      have c := c_eqk (b := bt tp a) (A := ∀ s9, s9 = hd_wI s 63 7 ((s.1 63 7) + 1) → ∀ v10 : Int32, v10 = nI i + 1 → hd_J G mX6_find X SH (0, 0) 38 [(0, .ref 63), (3, .int v10)] [] s9) (B := True) 10 (bb a hal) (fun q => blank (isB_t (Or.inr q))) (fun _ => trivial)
      refine ⟨fun q2 => ⟨by decide, hd_k1 ⟨v7, ?_⟩⟩, c.1⟩
      have q2 : bt tp a ≠ 10 := fun q => q2 (by rw [q]; rfl)
      have te := tokE_end hal
      refine sX6_findOne ht A C hts hal (fun s7 a7 A7 C7 v8 e8 => ?_)
      rw [e8, nI_1]
      refine ih (tokE tp a).2.2 (i + 1) s7 _ (by omega) te.2 (by omega) (by simp; omega) (ag_tr ag0 a7) A7 C7 (fun f hf2 => ?_)
      have h1 := hf (f + ((tokE tp a).2.2 - a) + 1) (by omega)
      have h2 : tkF tp (f + ((tokE tp a).2.2 - a) + 1) a = ((tokE tp a).1, (tokE tp a).2.1, a) :: tkF tp f (tokE tp a).2.2 := by
        show (if a < tp.length then _ else _) = _
        rw [if_pos hal, if_neg (by rw [isB_f q1 q2]; decide), tkF_st (f + ((tokE tp a).2.2 - a)) f _ (by omega) hf2]
      rw [h2] at h1
      rw [List.append_assoc]
      exact h1
  rw [e6]
  exact key _ 0 0 s5 [] (Nat.le_refl _) (Nat.zero_le _) (Nat.le_refl _) (Nat.zero_le _) a5 A5 C5 (fun f hf => by
    show tkF tp f 0 = tkF tp 301 0
    exact tkF_st _ _ _ hf (by omega))
/-- the class has come to the token of the number i -/
def tkN (σ : hd_M) (ts : List Tk) (i : Nat) : Prop := σ.1 63 4 = nI i ∧ tkC σ ts
theorem sX6_advance {G : hd_G} {σ : hd_M} {P : hd_M → Prop} {ts : List Tk} {i : Nat} (hN : tkN σ ts i) (hi : i < ts.length) (hl : ts.length ≤ 301) (h : ∀ σ', ag [63] σ σ' → tkN σ' ts (i + 1) → σ'.1 63 8 = nI (ts.getD i (0, 0, 0)).1 → σ'.1 63 9 = nI (ts.getD i (0, 0, 0)).2.1 → σ'.1 63 10 = nI (ts.getD i (0, 0, 0)).2.2 → P σ') : EVv G mX6_advance SH [.ref 63] σ P := by
  obtain ⟨h4, h3, hc⟩ := hN
  have ci := hc i hi
  refine wX6_advance (fun v1 e1 => ?_)
  have e1 : v1 = nI i := by
    rw [e1, h3, h4, nI_sub1 (by omega)]
    by_cases q : ts.length - 1 < i
    · omega
    · rw [if_neg (nI_nlt (by omega) (by omega))]
  rw [e1]
  refine b_lt' (nI_pos' (by omega)) (b_le' (nI_lt (b := 301) (by omega) (by decide)) ⟨hd_vn (by omega) (by decide), fun s2 e2 => ⟨hd_vn (by omega) (by decide), fun s3 e3 => ⟨hd_vn (by omega) (by decide), fun s4 e4 s5 e5 => ?_⟩⟩⟩)
  rw [nI_clamp (by omega), ci.1] at e2
  rw [nI_clamp (by omega), e2, wI_ne (by decide), ci.2.1, ← e2] at e3
  rw [nI_clamp (by omega), e3, wI_ne (by decide), e2, wI_ne (by decide), ci.2.2, ← e2, ← e3] at e4
  rw [nI_1] at e5
  have r : ∀ k, k ≠ 63 → s5.1 k = σ.1 k := fun k hk => by rw [e5, wI_ne hk, e4, wI_ne hk, e3, wI_ne hk, e2, wI_ne hk]
  refine h s5 (by rw [e5, e4, e3, e2]; exact ag_wI (ag_wI (ag_wI (ag_wI ag_rf (by decide)) (by decide)) (by decide)) (by decide)) ⟨by rw [e5, wI_eq, if_pos rfl], by rw [e5, wI_eq, if_neg (by decide), e4, wI_eq, if_neg (by decide), e3, wI_eq, if_neg (by decide), e2, wI_eq, if_neg (by decide)]; exact h3, fun j hj => by rw [r 64 (by decide), r 65 (by decide), r 66 (by decide)]; exact hc j hj⟩ ?_ ?_ ?_
  · rw [e5, wI_eq, if_neg (by decide), e4, wI_eq, if_neg (by decide), e3, wI_eq, if_neg (by decide), e2, wI_eq, if_pos rfl]
  · rw [e5, wI_eq, if_neg (by decide), e4, wI_eq, if_neg (by decide), e3, wI_eq, if_pos rfl]
  · rw [e5, wI_eq, if_neg (by decide), e4, wI_eq, if_pos rfl]
