theorem rel7 : ∀ (p cd : List Nat), ∃ j, p = List.replicate j 35 ++ (rel 7 p cd).1 ∧ (rel 7 p cd).2 = cd ++ List.replicate j 10035 ∧ (rel 7 p cd).1.head? ≠ some 35
  | [], cd => ⟨0, by simp [rel], by simp [rel], by simp [rel]⟩
  | k :: p, cd => by
    by_cases h : k = 35
    · obtain ⟨j, h1, h2, h3⟩ := rel7 p (cd ++ [10000 + k])
      have e : rel 7 (k :: p) cd = rel 7 p (cd ++ [10000 + k]) := by
        show (if 7 ≤ stg k then _ else _) = _
        rw [if_pos (by rw [h]; decide)]
      rw [e]
      refine ⟨j + 1, ?_, ?_, h3⟩
      · rw [List.replicate_succ, List.cons_append, ← h1, h]
      · rw [h2, h, List.replicate_succ]
        simp
    · have hk : ¬ 7 ≤ stg k := by
        unfold stg
        repeat' (first | omega | split)
      have e : rel 7 (k :: p) cd = (k :: p, cd) := by
        show (if 7 ≤ stg k then _ else _) = _
        rw [if_neg hk]
      rw [e]
      exact ⟨0, by simp, by simp, by simp [h]⟩
theorem rel1_b : ∀ (p u cd : List Nat), 0 < brk p → ∃ tl, rel 1 p cd = (36 :: tl, (rel 1 p cd).2) ∧ rel 1 (p ++ u) cd = (36 :: (tl ++ u), (rel 1 p cd).2) ∧ brk p = brk tl + 1
  | [], u, cd, h => by simp [brk] at h
  | k :: p, u, cd, h => by
    by_cases hk : k = 36
    · subst hk
      refine ⟨p, ?_, ?_, ?_⟩
      · rw [rel_stop (by decide : stg 36 < 1)]
      · show rel 1 (36 :: (p ++ u)) cd = _
        rw [rel_stop (by decide : stg 36 < 1), rel_stop (by decide : stg 36 < 1)]
      · show (if 36 = 36 then 1 else 0) + brk p = _
        rw [if_pos rfl]
        omega
    · have hs : 1 ≤ stg k := by
        unfold stg
        repeat' (first | omega | split)
      have hb : brk (k :: p) = brk p := by
        show (if k = 36 then 1 else 0) + brk p = _
        rw [if_neg hk, Nat.zero_add]
      rw [hb] at h
      obtain ⟨tl, h1, h2, h3⟩ := rel1_b p u (cd ++ [10000 + k]) h
      have e1 : rel 1 (k :: p) cd = rel 1 p (cd ++ [10000 + k]) := by
        show (if 1 ≤ stg k then _ else _) = _
        rw [if_pos hs]
      have e2 : rel 1 (k :: p ++ u) cd = rel 1 (p ++ u) (cd ++ [10000 + k]) := by
        show (if 1 ≤ stg k then _ else _) = _
        rw [if_pos hs]
        rfl
      exact ⟨tl, by rw [e1]; exact h1, by rw [e2, e1]; exact h2, by rw [hb]; exact h3⟩
theorem pOK_mem : ∀ {p : List Nat}, pOK p → ∀ k ∈ p, 31 ≤ k ∧ k ≤ 36
  | [], _, k, hk => by cases hk
  | l :: p, h, k, hk => by
    rcases List.mem_cons.mp hk with q | q
    · rw [q]; exact h.1
    · exact pOK_mem h.2.2 k q
theorem brk_0 : ∀ {p : List Nat}, brk p = 0 → ∀ k ∈ p, k ≠ 36
  | [], _, k, hk => by cases hk
  | l :: p, h, k, hk => by
    have h : (if l = 36 then 1 else 0) + brk p = 0 := h
    rcases List.mem_cons.mp hk with q | q
    · rw [q]
      intro z
      rw [if_pos z] at h
      omega
    · exact brk_0 (by omega) k q
theorem stg_p {k : Nat} (h : 31 ≤ k ∧ k ≤ 36) (h2 : k ≠ 36) : 5 ≤ stg k := by
  unfold stg
  repeat' (first | omega | split)
theorem wR_mem {D : PD} (hc : ∀ c, D.2.1 = some c → 25 ≤ c ∧ c ≤ 30) : ∀ k ∈ wR D, (22 ≤ k ∧ k ≤ 30) := by
  intro k hk
  unfold wR at hk
  rcases List.mem_append.mp hk with q | q
  · have := hc k (by simpa using q)
    omega
  · rcases List.mem_append.mp q with q | q
    · have := List.eq_of_mem_replicate q
      omega
    · rcases List.mem_append.mp q with q | q
      · split at q
        · have := List.mem_singleton.mp q
          omega
        · cases q
      · split at q
        · have := List.mem_singleton.mp q
          omega
        · cases q
theorem stg_r {k : Nat} (h : 22 ≤ k ∧ k ≤ 30) : 1 ≤ stg k ∧ stg k ≤ 4 := by
  unfold stg
  repeat' (first | omega | split)
theorem brk_z : ∀ {w : List Nat}, (∀ k ∈ w, k ≠ 36) → brk w = 0
  | [], _ => rfl
  | k :: w, h => by
    show (if k = 36 then 1 else 0) + brk w = 0
    rw [if_neg (h k List.mem_cons_self), brk_z (fun x hx => h x (List.mem_cons_of_mem _ hx))]
theorem brk_rep (j : Nat) : brk (List.replicate j 35) = 0 := brk_z (fun k hk => by rw [List.eq_of_mem_replicate hk]; decide)
theorem em_rep (j : Nat) : em (List.replicate j 35) = List.replicate j 10035 := by
  unfold em
  rw [List.map_replicate]
/-- the class's reader holds a state of the machine; m tokens have been taken -/
def cM (σ : hd_M) (q r m : Nat) (S : PS) : Prop := ∃ lag cdc, cW σ q (List.replicate lag 35 ++ wO S.1) cdc ∧ S.2.2 = cdc ++ List.replicate lag 10035 ∧ (S.2.1 = true → lag = 0) ∧ lag + (wO S.1).length + cdc.length ≤ m ∧ σ.1 62 2 = 0 ∧ σ.1 62 8 = zI (cl_bit S.2.1) ∧ σ.1 62 9 = zI (cl_bit (S.2.1 && decide (r ≠ 6) && S.1.1.isEmpty && S.1.2.1.isNone)) ∧ σ.1 62 10 = zI (cl_bit S.1.2.1.isSome) ∧ σ.1 62 11 = 0
def agV (q : Nat) (σ σ' : hd_M) : Prop := (∀ k, k ≠ 62 → k ≠ 77 → k ≠ q → k ≠ q + 1 → σ'.1 k = σ.1 k ∧ σ'.2 k = σ.2 k) ∧ (∀ j, j ≠ 1 → σ'.1 q j = σ.1 q j) ∧ σ'.1 62 1 = σ.1 62 1
theorem agV_rf {q : Nat} {σ : hd_M} : agV q σ σ := ⟨fun _ _ _ _ _ => ⟨rfl, rfl⟩, fun _ _ => rfl, rfl⟩
theorem agV_tr {q : Nat} {σ σ' σ'' : hd_M} (h : agV q σ σ') (h' : agV q σ' σ'') : agV q σ σ'' := ⟨fun k a b c d => ⟨(h'.1 k a b c d).1.trans (h.1 k a b c d).1, (h'.1 k a b c d).2.trans (h.1 k a b c d).2⟩, fun j hj => (h'.2.1 j hj).trans (h.2.1 j hj), h'.2.2.trans h.2.2⟩
theorem agV_W {q : Nat} {σ σ' : hd_M} (h : agW q σ σ') : agV q σ σ' := ⟨h.1, h.2.1, h.2.2 1 (by omega)⟩
theorem agV_62 {q : Nat} (hq : hd_law q) {σ σ' : hd_M} {j : Nat} {x : Int32} (h : agV q σ σ') (hj : j ≠ 1) : agV q σ (hd_wI σ' 62 j x) := agV_tr h ⟨fun k h1 h2 h3 h4 => ⟨wI_ne h1, rfl⟩, fun i hi => by rw [wI_ne (law_62 hq).1], by rw [wI_eq, if_neg (fun z => hj z.symm)]⟩
theorem agV_77 {q : Nat} (hq : hd_law q) {σ σ' : hd_M} {j : Nat} {x : Int32} (h : agV q σ σ') : agV q σ (hd_wI σ' 77 j x) := agV_tr h ⟨fun k h1 h2 h3 h4 => ⟨wI_ne h2, rfl⟩, fun i hi => by rw [wI_ne (law_62 hq).2.1], by rw [wI_ne (by decide)]⟩
theorem sX3_blame {G : hd_G} {σ : hd_M} {P : hd_M → Prop} {f st : Nat} (h2 : σ.1 62 2 = 0) (h10 : σ.1 63 10 = nI st) (h : ∀ σ', σ' = hd_wI (hd_wI σ 62 2 (nI f)) 62 3 (nI st) → P σ') : EVv G mX3_blame SH [.ref 62, .int (nI f)] σ P := by
  refine wX3_blame _ ?_
  rw [h2]
  refine b_ne' rfl (fun s1 e1 s2 e2 => h s2 ?_)
  rw [e2, e1, wI_ne (by decide), h10]
theorem cW_62 {σ : hd_M} {q j : Nat} {w cd : List Nat} {x : Int32} (hq : hd_law q) (h : cW σ q w cd) (hj : j ≠ 1 ∧ j ≠ 5 ∧ j ≠ 6 ∧ j ≠ 7) : cW (hd_wI σ 62 j x) q w cd := by
  have l6 := law_62 hq
  have z : ∀ i, i ≠ j → (hd_wI σ 62 j x).1 62 i = σ.1 62 i := fun i hi => by rw [wI_eq, if_neg hi]
  have r : ∀ k, k ≠ 62 → (hd_wI σ 62 j x).1 k = σ.1 k := fun k hk => wI_ne hk
  unfold cW
  rw [z 1 (by omega), z 5 (by omega), z 6 (by omega), z 7 (by omega), r 77 (by decide), r q l6.1, r (q + 1) l6.2.2.1]
  exact h
theorem sX3_putToWait {G : hd_G} {σ : hd_M} {P : hd_M → Prop} {q k : Nat} {w cd : List Nat} (hq : hd_law q) (hk : k < 1000) (hl : w.length + cd.length < 300) (h1 : σ.1 62 1 = nI q) (h5 : σ.1 62 5 = nI w.length) (h77 : ∀ j, j < w.length → σ.1 77 j = nI (w.reverse.getD j 0)) (h6 : σ.1 62 6 = nI (nst (k :: w))) (h7 : σ.1 62 7 = nI (brk (k :: w))) (hq1 : σ.1 q 1 = nI cd.length) (hc : ∀ j, j < cd.length → σ.1 (q + 1) j = nI (cd.getD j 0)) (hw : ∀ x ∈ w, x < 1000) (h : ∀ σ', agV q σ σ' → (∀ j, j ≠ 5 → σ'.1 62 j = σ.1 62 j) → cW σ' q (k :: w) cd → P σ') : EVv G mX3_putToWait SH [.ref 62, .int (nI k)] σ P := by
  have l6 := law_62 hq
  refine wX3_putToWait _ ?_
  rw [h5]
  refine b_le' (nI_lt (b := 300) (by omega) (by decide)) ⟨hd_vn (by omega) (by decide), fun s1 e1 s2 e2 => ?_⟩
  rw [nI_clamp (by omega)] at e1
  have f1 : s1.1 62 5 = nI w.length := by rw [e1, wI_ne (by decide)]; exact h5
  rw [f1, nI_1] at e2
  have r : ∀ x, x ≠ 62 → x ≠ 77 → s2.1 x = σ.1 x := fun x a b => by rw [e2, wI_ne a, e1, wI_ne b]
  have j2 : ∀ j, j ≠ 5 → s2.1 62 j = σ.1 62 j := fun j hj => by rw [e2, wI_eq, if_neg hj, e1, wI_ne (by decide)]
  refine h s2 (by rw [e2, e1]; exact agV_62 hq (agV_77 hq agV_rf) (by decide)) j2 ⟨by rw [j2 1 (by decide)]; exact h1, by rw [e2, wI_eq, if_pos rfl]; rfl, fun j hj => ?_, by rw [j2 6 (by decide)]; exact h6, by rw [j2 7 (by decide)]; exact h7, by rw [r q l6.1 l6.2.1]; exact hq1, fun j hj => by rw [r (q + 1) l6.2.2.1 l6.2.2.2.1]; exact hc j hj, fun x hx => ?_, by rw [List.length_cons]; omega⟩
  · rw [List.length_cons] at hj
    rw [e2, wI_ne (by decide), e1, wI_eq]
    by_cases z : j = w.length
    · rw [if_pos z, z, wk_getD_top]
    · rw [if_neg z, wk_getD_lt (by omega)]
      exact h77 j (by omega)
  · rcases List.mem_cons.mp hx with z | z
    · rw [z]; exact hk
    · exact hw x z
theorem wO_len (D : PD) : (wO D).length = D.1.length + (wR D).length := by unfold wO; rw [List.length_append]
theorem wO_ok {D : PD} (hp : pOK D.1) (hc : ∀ c, D.2.1 = some c → 25 ≤ c ∧ c ≤ 30) : ∀ k ∈ wO D, 22 ≤ k ∧ k ≤ 36 := by
  intro k hk
  unfold wO at hk
  rcases List.mem_append.mp hk with q | q
  · have := pOK_mem hp k q
    omega
  · have := wR_mem hc k q
    omega
theorem brk_wO {D : PD} (hc : ∀ c, D.2.1 = some c → 25 ≤ c ∧ c ≤ 30) : brk (wO D) = brk D.1 := by
  unfold wO
  rw [brk_app, brk_z (w := wR D) (fun k hk => by have := wR_mem hc k hk; omega), Nat.add_zero]
/-- a number or a name -/
theorem sX3_addOne {G : hd_G} {σ : hd_M} {P : hd_M → Prop} {q r m x f st : Nat} {S : PS} (hq : hd_law q) (hM : cM σ q r m S) (hw : S.2.1 = true) (hm : m < 300) (hx : x < 20000) (hf : f < 10) (h10 : σ.1 63 10 = nI st) (hF : f ≠ 0 → ∀ σ', agV q σ σ' → σ'.1 62 2 = nI f → σ'.1 62 3 = nI st → P σ') (hN : f = 0 → ∀ σ', agV q σ σ' → (∀ j, j ≠ 8 → σ'.1 62 j = σ.1 62 j) → σ'.1 62 8 = 0 → cW σ' q (wO S.1) (S.2.2 ++ [x]) → P σ') : EVv G mX3_addOne SH [.ref 62, .int (nI x), .int (nI f)] σ P := by
  have l6 := law_62 hq
  obtain ⟨lag, cdc, c1, c2, c3, c4, c5, c6, c7, c8, c9⟩ := hM
  have hlag := c3 hw
  subst hlag
  have e0 : List.replicate 0 35 ++ wO S.1 = wO S.1 := rfl
  have e1 : S.2.2 = cdc := by rw [c2]; simp
  rw [e0] at c1
  rw [e1] at hN
  obtain ⟨w1, w2, w3, w4, w5, w6, w7, w8, w9⟩ := c1
  have e62 : (σ.1 62 1).toNatClampNeg = q := by rw [w1]; exact nI_clamp (by omega)
  refine wX3_addOne _ _ (c_eq (f : Int) 0 rfl rfl (fun z => ?_) (fun z => ?_))
  · rw [e62]
    refine ⟨by omega, law_k hq (sX2_addCode hq w6 w7 (by omega) (fun s1 e1 g1 g2 => ⟨Or.inl rfl, fun s2 e2 => ?_⟩))⟩
    have r : ∀ k, k ≠ q → k ≠ q + 1 → s1.1 k = σ.1 k := fun k a b => by rw [e1, wI_ne a, wI_ne b]
    have a1 : agV q σ s1 := by rw [e1]; exact ⟨fun k h1 h2 h3 h4 => ⟨by rw [wI_ne h3, wI_ne h4], rfl⟩, fun j hj => by rw [wI_eq, if_neg hj, wI_ne (by omega)], by rw [wI_ne (by omega), wI_ne (by omega)]⟩
    have j2 : ∀ j, j ≠ 8 → s2.1 62 j = σ.1 62 j := fun j hj => by rw [e2, wI_eq, if_neg hj, r 62 (fun z => l6.1 z.symm) (fun z => l6.2.2.1 z.symm)]
    refine hN (by omega) s2 (by rw [e2]; exact agV_62 hq a1 (by decide)) j2 (by rw [e2, wI_eq, if_pos rfl]) ?_
    rw [e2]
    refine cW_62 hq ⟨?_, ?_, fun j hj => ?_, ?_, ?_, g1, g2, w8, by rw [List.length_append, List.length_singleton]; omega⟩ (by decide)
    · rw [r 62 (fun z => l6.1 z.symm) (fun z => l6.2.2.1 z.symm)]; exact w1
    · rw [r 62 (fun z => l6.1 z.symm) (fun z => l6.2.2.1 z.symm)]; exact w2
    · rw [r 77 (fun z => l6.2.1 z.symm) (fun z => l6.2.2.2.1 z.symm)]; exact w3 j hj
    · rw [r 62 (fun z => l6.1 z.symm) (fun z => l6.2.2.1 z.symm)]; exact w4
    · rw [r 62 (fun z => l6.1 z.symm) (fun z => l6.2.2.1 z.symm)]; exact w5
  · refine sX3_blame c5 h10 (fun s3 e3 => ?_)
    have r3 : ∀ k, k ≠ 62 → s3.1 k = σ.1 k := fun k hk => by rw [e3, wI_ne hk, wI_ne hk]
    have j3 : ∀ j, j ≠ 2 → j ≠ 3 → s3.1 62 j = σ.1 62 j := fun j a b => by rw [e3, wI_eq, if_neg b, wI_eq, if_neg a]
    have a3 : agV q σ s3 := by rw [e3]; exact agV_62 hq (agV_62 hq agV_rf (by decide)) (by decide)
    rw [j3 1 (by decide) (by decide), e62]
    refine ⟨by omega, law_k hq (sX2_addCode hq (by rw [r3 q l6.1]; exact w6) (fun j hj => by rw [r3 (q + 1) l6.2.2.1]; exact w7 j hj) (by omega) (fun s4 e4 g1 g2 => ⟨Or.inl rfl, fun s5 e5 => ?_⟩))⟩
    have a4 : agV q σ s4 := agV_tr a3 (by rw [e4]; exact ⟨fun k h1 h2 h3 h4 => ⟨by rw [wI_ne h3, wI_ne h4], rfl⟩, fun j hj => by rw [wI_eq, if_neg hj, wI_ne (by omega)], by rw [wI_ne (by omega), wI_ne (by omega)]⟩)
    have r4 : s4.1 62 = s3.1 62 := by rw [e4, wI_ne (by omega), wI_ne (by omega)]
    refine hF (by omega) s5 (by rw [e5]; exact agV_62 hq a4 (by decide)) ?_ ?_
    · rw [e5, wI_eq, if_neg (by decide), r4, e3, wI_eq, if_neg (by decide), wI_eq, if_pos rfl]
    · rw [e5, wI_eq, if_neg (by decide), r4, e3, wI_eq, if_pos rfl]
/-- a bracket, a minus or a not -/
theorem sX3_nestIn {G : hd_G} {σ : hd_M} {P : hd_M → Prop} {q r m k st : Nat} {S : PS} (hq : hd_law q) (hM : cM σ q r m S) (hw : S.2.1 = true) (hm : m < 300) (hk : isN k = true) (h10 : σ.1 63 10 = nI st) (hF : 8 ≤ nst (wO S.1) → ∀ σ', agV q σ σ' → σ'.1 62 2 = nI 3 → σ'.1 62 3 = nI st → P σ') (hN : ¬ 8 ≤ nst (wO S.1) → ∀ σ', agV q σ σ' → (∀ j, j ≠ 5 → j ≠ 6 → σ'.1 62 j = σ.1 62 j) → cW (hd_wI σ' 62 7 (nI (brk (k :: wO S.1)))) q (k :: wO S.1) S.2.2 → P σ') : EVv G mX3_nestIn SH [.ref 62, .int (nI k)] σ P := by
  have l6 := law_62 hq
  have k36 : k = 24 ∨ k = 35 ∨ k = 36 := by unfold isN at hk; simp at hk; omega
  obtain ⟨lag, cdc, c1, c2, c3, c4, c5, c6, c7, c8, c9⟩ := hM
  have hlag := c3 hw
  subst hlag
  have e0 : List.replicate 0 35 ++ wO S.1 = wO S.1 := rfl
  have e1 : S.2.2 = cdc := by rw [c2]; simp
  rw [e0] at c1
  rw [e1] at hN
  obtain ⟨w1, w2, w3, w4, w5, w6, w7, w8, w9⟩ := c1
  have en : nst (k :: wO S.1) = nst (wO S.1) + 1 := by
    show (if isN k = true then 1 else 0) + nst (wO S.1) = _
    rw [if_pos hk]
    omega
  have nle : ∀ w : List Nat, nst w ≤ w.length := by
    intro w
    induction w with
    | nil => exact Nat.le_refl _
    | cons k w ih =>
      rw [List.length_cons]
      show (if isN k = true then 1 else 0) + nst w ≤ _
      split <;> omega
  have n1 := nle (wO S.1)
  refine wX3_nestIn _ (c_lt (nst (wO S.1) : Int) 8 w4 rfl (fun z => fun s1 e1 => ?_) (fun z => ?_))
  · rw [w4, nI_1] at e1
    have j1 : ∀ j, j ≠ 6 → s1.1 62 j = σ.1 62 j := fun j hj => by rw [e1, wI_eq, if_neg hj]
    have r1 : ∀ x, x ≠ 62 → s1.1 x = σ.1 x := fun x hx => by rw [e1, wI_ne hx]
    refine wX3_putToWait _ ?_
    rw [j1 5 (by decide), w2]
    refine b_le' (nI_lt (b := 300) (by omega) (by decide)) ⟨hd_vn (by omega) (by decide), fun s2 e2 s3 e3 => ?_⟩
    rw [nI_clamp (by omega)] at e2
    have f2 : s2.1 62 5 = nI (wO S.1).length := by rw [e2, wI_ne (by decide), j1 5 (by decide)]; exact w2
    rw [f2, nI_1] at e3
    have r : ∀ x, x ≠ 62 → x ≠ 77 → s3.1 x = σ.1 x := fun x a b => by rw [e3, wI_ne a, e2, wI_ne b, r1 x a]
    have j3 : ∀ j, j ≠ 5 → j ≠ 6 → s3.1 62 j = σ.1 62 j := fun j a b => by rw [e3, wI_eq, if_neg a, e2, wI_ne (by decide), j1 j b]
    have z3 : ∀ i, i ≠ 7 → (hd_wI s3 62 7 (nI (brk (k :: wO S.1)))).1 62 i = s3.1 62 i := fun i hi => by rw [wI_eq, if_neg hi]
    refine hN (by omega) s3 (by rw [e3, e2, e1]; exact agV_62 hq (agV_77 hq (agV_62 hq agV_rf (by decide))) (by decide)) j3 ⟨by rw [z3 1 (by decide), j3 1 (by decide) (by decide)]; exact w1, by rw [z3 5 (by decide), e3, wI_eq, if_pos rfl]; rfl, fun j hj => ?_, ?_, by rw [wI_eq, if_pos rfl], by rw [wI_ne l6.1, r q l6.1 l6.2.1]; exact w6, fun j hj => by rw [wI_ne l6.2.2.1, r (q + 1) l6.2.2.1 l6.2.2.2.1]; exact w7 j hj, fun x hx => ?_, by rw [List.length_cons]; omega⟩
    · rw [List.length_cons] at hj
      rw [wI_ne (by decide), e3, wI_ne (by decide), e2, wI_eq]
      by_cases z : j = (wO S.1).length
      · rw [if_pos z, z, wk_getD_top]
      · rw [if_neg z, r1 77 (by decide), wk_getD_lt (by omega)]
        exact w3 j (by omega)
    · rw [z3 6 (by decide), e3, wI_eq, if_neg (by decide), e2, wI_ne (by decide), e1, wI_eq, if_pos rfl, en]
    · rcases List.mem_cons.mp hx with z | z
      · rw [z]; omega
      · exact w8 x z
  · refine sX3_blame (f := 3) c5 h10 (fun s3 e3 s4 e4 => ?_)
    have j4 : ∀ j, j ≠ 6 → s4.1 62 j = s3.1 62 j := fun j hj => by rw [e4, wI_eq, if_neg hj]
    have j3 : ∀ j, j ≠ 2 → j ≠ 3 → s3.1 62 j = σ.1 62 j := fun j a b => by rw [e3, wI_eq, if_neg b, wI_eq, if_neg a]
    have a4 : agV q σ s4 := by rw [e4, e3]; exact agV_62 hq (agV_62 hq (agV_62 hq agV_rf (by decide)) (by decide)) (by decide)
    refine wX3_putToWait _ ?_
    rw [j4 5 (by decide), j3 5 (by decide) (by decide), w2]
    refine b_le' (nI_lt (b := 300) (by omega) (by decide)) ⟨hd_vn (by omega) (by decide), fun s5 e5 s6 e6 => ?_⟩
    refine hF (by omega) s6 (by rw [e6, e5]; exact agV_62 hq (agV_77 hq a4) (by decide)) ?_ ?_
    · rw [e6, wI_eq, if_neg (by decide), e5, wI_ne (by decide), j4 2 (by decide), e3, wI_eq, if_neg (by decide), wI_eq, if_pos rfl]
    · rw [e6, wI_eq, if_neg (by decide), e5, wI_ne (by decide), j4 3 (by decide), e3, wI_eq, if_pos rfl]
