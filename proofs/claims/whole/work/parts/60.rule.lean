/-! the rule's reader, as one machine -/
def stg (k : Nat) : Nat := if k = 36 then 0 else if k = 22 then 1 else if k = 23 then 2 else if k = 24 then 3 else if k = 31 ∨ k = 32 then 5 else if k = 33 ∨ k = 34 then 6 else if k = 35 then 7 else 4
def rel (s : Nat) : List Nat → List Nat → List Nat × List Nat
  | [], cd => ([], cd)
  | k :: w, cd => if s ≤ stg k then rel s w (cd ++ [10000 + k]) else (k :: w, cd)
def isN (k : Nat) : Bool := decide (k = 24) || decide (k = 35) || decide (k = 36)
def nst : List Nat → Nat
  | [] => 0
  | k :: w => (if isN k = true then 1 else 0) + nst w
def brk : List Nat → Nat
  | [] => 0
  | k :: w => (if k = 36 then 1 else 0) + brk w
/-- what waits: sums' signs and brackets, a comparison, nots, and, or -/
abbrev PD : Type := List Nat × Option Nat × Nat × Bool × Bool
abbrev PS : Type := PD × Bool × List Nat
def wR (D : PD) : List Nat := D.2.1.toList ++ (List.replicate D.2.2.1 24 ++ ((if D.2.2.2.1 = true then [23] else []) ++ (if D.2.2.2.2 = true then [22] else [])))
def wO (D : PD) : List Nat := D.1 ++ wR D
abbrev em (w : List Nat) : List Nat := w.map (fun k => 10000 + k)
def pOne (D : PD) (cd : List Nat) (x : Nat) : PS := (((rel 7 D.1 (cd ++ [x])).1, D.2), false, (rel 7 D.1 (cd ++ [x])).2)
def pStep (r : Nat) (t : Tk) (S : PS) : Nat ⊕ (PS ⊕ List Nat) :=
  if S.2.1 = true then
    (if t.1 = 2 then (if t.2.1 ≤ 9999 then .inr (.inl (pOne S.1 S.2.2 t.2.1)) else .inl 2)
    else if 12 ≤ t.1 ∧ t.1 ≤ 21 then (if al r (t.1 - 12) = true then .inr (.inl (pOne S.1 S.2.2 (10000 + t.1))) else .inl 5)
    else if t.1 = 36 then (if 8 ≤ nst (wO S.1) then .inl 3 else .inr (.inl ((36 :: S.1.1, S.1.2), true, S.2.2)))
    else if t.1 = 32 then (if 8 ≤ nst (wO S.1) then .inl 3 else .inr (.inl ((35 :: S.1.1, S.1.2), true, S.2.2)))
    else if t.1 = 24 ∧ r ≠ 6 ∧ S.1.1 = [] ∧ S.1.2.1 = none then (if 8 ≤ nst (wO S.1) then .inl 3 else .inr (.inl ((S.1.1, S.1.2.1, S.1.2.2.1 + 1, S.1.2.2.2), true, S.2.2)))
    else .inl 1)
  else
    (if 31 ≤ t.1 ∧ t.1 ≤ 34 then .inr (.inl ((t.1 :: (rel (stg t.1) S.1.1 S.2.2).1, S.1.2), true, (rel (stg t.1) S.1.1 S.2.2).2))
    else if 25 ≤ t.1 ∧ t.1 ≤ 30 ∧ r ≠ 6 ∧ brk S.1.1 = 0 ∧ S.1.2.1 = none then .inr (.inl (([], some t.1, S.1.2.2), true, S.2.2 ++ em S.1.1))
    else if t.1 = 23 ∧ r ≠ 6 ∧ brk S.1.1 = 0 ∧ S.1.2.1 ≠ none then .inr (.inl (([], none, 0, true, S.1.2.2.2.2), true, S.2.2 ++ em (S.1.1 ++ (S.1.2.1.toList ++ (List.replicate S.1.2.2.1 24 ++ (if S.1.2.2.2.1 = true then [23] else []))))))
    else if t.1 = 22 ∧ r ≠ 6 ∧ brk S.1.1 = 0 ∧ S.1.2.1 ≠ none then .inr (.inl (([], none, 0, false, true), true, S.2.2 ++ em (wO S.1)))
    else if t.1 = 37 ∧ 0 < brk S.1.1 then .inr (.inl (((rel 7 (rel 1 S.1.1 S.2.2).1.tail (rel 1 S.1.1 S.2.2).2).1, S.1.2), false, (rel 7 (rel 1 S.1.1 S.2.2).1.tail (rel 1 S.1.1 S.2.2).2).2))
    else if t.1 = 3 ∧ brk S.1.1 = 0 ∧ (S.1.2.1 ≠ none ∨ r = 6) then .inr (.inr (S.2.2 ++ em (wO S.1)))
    else .inl 1)
/-- the rest of a rule: a fault with its place, or what is left and the code -/
def pRun (r : Nat) : List Tk → PS → (Nat × Nat) ⊕ (List Tk × List Nat)
  | [], _ => .inl (1, 0)
  | t :: ts, S => match pStep r t S with
    | .inl f => .inl (f, t.2.2)
    | .inr (.inl S') => pRun r ts S'
    | .inr (.inr cd) => .inr (ts, cd)
/-- what every state keeps -/
def isBn (k : Nat) : Bool := decide (31 ≤ k) && decide (k ≤ 34)
def pOK : List Nat → Prop
  | [] => True
  | k :: w => (31 ≤ k ∧ k ≤ 36) ∧ (match w with
    | [] => True
    | l :: _ => isBn k = true → stg l < stg k) ∧ pOK w
def sOK (r : Nat) (S : PS) : Prop := pOK S.1.1 ∧ (S.2.1 = false → S.1.1.head? ≠ some 35) ∧ (∀ c, S.1.2.1 = some c → 25 ≤ c ∧ c ≤ 30) ∧ (r = 6 → S.1.2 = (none, 0, false, false)) ∧ nst (wO S.1) ≤ 8
theorem nst_app (u w : List Nat) : nst (u ++ w) = nst u + nst w := by
  induction u with
  | nil => simp [nst]
  | cons k u ih => simp only [List.cons_append, nst, ih]; omega
theorem brk_app (u w : List Nat) : brk (u ++ w) = brk u + brk w := by
  induction u with
  | nil => simp [brk]
  | cons k u ih => simp only [List.cons_append, brk, ih]; omega
theorem rel_all {s : Nat} : ∀ {w u cd : List Nat}, (∀ k ∈ w, s ≤ stg k) → rel s (w ++ u) cd = rel s u (cd ++ em w)
  | [], u, cd, _ => by simp
  | k :: w, u, cd, h => by
    show (if s ≤ stg k then rel s (w ++ u) (cd ++ [10000 + k]) else _) = _
    rw [if_pos (h k List.mem_cons_self), rel_all (fun x hx => h x (List.mem_cons_of_mem _ hx))]
    simp
theorem rel_stop {s k : Nat} {w cd : List Nat} (h : stg k < s) : rel s (k :: w) cd = (k :: w, cd) := by
  show (if s ≤ stg k then _ else _) = _
  rw [if_neg (by omega)]
theorem rel_app {s : Nat} {u : List Nat} (hu : ∀ k l, u = k :: l → stg k < s) : ∀ {w cd : List Nat}, rel s (w ++ u) cd = ((rel s w cd).1 ++ u, (rel s w cd).2)
  | [], cd => by
    match u, hu with
    | [], _ => rfl
    | k :: l, hu =>
      show rel s (k :: l) cd = _
      rw [rel_stop (hu k l rfl)]
      rfl
  | k :: w, cd => by
    show (if s ≤ stg k then rel s (w ++ u) (cd ++ [10000 + k]) else (k :: (w ++ u), cd)) = ((if s ≤ stg k then rel s w (cd ++ [10000 + k]) else (k :: w, cd)).1 ++ u, _)
    by_cases h : s ≤ stg k
    · rw [if_pos h, if_pos h, rel_app hu]
      show _ = (_, (if s ≤ stg k then rel s w (cd ++ [10000 + k]) else (k :: w, cd)).2)
      rw [if_pos h]
    · rw [if_neg h, if_neg h]
      show _ = (_, (if s ≤ stg k then rel s w (cd ++ [10000 + k]) else (k :: w, cd)).2)
      rw [if_neg h]
      rfl
theorem rel_len {s : Nat} : ∀ {w cd : List Nat}, (rel s w cd).1.length + (rel s w cd).2.length = w.length + cd.length ∧ (rel s w cd).1.length ≤ w.length
  | [], cd => ⟨rfl, Nat.le_refl _⟩
  | k :: w, cd => by
    unfold rel
    split
    · have := rel_len (s := s) (w := w) (cd := cd ++ [10000 + k])
      rw [List.length_append, List.length_singleton] at this
      rw [List.length_cons]
      omega
    · exact ⟨rfl, Nat.le_refl _⟩
/-! the class -/
def cW (σ : hd_M) (q : Nat) (w cd : List Nat) : Prop := σ.1 62 1 = nI q ∧ σ.1 62 5 = nI w.length ∧ (∀ j, j < w.length → σ.1 77 j = nI (w.reverse.getD j 0)) ∧ σ.1 62 6 = nI (nst w) ∧ σ.1 62 7 = nI (brk w) ∧ σ.1 q 1 = nI cd.length ∧ (∀ j, j < cd.length → σ.1 (q + 1) j = nI (cd.getD j 0)) ∧ (∀ k ∈ w, k < 1000) ∧ w.length + cd.length ≤ 300
/-- a reader's step leaves all but its own cells and the law's code -/
def agW (q : Nat) (σ σ' : hd_M) : Prop := (∀ k, k ≠ 62 → k ≠ 77 → k ≠ q → k ≠ q + 1 → σ'.1 k = σ.1 k ∧ σ'.2 k = σ.2 k) ∧ (∀ j, j ≠ 1 → σ'.1 q j = σ.1 q j) ∧ ∀ j, j < 5 ∨ 7 < j → σ'.1 62 j = σ.1 62 j
theorem agW_rf {q : Nat} {σ : hd_M} : agW q σ σ := ⟨fun _ _ _ _ _ => ⟨rfl, rfl⟩, fun _ _ => rfl, fun _ _ => rfl⟩
theorem agW_tr {q : Nat} {σ σ' σ'' : hd_M} (h : agW q σ σ') (h' : agW q σ' σ'') : agW q σ σ'' := ⟨fun k a b c d => ⟨(h'.1 k a b c d).1.trans (h.1 k a b c d).1, (h'.1 k a b c d).2.trans (h.1 k a b c d).2⟩, fun j hj => (h'.2.1 j hj).trans (h.2.1 j hj), fun j hj => (h'.2.2 j hj).trans (h.2.2 j hj)⟩
theorem law_62 {q : Nat} (hq : hd_law q) : q ≠ 62 ∧ q ≠ 77 ∧ q + 1 ≠ 62 ∧ q + 1 ≠ 77 ∧ q < 77 ∧ 0 < q := by
  rcases hq with rfl | rfl | rfl | rfl | rfl | rfl <;> decide
theorem law_rs {q : Nat} (hq : hd_law q) {f : Nat → Prop} (h : f 0) : hd_k SH q 12 f := law_k hq h
theorem sX2_addCode {G : hd_G} {σ : hd_M} {P : hd_M → Prop} {q x : Nat} {cd : List Nat} (hq : hd_law q) (h1 : σ.1 q 1 = nI cd.length) (hc : ∀ j, j < cd.length → σ.1 (q + 1) j = nI (cd.getD j 0)) (hl : cd.length < 300) (h : ∀ σ', σ' = hd_wI (hd_wI σ (q + 1) cd.length (nI x)) q 1 (nI (cd.length + 1)) → σ'.1 q 1 = nI (cd ++ [x]).length → (∀ j, j < (cd ++ [x]).length → σ'.1 (q + 1) j = nI ((cd ++ [x]).getD j 0)) → P σ') : EVv G mX2_addCode SH [.ref q, .int (nI x)] σ P := by
  refine wX2_addCode hq _ ?_
  rw [h1]
  refine b_le' (nI_lt (b := 300) hl (by decide)) ⟨hd_vn hl (by decide), fun s1 e1 s2 e2 => ?_⟩
  rw [nI_clamp (by omega)] at e1
  have f1 : s1.1 q 1 = nI cd.length := by rw [e1, wI_ne (by omega)]; exact h1
  rw [f1, nI_1] at e2
  refine h s2 (by rw [e2, e1]) (by rw [e2, wI_eq, if_pos rfl]; simp) (fun j hj => ?_)
  simp only [List.length_append, List.length_singleton] at hj
  rw [e2, wI_ne (by omega), e1, wI_eq]
  by_cases z : j = cd.length
  · rw [if_pos z, z, getD_app2]
  · rw [if_neg z, getD_app1 (show j < cd.length by omega)]
    exact hc j (by omega)
theorem sX3_strengthOf {G : hd_G} {σ : hd_M} {P : Int32 → hd_M → Prop} {sh : hd_S} {k : Nat} (hk : k < 1000) (h : P (nI (stg k)) σ) : EVi G mX3_strengthOf sh [.int (nI k)] σ P := by
  have ck : ∀ (m : Nat) (A B : Prop), m < 1000 → (k = m → A) → (k ≠ m → B) → (nI k = nI m → A) ∧ (¬ nI k = nI m → B) := fun m A B hm f g => c_eq (k : Int) (m : Int) rfl rfl (fun z => f (by omega)) (fun z => g (by omega))
  have ye : ∀ (m : Nat) (x : Int32), k = m → nI (stg m) = x → P x σ := fun m x hm h1 => by
    rw [hm, h1] at h
    exact h
  refine wX3_strengthOf _ (ck 22 _ _ (by decide) (fun z => ye 22 _ z rfl) (fun z1 => ck 23 _ _ (by decide) (fun z => ye 23 _ z rfl) (fun z2 => ck 24 _ _ (by decide) (fun z => ye 24 _ z rfl) (fun z3 => ck 25 _ _ (by decide) (fun z => ye 25 _ z rfl) (fun z4 => ck 26 _ _ (by decide) (fun z => ye 26 _ z rfl) (fun z5 => ck 27 _ _ (by decide) (fun z => ye 27 _ z rfl) (fun z6 => ck 28 _ _ (by decide) (fun z => ye 28 _ z rfl) (fun z7 => ck 29 _ _ (by decide) (fun z => ye 29 _ z rfl) (fun z8 => ck 30 _ _ (by decide) (fun z => ye 30 _ z rfl) (fun z9 => ck 31 _ _ (by decide) (fun z => ye 31 _ z rfl) (fun z10 => ck 32 _ _ (by decide) (fun z => ye 32 _ z rfl) (fun z11 => ck 33 _ _ (by decide) (fun z => ye 33 _ z rfl) (fun z12 => ck 34 _ _ (by decide) (fun z => ye 34 _ z rfl) (fun z13 => ck 35 _ _ (by decide) (fun z => ye 35 _ z rfl) (fun z14 => ck 36 _ _ (by decide) (fun z => ye 36 _ z rfl) (fun z15 => ?_))))))))))))))))
  unfold stg at h
  simp only [z1, z2, z3, z10, z11, z12, z13, z14, z15, or_self, if_false] at h
  exact h
theorem stg_le (k : Nat) : stg k ≤ 7 := by
  unfold stg
  repeat' (first | omega | split)
theorem isN_36 {k : Nat} (h : k = 36) : isN k = true := by rw [h]; rfl
theorem sX3_release {G : hd_G} {σ : hd_M} {P : hd_M → Prop} {q s : Nat} {w cd : List Nat} (hq : hd_law q) (hs : 1 ≤ s ∧ s ≤ 7) (hW : cW σ q w cd) (h : ∀ σ', agW q σ σ' → cW σ' q (rel s w cd).1 (rel s w cd).2 → P σ') : EVv G mX3_release SH [.ref 62, .int (nI s)] σ P := by
  have l6 := law_62 hq
  have main : ∀ (X : hd_X), hd_CX G mX3_release X (hd_Zv P) SH (0, 0) → ∀ (w cd : List Nat) (s' : hd_M), agW q σ s' → cW s' q w cd → (∀ σ', agW q σ σ' → cW σ' q (rel s w cd).1 (rel s w cd).2 → P σ') → hd_J G mX3_release X SH (0, 0) 0 [(0, .ref 62), (1, .int (nI s))] [] s' := by
    intro X hX w
    induction w with
    | nil =>
      intro cd s' a hW h
      refine wX3_release_0 hX _ ?_
      rw [hW.2.1]
      exact b_le (by decide) (h s' a hW)
    | cons k w ih =>
      intro cd s' a hW h
      obtain ⟨w1, w2, w3, w4, w5, w6, w7, w8, w9⟩ := hW
      rw [List.length_cons] at w2 w3 w9
      have hk := w8 k List.mem_cons_self
      have top : s'.1 77 w.length = nI k := by
        rw [w3 w.length (by omega), wk_getD_top]
      refine wX3_release_0 hX _ ?_
      rw [w2, nI_pred, nI_clamp (show w.length < 2 ^ 31 by omega), top]
      refine b_le' (nI_lt (a := 0) (by omega) (by omega)) ⟨hd_vn (by omega) (by decide), sX3_strengthOf hk ?_⟩
      have hst := stg_le k
      unfold rel at h
      refine c_lt (stg k : Int) (s : Int) rfl rfl (fun z => ?_) (fun z => fun s3 e3 => ?_)
      · rw [if_neg (by omega)] at h
        exact h s' a ⟨w1, by rw [List.length_cons]; exact w2, by rw [List.length_cons]; exact w3, w4, w5, w6, w7, w8, by rw [List.length_cons]; exact w9⟩
      · rw [if_pos (by omega)] at h
        have hk36 : k ≠ 36 := fun q => by
          rw [q] at z
          have : stg 36 = 0 := rfl
          omega
        have f3 : s3.1 62 5 = nI w.length := by rw [e3, wI_eq, if_pos rfl, w2, nI_pred]
        have r3 : ∀ k, k ≠ 62 → s3.1 k = s'.1 k := fun k hk => by rw [e3, wI_ne hk]
        have j3 : ∀ j, j ≠ 5 → s3.1 62 j = s'.1 62 j := fun j hj => by rw [e3, wI_eq, if_neg hj]
        rw [f3, nI_clamp (show w.length < 2 ^ 31 by omega), r3 77 (by decide), top, j3 1 (by decide), w1, nI_clamp (show q < 2 ^ 31 by omega)]
        refine ⟨hd_vn (by omega) (by decide), fun v4 e4 => ⟨by omega, law_k hq ?_⟩⟩
        rw [e4, show (10000 : Int32) + nI k = nI (10000 + k) from nI_add 10000 k]
        have a3 : agW q σ s3 := agW_tr a (by rw [e3]; exact ⟨fun k h1 h2 h3 h4 => ⟨wI_ne h1, rfl⟩, fun j hj => by rw [wI_ne l6.1], fun j hj => by rw [wI_eq, if_neg (by omega)]⟩)
        refine sX2_addCode hq (by rw [r3 q l6.1]; exact w6) (fun j hj => by rw [r3 (q + 1) l6.2.2.1]; exact w7 j hj) (by omega) (fun s5 e5 c5 d5 => ?_)
        have r5 : ∀ k, k ≠ q → k ≠ q + 1 → s5.1 k = s3.1 k := fun k h1 h2 => by rw [e5, wI_ne h1, wI_ne h2]
        have a5 : agW q σ s5 := agW_tr a3 (by rw [e5]; exact ⟨fun k h1 h2 h3 h4 => ⟨by rw [wI_ne h3, wI_ne h4], rfl⟩, fun j hj => by rw [wI_eq, if_neg hj, wI_ne (by omega)], fun j hj => by rw [wI_ne (by omega), wI_ne (by omega)]⟩)
        have go : ∀ s6 : hd_M, agW q s5 s6 → s6.1 62 1 = nI q → s6.1 62 5 = nI w.length → s6.1 77 = s5.1 77 → s6.1 62 6 = nI (nst w) → s6.1 62 7 = s5.1 62 7 → s6.1 q = s5.1 q → s6.1 (q + 1) = s5.1 (q + 1) → hd_J G mX3_release X SH (0, 0) 0 [(0, .ref 62), (1, .int (nI s))] [] s6 := by
          intro s6 a6 g1 g5 g77 g6 g7 gq gq1
          refine ih (cd ++ [10000 + k]) s6 (agW_tr a5 a6) ⟨g1, g5, fun j hj => ?_, g6, ?_, by rw [gq]; exact c5, fun j hj => by rw [gq1]; exact d5 j hj, fun x hx => w8 x (List.mem_cons_of_mem _ hx), by rw [List.length_append, List.length_singleton]; omega⟩ h
          · rw [g77, r5 77 (fun z => l6.2.1 z.symm) (fun z => l6.2.2.2.1 z.symm), r3 77 (by decide), w3 j (by omega), wk_getD_lt hj]
          · rw [g7, r5 62 (fun z => l6.1 z.symm) (fun z => l6.2.2.1 z.symm), j3 7 (by decide), w5]
            show nI ((if k = 36 then 1 else 0) + brk w) = _
            rw [if_neg hk36, Nat.zero_add]
        have m1 : s5.1 62 1 = nI q := by rw [r5 62 (fun z => l6.1 z.symm) (fun z => l6.2.2.1 z.symm), j3 1 (by decide), w1]
        have m5 : s5.1 62 5 = nI w.length := by rw [r5 62 (fun z => l6.1 z.symm) (fun z => l6.2.2.1 z.symm), f3]
        have m6 : s5.1 62 6 = nI (nst (k :: w)) := by rw [r5 62 (fun z => l6.1 z.symm) (fun z => l6.2.2.1 z.symm), j3 6 (by decide), w4]
        have dec : isN k = true → ∀ s6, s6 = hd_wI s5 62 6 ((s5.1 62 6) - 1) → hd_J G mX3_release X SH (0, 0) 0 [(0, .ref 62), (1, .int (nI s))] [] s6 := by
          intro hn s6 e6
          have en : nst (k :: w) = nst w + 1 := by
            show (if isN k = true then 1 else 0) + nst w = _
            rw [if_pos hn]
            omega
          rw [m6, en, nI_pred] at e6
          have j6 : ∀ j, j ≠ 6 → s6.1 62 j = s5.1 62 j := fun j hj => by rw [e6, wI_eq, if_neg hj]
          have r6 : ∀ k, k ≠ 62 → s6.1 k = s5.1 k := fun k hk => by rw [e6, wI_ne hk]
          exact go s6 (by rw [e6]; exact ⟨fun k h1 h2 h3 h4 => ⟨wI_ne h1, rfl⟩, fun j hj => by rw [wI_ne l6.1], fun j hj => by rw [wI_eq, if_neg (by omega)]⟩) (by rw [j6 1 (by decide)]; exact m1) (by rw [j6 5 (by decide)]; exact m5) (r6 77 (by decide)) (by rw [e6, wI_eq, if_pos rfl]) (j6 7 (by decide)) (r6 q l6.1) (r6 (q + 1) l6.2.2.1)
        refine c_eq (k : Int) 24 rfl rfl (fun z => dec (by rw [show k = 24 by omega]; rfl)) (fun z => ?_)
        refine c_ne (k : Int) 35 rfl rfl (fun z2 => ?_) (fun z2 => dec (by rw [show k = 35 by omega]; rfl))
        have hn : isN k = false := by unfold isN; simp; omega
        have en : nst (k :: w) = nst w := by
          show (if isN k = true then 1 else 0) + nst w = _
          rw [if_neg (by rw [hn]; decide), Nat.zero_add]
        exact go s5 agW_rf m1 m5 rfl (by rw [m6, en]) rfl rfl rfl
  exact EVv_of pn_X3 rfl rfl rfl (fun X hX => main X hX w cd σ agW_rf hW h)
