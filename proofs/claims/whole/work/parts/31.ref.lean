/-! the reference: texts, asks -/
def kg (K : List (Nat → Nat)) (k : Nat) : Nat → Nat := K.getD k (fun _ => 0)
def us (s j : Nat) : Bool := decide (j = 0) || (decide (s = 0) && decide (j ≤ 3)) || (decide (s = 1) && decide (j ≤ 4)) || (decide (s = 2) && decide (j ≤ 3)) || (decide (3 ≤ s) && decide (s ≤ 5) && decide (2 ≤ j) && decide (j ≤ 3)) || (decide (s = 6) && decide (j = 1))
def isAs (s : Nat) : Bool := decide (s = 0) || (decide (3 ≤ s) && decide (s ≤ 5))
def sl (cd : List Nat) (c : Nat → Nat) : List Nat := (cd.drop (c 2)).take (c 3 - c 2)
def isRule (r : Nat) (c : Nat → Nat) : Bool := if r < 6 then decide (c 0 = 0) && decide (c 1 = r) else decide (c 0 = r - 3)
def setOf (c : Nat → Nat) : Option (Nat × Nat × Nat) := if c 0 = 1 then some (c 1 * 3 + c 2, c 3, c 4) else if c 0 = 2 then some (18 + c 1, c 2, c 3) else none
def dosOf : Nat → List (Nat → Nat) → List (Nat × Nat)
  | _, [] => []
  | i, c :: K => if c 0 = 6 then (c 1, i) :: dosOf (i + 1) K else dosOf (i + 1) K
def LWof (K : List (Nat → Nat)) (cd : List Nat) : LW := (fun r => (K.find? (isRule r)).map (sl cd), K.filterMap setOf, dosOf 0 K)
/-- the t-th text's cells hold the clauses K, with the code cd -/
def tq (σ : hd_M) (t : Nat) (K : List (Nat → Nat)) (cd : List Nat) : Prop :=
  t < 4 ∧ σ.1 97 (730 * t) = nI K.length ∧ K.length ≤ 24 ∧ cd.length ≤ 300 ∧
  (∀ k, k < K.length → ∀ j, j < 5 → us (kg K k 0) j = true → σ.1 97 (730 * t + 1 + 5 * k + j) = nI (kg K k j) ∧ kg K k j < 20000) ∧
  (∀ k, k < K.length → isAs (kg K k 0) = true → kg K k 2 ≤ kg K k 3 ∧ kg K k 3 ≤ cd.length) ∧
  ∀ i, i < cd.length → σ.1 97 (730 * t + 125 + 2 * i) = nI (cl_mo (cd.getD i 0)) ∧ (cd.getD i 0 < 10022 → σ.1 97 (730 * t + 125 + 2 * i + 1) = nI (cl_mv (cd.getD i 0)))
def TX (σ : hd_M) (x : Int32) (K : List (Nat → Nat)) (cd : List Nat) : Prop := (x = -1 ∧ K = []) ∨ ∃ t, x = nI t ∧ tq σ t K cd
theorem tq_cg {σ σ' : hd_M} {t : Nat} {K : List (Nat → Nat)} {cd : List Nat} (h : tq σ t K cd) (he : σ'.1 97 = σ.1 97) : tq σ' t K cd := by
  unfold tq
  rw [he]
  exact h
theorem TX_cg {σ σ' : hd_M} {x : Int32} {K : List (Nat → Nat)} {cd : List Nat} (h : TX σ x K cd) (he : σ'.1 97 = σ.1 97) : TX σ' x K cd := by
  rcases h with h | ⟨t, h1, h2⟩
  · exact Or.inl h
  · exact Or.inr ⟨t, h1, tq_cg h2 he⟩
theorem sX8_isIn {G : hd_G} {σ : hd_M} {P : Int32 → hd_M → Prop} {sh : hd_S} {v a b : Int} (hv : -2000000000 ≤ v ∧ v ≤ 2000000000) (ha : -2000000000 ≤ a ∧ a ≤ 2000000000) (hb : -2000000000 ≤ b ∧ b ≤ 2000000000) (h : P (zI (cl_bit (decide (a ≤ v ∧ v ≤ b)))) σ) : EVi G mX8_isIn sh [.int (zI v), .int (zI a), .int (zI b)] σ P := by
  refine wX8_isIn _ _ _ (c_lt v a rfl rfl (fun h1 => ?_) (fun h1 => c_lt b v rfl rfl (fun h2 => ?_) (fun h2 => ?_)))
  · rw [decide_eq_false (by omega)] at h
    exact ⟨Or.inl rfl, h⟩
  · rw [decide_eq_false (by omega)] at h
    exact ⟨Or.inl rfl, h⟩
  · rw [decide_eq_true (by omega)] at h
    exact ⟨Or.inr rfl, h⟩
/-- PARTS and their sizes in the reference -/
def SR (σ : hd_M) (n : Nat) (sz : Nat → Nat) : Prop := σ.1 95 0 = nI n ∧ n ≤ 6 ∧ (∀ p, p < n → σ.1 95 (10 + p) = nI (sz p) ∧ sz p ≤ 3) ∧ ∀ p, n ≤ p → sz p = 0
theorem SR_cg {σ σ' : hd_M} {n : Nat} {sz : Nat → Nat} (h : SR σ n sz) (he : σ'.1 95 = σ.1 95) : SR σ' n sz := by
  unfold SR
  rw [he]
  exact h
theorem nI_pm {n : Nat} : nI n - 1 = zI ((n : Int) - 1) := by
  rw [nI_z, show (1 : Int32) = zI 1 from rfl, zI_sub]
theorem sX8_isPart {G : hd_G} {σ : hd_M} {P : Int32 → hd_M → Prop} {n : Nat} {sz : Nat → Nat} {z : Int} (hS : SR σ n sz) (hz : -2000000000 ≤ z ∧ z ≤ 2000000000) (h : P (zI (cl_bit (decide (0 ≤ z ∧ z < n)))) σ) : EVi G mX8_isPart SH [.ref 94, .int (zI z)] σ P := by
  have hn := hS.2.1
  refine wX8_isPart _ ⟨hd_vn (k := 0) (by decide) (by decide), ?_⟩
  rw [show (0 : Int32).toNatClampNeg = 0 from rfl, hS.1, nI_pm]
  refine sX8_isIn (a := 0) hz (by omega) (by omega) ?_
  refine ⟨cl_bit_i _, ?_⟩
  have : (0 ≤ z ∧ z ≤ (n : Int) - 1) ↔ (0 ≤ z ∧ z < (n : Int)) := by omega
  rw [decide_eq_decide.mpr this]
  exact h
theorem sX8_isPlace {G : hd_G} {σ : hd_M} {P : Int32 → hd_M → Prop} {n p : Nat} {sz : Nat → Nat} {z : Int} (hS : SR σ n sz) (hp : p < 6) (hz : -1000 ≤ z ∧ z ≤ 1000) (h : P (zI (cl_bit (isP sz p z))) σ) : EVi G mX8_isPlace SH [.ref 94, .int (nI p), .int (zI z)] σ P := by
  refine wX8_isPlace _ _ (sX8_isPart (z := (p : Int)) hS (by omega) ?_)
  by_cases hpn : p < n
  · rw [decide_eq_true (by omega)]
    obtain ⟨h1, h2⟩ := hS.2.2.1 p hpn
    refine b_eq' (by decide) ?_
    rw [show (10 : Int32) = nI 10 from rfl, nI_add, nI_clamp (by omega), h1, nI_pm]
    refine ⟨hd_vn (by omega) (by decide), sX8_isIn (a := 0) (by omega) (by omega) (by omega) ?_⟩
    by_cases hi : 0 ≤ z ∧ z < sz p
    · rw [decide_eq_true (by omega)]
      have : isP sz p z = true := by unfold isP; simp; omega
      rw [this] at h
      exact b_eq' (by decide) ⟨Or.inr rfl, h⟩
    · rw [decide_eq_false (by omega)]
      have : isP sz p z = false := by unfold isP; simp; omega
      rw [this] at h
      exact b_eq (by decide) ⟨Or.inl rfl, h⟩
  · rw [decide_eq_false (by omega)]
    have : isP sz p z = false := by unfold isP; rw [hS.2.2.2 p (by omega)]; simp
    rw [this] at h
    exact b_eq (by decide) ⟨Or.inl rfl, h⟩
theorem sX8_clausesOf {G : hd_G} {σ : hd_M} {P : Int32 → hd_M → Prop} {x : Int32} {K : List (Nat → Nat)} {cd : List Nat} (hT : TX σ x K cd) (h : P (nI K.length) σ) : EVi G mX8_clausesOf SH [.ref 94, .int x] σ P := by
  rcases hT with ⟨rfl, rfl⟩ | ⟨t, rfl, hq⟩
  · exact wX8_clausesOf _ (b_le' (by decide) h)
  · have ht := hq.1
    refine wX8_clausesOf _ (b_le (nI_pos' (by omega)) ?_)
    rw [show (730 : Int32) = nI 730 from rfl, pk_mul, nI_clamp (by omega), hq.2.1]
    exact ⟨hd_vn (by omega) (by decide), h⟩
theorem told_ix (t k j : Nat) : (((730 : Int32) * nI t + 1) + 5 * nI k) + nI j = nI (730 * t + 1 + 5 * k + j) := by
  rw [show (730 : Int32) = nI 730 from rfl, show (5 : Int32) = nI 5 from rfl, show (1 : Int32) = nI 1 from rfl, pk_mul, pk_mul, nI_add, nI_add, nI_add]
theorem sX8_told {G : hd_G} {σ : hd_M} {P : Int32 → hd_M → Prop} {x : Int32} {k j : Nat} {K : List (Nat → Nat)} {cd : List Nat} (hT : TX σ x K cd) (hk : k < K.length) (hj : j < 5) (hu : us (kg K k 0) j = true) (h : kg K k j < 20000 → P (nI (kg K k j)) σ) : EVi G mX8_told SH [.ref 94, .int x, .int (nI k), .int (nI j)] σ P := by
  rcases hT with ⟨rfl, rfl⟩ | ⟨t, rfl, hq⟩
  · simp at hk
  · have ht := hq.1
    have h24 := hq.2.2.1
    obtain ⟨h1, h2⟩ := hq.2.2.2.2.1 k hk j hj hu
    refine wX8_told _ _ _ ?_
    rw [told_ix, nI_clamp (by omega), h1]
    exact ⟨hd_vn (by omega) (by decide), h h2⟩
theorem us_0 (s : Nat) : us s 0 = true := rfl
theorem sl_at {cd : List Nat} {c : Nat → Nat} (h : c 3 ≤ cd.length) {j : Nat} (hj : j < (sl cd c).length) : (sl cd c).getD j 0 = cd.getD (c 2 + j) 0 := by
  unfold sl at hj ⊢
  simp at hj
  rw [List.getD_eq_getElem?_getD, List.getD_eq_getElem?_getD, List.getElem?_take, if_pos (by omega), List.getElem?_drop]
theorem sl_len {cd : List Nat} {c : Nat → Nat} (h2 : c 2 ≤ c 3) (h : c 3 ≤ cd.length) : (sl cd c).length = c 3 - c 2 := by
  unfold sl
  simp
  omega
theorem sX8_work {G : hd_G} {σ : hd_M} {P : hd_M → Prop} {x : Int32} {k : Nat} {K : List (Nat → Nat)} {cd : List Nat} (hT : TX σ x K cd) (hk : k < K.length) (ha : isAs (kg K k 0) = true) {e : Nat → Int} (he : ∀ k, k < 10 → σ.1 100 k = zI (e k) ∧ cl_m (e k)) {fin : cl_S} (hrun : cl_run e (sl cd (kg K k)) ([], []) = some fin) (hdeep : ∀ i s', i ≤ (sl cd (kg K k)).length → cl_run e ((sl cd (kg K k)).take i) ([], []) = some s' → cl_len s' ≤ 64) (h : ∀ σ', wk_fr σ σ' → wk_at σ' fin → P σ') : EVv G mX8_work SH [.ref 94, .int x, .int (nI k)] σ P := by
  rcases hT with ⟨rfl, rfl⟩ | ⟨t, rfl, hq⟩
  · simp at hk
  · have ht := hq.1
    have h24 := hq.2.2.1
    have h300 := hq.2.2.2.1
    obtain ⟨c2, c3⟩ := hq.2.2.2.2.2.1 k hk ha
    have u2 : us (kg K k 0) 2 = true := by revert ha; unfold isAs us; simp; omega
    have u3 : us (kg K k 0) 3 = true := by revert ha; unfold isAs us; simp; omega
    have d2 := (hq.2.2.2.2.1 k hk 2 (by decide) u2).1
    have d3 := (hq.2.2.2.2.1 k hk 3 (by decide) u3).1
    have sln := sl_len c2 c3
    refine wX8_work _ _ (fun X hX v1 e1 v2 e2 v3 e3 v4 e4 => ?_)
    have e1 : v1 = nI (730 * t + 1 + 5 * k) := by
      rw [e1, show (730 : Int32) = nI 730 from rfl, show (5 : Int32) = nI 5 from rfl, show (1 : Int32) = nI 1 from rfl, pk_mul, pk_mul, nI_add, nI_add]
    have e2 : v2 = nI (730 * t + 125) := by
      rw [e2, show (730 : Int32) = nI 730 from rfl, show (125 : Int32) = nI 125 from rfl, pk_mul, nI_add]
    have e12 : v1 + 2 = nI (730 * t + 1 + 5 * k + 2) := by rw [e1]; exact nI_add _ 2
    rw [e12, nI_clamp (by omega), d2]
    refine ⟨hd_vn (by omega) (by decide), fun v5 e5 => ?_⟩
    rw [e1, e2, e3, e4, e5]
    refine wk_loop hX he (xx := 730 * t + 1 + 5 * k) (cc := 730 * t + 125) (en := kg K k 3) (by omega) (by omega) d3 h (sl cd (kg K k)) (kg K k 2) ([], []) σ (by omega) (fun j hj => ?_) hrun hdeep (fun z hz => by cases hz) ⟨fun _ _ => rfl, fun _ _ => rfl⟩ ⟨fun j hj => by simp at hj, fun j hj => by simp at hj⟩
    rw [sl_at c3 hj]
    exact hq.2.2.2.2.2.2 (kg K k 2 + j) (by omega)
theorem find_len {α : Type} {p : α → Bool} {a : α} {l : List α} (h : l.find? p = some a) : p a = true ∧ a ∈ l := ⟨List.find?_some h, List.mem_of_find?_eq_some h⟩
/-- isSo, for a rule that is true or not -/
theorem sX8_isSo {G : hd_G} {σ : hd_M} {P : Int32 → hd_M → Prop} {x : Int32} {r s p : Nat} {d : Bool} {K : List (Nat → Nat)} {cd : List Nat} (hr : r < 6 ∧ s = 0 ∧ p = r ∨ r = 7 ∧ s = 4 ∨ r = 8 ∧ s = 5) (hp : p < 1000) (hT : TX σ x K cd) (hL : LWok (LWof K cd)) {e : Nat → Int} (he : ∀ k, k < 10 → σ.1 100 k = zI (e k) ∧ cl_m (e k)) (h : ∀ σ', wk_fr σ σ' → P (zI (cl_bit (rB (LWof K cd) r e d))) σ') : EVi G mX8_isSo SH [.ref 94, .int x, .int (nI s), .int (nI p), .int (zI (cl_bit d))] σ P := by
  refine wX8_isSo _ _ _ _ (fun X hX v1 e1 => ?_)
  have hr9 : r < 9 ∧ r ≠ 6 := by omega
  have key : ∀ (l : List (Nat → Nat)) (i : Nat), i + l.length = K.length → (∀ j, j < l.length → kg K (i + j) = kg l j) → l.find? (isRule r) = K.find? (isRule r) → hd_J G mX8_isSo X SH (0, 0) 3 [(0, .ref 94), (1, .int x), (2, .int (nI s)), (3, .int (nI p)), (4, .int (zI (cl_bit d))), (5, .int (nI i))] [] σ := by
    have h24 : K.length ≤ 24 := by
      rcases hT with ⟨rfl, rfl⟩ | ⟨t, rfl, hq⟩
      · decide
      · exact hq.2.2.1
    intro l
    induction l with
    | nil =>
      intro i hi hj hf
      refine wX8_isSo_3 hX _ _ _ _ _ (sX8_clausesOf hT (b_le (nI_le (by simp at hi; omega) (by omega)) ⟨cl_bit_i _, ?_⟩))
      have := h σ ⟨fun _ _ => rfl, fun _ _ => rfl⟩
      have hn : (LWof K cd).1 r = none := by
        show (K.find? (isRule r)).map (sl cd) = none
        rw [← hf]
        rfl
      unfold rB at this
      rw [hn] at this
      exact this
    | cons c l ih =>
      intro i hi hj hf
      rw [List.length_cons] at hi
      have hc : kg K i = c := by
        have := hj 0 (by simp)
        simpa [kg] using this
      have nx : isRule r c = false → ∀ v5 : Int32, v5 = nI i + 1 → hd_J G mX8_isSo X SH (0, 0) 3 [(0, .ref 94), (1, .int x), (2, .int (nI s)), (3, .int (nI p)), (4, .int (zI (cl_bit d))), (5, .int v5)] [] σ := by
        intro hn v5 e5
        rw [e5, nI_1]
        refine ih (i + 1) (by omega) (fun j h1 => ?_) ?_
        · have := hj (j + 1) (by rw [List.length_cons]; omega)
          rw [show i + 1 + j = i + (j + 1) by omega, this]
          simp [kg]
        · rw [← hf, List.find?_cons, hn]
      have yes : isRule r c = true → isAs (c 0) = true → EVv G mX8_work SH [.ref 94, .int x, .int (nI i)] σ (fun s6 => vp_in 0 330 ∧ (((s6.1 102 ((0 : Int32).toNatClampNeg)) = 0 ∨ (s6.1 102 ((0 : Int32).toNatClampNeg)) = 1) ∧ P (s6.1 102 ((0 : Int32).toNatClampNeg)) s6)) := by
        intro hy ha
        rw [List.find?_cons, hy] at hf
        have hl : (LWof K cd).1 r = some (sl cd c) := by
          show (K.find? (isRule r)).map (sl cd) = _
          rw [← hf]
          rfl
        obtain ⟨ga, gb⟩ := (hL.1 r _ hr9.1 hl).2.1 hr9.2
        obtain ⟨b, hb⟩ := gb e (fun k hk => (he k hk).2)
        refine sX8_work hT (k := i) (by omega) (by rw [hc]; exact ha) he (by rw [hc]; exact hb) (by rw [hc]; exact ga.2 e (fun k hk => (he k hk).2)) (fun σ' f1 f2 => ?_)
        have h0 : σ'.1 102 0 = zI (cl_bit b) := f2.2 0 (by show 0 < 1; decide)
        rw [show (0 : Int32).toNatClampNeg = 0 from rfl, h0]
        refine ⟨hd_vn (k := 0) (by decide) (by decide), cl_bit_i _, ?_⟩
        have := h σ' f1
        unfold rB at this
        rw [hl] at this
        have this : P (zI (cl_bit (cl_b e (sl cd c)))) σ' := this
        rwa [show cl_b e (sl cd c) = b by unfold cl_b; rw [hb]] at this
      refine wX8_isSo_3 hX _ _ _ _ _ (sX8_clausesOf hT (b_le' (nI_lt (by omega) (by omega)) (sX8_told (j := 0) hT (by omega) (by decide) (us_0 _) (fun hb0 => ?_))))
      rw [hc] at hb0 ⊢
      refine c_ne (c 0 : Int) (s : Int) rfl rfl (fun hne => nx ?_) (fun heq => c_ne (s : Int) 0 rfl rfl (fun hs0 => yes ?_ ?_) (fun hs0 => ?_))
      · unfold isRule
        split <;> simp <;> omega
      · unfold isRule
        rw [if_neg (by omega)]
        simp
        omega
      · unfold isAs
        simp
        omega
      · refine sX8_told (j := 1) hT (by omega) (by decide) (by rw [hc]; unfold us; simp; omega) (fun hb1 => ?_)
        rw [hc] at hb1 ⊢
        refine c_eq (c 1 : Int) (p : Int) rfl rfl (fun h1 => yes ?_ ?_) (fun h1 => nx ?_)
        · unfold isRule
          rw [if_pos (by omega)]
          simp
          omega
        · unfold isAs
          simp
          omega
        · unfold isRule
          rw [if_pos (by omega)]
          simp
          omega
  rw [e1]
  exact key K 0 (by simp) (fun j _ => by rw [Nat.zero_add]) rfl
