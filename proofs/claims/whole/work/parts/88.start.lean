def D00 : MD := (0, fun _ => 0, 0, 0, 0, -1, [], [], [])
set_option maxRecDepth 100000 in
theorem S0_c (σ : hd_M) : (hd_S0 σ).1 0 1 = 0 ∧ (hd_S0 σ).1 0 2 = -1 ∧ (hd_S0 σ).1 0 3 = -1 ∧ (hd_S0 σ).1 0 13 = -1 ∧ (∀ j, j < 20 → (hd_S0 σ).1 2 j = if j = 5 then -1 else 0) ∧ (∀ j, (hd_S0 σ).1 3 j = 0) ∧ (∀ j, j < 20 → (hd_S0 σ).1 9 j = if j = 5 then -1 else 0) ∧ (∀ j, (hd_S0 σ).1 10 j = 0) ∧ (∀ j, j < 9 → (hd_S0 σ).1 55 j = -1) ∧ (hd_S0 σ).1 53 7 = 0 ∧ (hd_S0 σ).1 53 10 = 0 ∧ (hd_S0 σ).1 78 2 = 0 ∧ (∀ j, (hd_S0 σ).1 79 j = 0) := by
  refine ⟨rfl, rfl, rfl, rfl, fun j hj => rfl, fun j => rfl, fun j hj => rfl, fun j => rfl, fun j hj => ?_, rfl, rfl, rfl, fun j => rfl⟩
  show (if j < 9 then (-1 : Int32) else 0) = -1
  rw [if_pos hj]
set_option maxRecDepth 100000 in
theorem S0_r (σ : hd_M) : (hd_S0 σ).1 94 4 = 0 ∧ (hd_S0 σ).1 94 5 = -1 ∧ (hd_S0 σ).1 94 6 = -1 ∧ (∀ j, j < 30 → (hd_S0 σ).1 95 j = if j = 2 then -1 else 0) ∧ (∀ j, j < 30 → (hd_S0 σ).1 96 j = if j = 2 then -1 else 0) := by
  refine ⟨rfl, rfl, rfl, fun j hj => rfl, fun j hj => ?_⟩
  show (if j < 334 then (if j = 2 then (-1 : Int32) else 0) else _) = _
  rw [if_pos (by omega)]
theorem dok_0 : dok D00 := by
  refine ⟨by show 0 ≤ 6; omega, fun p hp => absurd hp (Nat.not_lt_zero _), fun p _ => rfl, ⟨by show 0 < 2187; omega, ⟨by show (0 : Int) ≤ 0; omega, by show (0 : Int) ≤ 9; omega⟩, fun p _ _ => dg_0 p⟩, by show 0 ≤ 4; omega, ⟨by show (-1 : Int) ≤ -1; omega, by show (-1 : Int) < 0; omega⟩, by show 0 ≤ 30; omega, fun x hx => (by cases hx), by show 0 ≤ 12; omega, fun x hx => (by cases hx), by show 0 ≤ 10; omega, fun x hx => (by cases hx)⟩
theorem REL_0 (σ : hd_M) : REL (hd_S0 σ) ([], (-1, -1), D00, D00, fun _ => L0) := by
  obtain ⟨c1, c2, c3, c4, c5, c6, c7, c8, c9, c10, c11, c12, c13⟩ := S0_c σ
  obtain ⟨r1, r2, r3, r4, r5⟩ := S0_r σ
  refine ⟨⟨⟨c1, fun j hj => absurd hj (Nat.not_lt_zero _)⟩, ⟨c2, c3⟩, ?_, ?_, fun t ht => absurd ht (Nat.not_lt_zero _), ?_, ?_, Or.inl c4⟩, ⟨⟨r1, fun j hj => absurd hj (Nat.not_lt_zero _)⟩, ⟨r2, r3⟩, ?_, ?_, fun t ht => absurd ht (Nat.not_lt_zero _)⟩, ⟨⟨Nat.zero_le _, fun x hx => (by cases hx)⟩, dok_0, dok_0, Nat.le_refl _, fun t ht => absurd ht (Nat.not_lt_zero _)⟩⟩
  · refine ⟨c5 1 (by decide), fun p _ => c6 p, c5 2 (by decide), c5 3 (by decide), c5 4 (by decide), c5 5 (by decide), c5 8 (by decide), fun j hj => absurd hj (Nat.not_lt_zero _), c5 11 (by decide), fun j hj => absurd hj (Nat.not_lt_zero _), c5 13 (by decide), fun j hj => absurd hj (Nat.not_lt_zero _)⟩
  · refine ⟨c7 1 (by decide), fun p _ => c8 p, c7 2 (by decide), c7 3 (by decide), c7 4 (by decide), c7 5 (by decide), c7 8 (by decide), fun j hj => absurd hj (Nat.not_lt_zero _), c7 11 (by decide), fun j hj => absurd hj (Nat.not_lt_zero _), c7 13 (by decide), fun j hj => absurd hj (Nat.not_lt_zero _)⟩
  · exact ⟨fun r hr => c9 r hr, c10, fun j hj => absurd hj (Nat.not_lt_zero _), c11, fun j hj => absurd hj (Nat.not_lt_zero _)⟩
  · refine ⟨0, by decide, c12, ⟨fun k _ => ?_, dg_o7 (by decide), fun k _ => ⟨0, c13 k, by decide, by decide⟩⟩⟩
    rw [dg_0]
    exact c13 k
  · refine ⟨r4 0 (by decide), fun p hp => absurd hp (Nat.not_lt_zero _), fun p hp => absurd hp (Nat.not_lt_zero _), ?_, r4 27 (by decide), r4 1 (by decide), r4 2 (by decide), r4 3 (by decide), fun j hj => absurd hj (Nat.not_lt_zero _), r4 4 (by decide), fun j hj => absurd hj (Nat.not_lt_zero _), r4 5 (by decide), fun j hj => absurd hj (Nat.not_lt_zero _)⟩
    exact r4 26 (by decide)
  · refine ⟨r5 0 (by decide), fun p hp => absurd hp (Nat.not_lt_zero _), fun p hp => absurd hp (Nat.not_lt_zero _), ?_, r5 27 (by decide), r5 1 (by decide), r5 2 (by decide), r5 3 (by decide), fun j hj => absurd hj (Nat.not_lt_zero _), r5 4 (by decide), fun j hj => absurd hj (Nat.not_lt_zero _), r5 5 (by decide), fun j hj => absurd hj (Nat.not_lt_zero _)⟩
    exact r5 26 (by decide)
