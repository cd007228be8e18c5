/-! the rules' language: codes on a stack of values and a stack of truths (tops ahead) -/
def cl_clip (z : Int) : Int := if z < -1000000 then -1000000 else if 1000000 < z then 1000000 else z
def cl_two (c : Nat) (x y : Int) : Int := if c = 10031 then cl_clip (x + y) else if c = 10032 then cl_clip (x - y) else if c = 10033 then cl_clip (x * y) else if y = 0 then 0 else cl_clip (x.tdiv y)
def cl_cmp (c : Nat) (x y : Int) : Bool := if c = 10025 then decide (x < y) else if c = 10026 then decide (x ≤ y) else if c = 10027 then decide (y < x) else if c = 10028 then decide (y ≤ x) else if c = 10029 then decide (x = y) else decide (¬ x = y)
def cl_bit (b : Bool) : Int := if b then 1 else 0
abbrev cl_S : Type := List Int × List Bool
def cl_op (c : Nat) (e : Nat → Int) (s : cl_S) : Option cl_S :=
  if c < 10000 then some ((c : Int) :: s.1, s.2)
  else if c < 10012 then none
  else if c < 10022 then some (e (c - 10012) :: s.1, s.2)
  else if c = 10022 then (match s with
    | ([], u :: t :: r) => some ([], (t || u) :: r)
    | _ => none)
  else if c = 10023 then (match s with
    | ([], u :: t :: r) => some ([], (t && u) :: r)
    | _ => none)
  else if c = 10024 then (match s with
    | ([], t :: r) => some ([], (!t) :: r)
    | _ => none)
  else if c < 10031 then (match s with
    | ([y, x], ts) => some ([], cl_cmp c x y :: ts)
    | _ => none)
  else if c < 10035 then (match s with
    | (y :: x :: r, ts) => some (cl_two c x y :: r, ts)
    | _ => none)
  else if c = 10035 then (match s with
    | (x :: r, ts) => some (-x :: r, ts)
    | _ => none)
  else none
def cl_run (e : Nat → Int) : List Nat → cl_S → Option cl_S
  | [], s => some s
  | c :: cs, s => match cl_op c e s with
    | some s' => cl_run e cs s'
    | none => none
/-- values are a million at most -/
def cl_m (z : Int) : Prop := -1000000 ≤ z ∧ z ≤ 1000000
theorem cl_m_r {z : Int} (h : cl_m z) : zr z := ⟨by have := h.1; omega, by have := h.2; omega⟩
theorem cl_clip_m (z : Int) : cl_m (cl_clip z) := by unfold cl_clip cl_m; split <;> (try split) <;> omega
theorem cl_two_m (c : Nat) (x y : Int) : cl_m (cl_two c x y) := by
  unfold cl_two
  repeat' split
  all_goals first | exact cl_clip_m _ | exact ⟨by decide, by decide⟩
theorem cl_tdiv_m {x y : Int} (hx : cl_m x) : zr (x.tdiv y) := by
  have h := Int.natAbs_tdiv_le_natAbs x y
  have h1 := hx.1
  have h2 := hx.2
  exact ⟨by omega, by omega⟩
theorem cl_mul_R {x y : Int} (hx : cl_m x) (hy : cl_m y) : zR (x * y) := by
  have h : (x * y).natAbs ≤ 1000000 * 1000000 := by
    rw [Int.natAbs_mul]
    exact Nat.mul_le_mul (by have := hx.1; have := hx.2; omega) (by have := hy.1; have := hy.2; omega)
  exact ⟨by omega, by omega⟩
/-- the class's clipping -/
theorem cl_clipC {z : Int} (h : zR z) : (if (if zL z < (1000000 : Int64) then zL z else (1000000 : Int64)) < ((-1000000) : Int64) then ((-1000000) : Int64) else (if zL z < (1000000 : Int64) then zL z else (1000000 : Int64))).toInt32 = zI (cl_clip z) := by
  have e1 : (1000000 : Int64) = zL 1000000 := rfl
  have e2 : ((-1000000) : Int64) = zL (-1000000) := rfl
  have r1 : zR 1000000 := ⟨by decide, by decide⟩
  have r2 : zR (-1000000) := ⟨by decide, by decide⟩
  rw [e2, e1]
  unfold cl_clip
  by_cases h1 : z < 1000000
  · rw [if_pos ((zL_lt h r1).mpr h1)]
    by_cases h2 : z < -1000000
    · rw [if_pos ((zL_lt h r2).mpr h2), if_pos h2, zL_32]
    · rw [if_neg (fun q => h2 ((zL_lt h r2).mp q)), if_neg h2, if_neg (by omega), zL_32]
  · rw [if_neg (fun q => h1 ((zL_lt h r1).mp q)), if_neg (fun q => absurd ((zL_lt r1 r2).mp q) (by decide)), zL_32, if_neg (by omega)]
    by_cases h2 : 1000000 < z
    · rw [if_pos h2]
    · rw [if_neg h2, show z = 1000000 by omega]
def cl_join (c : Nat) (x y : Int) : Int := if c = 10022 then cl_bit (decide (x = 1) || decide (y = 1)) else if c = 10023 then cl_bit (decide (x = 1) && decide (y = 1)) else if c < 10031 then cl_bit (cl_cmp c x y) else cl_two c x y
theorem sX4_joined {G : hd_G} {σ : hd_M} {P : Int32 → hd_M → Prop} {sh : hd_S} {c : Nat} {x y : Int} (hc : c ∈ [10022, 10023, 10025, 10026, 10027, 10028, 10029, 10030, 10031, 10032, 10033, 10034]) (hx : cl_m x) (hy : cl_m y) (hb : c = 10022 ∨ c = 10023 → (x = 0 ∨ x = 1) ∧ (y = 0 ∨ y = 1)) (h : P (zI (cl_join c x y)) σ) : EVi G mX4_joined sh [.int (nI (c - 10000)), .int (zI x), .int (zI y)] σ P := by
  have rx := cl_m_r hx
  have ry := cl_m_r hy
  have clip : ∀ (X : hd_X) (z : Int), hd_CX G mX4_joined X (hd_Zi P) sh (0, 0) → zR z → P (zI (cl_clip z)) σ → ∀ v : Int64, v = zL z → hd_J G mX4_joined X sh (0, 0) 176 [(3, .long v)] [] σ := by
    intro X z hX hz hp v hv
    subst hv
    refine wX4_joined_176 hX _ ?_
    rw [cl_clipC hz]
    exact hp
  simp only [List.mem_cons, List.not_mem_nil, or_false] at hc
  refine wX4_joined _ _ _ (fun X hX => ?_)
  rcases hc with rfl | rfl | rfl | rfl | rfl | rfl | rfl | rfl | rfl | rfl | rfl | rfl
  all_goals simp [nI, zI_lt rx ry, zI_le rx ry, zI_eq rx ry, zI_lt ry rx, zI_le ry rx]
  · obtain ⟨h1, h2⟩ := hb (Or.inl rfl)
    rcases h1 with rfl | rfl <;> rcases h2 with rfl | rfl <;> exact h
  · obtain ⟨h1, h2⟩ := hb (Or.inr rfl)
    rcases h1 with rfl | rfl <;> rcases h2 with rfl | rfl <;> exact h
  · refine ⟨fun z => ?_, fun z => ?_⟩
    · simpa [cl_join, cl_cmp, cl_bit, zI_0, zI_1, z, Int.not_lt.mpr z] using h
    · simpa [cl_join, cl_cmp, cl_bit, zI_0, zI_1, z] using h
  · refine ⟨fun z => ?_, fun z => ?_⟩
    · simpa [cl_join, cl_cmp, cl_bit, zI_0, zI_1, Int.not_le.mpr z] using h
    · simpa [cl_join, cl_cmp, cl_bit, zI_0, zI_1, z] using h
  · refine ⟨fun z => ?_, fun z => ?_⟩
    · simpa [cl_join, cl_cmp, cl_bit, zI_0, zI_1, Int.not_lt.mpr z] using h
    · simpa [cl_join, cl_cmp, cl_bit, zI_0, zI_1, z] using h
  · refine ⟨fun z => ?_, fun z => ?_⟩
    · simpa [cl_join, cl_cmp, cl_bit, zI_0, zI_1, Int.not_le.mpr z] using h
    · simpa [cl_join, cl_cmp, cl_bit, zI_0, zI_1, z] using h
  · refine ⟨fun z => ?_, fun z => ?_⟩
    · simpa [cl_join, cl_cmp, cl_bit, zI_0, zI_1, z] using h
    · simpa [cl_join, cl_cmp, cl_bit, zI_0, zI_1, z] using h
  · refine ⟨fun z => ?_, fun z => ?_⟩
    · simpa [cl_join, cl_cmp, cl_bit, zI_0, zI_1, z] using h
    · simpa [cl_join, cl_cmp, cl_bit, zI_0, zI_1, z] using h
  · have r : zr (x + y) := ⟨by have := hx.1; have := hy.1; omega, by have := hx.2; have := hy.2; omega⟩
    exact clip X (x + y) hX (zr_R r) (by simpa [cl_join, cl_two] using h) _ (by rw [zI_add, zI_64 r])
  · have r : zr (x - y) := ⟨by have := hx.1; have := hy.2; omega, by have := hx.2; have := hy.1; omega⟩
    exact clip X (x - y) hX (zr_R r) (by simpa [cl_join, cl_two] using h) _ (by rw [zI_sub, zI_64 r])
  · exact clip X (x * y) hX (cl_mul_R hx hy) (by simpa [cl_join, cl_two] using h) _ (by rw [zI_64 rx, zI_64 ry, zL_mul])
  · have h0 : zI y = 0 ↔ y = 0 := zI_eq (y := 0) ry ⟨by decide, by decide⟩
    refine ⟨fun z => ⟨z, ?_⟩, fun z => ?_⟩
    · have z' : ¬ y = 0 := fun q => z (h0.mpr q)
      exact clip X (x.tdiv y) hX (zr_R (cl_tdiv_m hx)) (by simpa [cl_join, cl_two, z'] using h) _ (by rw [zI_div rx ry (cl_tdiv_m hx), zI_64 (cl_tdiv_m hx)])
    · have z' : y = 0 := h0.mp z
      exact clip X 0 hX ⟨by decide, by decide⟩ (by simpa [cl_join, cl_two, z', cl_clip] using h) _ rfl
