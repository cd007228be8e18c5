/-! pure: ints of the machine as integers -/
abbrev zI (z : Int) : Int32 := Int32.ofInt z
abbrev zL (z : Int) : Int64 := Int64.ofInt z
def zr (z : Int) : Prop := -2000000000 ≤ z ∧ z ≤ 2000000000
theorem zI_toInt {z : Int} (h : zr z) : (zI z).toInt = z := Int32.toInt_ofInt_of_le (by have := h.1; omega) (by have := h.2; omega)
theorem zI_add (x y : Int) : zI x + zI y = zI (x + y) := (Int32.ofInt_add x y).symm
theorem zI_sub (x y : Int) : zI x - zI y = zI (x - y) := (Int32.ofInt_sub x y).symm
theorem zI_mul (x y : Int) : zI x * zI y = zI (x * y) := (Int32.ofInt_mul x y).symm
theorem zI_neg (x : Int) : -(zI x) = zI (-x) := (Int32.ofInt_neg x).symm
theorem zI_lt {x y : Int} (hx : zr x) (hy : zr y) : zI x < zI y ↔ x < y := by rw [Int32.lt_iff_toInt_lt, zI_toInt hx, zI_toInt hy]
theorem zI_le {x y : Int} (hx : zr x) (hy : zr y) : zI x ≤ zI y ↔ x ≤ y := by rw [Int32.le_iff_toInt_le, zI_toInt hx, zI_toInt hy]
theorem zI_eq {x y : Int} (hx : zr x) (hy : zr y) : zI x = zI y ↔ x = y := ⟨fun h => by rw [← zI_toInt hx, ← zI_toInt hy, h], fun h => by rw [h]⟩
theorem nI_z (k : Nat) : nI k = zI (k : Int) := rfl
theorem zI_of (x : Int32) : zI x.toInt = x := Int32.ofInt_toInt x
theorem zI_div {x y : Int} (hx : zr x) (hy : zr y) (h0 : zr (x.tdiv y)) : zI x / zI y = zI (x.tdiv y) := by
  have hm : Int32.minValue.toInt = -2147483648 := rfl
  have hM : Int32.maxValue.toInt = 2147483647 := rfl
  have h := Int32.ofInt_tdiv (a := x) (b := y) (by have := hx.1; omega) (by have := hx.2; omega) (by have := hy.1; omega) (by have := hy.2; omega)
  exact h.symm
theorem zL_toInt {z : Int} (h : zr z) : (zL z).toInt = z := Int64.toInt_ofInt_of_le (by have := h.1; omega) (by have := h.2; omega)
theorem zI_64 {z : Int} (h : zr z) : (zI z).toInt64 = zL z := by
  have : (zI z).toInt64.toInt = (zL z).toInt := by rw [Int32.toInt_toInt64, zI_toInt h, zL_toInt h]
  exact Int64.toInt_inj.mp this
theorem zL_32 (z : Int) : (zL z).toInt32 = zI z := by simp
theorem zL_add (x y : Int) : zL x + zL y = zL (x + y) := (Int64.ofInt_add x y).symm
theorem zL_sub (x y : Int) : zL x - zL y = zL (x - y) := (Int64.ofInt_sub x y).symm
theorem zL_mul (x y : Int) : zL x * zL y = zL (x * y) := (Int64.ofInt_mul x y).symm
theorem zL_neg (x : Int) : -(zL x) = zL (-x) := (Int64.ofInt_neg x).symm
def zR (z : Int) : Prop := -4000000000000000 ≤ z ∧ z ≤ 4000000000000000
theorem zr_R {z : Int} (h : zr z) : zR z := ⟨by have := h.1; omega, by have := h.2; omega⟩
theorem zL_toIntR {z : Int} (h : zR z) : (zL z).toInt = z := Int64.toInt_ofInt_of_le (by have := h.1; omega) (by have := h.2; omega)
theorem zL_lt {x y : Int} (hx : zR x) (hy : zR y) : zL x < zL y ↔ x < y := by rw [Int64.lt_iff_toInt_lt, zL_toIntR hx, zL_toIntR hy]
theorem zL_le {x y : Int} (hx : zR x) (hy : zR y) : zL x ≤ zL y ↔ x ≤ y := by rw [Int64.le_iff_toInt_le, zL_toIntR hx, zL_toIntR hy]
theorem zL_eq {x y : Int} (hx : zR x) (hy : zR y) : zL x = zL y ↔ x = y := ⟨fun h => by rw [← zL_toIntR hx, ← zL_toIntR hy, h], fun h => by rw [h]⟩
theorem zL_div {x y : Int} (hx : zR x) (hy : zR y) : zL x / zL y = zL (x.tdiv y) := by
  have hm : Int64.minValue.toInt = -9223372036854775808 := rfl
  have hM : Int64.maxValue.toInt = 9223372036854775807 := rfl
  have h := Int64.ofInt_tdiv (a := x) (b := y) (by have := hx.1; omega) (by have := hx.2; omega) (by have := hy.1; omega) (by have := hy.2; omega)
  exact h.symm
theorem hd_cvI {P : Int32 → hd_M → Prop} {a b : Int32} {σ : hd_M} (e : a = b) (h : P b σ) : P a σ := e ▸ h
theorem hd_cvL {P : Int64 → hd_M → Prop} {a b : Int64} {σ : hd_M} (e : a = b) (h : P b σ) : P a σ := e ▸ h
theorem zI_0 : zI 0 = 0 := rfl
theorem zI_1 : zI 1 = 1 := rfl
/-! a branch, where it is known which way it goes -/
theorem b_lt {x y : Int32} {A B : Prop} (h : x < y) (a : A) : (x < y → A) ∧ (y ≤ x → B) := ⟨fun _ => a, fun z => absurd h (Int32.not_lt.mpr z)⟩
theorem b_lt' {x y : Int32} {A B : Prop} (h : y ≤ x) (b : B) : (x < y → A) ∧ (y ≤ x → B) := ⟨fun z => absurd z (Int32.not_lt.mpr h), fun _ => b⟩
theorem b_le {x y : Int32} {A B : Prop} (h : x ≤ y) (a : A) : (x ≤ y → A) ∧ (y < x → B) := ⟨fun _ => a, fun z => absurd z (Int32.not_lt.mpr h)⟩
theorem b_le' {x y : Int32} {A B : Prop} (h : y < x) (b : B) : (x ≤ y → A) ∧ (y < x → B) := ⟨fun z => absurd h (Int32.not_lt.mpr z), fun _ => b⟩
theorem b_eq {x y : Int32} {A B : Prop} (h : x = y) (a : A) : (x = y → A) ∧ (¬ x = y → B) := ⟨fun _ => a, fun z => absurd h z⟩
theorem b_eq' {x y : Int32} {A B : Prop} (h : ¬ x = y) (b : B) : (x = y → A) ∧ (¬ x = y → B) := ⟨fun z => absurd z h, fun _ => b⟩
theorem b_ne {x y : Int32} {A B : Prop} (h : ¬ x = y) (a : A) : (¬ x = y → A) ∧ (x = y → B) := ⟨fun _ => a, fun z => absurd z h⟩
theorem b_ne' {x y : Int32} {A B : Prop} (h : x = y) (b : B) : (¬ x = y → A) ∧ (x = y → B) := ⟨fun z => absurd h z, fun _ => b⟩
theorem zI_in {z : Int} {n : Nat} (h0 : 0 ≤ z) (h1 : z < n) (hn : n < 2000000000) : vp_in (zI z) n := by
  rw [vp_in_iff, zI_toInt ⟨by omega, by omega⟩]
  exact ⟨h0, h1⟩
theorem zI_cl {z : Int} (h0 : 0 ≤ z) (h1 : z ≤ 2000000000) : (zI z).toNatClampNeg = z.toNat := by
  show (zI z).toInt.toNat = z.toNat
  rw [zI_toInt ⟨by omega, h1⟩]
