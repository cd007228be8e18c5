/-! frames: which cells are as before; branches on known integers; standings as digits -/
theorem c_lt {x y : Int32} {A B : Prop} (a b : Int) (hx : x = zI a) (hy : y = zI b) (f : a < b → A) (g : b ≤ a → B) (ha : -2000000000 ≤ a ∧ a ≤ 2000000000 := by omega) (hb : -2000000000 ≤ b ∧ b ≤ 2000000000 := by omega) : (x < y → A) ∧ (y ≤ x → B) := by
  subst hx
  subst hy
  exact ⟨fun z => f ((zI_lt ⟨by omega, by omega⟩ ⟨by omega, by omega⟩).mp z), fun z => g ((zI_le ⟨by omega, by omega⟩ ⟨by omega, by omega⟩).mp z)⟩
theorem c_le {x y : Int32} {A B : Prop} (a b : Int) (hx : x = zI a) (hy : y = zI b) (f : a ≤ b → A) (g : b < a → B) (ha : -2000000000 ≤ a ∧ a ≤ 2000000000 := by omega) (hb : -2000000000 ≤ b ∧ b ≤ 2000000000 := by omega) : (x ≤ y → A) ∧ (y < x → B) := by
  subst hx
  subst hy
  exact ⟨fun z => f ((zI_le ⟨by omega, by omega⟩ ⟨by omega, by omega⟩).mp z), fun z => g ((zI_lt ⟨by omega, by omega⟩ ⟨by omega, by omega⟩).mp z)⟩
theorem c_eq {x y : Int32} {A B : Prop} (a b : Int) (hx : x = zI a) (hy : y = zI b) (f : a = b → A) (g : a ≠ b → B) (ha : -2000000000 ≤ a ∧ a ≤ 2000000000 := by omega) (hb : -2000000000 ≤ b ∧ b ≤ 2000000000 := by omega) : (x = y → A) ∧ (¬ x = y → B) := by
  subst hx
  subst hy
  exact ⟨fun z => f ((zI_eq ⟨by omega, by omega⟩ ⟨by omega, by omega⟩).mp z), fun z => g (fun w => z (by rw [w]))⟩
theorem c_ne {x y : Int32} {A B : Prop} (a b : Int) (hx : x = zI a) (hy : y = zI b) (f : a ≠ b → A) (g : a = b → B) (ha : -2000000000 ≤ a ∧ a ≤ 2000000000 := by omega) (hb : -2000000000 ≤ b ∧ b ≤ 2000000000 := by omega) : (¬ x = y → A) ∧ (x = y → B) := ⟨(c_eq a b hx hy g f ha hb).2, (c_eq a b hx hy g f ha hb).1⟩
theorem wI_eq {σ : hd_M} {q i j : Nat} {x : Int32} : (hd_wI σ q i x).1 q j = if j = i then x else σ.1 q j := by
  show va_up σ.1 q (va_up (σ.1 q) i x) q j = _
  rw [hd_up_eq]
  rfl
theorem wI_ne {σ : hd_M} {q k i : Nat} {x : Int32} (h : k ≠ q) : (hd_wI σ q i x).1 k = σ.1 k := hd_up_ne h
theorem wI_at {σ : hd_M} {q k i j : Nat} {x : Int32} : (hd_wI σ q i x).1 k j = if k = q ∧ j = i then x else σ.1 k j := by
  by_cases h : k = q
  · subst h
    rw [wI_eq]
    by_cases h : j = i
    · rw [if_pos h, if_pos ⟨rfl, h⟩]
    · rw [if_neg h, if_neg (fun z => h z.2)]
  · rw [wI_ne h, if_neg (fun z => h z.1)]
/-- all cells but those of l are as before -/
def ag (l : List Nat) (σ σ' : hd_M) : Prop := ∀ k, k ∉ l → σ'.1 k = σ.1 k ∧ σ'.2 k = σ.2 k
theorem ag_rf {l : List Nat} {σ : hd_M} : ag l σ σ := fun _ _ => ⟨rfl, rfl⟩
theorem ag_tr {l : List Nat} {σ σ' σ'' : hd_M} (h : ag l σ σ') (h' : ag l σ' σ'') : ag l σ σ'' := fun k hk => ⟨(h' k hk).1.trans (h k hk).1, (h' k hk).2.trans (h k hk).2⟩
theorem ag_mo {l m : List Nat} {σ σ' : hd_M} (h : ag l σ σ') (hm : ∀ k, k ∈ l → k ∈ m) : ag m σ σ' := fun k hk => h k (fun z => hk (hm k z))
theorem ag_wI {l : List Nat} {σ σ' : hd_M} {q i : Nat} {x : Int32} (h : ag l σ σ') (hq : q ∈ l) : ag l σ (hd_wI σ' q i x) := fun k hk => ⟨(wI_ne (fun z => hk (by rw [z]; exact hq))).trans (h k hk).1, (h k hk).2⟩
theorem ag_cl {σ σ' : hd_M} (h : cl_fr σ σ') : ag [80] σ σ' := fun k hk => ⟨h.2 k (fun z => hk (by rw [z]; exact List.mem_cons_self)), by rw [h.1]⟩
theorem ag_wk {σ σ' : hd_M} (h : wk_fr σ σ') : ag [101, 102] σ σ' := fun k hk => ⟨h.1 k (fun z => hk (by rw [z]; simp)), h.2 k (fun z => hk (by rw [z]; simp))⟩
/-! digits -/
def up (f : Nat → Nat) (p x : Nat) : Nat → Nat := fun k => if k = p then x else f k
def nm (f : Nat → Nat) : Nat := f 0 + 3 * (f 1 + 3 * (f 2 + 3 * (f 3 + 3 * (f 4 + 3 * (f 5 + 3 * f 6)))))
def dg (v k : Nat) : Nat := if k = 6 then v / 729 else v / 3 ^ k % 3
def o7 (f : Nat → Nat) : Prop := ∀ k, k < 7 → f k < 3
theorem nm_lt {f : Nat → Nat} (h : o7 f) : nm f < 2187 := by
  have h0 := h 0 (by decide)
  have h1 := h 1 (by decide)
  have h2 := h 2 (by decide)
  have h3 := h 3 (by decide)
  have h4 := h 4 (by decide)
  have h5 := h 5 (by decide)
  have h6 := h 6 (by decide)
  unfold nm
  omega
theorem dg_o7 {v : Nat} (h : v < 2187) : o7 (dg v) := by
  intro k hk
  unfold dg
  split
  · omega
  · exact Nat.mod_lt _ (by decide)
theorem l7 {P : Nat → Prop} (h0 : P 0) (h1 : P 1) (h2 : P 2) (h3 : P 3) (h4 : P 4) (h5 : P 5) (h6 : P 6) : ∀ k, k < 7 → P k := by
  intro k hk
  rcases (by omega : k = 0 ∨ k = 1 ∨ k = 2 ∨ k = 3 ∨ k = 4 ∨ k = 5 ∨ k = 6) with rfl | rfl | rfl | rfl | rfl | rfl | rfl <;> assumption
theorem nm_dg {v : Nat} (h : v < 2187) : nm (dg v) = v := by
  simp only [nm, dg]
  simp
  omega
theorem dg_nm {f : Nat → Nat} (h : o7 f) : ∀ k, k < 7 → dg (nm f) k = f k := by
  have h0 := h 0 (by decide)
  have h1 := h 1 (by decide)
  have h2 := h 2 (by decide)
  have h3 := h 3 (by decide)
  have h4 := h 4 (by decide)
  have h5 := h 5 (by decide)
  have h6 := h 6 (by decide)
  apply l7 <;> simp [nm, dg] <;> omega
theorem nm_cg {f g : Nat → Nat} (h : ∀ k, k < 7 → f k = g k) : nm f = nm g := by
  unfold nm
  rw [h 0 (by decide), h 1 (by decide), h 2 (by decide), h 3 (by decide), h 4 (by decide), h 5 (by decide), h 6 (by decide)]
theorem up_o7 {f : Nat → Nat} {p x : Nat} (h : o7 f) (hx : x < 3) : o7 (up f p x) := by
  intro k hk
  unfold up
  split
  · exact hx
  · exact h k hk
/-! what a law says -/
abbrev LW : Type := (Nat → Option (List Nat)) × List (Nat × Nat × Nat) × List (Nat × Nat)
/-- names' values -/
def en (f : Nat → Nat) (on part at' : Int) : Nat → Int := fun k => if k < 7 then (f k : Int) else if k = 7 then on else if k = 8 then part else at'
def cl_b (e : Nat → Int) (cs : List Nat) : Bool := match cl_run e cs ([], []) with
  | some ([], [b]) => b
  | _ => false
def cl_z (e : Nat → Int) (cs : List Nat) : Int := match cl_run e cs ([], []) with
  | some ([z], []) => z
  | _ => 0
/-- which names a rule may hold -/
def al (r k : Nat) : Bool := decide (k < 7) || (decide (k = 7) && decide (r ≤ 6)) || (decide (k = 8) && decide (r = 6)) || (decide (k = 9) && decide (r = 8))
def gdA (r : Nat) (cs : List Nat) : Prop := (∀ c ∈ cs, 10012 ≤ c → c < 10022 → al r (c - 10012) = true) ∧ ∀ e : Nat → Int, (∀ k, k < 10 → cl_m (e k)) → ∀ k s', k ≤ cs.length → cl_run e (cs.take k) ([], []) = some s' → cl_len s' ≤ 64
def gdB (r : Nat) (cs : List Nat) : Prop := gdA r cs ∧ ∀ e : Nat → Int, (∀ k, k < 10 → cl_m (e k)) → ∃ b, cl_run e cs ([], []) = some ([], [b])
def gdS (cs : List Nat) : Prop := gdA 6 cs ∧ ∀ e : Nat → Int, (∀ k, k < 10 → cl_m (e k)) → ∃ z, cl_run e cs ([], []) = some ([z], [])
def LWok (L : LW) : Prop := (∀ r cs, r < 9 → L.1 r = some cs → cs.length ≤ 300 ∧ (r ≠ 6 → gdB r cs) ∧ (r = 6 → gdS cs)) ∧ L.2.1.length ≤ 24 ∧ (∀ s ∈ L.2.1, s.1 < 21 ∧ s.2.1 < 6 ∧ s.2.2 < 3) ∧ L.2.2.length ≤ 24 ∧ ∀ d ∈ L.2.2, d.1 < 15 ∧ d.2 < 24
theorem cl_op_cg {c : Nat} {e e' : Nat → Int} {s : cl_S} (h : 10012 ≤ c → c < 10022 → e (c - 10012) = e' (c - 10012)) : cl_op c e s = cl_op c e' s := by
  unfold cl_op
  by_cases h1 : c < 10000
  · rw [if_pos h1, if_pos h1]
  · rw [if_neg h1, if_neg h1]
    by_cases h2 : c < 10012
    · rw [if_pos h2, if_pos h2]
    · rw [if_neg h2, if_neg h2]
      by_cases h3 : c < 10022
      · rw [if_pos h3, if_pos h3, h (by omega) h3]
      · rw [if_neg h3, if_neg h3]
theorem cl_run_cg {e e' : Nat → Int} : ∀ {cs : List Nat} {s : cl_S}, (∀ c ∈ cs, 10012 ≤ c → c < 10022 → e (c - 10012) = e' (c - 10012)) → cl_run e cs s = cl_run e' cs s
  | [], _, _ => rfl
  | c :: cs, s, h => by
    unfold cl_run
    rw [cl_op_cg (h c List.mem_cons_self)]
    cases cl_op c e' s with
    | none => rfl
    | some s' => exact cl_run_cg (fun d hd => h d (List.mem_cons_of_mem _ hd))
/-- a rule's value asks only for the names that it may hold -/
theorem gd_cg {r : Nat} {cs : List Nat} {e e' : Nat → Int} (h : gdA r cs) (he : ∀ k, k < 10 → al r k = true → e k = e' k) : cl_run e cs ([], []) = cl_run e' cs ([], []) := cl_run_cg (fun c hc h1 h2 => he _ (by omega) (h.1 c hc h1 h2))
def rB (L : LW) (r : Nat) (e : Nat → Int) (d : Bool) : Bool := match L.1 r with
  | none => d
  | some cs => cl_b e cs
def toP (f : Nat → Nat) (act : Nat) : Int := (f (act / 2) : Int) + (if act % 2 = 1 then 1 else -1)
def isP (sz : Nat → Nat) (p : Nat) (z : Int) : Bool := decide (0 ≤ z ∧ z < sz p)
def canM (L : LW) (sz f : Nat → Nat) (act : Nat) : Bool := if 12 ≤ act then decide (f 6 ≠ act - 12) else isP sz (act / 2) (toP f act) && rB L (act / 2) (en f (act % 2 : Nat) (act / 2 : Nat) 0) true
def setF (sz : Nat → Nat) (c : Nat) : List (Nat × Nat × Nat) → (Nat → Nat) → Nat → Nat
  | [], f => f
  | s :: r, f => setF sz c r (if s.1 = c ∧ s.2.2 < sz s.2.1 then up f s.2.1 s.2.2 else f)
def mvM (L : LW) (sz f : Nat → Nat) (act : Nat) : Nat → Nat := if 12 ≤ act then setF sz (18 + (act - 12)) L.2.1 (up f 6 (act - 12)) else setF sz (act / 2 * 3 + (toP f act).toNat) L.2.1 (up f (act / 2) (toP f act).toNat)
def clamp9 (z : Int) : Nat := if z < 0 then 0 else if 9 < z then 9 else z.toNat
def mvd (f g : Nat → Nat) : Nat → Nat
  | 0 => 0
  | n + 1 => mvd f g n + (if f n ≠ g n then 1 else 0)
def hrM (L : LW) (f g : Nat → Nat) (act : Nat) : Nat := match L.1 6 with
  | none => mvd f g 6
  | some cs => clamp9 (cl_z (en g (if act < 12 then (act % 2 : Nat) else 0) (if act < 12 then (act / 2 : Nat) else -1) 0) cs)
def opM (L : LW) (f : Nat → Nat) : Bool := rB L 7 (en f 0 (-1) 0) false
def spM (L : LW) (f : Nat → Nat) (at' : Int) : Bool := rB L 8 (en f 0 (-1) at') false
