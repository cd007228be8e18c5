/-! HiddenDrawersModel.work -/
def cl_mo (c : Nat) : Nat := if c < 10000 then 0 else if c < 10022 then 1 else if c < 10025 then 10044 - c else if c < 10031 then c - 10015 else if c < 10035 then c - 10028 else 2
def cl_mv (c : Nat) : Nat := if c < 10000 then c else c - 10012
/-- the two rows of the reference's stacks -/
def wk_at (σ : hd_M) (s : cl_S) : Prop := (∀ j, j < s.1.length → σ.2 101 j = zL (s.1.reverse.getD j 0)) ∧ (∀ j, j < s.2.length → σ.1 102 j = zI (cl_bit (s.2.reverse.getD j false)))
def wk_fr (σ σ' : hd_M) : Prop := (∀ k, k ≠ 102 → σ'.1 k = σ.1 k) ∧ (∀ k, k ≠ 101 → σ'.2 k = σ.2 k)
theorem wk_fr_I {σ σ' : hd_M} {i : Nat} {x : Int32} (h : wk_fr σ σ') : wk_fr σ (hd_wI σ' 102 i x) := ⟨fun k hk => by show va_up σ'.1 102 _ k = _; rw [hd_up_ne hk]; exact h.1 k hk, h.2⟩
theorem wk_fr_L {σ σ' : hd_M} {i : Nat} {x : Int64} (h : wk_fr σ σ') : wk_fr σ (hd_wL σ' 101 i x) := ⟨h.1, fun k hk => by show va_up σ'.2 101 _ k = _; rw [hd_up_ne hk]; exact h.2 k hk⟩
theorem wk_wI {σ : hd_M} {i j : Nat} {x : Int32} : (hd_wI σ 102 i x).1 102 j = if j = i then x else σ.1 102 j := by
  show va_up σ.1 102 (va_up (σ.1 102) i x) 102 j = _
  rw [hd_up_eq]
  rfl
theorem wk_wL {σ : hd_M} {i j : Nat} {x : Int64} : (hd_wL σ 101 i x).2 101 j = if j = i then x else σ.2 101 j := by
  show va_up σ.2 101 (va_up (σ.2 101) i x) 101 j = _
  rw [hd_up_eq]
  rfl
theorem wk_getD_lt {α : Type} {l : List α} {x d : α} {j : Nat} (h : j < l.length) : (x :: l).reverse.getD j d = l.reverse.getD j d := by
  rw [List.reverse_cons, List.getD_eq_getElem?_getD, List.getElem?_append_left (by rw [List.length_reverse]; exact h), List.getD_eq_getElem?_getD]
theorem wk_getD_top {α : Type} {l : List α} {x d : α} : (x :: l).reverse.getD l.length d = x := by
  rw [List.reverse_cons, List.getD_eq_getElem?_getD, List.getElem?_append_right (by rw [List.length_reverse]; exact Nat.le_refl _)]
  simp
theorem wk_v {σ : hd_M} {x : Int} {vs : List Int} {ts : List Bool} (h : wk_at σ (x :: vs, ts)) : σ.2 101 vs.length = zL x := by
  have := h.1 vs.length (by simp)
  rwa [wk_getD_top] at this
theorem wk_t {σ : hd_M} {t : Bool} {vs : List Int} {ts : List Bool} (h : wk_at σ (vs, t :: ts)) : σ.1 102 ts.length = zI (cl_bit t) := by
  have := h.2 ts.length (by simp)
  rwa [wk_getD_top] at this
theorem wk_popv {σ : hd_M} {x : Int} {vs : List Int} {ts : List Bool} (h : wk_at σ (x :: vs, ts)) : wk_at σ (vs, ts) := by
  refine ⟨fun j hj => ?_, h.2⟩
  have hj : j < vs.length := hj
  have := h.1 j (by show j < vs.length + 1; omega)
  rwa [wk_getD_lt hj] at this
theorem wk_popt {σ : hd_M} {t : Bool} {vs : List Int} {ts : List Bool} (h : wk_at σ (vs, t :: ts)) : wk_at σ (vs, ts) := by
  refine ⟨h.1, fun j hj => ?_⟩
  have hj : j < ts.length := hj
  have := h.2 j (by show j < ts.length + 1; omega)
  rwa [wk_getD_lt hj] at this
theorem wk_pushv {σ : hd_M} {x : Int} {vs : List Int} {ts : List Bool} (h : wk_at σ (vs, ts)) : wk_at (hd_wL σ 101 vs.length (zL x)) (x :: vs, ts) := by
  refine ⟨fun j hj => ?_, h.2⟩
  have hj : j < vs.length + 1 := hj
  rw [wk_wL]
  by_cases e : j = vs.length
  · subst e
    rw [if_pos rfl, wk_getD_top]
  · rw [if_neg e, wk_getD_lt (by omega)]
    exact h.1 j (show j < vs.length by omega)
theorem wk_pusht {σ : hd_M} {t : Bool} {vs : List Int} {ts : List Bool} (h : wk_at σ (vs, ts)) : wk_at (hd_wI σ 102 ts.length (zI (cl_bit t))) (vs, t :: ts) := by
  refine ⟨h.1, fun j hj => ?_⟩
  have hj : j < ts.length + 1 := hj
  rw [wk_wI]
  by_cases e : j = ts.length
  · subst e
    rw [if_pos rfl, wk_getD_top]
  · rw [if_neg e, wk_getD_lt (by omega)]
    exact h.2 j (show j < ts.length by omega)
