/-! Rules.valueOf -/
def cl_flat (s : cl_S) : List Int := s.2.reverse.map cl_bit ++ s.1.reverse
def cl_len (s : cl_S) : Nat := s.1.length + s.2.length
theorem cl_flat_len (s : cl_S) : (cl_flat s).length = cl_len s := by simp [cl_flat, cl_len]; omega
/-- the stack's cells from the bottom on -/
def cl_at (σ : hd_M) (S : List Int) : Prop := ∀ j, j < S.length → σ.1 80 j = zI (S.getD j 0)
/-- nothing but the stack has changed -/
def cl_fr (σ σ' : hd_M) : Prop := σ'.2 = σ.2 ∧ ∀ k, k ≠ 80 → σ'.1 k = σ.1 k
def cl_ok (s : cl_S) : Prop := ∀ z ∈ s.1, cl_m z
theorem cl_fr_w {σ σ' : hd_M} {i : Nat} {x : Int32} (h : cl_fr σ σ') : cl_fr σ (hd_wI σ' 80 i x) := ⟨h.1, fun k hk => by show va_up σ'.1 80 _ k = _; rw [hd_up_ne hk]; exact h.2 k hk⟩
theorem cl_w80 {σ : hd_M} {i j : Nat} {x : Int32} : (hd_wI σ 80 i x).1 80 j = if j = i then x else σ.1 80 j := by
  show va_up σ.1 80 (va_up (σ.1 80) i x) 80 j = _
  rw [hd_up_eq]
  rfl
theorem cl_at_push {σ : hd_M} {S : List Int} {z : Int} (h : cl_at σ S) : cl_at (hd_wI σ 80 S.length (zI z)) (S ++ [z]) := by
  intro j hj
  rw [cl_w80]
  rw [List.length_append, List.length_singleton] at hj
  by_cases hj2 : j = S.length
  · subst hj2
    simp
  · rw [if_neg hj2, h j (by omega)]
    simp only [List.getD_eq_getElem?_getD, List.getElem?_append_left (show j < S.length by omega)]
theorem cl_at_pop {σ : hd_M} {S T : List Int} (h : cl_at σ (S ++ T)) : cl_at σ S := by
  intro j hj
  rw [h j (by rw [List.length_append]; omega)]
  simp only [List.getD_eq_getElem?_getD, List.getElem?_append_left hj]
theorem cl_at_top {σ : hd_M} {S : List Int} {z : Int} {T : List Int} (h : cl_at σ (S ++ z :: T)) : σ.1 80 S.length = zI z := by
  rw [h S.length (by rw [List.length_append, List.length_cons]; omega)]
  simp
theorem cl_flat_v (z : Int) (vs : List Int) (ts : List Bool) : cl_flat (z :: vs, ts) = cl_flat (vs, ts) ++ [z] := by simp [cl_flat]
theorem cl_flat_t (t : Bool) (ts : List Bool) : cl_flat ([], t :: ts) = cl_flat ([], ts) ++ [cl_bit t] := by simp [cl_flat]
theorem cl_bit_m (b : Bool) : cl_m (cl_bit b) := by cases b <;> exact ⟨by decide, by decide⟩
theorem cl_bit_01 (b : Bool) : cl_bit b = 0 ∨ cl_bit b = 1 := by cases b <;> simp [cl_bit]
theorem hd_law_q {q : Nat} (h : hd_law q) : q + 1 ≠ 80 ∧ q + 2 ≠ 80 ∧ q + 3 ≠ 80 ∧ q < 80 := by
  rcases h with rfl | rfl | rfl | rfl | rfl | rfl <;> decide
theorem nI_sub1 {n : Nat} (h : 0 < n) : nI n - 1 = nI (n - 1) := pk_sub (b := 1) h
theorem cl_two_j {c : Nat} (h : c ∈ [10031, 10032, 10033, 10034]) (x y : Int) : cl_join c x y = cl_two c x y := by
  simp only [List.mem_cons, List.not_mem_nil, or_false] at h
  rcases h with rfl | rfl | rfl | rfl <;> simp [cl_join]
set_option maxHeartbeats 4000000 in
theorem vv_loop {G : hd_G} {σ0 : hd_M} {P : Int32 → hd_M → Prop} {X : hd_X} {q : Nat} (hq : hd_law q) (hX : hd_CX G mX4_valueOf X (hd_Zi P) SH (0, 0)) {e : Nat → Int} (he : ∀ k, k < 10 → σ0.1 79 k = zI (e k) ∧ cl_m (e k)) {en : Nat} (hen : en ≤ 300) {fin : cl_S} (hfin : cl_flat fin ≠ []) (h : ∀ σ', cl_fr σ0 σ' → P (zI ((cl_flat fin).getLastD 0)) σ') : ∀ (cs : List Nat) (i : Nat) (s : cl_S) (σ : hd_M), i + cs.length = en → (∀ j, j < cs.length → σ0.1 (q + 1) (i + j) = nI (cs.getD j 0)) → cl_run e cs s = some fin → (∀ k s', k ≤ cs.length → cl_run e (cs.take k) s = some s' → cl_len s' ≤ 64) → cl_ok s → cl_fr σ0 σ → cl_at σ (cl_flat s) → hd_J G mX4_valueOf X SH (0, 0) 18 [(0, .ref 78), (1, .ref q), (3, .int (nI (cl_len s))), (4, .int (nI en)), (5, .int (nI i))] [] σ := by
  obtain ⟨q1, q2, q3, q4⟩ := hd_law_q hq
  intro cs
  induction cs with
  | nil =>
    intro i s σ hi hc hrun hdeep hok hfr hat
    cases hrun
    have hi : i = en := by simpa using hi
    subst hi
    have hl : 0 < cl_len s := by
      rw [← cl_flat_len]
      exact List.length_pos_iff.mpr hfin
    have hl64 : cl_len s ≤ 64 := hdeep 0 s (Nat.zero_le _) rfl
    refine wX4_valueOf_18 hq hX _ _ _ (b_le (nI_le (Nat.le_refl _) (by omega)) (b_le' (nI_lt (a := 0) hl (by omega)) ⟨?_, ?_⟩))
    · rw [nI_sub1 hl]
      exact hd_vn (by omega) (by decide)
    · rw [nI_sub1 hl, nI_clamp (by omega), hat _ (by rw [cl_flat_len]; omega)]
      have e1 : (cl_flat s).getD (cl_len s - 1) 0 = (cl_flat s).getLastD 0 := by
        rw [← cl_flat_len, List.getLastD_eq_getLast?, List.getLast?_eq_getElem?, List.getD_eq_getElem?_getD]
      rw [e1]
      exact h σ hfr
  | cons c cs ih =>
    intro i s σ hi hc hrun hdeep hok hfr hat
    rw [List.length_cons] at hi
    have hc0 : σ.1 (q + 1) i = nI c := by
      rw [hfr.2 _ q1]
      have := hc 0 (by simp)
      simpa using this
    unfold cl_run at hrun
    cases hop : cl_op c e s with
    | none => rw [hop] at hrun; cases hrun
    | some s1 =>
      rw [hop] at hrun
      have hl1 : cl_len s1 ≤ 64 := hdeep 1 s1 (by simp) (by simp [cl_run, hop])
      have hl0 : cl_len s ≤ 64 := hdeep 0 s (Nat.zero_le _) rfl
      have next : ∀ σ1 : hd_M, cl_ok s1 → cl_fr σ0 σ1 → cl_at σ1 (cl_flat s1) → hd_J G mX4_valueOf X SH (0, 0) 182 [(0, .ref 78), (1, .ref q), (3, .int (nI (cl_len s1))), (4, .int (nI en)), (5, .int (nI i))] [] σ1 := by
        intro σ1 a1 a2 a3
        refine wX4_valueOf_182 hq hX _ _ _ (fun v ev => ?_)
        rw [ev, nI_1]
        refine ih (i + 1) s1 σ1 (by omega) (fun j hj => ?_) hrun (fun k s' hk hr => ?_) a1 a2 a3
        · have := hc (j + 1) (by rw [List.length_cons]; omega)
          rw [show i + 1 + j = i + (j + 1) by omega, this]
          simp
        · exact hdeep (k + 1) s' (by rw [List.length_cons]; omega) (by rw [List.take_succ_cons]; unfold cl_run; rw [hop]; exact hr)
      have hie : nI i < nI en := nI_lt (by omega) (by omega)
      obtain ⟨vs, ts⟩ := s
      refine wX4_valueOf_18 hq hX _ _ _ (b_le' hie ⟨hd_vn (by omega) (by decide), fun v1 ev => ?_⟩)
      rw [nI_clamp (by omega), hc0] at ev
      by_cases hcA : c < 10000
      · have ev : v1 = zI ((c : Int) - 10000) := by rw [ev, nI_z]; exact zI_sub _ 10000
        have hs1 : s1 = ((c : Int) :: vs, ts) := by
          unfold cl_op at hop
          rw [if_pos hcA] at hop
          exact (Option.some.inj hop).symm
        subst hs1
        have hlen : cl_len (vs, ts) < 64 := by simp [cl_len] at hl1 ⊢; omega
        have r1 : zr ((c : Int) - 10000) := ⟨by omega, by omega⟩
        subst ev
        refine b_le' ((zI_lt r1 (y := 22) ⟨by decide, by decide⟩).mpr (by omega)) (b_le' (nI_lt (b := 64) hlen (by omega)) (b_le' ((zI_lt r1 (y := 12) ⟨by decide, by decide⟩).mpr (by omega)) ⟨hd_vn hlen (by decide), fun s8 e8 v9 e9 => ?_⟩))
        rw [nI_clamp (by omega)] at e8
        have e10 : zI ((c : Int) - 10000) + 10000 = zI c := by
          rw [show (10000 : Int32) = zI 10000 from rfl, zI_add]
          congr 1
          omega
        rw [e10, ← cl_flat_len] at e8
        rw [e9, nI_1, e8]
        have := next _ (by intro z hz; rcases List.mem_cons.mp hz with rfl | hz; exact ⟨by omega, by omega⟩; exact hok z hz) (cl_fr_w hfr) (by rw [cl_flat_v]; exact cl_at_push hat)
        rw [show cl_len ((c : Int) :: vs, ts) = cl_len (vs, ts) + 1 by simp [cl_len]; omega] at this
        exact this
      · sorry
