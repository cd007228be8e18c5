/-! Rules.valueOf -/
def cl_flat (s : cl_S) : List Int := s.2.reverse.map cl_bit ++ s.1.reverse
def cl_len (s : cl_S) : Nat := s.1.length + s.2.length
theorem cl_flat_len (s : cl_S) : (cl_flat s).length = cl_len s := by simp [cl_flat, cl_len]; omega
/-- the stack's cells from the bottom on -/
def cl_at (σ : hd_M) (S : List Int) : Prop := ∀ j, j < S.length → σ.1 80 j = zI (S.getD j 0)
/-- nothing but the stack has changed -/
def cl_fr (σ σ' : hd_M) : Prop := σ'.2 = σ.2 ∧ ∀ k, k ≠ 80 → σ'.1 k = σ.1 k
def cl_ok (s : cl_S) : Prop := ∀ z ∈ s.1, cl_m z
theorem cl_fr_w {σ σ' : hd_M} {i : Nat} {x : Int32} (h : cl_fr σ σ') : cl_fr σ (hd_wI σ' 80 i x) := ⟨h.1, fun k hk => by show va_up σ'.1 80 _ k = _; rw [hd_up_ne hk]; exact h.2 k hk⟩
theorem cl_w80 {σ : hd_M} {i j : Nat} {x : Int32} : (hd_wI σ 80 i x).1 80 j = if j = i then x else σ.1 80 j := by
  show va_up σ.1 80 (va_up (σ.1 80) i x) 80 j = _
  rw [hd_up_eq]
  rfl
theorem cl_at_push {σ : hd_M} {S : List Int} {z : Int} (h : cl_at σ S) : cl_at (hd_wI σ 80 S.length (zI z)) (S ++ [z]) := by
  intro j hj
  rw [cl_w80]
  rw [List.length_append, List.length_singleton] at hj
  by_cases hj2 : j = S.length
  · subst hj2
    simp
  · rw [if_neg hj2, h j (by omega)]
    simp only [List.getD_eq_getElem?_getD, List.getElem?_append_left (show j < S.length by omega)]
theorem cl_at_pop {σ : hd_M} {S T : List Int} (h : cl_at σ (S ++ T)) : cl_at σ S := by
  intro j hj
  rw [h j (by rw [List.length_append]; omega)]
  simp only [List.getD_eq_getElem?_getD, List.getElem?_append_left hj]
theorem cl_at_top {σ : hd_M} {S : List Int} {z : Int} {T : List Int} (h : cl_at σ (S ++ z :: T)) : σ.1 80 S.length = zI z := by
  rw [h S.length (by rw [List.length_append, List.length_cons]; omega)]
  simp
theorem cl_flat_v (z : Int) (vs : List Int) (ts : List Bool) : cl_flat (z :: vs, ts) = cl_flat (vs, ts) ++ [z] := by simp [cl_flat]
theorem cl_flat_t (t : Bool) (ts : List Bool) : cl_flat ([], t :: ts) = cl_flat ([], ts) ++ [cl_bit t] := by simp [cl_flat]
theorem cl_bit_m (b : Bool) : cl_m (cl_bit b) := by cases b <;> exact ⟨by decide, by decide⟩
theorem cl_bit_01 (b : Bool) : cl_bit b = 0 ∨ cl_bit b = 1 := by cases b <;> simp [cl_bit]
theorem hd_law_q {q : Nat} (h : hd_law q) : q + 1 ≠ 80 ∧ q + 2 ≠ 80 ∧ q + 3 ≠ 80 ∧ q < 80 := by
  rcases h with rfl | rfl | rfl | rfl | rfl | rfl <;> decide
theorem nI_sub1 {n : Nat} (h : 0 < n) : nI n - 1 = nI (n - 1) := pk_sub (b := 1) h
theorem cl_two_j {c : Nat} (h : c ∈ [10031, 10032, 10033, 10034]) (x y : Int) : cl_join c x y = cl_two c x y := by
  simp only [List.mem_cons, List.not_mem_nil, or_false] at h
  rcases h with rfl | rfl | rfl | rfl <;> simp [cl_join]
theorem cl_op_c {c : Nat} {e : Nat → Int} {vs : List Int} {ts : List Bool} {s1 : cl_S} (h : cl_op c e (vs, ts) = some s1) (hc : 10022 ≤ c) (hok : cl_ok (vs, ts)) : cl_ok s1 ∧ c ≤ 10035 ∧ ((∃ (S : List Int) (x y : Int), cl_flat (vs, ts) = S ++ [x, y] ∧ c ∈ [10022, 10023, 10025, 10026, 10027, 10028, 10029, 10030, 10031, 10032, 10033, 10034] ∧ cl_m x ∧ cl_m y ∧ (c = 10022 ∨ c = 10023 → (x = 0 ∨ x = 1) ∧ (y = 0 ∨ y = 1)) ∧ cl_flat s1 = S ++ [cl_join c x y]) ∨ (c = 10024 ∧ ∃ (S : List Int) (t : Bool), cl_flat (vs, ts) = S ++ [cl_bit t] ∧ cl_flat s1 = S ++ [cl_bit (!t)]) ∨ (c = 10035 ∧ ∃ (S : List Int) (x : Int), cl_flat (vs, ts) = S ++ [x] ∧ cl_m x ∧ cl_flat s1 = S ++ [-x])) := by
  unfold cl_op at h
  rw [if_neg (by omega), if_neg (by omega), if_neg (by omega)] at h
  by_cases h1 : c = 10022
  · rw [if_pos h1] at h
    split at h
    · rename_i u t r e1
      cases e1
      cases h
      refine ⟨fun z hz => (by cases hz), by omega, Or.inl ⟨cl_flat ([], r), cl_bit t, cl_bit u, by rw [cl_flat_t, cl_flat_t]; simp, by rw [h1]; decide, cl_bit_m t, cl_bit_m u, fun _ => ⟨cl_bit_01 t, cl_bit_01 u⟩, ?_⟩⟩
      rw [cl_flat_t, h1]
      cases t <;> cases u <;> rfl
    · cases h
  rw [if_neg h1] at h
  by_cases h2 : c = 10023
  · rw [if_pos h2] at h
    split at h
    · rename_i u t r e1
      cases e1
      cases h
      refine ⟨fun z hz => (by cases hz), by omega, Or.inl ⟨cl_flat ([], r), cl_bit t, cl_bit u, by rw [cl_flat_t, cl_flat_t]; simp, by rw [h2]; decide, cl_bit_m t, cl_bit_m u, fun _ => ⟨cl_bit_01 t, cl_bit_01 u⟩, ?_⟩⟩
      rw [cl_flat_t, h2]
      cases t <;> cases u <;> rfl
    · cases h
  rw [if_neg h2] at h
  by_cases h3 : c = 10024
  · rw [if_pos h3] at h
    split at h
    · rename_i t r e1
      cases e1
      cases h
      exact ⟨fun z hz => (by cases hz), by omega, Or.inr (Or.inl ⟨h3, cl_flat ([], r), t, cl_flat_t t r, cl_flat_t (!t) r⟩)⟩
    · cases h
  rw [if_neg h3] at h
  by_cases h4 : c < 10031
  · rw [if_pos h4] at h
    split at h
    · rename_i y x ts' e1
      cases e1
      cases h
      refine ⟨fun z hz => (by cases hz), by omega, Or.inl ⟨cl_flat ([], ts), x, y, by simp [cl_flat], ?_, hok x (by simp), hok y (by simp), fun z => absurd z (by omega), ?_⟩⟩
      · simp only [List.mem_cons, List.not_mem_nil, or_false]
        omega
      · rw [cl_flat_t]
        unfold cl_join
        rw [if_neg h1, if_neg h2, if_pos h4]
    · cases h
  rw [if_neg h4] at h
  by_cases h5 : c < 10035
  · rw [if_pos h5] at h
    split at h
    · rename_i y x r ts' e1
      cases e1
      cases h
      refine ⟨?_, by omega, Or.inl ⟨cl_flat (r, ts), x, y, by rw [cl_flat_v, cl_flat_v]; simp, ?_, hok x (by simp), hok y (by simp), fun z => absurd z (by omega), ?_⟩⟩
      · intro z hz
        rcases List.mem_cons.mp hz with rfl | hz
        · exact cl_two_m _ _ _
        · exact hok z (by simp [hz])
      · simp only [List.mem_cons, List.not_mem_nil, or_false]
        omega
      · rw [cl_flat_v]
        unfold cl_join
        rw [if_neg h1, if_neg h2, if_neg h4]
    · cases h
  rw [if_neg h5] at h
  by_cases h6 : c = 10035
  · rw [if_pos h6] at h
    split at h
    · rename_i x r ts' e1
      cases e1
      cases h
      have hx := hok x (by simp)
      refine ⟨?_, by omega, Or.inr (Or.inr ⟨h6, cl_flat (r, ts), x, cl_flat_v x r ts, hx, cl_flat_v (-x) r ts⟩)⟩
      intro z hz
      rcases List.mem_cons.mp hz with rfl | hz
      · exact ⟨by have := hx.2; omega, by have := hx.1; omega⟩
      · exact hok z (by simp [hz])
    · cases h
  rw [if_neg h6] at h
  cases h
set_option maxHeartbeats 4000000 in
theorem vv_loop {G : hd_G} {σ0 : hd_M} {P : Int32 → hd_M → Prop} {X : hd_X} {q : Nat} (hq : hd_law q) (hX : hd_CX G mX4_valueOf X (hd_Zi P) SH (0, 0)) {e : Nat → Int} (he : ∀ k, k < 10 → σ0.1 79 k = zI (e k) ∧ cl_m (e k)) {en : Nat} (hen : en ≤ 300) {fin : cl_S} (hfin : cl_flat fin ≠ []) (h : ∀ σ', cl_fr σ0 σ' → P (zI ((cl_flat fin).getLastD 0)) σ') : ∀ (cs : List Nat) (i : Nat) (s : cl_S) (σ : hd_M), i + cs.length = en → (∀ j, j < cs.length → σ0.1 (q + 1) (i + j) = nI (cs.getD j 0)) → cl_run e cs s = some fin → (∀ k s', k ≤ cs.length → cl_run e (cs.take k) s = some s' → cl_len s' ≤ 64) → cl_ok s → cl_fr σ0 σ → cl_at σ (cl_flat s) → hd_J G mX4_valueOf X SH (0, 0) 18 [(0, .ref 78), (1, .ref q), (3, .int (nI (cl_len s))), (4, .int (nI en)), (5, .int (nI i))] [] σ := by
  obtain ⟨q1, q2, q3, q4⟩ := hd_law_q hq
  intro cs
  induction cs with
  | nil =>
    intro i s σ hi hc hrun hdeep hok hfr hat
    have hsf : s = fin := Option.some.inj hrun
    rw [← hsf] at hfin h
    have hi : i = en := by simpa using hi
    subst hi
    have hl : 0 < cl_len s := by
      rw [← cl_flat_len]
      exact List.length_pos_iff.mpr hfin
    have hl64 : cl_len s ≤ 64 := hdeep 0 s (Nat.zero_le _) rfl
    refine wX4_valueOf_18 hq hX _ _ _ (b_le (nI_le (Nat.le_refl _) (by omega)) (b_le' (nI_lt (a := 0) hl (by omega)) ⟨?_, ?_⟩))
    · rw [nI_sub1 hl]
      exact hd_vn (by omega) (by decide)
    · rw [nI_sub1 hl, nI_clamp (by omega), hat _ (by rw [cl_flat_len]; omega)]
      have e1 : (cl_flat s).getD (cl_len s - 1) 0 = (cl_flat s).getLastD 0 := by
        rw [← cl_flat_len, List.getLastD_eq_getLast?, List.getLast?_eq_getElem?, List.getD_eq_getElem?_getD]
      rw [e1]
      exact h σ hfr
  | cons c cs ih =>
    intro i s σ hi hc hrun hdeep hok hfr hat
    rw [List.length_cons] at hi
    have hc0 : σ.1 (q + 1) i = nI c := by
      rw [hfr.2 _ q1]
      have := hc 0 (by simp)
      simpa using this
    unfold cl_run at hrun
    cases hop : cl_op c e s with
    | none => rw [hop] at hrun; cases hrun
    | some s1 =>
      rw [hop] at hrun
      have hl1 : cl_len s1 ≤ 64 := hdeep 1 s1 (by simp) (by simp [cl_run, hop])
      have hl0 : cl_len s ≤ 64 := hdeep 0 s (Nat.zero_le _) rfl
      have next : ∀ σ1 : hd_M, cl_ok s1 → cl_fr σ0 σ1 → cl_at σ1 (cl_flat s1) → hd_J G mX4_valueOf X SH (0, 0) 182 [(0, .ref 78), (1, .ref q), (3, .int (nI (cl_len s1))), (4, .int (nI en)), (5, .int (nI i))] [] σ1 := by
        intro σ1 a1 a2 a3
        refine wX4_valueOf_182 hq hX _ _ _ (fun v ev => ?_)
        rw [ev, nI_1]
        refine ih (i + 1) s1 σ1 (by omega) (fun j hj => ?_) hrun (fun k s' hk hr => ?_) a1 a2 a3
        · have := hc (j + 1) (by rw [List.length_cons]; omega)
          rw [show i + 1 + j = i + (j + 1) by omega, this]
          simp
        · exact hdeep (k + 1) s' (by rw [List.length_cons]; omega) (by rw [List.take_succ_cons]; unfold cl_run; rw [hop]; exact hr)
      have hie : nI i < nI en := nI_lt (by omega) (by omega)
      obtain ⟨vs, ts⟩ := s
      refine wX4_valueOf_18 hq hX _ _ _ (b_le' hie ⟨hd_vn (by omega) (by decide), fun v1 ev => ?_⟩)
      rw [nI_clamp (by omega), hc0] at ev
      by_cases hcA : c < 10000
      · have ev : v1 = zI ((c : Int) - 10000) := by rw [ev, nI_z]; exact zI_sub _ 10000
        have hs1 : s1 = ((c : Int) :: vs, ts) := by
          unfold cl_op at hop
          rw [if_pos hcA] at hop
          exact (Option.some.inj hop).symm
        subst hs1
        have hlen : cl_len (vs, ts) < 64 := by simp [cl_len] at hl1 ⊢; omega
        have r1 : zr ((c : Int) - 10000) := ⟨by omega, by omega⟩
        subst ev
        refine b_le' ((zI_lt r1 (y := 22) ⟨by decide, by decide⟩).mpr (by omega)) (b_le' (nI_lt (b := 64) hlen (by omega)) (b_le' ((zI_lt r1 (y := 12) ⟨by decide, by decide⟩).mpr (by omega)) ⟨hd_vn hlen (by decide), fun s8 e8 v9 e9 => ?_⟩))
        rw [nI_clamp (by omega)] at e8
        have e10 : zI ((c : Int) - 10000) + 10000 = zI c := by
          rw [show (10000 : Int32) = zI 10000 from rfl, zI_add]
          congr 1
          omega
        rw [e10, ← cl_flat_len] at e8
        rw [e9, nI_1, e8]
        have := next _ (by intro z hz; rcases List.mem_cons.mp hz with rfl | hz; exact ⟨by omega, by omega⟩; exact hok z hz) (cl_fr_w hfr) (by rw [cl_flat_v]; exact cl_at_push hat)
        rw [show cl_len ((c : Int) :: vs, ts) = cl_len (vs, ts) + 1 by simp [cl_len]; omega] at this
        exact this
      · have ev : v1 = zI ((c : Int) - 10000) := by rw [ev, nI_z]; exact zI_sub _ 10000
        by_cases hcB : c < 10022
        · have hc12 : 10012 ≤ c := by
            by_cases z : c < 10012
            · unfold cl_op at hop
              rw [if_neg hcA, if_pos z] at hop
              cases hop
            · omega
          have hs1 : s1 = (e (c - 10012) :: vs, ts) := by
            unfold cl_op at hop
            rw [if_neg hcA, if_neg (by omega), if_pos hcB] at hop
            exact (Option.some.inj hop).symm
          subst hs1
          have hlen : cl_len (vs, ts) < 64 := by simp [cl_len] at hl1 ⊢; omega
          have r1 : zr ((c : Int) - 10000) := ⟨by omega, by omega⟩
          have hk10 : c - 10012 < 10 := by omega
          have e12 : v1 - 12 = nI (c - 10012) := by
            rw [ev, show (12 : Int32) = zI 12 from rfl, zI_sub, nI_z]
            congr 1
            omega
          refine b_le' (by rw [ev]; exact (zI_lt r1 (y := 22) ⟨by decide, by decide⟩).mpr (by omega)) (b_le' (nI_lt (b := 64) hlen (by omega)) (b_le (by rw [ev]; exact (zI_le (x := 12) ⟨by decide, by decide⟩ r1).mpr (by omega)) ⟨?_, hd_vn hlen (by decide), fun s6 e6 v7 e7 => ?_⟩))
          · rw [e12]
            exact hd_vn hk10 (by decide)
          · rw [e12, nI_clamp (by omega), nI_clamp (by omega), hfr.2 79 (by decide), (he _ hk10).1, ← cl_flat_len] at e6
            rw [e7, nI_1, e6]
            have := next _ (by intro z hz; rcases List.mem_cons.mp hz with rfl | hz; exact (he _ hk10).2; exact hok z hz) (cl_fr_w hfr) (by rw [cl_flat_v]; exact cl_at_push hat)
            rw [show cl_len (e (c - 10012) :: vs, ts) = cl_len (vs, ts) + 1 by simp [cl_len]; omega] at this
            exact this
        · obtain ⟨hk1, hc35, hcase⟩ := cl_op_c hop (by omega) hok
          have r1 : zr ((c : Int) - 10000) := ⟨by omega, by omega⟩
          have h22 : (22 : Int32) ≤ v1 := by rw [ev]; exact (zI_le (x := 22) ⟨by decide, by decide⟩ r1).mpr (by omega)
          have vne : ∀ k : Int, 0 ≤ k → k < 20000 → ¬ (c : Int) = k + 10000 → ¬ v1 = zI k := by
            intro k hk hk2 hc2 z
            rw [ev, zI_eq r1 ⟨by omega, by omega⟩] at z
            omega
          have hv1 : v1 = nI (c - 10000) := by
            rw [ev, nI_z]
            congr 1
            omega
          rcases hcase with ⟨S, x, y, hf, hcc, hx, hy, hb, hf1⟩ | ⟨hc24, S, t, hf, hf1⟩ | ⟨hc35', S, x, hf, hx, hf1⟩
          · have hn24 : ¬ v1 = 24 := vne 24 (by decide) (by decide) (by simp only [List.mem_cons, List.not_mem_nil, or_false] at hcc; omega)
            have hn35 : ¬ v1 = 35 := vne 35 (by decide) (by decide) (by simp only [List.mem_cons, List.not_mem_nil, or_false] at hcc; omega)
            have hlS : cl_len (vs, ts) = S.length + 2 := by rw [← cl_flat_len, hf]; simp
            have hlS1 : cl_len s1 = S.length + 1 := by rw [← cl_flat_len, hf1]; simp
            rw [hf] at hat
            refine b_le h22 (b_eq' hn24 (b_ne hn35 (b_le' (nI_lt (a := 1) (by omega) (by omega)) (fun v2 e2 => ?_))))
            have e2 : v2 = nI (S.length + 1) := by
              rw [e2, hlS]
              exact pk_m1 (S.length + 1)
            have e21 : v2 - 1 = nI S.length := by rw [e2, nI_sub1 (by omega)]; rfl
            refine ⟨by rw [e21]; exact hd_vn (by omega) (by decide), by rw [e2]; exact hd_vn (by omega) (by decide), ?_⟩
            have t1 := cl_at_top hat
            have t2 : σ.1 80 (S.length + 1) = zI y := by
              have := cl_at_top (S := S ++ [x]) (z := y) (T := []) (by simpa using hat)
              simpa using this
            rw [e21, e2, nI_clamp (by omega), nI_clamp (by omega), t1, t2, hv1]
            refine sX4_joined hcc hx hy hb ⟨hd_vn (by omega) (by decide), fun s5 e5 => ?_⟩
            rw [e5]
            have := next _ hk1 (cl_fr_w hfr) (by rw [hf1]; exact cl_at_push (cl_at_pop hat))
            rw [hlS1] at this
            exact this
          · have hlS : cl_len (vs, ts) = S.length + 1 := by rw [← cl_flat_len, hf]; simp
            have hlS1 : cl_len s1 = S.length + 1 := by rw [← cl_flat_len, hf1]; simp
            rw [hf] at hat
            have t1 := cl_at_top hat
            have e24 : v1 = 24 := by rw [hv1, hc24]; rfl
            refine b_le h22 (b_eq e24 (wX4_valueOf_103 hq hX _ _ _ _ (b_le' (nI_lt (a := 0) (by omega) (by omega)) (b_ne' e24 ⟨?_, ?_, fun s2 e2 => ?_⟩))))
            · rw [hlS, nI_sub1 (by omega)]; exact hd_vn (by omega) (by decide)
            · rw [hlS, nI_sub1 (by omega)]; exact hd_vn (by omega) (by decide)
            · rw [hlS, nI_sub1 (by omega), nI_clamp (by omega)] at e2
              have e3 : S.length + 1 - 1 = S.length := by omega
              rw [e3, t1] at e2
              have e4 : (1 : Int32) - zI (cl_bit t) = zI (cl_bit (!t)) := by cases t <;> rfl
              rw [e4] at e2
              rw [e2]
              have := next _ hk1 (cl_fr_w hfr) (by rw [hf1]; exact cl_at_push (cl_at_pop hat))
              rw [hlS1, ← hlS] at this
              exact this
          · have hlS : cl_len (vs, ts) = S.length + 1 := by rw [← cl_flat_len, hf]; simp
            have hlS1 : cl_len s1 = S.length + 1 := by rw [← cl_flat_len, hf1]; simp
            rw [hf] at hat
            have t1 := cl_at_top hat
            have e35 : v1 = 35 := by rw [hv1, hc35']; rfl
            have hn24 : ¬ v1 = 24 := by rw [e35]; decide
            refine b_le h22 (b_eq' hn24 (b_ne' e35 (wX4_valueOf_103 hq hX _ _ _ _ (b_le' (nI_lt (a := 0) (by omega) (by omega)) (b_ne hn24 ⟨?_, ?_, fun s2 e2 => ?_⟩)))))
            · rw [hlS, nI_sub1 (by omega)]; exact hd_vn (by omega) (by decide)
            · rw [hlS, nI_sub1 (by omega)]; exact hd_vn (by omega) (by decide)
            · rw [hlS, nI_sub1 (by omega), nI_clamp (by omega)] at e2
              have e3 : S.length + 1 - 1 = S.length := by omega
              rw [e3, t1, zI_neg] at e2
              rw [e2]
              have := next _ hk1 (cl_fr_w hfr) (by rw [hf1]; exact cl_at_push (cl_at_pop hat))
              rw [hlS1, ← hlS] at this
              exact this
/-- Rules.valueOf: the last of what its code leaves -/
theorem sX4_valueOf {G : hd_G} {σ : hd_M} {P : Int32 → hd_M → Prop} {q : Nat} (hq : hd_law q) {r s0 : Nat} {cs : List Nat} (hr : r < 9) (hs : σ.1 (q + 2) r = nI s0) (hen : σ.1 (q + 3) r = nI (s0 + cs.length)) (hl : s0 + cs.length ≤ 300) (hc : ∀ j, j < cs.length → σ.1 (q + 1) (s0 + j) = nI (cs.getD j 0)) {e : Nat → Int} (he : ∀ k, k < 10 → σ.1 79 k = zI (e k) ∧ cl_m (e k)) {fin : cl_S} (hrun : cl_run e cs ([], []) = some fin) (hfin : cl_flat fin ≠ []) (hdeep : ∀ k s', k ≤ cs.length → cl_run e (cs.take k) ([], []) = some s' → cl_len s' ≤ 64) (h : ∀ σ', cl_fr σ σ' → P (zI ((cl_flat fin).getLastD 0)) σ') : EVi G mX4_valueOf SH [.ref 78, .ref q, .int (nI r)] σ P := by
  refine wX4_valueOf hq _ (fun X hX v1 e1 => ⟨hd_vn hr (by decide), fun v2 e2 => ⟨hd_vn hr (by decide), fun v3 e3 => ?_⟩⟩)
  rw [nI_clamp (by omega)] at e2 e3
  rw [e1, e2, e3, hs, hen]
  exact vv_loop hq hX he hl hfin h cs s0 ([], []) σ rfl hc hrun hdeep (fun z hz => by cases hz) ⟨rfl, fun _ _ => rfl⟩ (fun j hj => by simp [cl_flat] at hj)
