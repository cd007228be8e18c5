theorem wk_ix (cc i : Nat) : nI cc + 2 * nI i = nI (cc + 2 * i) := by
  rw [show (2 : Int32) = nI 2 from rfl, pk_mul, nI_add]
theorem wk_m2 {n : Nat} : nI (n + 2) + (-2) = nI n := by
  rw [nI_z, show (-2 : Int32) = zI (-2) from rfl, zI_add, nI_z]
  congr 1
  omega
theorem cl_bit_i (b : Bool) : zI (cl_bit b) = 0 ∨ zI (cl_bit b) = 1 := by
  cases b
  · exact Or.inl rfl
  · exact Or.inr rfl
theorem cl_bit_z (b : Bool) : zI (cl_bit b) = 0 ↔ b = false := by cases b <;> decide
set_option maxHeartbeats 4000000 in
theorem wk_loop {G : hd_G} {σ0 : hd_M} {P : hd_M → Prop} {X : hd_X} (hX : hd_CX G mX8_work X (hd_Zv P) SH (0, 0)) {e : Nat → Int} (he : ∀ k, k < 10 → σ0.1 100 k = zI (e k) ∧ cl_m (e k)) {xx cc en : Nat} (hxx : xx + 3 < 2920) (hcc : cc + 2 * en ≤ 2920) (hend : σ0.1 97 (xx + 3) = nI en) {fin : cl_S} (h : ∀ σ', wk_fr σ0 σ' → wk_at σ' fin → P σ') : ∀ (cs : List Nat) (i : Nat) (s : cl_S) (σ : hd_M), i + cs.length = en → (∀ j, j < cs.length → σ0.1 97 (cc + 2 * (i + j)) = nI (cl_mo (cs.getD j 0)) ∧ (cs.getD j 0 < 10022 → σ0.1 97 (cc + 2 * (i + j) + 1) = nI (cl_mv (cs.getD j 0)))) → cl_run e cs s = some fin → (∀ k s', k ≤ cs.length → cl_run e (cs.take k) s = some s' → cl_len s' ≤ 64) → cl_ok s → wk_fr σ0 σ → wk_at σ s → hd_J G mX8_work X SH (0, 0) 38 [(0, .ref 94), (3, .int (nI xx)), (4, .int (nI cc)), (5, .int (nI s.1.length)), (6, .int (nI s.2.length)), (7, .int (nI i))] [] σ := by
  intro cs
  induction cs with
  | nil =>
    intro i s σ hi hc hrun hdeep hok hfr hat
    have hsf : s = fin := Option.some.inj hrun
    have hi : i = en := by simpa using hi
    have e1 : nI xx + 3 = nI (xx + 3) := nI_add xx 3
    refine wX8_work_38 hX _ _ _ _ _ ⟨by rw [e1]; exact hd_vn hxx (by decide), ?_⟩
    rw [e1, nI_clamp (by omega), hfr.1 97 (by decide), hend, hi]
    exact b_le (nI_le (Nat.le_refl _) (by omega)) (h σ hfr (hsf ▸ hat))
  | cons c cs ih =>
    intro i s σ hi hc hrun hdeep hok hfr hat
    rw [List.length_cons] at hi
    have hc0 : σ.1 97 (cc + 2 * i) = nI (cl_mo c) := by
      rw [hfr.1 97 (by decide)]
      have := (hc 0 (by simp)).1
      simpa using this
    have hc1 : c < 10022 → σ.1 97 (cc + 2 * i + 1) = nI (cl_mv c) := by
      intro z
      rw [hfr.1 97 (by decide)]
      have := (hc 0 (by simp)).2 (by simpa using z)
      simpa using this
    unfold cl_run at hrun
    cases hop : cl_op c e s with
    | none => rw [hop] at hrun; cases hrun
    | some s1 =>
      rw [hop] at hrun
      have hl1 : cl_len s1 ≤ 64 := hdeep 1 s1 (by simp) (by simp [cl_run, hop])
      have hl0 : cl_len s ≤ 64 := hdeep 0 s (Nat.zero_le _) rfl
      have next : ∀ σ1 : hd_M, cl_ok s1 → wk_fr σ0 σ1 → wk_at σ1 s1 → hd_J G mX8_work X SH (0, 0) 346 [(0, .ref 94), (3, .int (nI xx)), (4, .int (nI cc)), (5, .int (nI s1.1.length)), (6, .int (nI s1.2.length)), (7, .int (nI i))] [] σ1 := by
        intro σ1 a1 a2 a3
        refine wX8_work_346 hX _ _ _ _ _ (fun v ev => ?_)
        rw [ev, nI_1]
        refine ih (i + 1) s1 σ1 (by omega) (fun j hj => ?_) hrun (fun k s' hk hr => ?_) a1 a2 a3
        · have := hc (j + 1) (by rw [List.length_cons]; omega)
          rw [show i + 1 + j = i + (j + 1) by omega]
          simpa using this
        · exact hdeep (k + 1) s' (by rw [List.length_cons]; omega) (by rw [List.take_succ_cons]; unfold cl_run; rw [hop]; exact hr)
      have e1 : nI xx + 3 = nI (xx + 3) := nI_add xx 3
      have hie : nI i < nI en := nI_lt (by omega) (by omega)
      obtain ⟨vs, ts⟩ := s
      have hvl : vs.length + ts.length ≤ 64 := hl0
      dsimp only
      refine wX8_work_38 hX _ _ _ _ _ ⟨by rw [e1]; exact hd_vn hxx (by decide), ?_⟩
      rw [e1, nI_clamp (by omega), hfr.1 97 (by decide), hend, ← hfr.1 97 (by decide), wk_ix]
      refine b_le' hie ⟨hd_vn (by omega) (by decide), fun v1 ev1 => ⟨by rw [nI_1]; exact hd_vn (by omega) (by decide), fun v2 ev2 => ?_⟩⟩
      rw [nI_clamp (by omega), hc0] at ev1
      rw [nI_1, nI_clamp (by omega)] at ev2
      by_cases hcA : c < 10000
      · have hm : cl_mo c = 0 := by unfold cl_mo; rw [if_pos hcA]
        have hs1 : s1 = ((c : Int) :: vs, ts) := by
          unfold cl_op at hop
          rw [if_pos hcA] at hop
          exact (Option.some.inj hop).symm
        subst hs1
        rw [hm] at ev1
        have ev2 : v2 = nI c := by
          rw [ev2, hc1 (by omega)]
          unfold cl_mv
          rw [if_pos hcA]
        refine b_lt' (by rw [ev1]; decide) (b_ne' ev1 ⟨hd_vn (by omega) (by decide), fun s24 e24 v25 e25 => ?_⟩)
        rw [nI_clamp (by omega), ev2, nI_z, zI_64 ⟨by omega, by omega⟩] at e24
        rw [e24, e25, nI_1]
        exact next _ (by intro z hz; rcases List.mem_cons.mp hz with rfl | hz; exact ⟨by omega, by omega⟩; exact hok z hz) (wk_fr_L hfr) (wk_pushv hat)
      · by_cases hcB : c < 10022
        · have hc12 : 10012 ≤ c := by
            by_cases z : c < 10012
            · unfold cl_op at hop
              rw [if_neg hcA, if_pos z] at hop
              cases hop
            · omega
          have hm : cl_mo c = 1 := by unfold cl_mo; rw [if_neg hcA, if_pos hcB]
          have hs1 : s1 = (e (c - 10012) :: vs, ts) := by
            unfold cl_op at hop
            rw [if_neg hcA, if_neg (by omega), if_pos hcB] at hop
            exact (Option.some.inj hop).symm
          subst hs1
          rw [hm] at ev1
          have hk10 : c - 10012 < 10 := by omega
          have ev2 : v2 = nI (c - 10012) := by
            rw [ev2, hc1 hcB]
            unfold cl_mv
            rw [if_neg hcA]
          refine b_lt' (by rw [ev1]; decide) (b_ne (by rw [ev1]; decide) ⟨by rw [ev2]; exact hd_vn hk10 (by decide), hd_vn (by omega) (by decide), fun s22 e22 v23 e23 => ?_⟩)
          rw [nI_clamp (by omega), ev2, nI_clamp (by omega), hfr.1 100 (by decide), (he _ hk10).1, zI_64 (cl_m_r (he _ hk10).2)] at e22
          rw [e22, e23, nI_1]
          exact next _ (by intro z hz; rcases List.mem_cons.mp hz with rfl | hz; exact (he _ hk10).2; exact hok z hz) (wk_fr_L hfr) (wk_pushv hat)
        · obtain ⟨hk1, hc35, -⟩ := cl_op_c hop (by omega) hok
          unfold cl_op at hop
          rw [if_neg hcA, if_neg (by omega), if_neg hcB] at hop
          have hmb : 1 < cl_mo c ∧ cl_mo c < 100 := by
            unfold cl_mo
            rw [if_neg hcA, if_neg hcB]
            grind
          have h1v : (1 : Int32) < v1 := by rw [ev1]; exact nI_lt (a := 1) hmb.1 (by omega)
          have hmo : ∀ m : Nat, cl_mo c = m → v1 = nI m := fun m z => by rw [ev1, z]
          by_cases h1 : c = 10022
          · have hv : v1 = 22 := hmo 22 (by rw [h1]; rfl)
            rw [if_pos h1] at hop
            split at hop
            · rename_i u t r e1'
              cases e1'
              cases hop
              have hr : r.length + 2 ≤ 64 := by simp at hvl; omega
              have t0 : σ.1 102 r.length = zI (cl_bit t) := wk_t (wk_popt hat)
              have t1 : σ.1 102 (r.length + 1) = zI (cl_bit u) := wk_t (ts := t :: r) hat
              refine b_lt h1v (b_ne (by rw [hv]; decide) (b_le (by rw [hv]; decide) (b_le (by rw [hv]; decide) (b_ne (by rw [hv]; decide) (fun v3 e3 => b_ne (by rw [hv]; decide) ?_)))))
              have e3 : v3 = nI (r.length + 1) := by rw [e3]; exact pk_m1 (r.length + 1)
              have e31 : v3 - 1 = nI r.length := by rw [e3, nI_sub1 (by omega)]; rfl
              have i0 : vp_in (v3 - 1) 330 := by rw [e31]; exact hd_vn (by omega) (by decide)
              have i1 : vp_in v3 330 := by rw [e3]; exact hd_vn (by omega) (by decide)
              refine ⟨i0, ?_⟩
              rw [e31, e3, nI_clamp (by omega), nI_clamp (by omega), t0, t1]
              have fin2 : ∀ s' : hd_M, s' = hd_wI σ 102 r.length (zI (cl_bit (t || u))) → hd_J G mX8_work X SH (0, 0) 346 [(0, .ref 94), (3, .int (nI xx)), (4, .int (nI cc)), (5, .int (nI 0)), (6, .int (nI (r.length + 1))), (7, .int (nI i))] [] s' := by
                intro s' es
                rw [es]
                exact next _ hk1 (wk_fr_I hfr) (wk_pusht (wk_popt (wk_popt hat)))
              rw [e31] at i0
              rw [e3] at i1
              cases t with
              | true => exact b_ne (by decide) ⟨i0, Or.inr rfl, fun s' es => fin2 s' es⟩
              | false =>
                refine b_ne' (by decide) ⟨i1, ?_⟩
                cases u with
                | true => exact b_eq' (by decide) ⟨i0, Or.inr rfl, fun s' es => fin2 s' es⟩
                | false => exact b_eq (by decide) ⟨i0, Or.inl rfl, fun s' es => fin2 s' es⟩
            · cases hop
          rw [if_neg h1] at hop
          by_cases h2 : c = 10023
          · have hv : v1 = 21 := hmo 21 (by rw [h2]; rfl)
            rw [if_pos h2] at hop
            split at hop
            · rename_i u t r e1'
              cases e1'
              cases hop
              have hr : r.length + 2 ≤ 64 := by simp at hvl; omega
              have t0 : σ.1 102 r.length = zI (cl_bit t) := wk_t (wk_popt hat)
              have t1 : σ.1 102 (r.length + 1) = zI (cl_bit u) := wk_t (ts := t :: r) hat
              refine b_lt h1v (b_ne (by rw [hv]; decide) (b_le (by rw [hv]; decide) (b_le (by rw [hv]; decide) (b_ne (by rw [hv]; decide) (fun v3 e3 => b_ne' hv ?_)))))
              have e3 : v3 = nI (r.length + 1) := by rw [e3]; exact pk_m1 (r.length + 1)
              have e31 : v3 - 1 = nI r.length := by rw [e3, nI_sub1 (by omega)]; rfl
              have i0 : vp_in (v3 - 1) 330 := by rw [e31]; exact hd_vn (by omega) (by decide)
              have i1 : vp_in v3 330 := by rw [e3]; exact hd_vn (by omega) (by decide)
              refine ⟨i0, ?_⟩
              rw [e31, e3, nI_clamp (by omega), nI_clamp (by omega), t0, t1]
              have fin2 : ∀ s' : hd_M, s' = hd_wI σ 102 r.length (zI (cl_bit (t && u))) → hd_J G mX8_work X SH (0, 0) 346 [(0, .ref 94), (3, .int (nI xx)), (4, .int (nI cc)), (5, .int (nI 0)), (6, .int (nI (r.length + 1))), (7, .int (nI i))] [] s' := by
                intro s' es
                rw [es]
                exact next _ hk1 (wk_fr_I hfr) (wk_pusht (wk_popt (wk_popt hat)))
              rw [e31] at i0
              rw [e3] at i1
              cases t with
              | false => exact b_eq (by decide) ⟨i0, Or.inl rfl, fun s' es => fin2 s' es⟩
              | true =>
                refine b_eq' (by decide) ⟨i1, ?_⟩
                cases u with
                | true => exact b_eq' (by decide) ⟨i0, Or.inr rfl, fun s' es => fin2 s' es⟩
                | false => exact b_eq (by decide) ⟨i0, Or.inl rfl, fun s' es => fin2 s' es⟩
            · cases hop
          rw [if_neg h2] at hop
          by_cases h3 : c = 10024
          · have hv : v1 = 20 := hmo 20 (by rw [h3]; rfl)
            rw [if_pos h3] at hop
            split at hop
            · rename_i t r e1'
              cases e1'
              cases hop
              have hr : r.length + 1 ≤ 64 := by simp at hvl; omega
              have t0 : σ.1 102 r.length = zI (cl_bit t) := wk_t hat
              refine b_lt h1v (b_ne (by rw [hv]; decide) (b_le (by rw [hv]; decide) (b_le (by rw [hv]; decide) (b_ne' hv ?_))))
              have e31 : nI (t :: r).length - 1 = nI r.length := nI_sub1 (n := r.length + 1) (by omega)
              have i0 : vp_in (nI r.length) 330 := hd_vn (by omega) (by decide)
              rw [e31, nI_clamp (by omega), t0]
              have fin2 : ∀ s' : hd_M, s' = hd_wI σ 102 r.length (zI (cl_bit (!t))) → hd_J G mX8_work X SH (0, 0) 346 [(0, .ref 94), (3, .int (nI xx)), (4, .int (nI cc)), (5, .int (nI 0)), (6, .int (nI (r.length + 1))), (7, .int (nI i))] [] s' := by
                intro s' es
                rw [es]
                exact next _ hk1 (wk_fr_I hfr) (wk_pusht (wk_popt hat))
              refine ⟨i0, ?_⟩
              cases t with
              | true => exact b_ne (by decide) ⟨i0, Or.inl rfl, fun s' es => fin2 s' es⟩
              | false => exact b_ne' (by decide) ⟨i0, Or.inr rfl, fun s' es => fin2 s' es⟩
            · cases hop
          rw [if_neg h3] at hop
          by_cases h4 : c < 10031
          · have hm : cl_mo c = c - 10015 := by unfold cl_mo; rw [if_neg hcA, if_neg hcB, if_neg (by omega), if_pos h4]
            have hv := hmo _ hm
            rw [if_pos h4] at hop
            split at hop
            · rename_i y x ts' e1'
              cases e1'
              cases hop
              have tx : σ.2 101 0 = zL x := wk_v (wk_popv hat)
              have ty : σ.2 101 1 = zL y := wk_v (vs := [x]) hat
              have htl : ts.length ≤ 62 := by simp at hvl; omega
              refine b_lt h1v (b_ne (fun z => ?_) (b_le (by rw [hv]; exact nI_le (a := 10) (by omega) (by omega)) (b_le' (by rw [hv]; exact nI_lt (b := 20) (by omega) (by omega)) (fun v12 e12 => ?_))))
              · rw [hv] at z
                have := (nI_eq (b := 2) (by omega) (by omega)).mp z
                omega
              · have e12 : v12 = nI 0 := by rw [e12]; exact wk_m2
                have e13 : v12 + 1 = nI 1 := by rw [e12]; rfl
                refine ⟨by rw [e12]; exact hd_vn (by decide) (by decide), by rw [e13]; exact hd_vn (by decide) (by decide), ?_⟩
                rw [e13, e12, nI_clamp (by decide), nI_clamp (by decide), tx, ty, hv]
                refine sX8_isAsked (by omega) (hok x (by simp)) (hok y (by simp)) ⟨hd_vn (by omega) (by decide), cl_bit_i _, fun s15 e15 v16 e16 => ?_⟩
                rw [nI_clamp (by omega), show c - 10015 + 10015 = c by omega] at e15
                rw [e15, e16, nI_1]
                exact next _ hk1 (wk_fr_I hfr) (wk_pusht (wk_popv (wk_popv hat)))
            · cases hop
          rw [if_neg h4] at hop
          by_cases h5 : c < 10035
          · have hm : cl_mo c = c - 10028 := by unfold cl_mo; rw [if_neg hcA, if_neg hcB, if_neg (by omega), if_neg h4, if_pos h5]
            have hv := hmo _ hm
            rw [if_pos h5] at hop
            split at hop
            · rename_i y x r ts' e1'
              cases e1'
              cases hop
              have hrl : r.length + 2 + ts.length ≤ 64 := by simp at hvl; omega
              have tx : σ.2 101 r.length = zL x := wk_v (wk_popv hat)
              have ty : σ.2 101 (r.length + 1) = zL y := wk_v (vs := x :: r) hat
              refine b_lt h1v (b_ne (fun z => ?_) (b_le' (by rw [hv]; exact nI_lt (b := 10) (by omega) (by omega)) (fun v17 e17 => ?_)))
              · rw [hv] at z
                have := (nI_eq (b := 2) (by omega) (by omega)).mp z
                omega
              · have e17 : v17 = nI (r.length + 1) := by rw [e17]; exact pk_m1 (r.length + 1)
                have e18 : v17 - 1 = nI r.length := by rw [e17, nI_sub1 (by omega)]; rfl
                refine ⟨by rw [e18]; exact hd_vn (by omega) (by decide), by rw [e17]; exact hd_vn (by omega) (by decide), ?_⟩
                rw [e18, e17, nI_clamp (by omega), nI_clamp (by omega), tx, ty, hv]
                refine sX8_two (by omega) (hok x (by simp)) (hok y (by simp)) ⟨hd_vn (by omega) (by decide), fun s20 e20 => ?_⟩
                rw [show c - 10028 + 10028 = c by omega] at e20
                rw [e20]
                exact next _ hk1 (wk_fr_L hfr) (wk_pushv (wk_popv (wk_popv hat)))
            · cases hop
          rw [if_neg h5] at hop
          by_cases h6 : c = 10035
          · have hv : v1 = 2 := hmo 2 (by rw [h6]; rfl)
            rw [if_pos h6] at hop
            split at hop
            · rename_i x r ts' e1'
              cases e1'
              cases hop
              have hrl : r.length + 1 + ts.length ≤ 64 := by simp at hvl; omega
              have tx : σ.2 101 r.length = zL x := wk_v hat
              have e31 : nI (x :: r).length - 1 = nI r.length := nI_sub1 (n := r.length + 1) (by omega)
              have i0 : vp_in (nI r.length) 330 := hd_vn (by omega) (by decide)
              refine b_lt h1v (b_ne' hv ?_)
              rw [e31, nI_clamp (by omega), tx, zL_neg]
              refine ⟨i0, i0, fun s21 e21 => ?_⟩
              rw [e21]
              exact next _ hk1 (wk_fr_L hfr) (wk_pushv (wk_popv hat))
            · cases hop
          rw [if_neg h6] at hop
          cases hop
