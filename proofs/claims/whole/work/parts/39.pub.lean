theorem jTried {G : hd_G} {σ : hd_M} {M : MM} {Q : Int32 → Int32 → hd_M → Prop} (hR : REL σ M) (x y : Int32) (h : ∀ y s M', REL s M' → Q y y s) : EVi G mX7_tried SH [.ref 0, .int x, .int y] σ (fun y1 s1 => EVi G mX8_tried SH [.ref 94, .int x, .int y] s1 (fun y' s2 => Q y1 y' s2)) := by
  have hR0 := hR
  obtain ⟨tp, ft, ⟨n, sz, v, b, T, r, st, tr, ho⟩, D', laws⟩ := M
  obtain ⟨hC, hRr, hm⟩ := hR
  have k2 := hm.2.1
  have c9 : σ.1 2 11 = nI tr.length := hC.2.2.1.2.2.2.2.2.2.2.2.1
  have r10 : σ.1 95 4 = nI tr.length := hRr.2.2.1.2.2.2.2.2.2.2.2.2.1
  have hl12 : tr.length ≤ 12 := k2.2.2.2.2.2.2.2.2.1
  have e14 : ∀ x : Int32, x < 15 ↔ x ≤ 14 := fun x => by
    rw [Int32.lt_iff_toInt_lt, Int32.le_iff_toInt_le]
    have e1 : (15 : Int32).toInt = 15 := rfl
    have e2 : (14 : Int32).toInt = 14 := rfl
    omega
  by_cases hx : (0 : Int32) ≤ x ∧ x ≤ 14
  · by_cases hy : (-1 : Int32) ≤ y ∧ y ≤ 9
    · have rfst : ∀ (s : hd_M) (F : Int32 → hd_M → Prop), (vp_in 4 334 ∧ ((¬ s.1 95 ((4 : Int32).toNatClampNeg) = 12 → vp_in 4 334 ∧ (vp_in (30 + (2 * (s.1 95 ((4 : Int32).toNatClampNeg)))) 334 ∧ (∀ s5, s5 = hd_wI s 95 ((30 + (2 * (s.1 95 ((4 : Int32).toNatClampNeg)))).toNatClampNeg) x → vp_in 4 334 ∧ (vp_in ((30 + (2 * (s5.1 95 ((4 : Int32).toNatClampNeg)))) + 1) 334 ∧ (∀ s6, s6 = hd_wI s5 95 (((30 + (2 * (s5.1 95 ((4 : Int32).toNatClampNeg)))) + 1).toNatClampNeg) y → vp_in 4 334 ∧ (vp_in 4 334 ∧ (∀ s7, s7 = hd_wI s6 95 ((4 : Int32).toNatClampNeg) ((s6.1 95 ((4 : Int32).toNatClampNeg)) + 1) → vp_in 4 334 ∧ (F (s7.1 95 ((4 : Int32).toNatClampNeg)) s7)))))))) ∧ (s.1 95 ((4 : Int32).toNatClampNeg) = 12 → F (-1) s))) → EVi G mX8_tried SH [.ref 94, .int x, .int y] s F := by
        intro s F hF
        refine wX8_tried _ _ (wX8_isAct _ (sX8_isInG _ _ _ ⟨cl_bit_i _, ?_⟩))
        rw [decide_eq_true hx]
        refine b_eq' (by decide) (sX8_isInG _ _ _ ?_)
        rw [decide_eq_true hy]
        exact b_eq' (by decide) hF
      by_cases hl : tr.length = 12
      · refine wX7_tried _ _ (b_lt' hx.1 (b_le' ((e14 x).mpr hx.2) (b_lt' hy.1 (b_lt' hy.2 (b_lt' ?_ (rfst _ _ ⟨pk_in 4 334 (by decide), ?_⟩))))))
        · rw [c9, hl]; decide
        · rw [show (4 : Int32).toNatClampNeg = 4 from rfl, r10, hl]
          exact b_ne' rfl (h _ _ _ hR0)
      · obtain ⟨k, -, kx, rfl⟩ := i_rng (x := x) 0 14 hx.1 hx.2
        obtain ⟨z, hz1, hz2, rfl⟩ := i_rngM (x := y) 9 hy.1 hy.2
        refine wX7_tried _ _ (b_lt' hx.1 (b_le' ((e14 _).mpr hx.2) (b_lt' hy.1 (b_lt' hy.2 (b_lt ?_ ⟨?_, fun s1 e1 => ⟨?_, fun s2 e2 s3 e3 => ?_⟩⟩)))))
        · rw [c9]; exact nI_lt (b := 12) (by omega) (by decide)
        · rw [c9]; exact hd_vn (by omega) (by decide)
        · rw [e1, wI_ne (by decide), c9]; exact hd_vn (by omega) (by decide)
        · have e1 : s1 = hd_wI σ 6 tr.length (nI k) := by rw [e1, c9, nI_clamp (by omega)]
          have e2 : s2 = hd_wI s1 7 tr.length (zI z) := by rw [e2, e1, wI_ne (by decide), c9, nI_clamp (by omega)]
          have e3 : s3 = hd_wI s2 2 11 (nI (tr.length + 1)) := by rw [e3, e2, e1, wI_ne (by decide), wI_ne (by decide), c9, nI_1]
          have y1 : s3.1 2 11 = nI (tr.length + 1) := by rw [e3, wI_eq, if_pos rfl]
          have f3 : fC σ s3 := by rw [e3, e2, e1]; exact fC_w (fC_w (fC_w fC_rf (by decide)) (by decide)) (by decide)
          have C3 : CREL s3 (tp, ft, (n, sz, v, b, T, r, st, tr ++ [(k, z)], ho), D', laws) := by
            obtain ⟨c1, c2, c3, c4, c5, c6, c7, c8, c9, c10, c11, c12⟩ := hC.2.2.1
            simp only [d_n, d_sz, d_v, d_b, d_T, d_r, d_st, d_tr, d_ho] at *
            refine CREL_desk hC (Nat.le_refl _) k2.2.2.2.2.1 (fun j h1 h2 => ?_) ?_ (fun j hj => ?_) ?_ ⟨?_, fun p hp => ?_, ?_, ?_, ?_, ?_, ?_, ?_, ?_, ?_, ?_, ?_⟩ ?_
            all_goals (try rw [e3, e2, e1])
            · rw [wI_ne (by omega), wI_ne (by omega), wI_ne (by omega)]
            · rw [wI_ne (by decide), wI_ne (by decide), wI_ne (by decide)]
            · rw [wI_ne (by decide), wI_ne (by decide), wI_ne (by decide)]
            · exact NV_cg hC.2.2.2.2.2.2.1 (by simp [wI_at]) (by rw [wI_ne (by decide), wI_ne (by decide), wI_ne (by decide)])
            · simpa [wI_at, d_n] using c1
            · simpa [wI_at, d_sz] using c2 p hp
            · simpa [wI_at, d_v] using c3
            · simpa [wI_at, d_b] using c4
            · simpa [wI_at, d_T] using c5
            · simpa [wI_at, d_r] using c6
            · simpa [wI_at, d_st] using c7
            · simpa [wI_at, d_st] using c8
            · simp [wI_at, d_tr]
            · intro j hj
              have hj : j < tr.length + 1 := by simpa [d_tr] using hj
              show _ = nI ((tr ++ [(k, z)]).getD j (0, 0)).1 ∧ _ = zI ((tr ++ [(k, z)]).getD j (0, 0)).2
              by_cases hjl : j = tr.length
              · subst hjl
                rw [getD_app2]
                simp [wI_at]
              · rw [getD_app1 (by omega)]
                have := c10 j (by omega)
                simpa [wI_at, hjl] using this
            · simpa [wI_at, d_ho] using c11
            · simpa [wI_at, d_ho] using c12
            · exact cSch_cg hC.2.2.2.2.2.2.2 (by simp [wI_at]) (by rw [wI_ne (by decide), wI_ne (by decide), wI_ne (by decide)]) (by rw [wI_ne (by decide), wI_ne (by decide), wI_ne (by decide)]) (by rw [wI_ne (by decide), wI_ne (by decide), wI_ne (by decide)])
          have R3 := RREL_fC hRr f3
          obtain ⟨q1, q2, q3, q4, q5, q6, q7, q8, q9, q10, q11, q12, q13⟩ := R3.2.2.1
          have q10' : s3.1 95 4 = nI tr.length := q10
          rw [y1]
          refine rfst _ _ ⟨pk_in 4 334 (by decide), ?_⟩
          rw [show (4 : Int32).toNatClampNeg = 4 from rfl, q10']
          refine b_ne (fun w => hl ((nI_eq (b := 12) (by omega) (by decide)).mp w)) ⟨pk_in 4 334 (by decide), ?_⟩
          have ix : (30 : Int32) + 2 * nI tr.length = nI (30 + 2 * tr.length) := by
            rw [show (30 : Int32) = nI 30 from rfl, show (2 : Int32) = nI 2 from rfl, pk_mul, nI_add]
          have ix1 : nI (30 + 2 * tr.length) + 1 = nI (30 + 2 * tr.length + 1) := nI_1 _
          rw [ix, nI_clamp (by omega)]
          refine ⟨hd_vn (by omega) (by decide), fun t5 d5 => ⟨pk_in 4 334 (by decide), ?_⟩⟩
          have w5 : t5.1 95 4 = nI tr.length := by rw [d5, wI_eq, if_neg (by omega), q10']
          rw [w5, ix, ix1, nI_clamp (by omega)]
          refine ⟨hd_vn (by omega) (by decide), fun t6 d6 => ⟨pk_in 4 334 (by decide), pk_in 4 334 (by decide), fun t7 d7 => ⟨pk_in 4 334 (by decide), ?_⟩⟩⟩
          have w6 : t6.1 95 4 = nI tr.length := by rw [d6, wI_eq, if_neg (by omega), w5]
          rw [w6, nI_1] at d7
          have w7 : t7.1 95 4 = nI (tr.length + 1) := by rw [d7, wI_eq, if_pos rfl]
          rw [w7]
          have rd : ∀ j, t7.1 95 j = if j = 4 then nI (tr.length + 1) else if j = 30 + 2 * tr.length + 1 then zI z else if j = 30 + 2 * tr.length then nI k else s3.1 95 j := by
            intro j
            rw [d7, d6, d5, wI_eq, wI_eq, wI_eq]
          have ne : ∀ j, j ≠ 4 → j ≠ 30 + 2 * tr.length → j ≠ 30 + 2 * tr.length + 1 → t7.1 95 j = s3.1 95 j := fun j h1 h2 h3 => by rw [rd, if_neg h1, if_neg h3, if_neg h2]
          have f7 : fR s3 t7 := by rw [d7, d6, d5]; exact fR_w (fR_w (fR_w fR_rf (by decide)) (by decide)) (by decide)
          have mo : mok (tp, ft, (n, sz, v, b, T, r, st, tr ++ [(k, z)], ho), D', laws) := by
            obtain ⟨a1, ⟨o1, o2, o3, o4, o5, o6, o7, o8, o9, o10, o11, o12⟩, a3, a4, a5⟩ := hm
            refine ⟨a1, ⟨o1, o2, o3, o4, o5, o6, o7, o8, ?_, fun t ht => ?_, o11, o12⟩, a3, a4, a5⟩
            · show (tr ++ [(k, z)]).length ≤ 12
              simp
              omega
            · rcases List.mem_append.mp ht with ht | ht
              · exact o10 t ht
              · have ht := List.mem_singleton.mp ht
                subst ht
                exact ⟨by show k < 15; omega, hz1, hz2⟩
          have n6 : n ≤ 6 := k2.1
          have s30 : st.length ≤ 30 := k2.2.2.2.2.2.2.1
          have h10 : ho.length ≤ 10 := k2.2.2.2.2.2.2.2.2.2.2.1
          refine h _ _ (tp, ft, (n, sz, v, b, T, r, st, tr ++ [(k, z)], ho), D', laws) ⟨CREL_fR C3 mo f7, RREL_desk R3 (Nat.le_refl _) (fun j h1 h2 => ?_) (fun j h1 h2 => ?_) ⟨?_, fun p hp => ?_, fun p hp => ?_, ?_, ?_, ?_, ?_, ?_, fun j hj => ?_, ?_, fun j hj => ?_, ?_, fun j hj => ?_⟩, mo⟩
          · rw [d7, d6, d5, wI_ne (by omega), wI_ne (by omega), wI_ne (by omega)]
          · rw [d7, d6, d5, wI_ne (by omega), wI_ne (by omega), wI_ne (by omega)]
          · rw [ne _ (by omega) (by omega) (by omega)]; exact q1
          · have hp : p < n := hp
            rw [ne _ (by omega) (by omega) (by omega)]; exact q2 p hp
          · have hp : p < n := hp
            rw [ne _ (by omega) (by omega) (by omega)]; exact q3 p hp
          · rw [ne _ (by omega) (by omega) (by omega)]; exact q4
          · rw [ne _ (by omega) (by omega) (by omega)]; exact q5
          · rw [ne _ (by omega) (by omega) (by omega)]; exact q6
          · rw [ne _ (by omega) (by omega) (by omega)]; exact q7
          · rw [ne _ (by omega) (by omega) (by omega)]; exact q8
          · have hj : j < st.length := hj
            exact rStep_cg (q9 j hj) (Nat.le_refl _) n6 (fun i h1 h2 => ne i (by omega) (by omega) (by omega))
          · rw [w7]
            show _ = nI (tr ++ [(k, z)]).length
            rw [List.length_append, List.length_singleton]
          · have hj : j < tr.length + 1 := by simpa [d_tr] using hj
            show _ = nI ((tr ++ [(k, z)]).getD j (0, 0)).1 ∧ _ = zI ((tr ++ [(k, z)]).getD j (0, 0)).2
            by_cases hjl : j = tr.length
            · subst hjl
              rw [getD_app2, rd, if_neg (by omega), if_neg (by omega), if_pos rfl, rd, if_neg (by omega), if_pos rfl]
              exact ⟨rfl, rfl⟩
            · rw [getD_app1 (by omega), ne _ (by omega) (by omega) (by omega), ne _ (by omega) (by omega) (by omega)]
              exact q11 j (by show j < tr.length; omega)
          · rw [ne _ (by omega) (by omega) (by omega)]; exact q12
          · have hj : j < ho.length := hj
            rw [ne _ (by omega) (by omega) (by omega)]; exact q13 j hj
    · have no : EVi G mX8_tried SH [.ref 94, .int x, .int y] σ (fun y' s2 => Q (-1) y' s2) := by
        refine wX8_tried _ _ (wX8_isAct _ (sX8_isInG _ _ _ ⟨cl_bit_i _, ?_⟩))
        rw [decide_eq_true hx]
        refine b_eq' (by decide) (sX8_isInG _ _ _ ?_)
        rw [decide_eq_false hy]
        exact b_eq (by decide) (h _ _ _ hR0)
      exact wX7_tried _ _ (b_lt' hx.1 (b_le' ((e14 x).mpr hx.2) ⟨fun _ => no, fun h1 => ⟨fun _ => no, fun h2 => absurd ⟨h1, h2⟩ hy⟩⟩))
  · have no : EVi G mX8_tried SH [.ref 94, .int x, .int y] σ (fun y' s2 => Q (-1) y' s2) := by
      refine wX8_tried _ _ (wX8_isAct _ (sX8_isInG _ _ _ ⟨cl_bit_i _, ?_⟩))
      rw [decide_eq_false hx]
      exact b_eq (by decide) (h _ _ _ hR0)
    exact wX7_tried _ _ ⟨fun _ => no, fun h1 => ⟨fun _ => no, fun h2 => absurd ⟨h1, (e14 x).mp h2⟩ hx⟩⟩
theorem jForget {G : hd_G} {σ : hd_M} {M : MM} {Q : Int32 → Int32 → hd_M → Prop} (hR : REL σ M) (h : ∀ y s M', REL s M' → Q y y s) : EVi G mX7_forget SH [.ref 0] σ (fun y1 s1 => EVi G mX8_forget SH [.ref 94] s1 (fun y' s2 => Q y1 y' s2)) := by
  obtain ⟨tp, ft, ⟨n, sz, v, b, T, r, st, tr, ho⟩, D', laws⟩ := M
  obtain ⟨hC, hRr, hm⟩ := hR
  have k2 := hm.2.1
  have c9 : σ.1 2 11 = nI tr.length := hC.2.2.1.2.2.2.2.2.2.2.2.1
  refine wX7_forget (fun v1 e1 s2 e2 => ?_)
  have f2 : fC σ s2 := by rw [e2]; exact fC_w fC_rf (by decide)
  have C3 : CREL s2 (tp, ft, (n, sz, v, b, T, r, st, [], ho), D', laws) := by
    obtain ⟨c1, c2, c3, c4, c5, c6, c7, c8, c9, c10, c11, c12⟩ := hC.2.2.1
    simp only [d_n, d_sz, d_v, d_b, d_T, d_r, d_st, d_tr, d_ho] at *
    refine CREL_desk hC (Nat.le_refl _) k2.2.2.2.2.1 (fun j h1 h2 => ?_) ?_ (fun j hj => ?_) ?_ ⟨?_, fun p hp => ?_, ?_, ?_, ?_, ?_, ?_, ?_, ?_, fun j hj => absurd hj (Nat.not_lt_zero _), ?_, ?_⟩ ?_
    all_goals (try rw [e2])
    · rw [wI_ne (by omega)]
    · rw [wI_ne (by decide)]
    · rw [wI_ne (by decide)]
    · exact NV_cg hC.2.2.2.2.2.2.1 (by simp [wI_at]) (by rw [wI_ne (by decide)])
    · simpa [wI_at, d_n] using c1
    · simpa [wI_at, d_sz] using c2 p hp
    · simpa [wI_at, d_v] using c3
    · simpa [wI_at, d_b] using c4
    · simpa [wI_at, d_T] using c5
    · simpa [wI_at, d_r] using c6
    · simpa [wI_at, d_st] using c7
    · simpa [wI_at, d_st] using c8
    · rw [wI_eq, if_pos rfl]; rfl
    · simpa [wI_at, d_ho] using c11
    · simpa [wI_at, d_ho] using c12
    · exact cSch_cg hC.2.2.2.2.2.2.2 (by simp [wI_at]) (by rw [wI_ne (by decide)]) (by rw [wI_ne (by decide)]) (by rw [wI_ne (by decide)])
  have R2 := RREL_fC hRr f2
  obtain ⟨q1, q2, q3, q4, q5, q6, q7, q8, q9, q10, q11, q12, q13⟩ := R2.2.2.1
  refine wX8_forget ⟨pk_in 4 334 (by decide), fun v1' e1' => ⟨pk_in 4 334 (by decide), fun s4 e4 => ?_⟩⟩
  have q10' : s2.1 95 4 = nI tr.length := q10
  have e4 : s4 = hd_wI s2 95 4 0 := e4
  rw [show (4 : Int32).toNatClampNeg = 4 from rfl, q10'] at e1'
  rw [e1, e1', c9]
  have ne : ∀ j, j ≠ 4 → s4.1 95 j = s2.1 95 j := fun j hj => by rw [e4, wI_eq, if_neg hj]
  have f4 : fR s2 s4 := by rw [e4]; exact fR_w fR_rf (by decide)
  have mo : mok (tp, ft, (n, sz, v, b, T, r, st, [], ho), D', laws) := by
    obtain ⟨a1, ⟨o1, o2, o3, o4, o5, o6, o7, o8, o9, o10, o11, o12⟩, a3, a4, a5⟩ := hm
    exact ⟨a1, ⟨o1, o2, o3, o4, o5, o6, o7, o8, Nat.zero_le _, fun t ht => (by cases ht), o11, o12⟩, a3, a4, a5⟩
  have n6 : n ≤ 6 := k2.1
  refine h _ _ (tp, ft, (n, sz, v, b, T, r, st, [], ho), D', laws) ⟨CREL_fR C3 mo f4, RREL_desk R2 (Nat.le_refl _) (fun j h1 h2 => ?_) (fun j h1 h2 => ?_) ⟨?_, fun p hp => ?_, fun p hp => ?_, ?_, ?_, ?_, ?_, ?_, fun j hj => ?_, ?_, fun j hj => absurd hj (Nat.not_lt_zero _), ?_, fun j hj => ?_⟩, mo⟩
  · rw [e4, wI_ne (by omega)]
  · rw [e4, wI_ne (by omega)]
  · rw [ne _ (by omega)]; exact q1
  · rw [ne _ (by omega)]; exact q2 p hp
  · rw [ne _ (by omega)]; exact q3 p hp
  · rw [ne _ (by omega)]; exact q4
  · rw [ne _ (by omega)]; exact q5
  · rw [ne _ (by omega)]; exact q6
  · rw [ne _ (by omega)]; exact q7
  · rw [ne _ (by omega)]; exact q8
  · exact rStep_cg (q9 j hj) (Nat.le_refl _) n6 (fun i h1 h2 => ne i (by omega))
  · rw [e4, wI_eq, if_pos rfl]; rfl
  · rw [ne _ (by omega)]; exact q12
  · rw [ne _ (by omega)]; exact q13 j hj
theorem jHollow {G : hd_G} {σ : hd_M} {M : MM} {Q : Int32 → Int32 → hd_M → Prop} (hR : REL σ M) (x : Int32) (h : ∀ y s M', REL s M' → Q y y s) : EVi G mX7_hollow SH [.ref 0, .int x] σ (fun y1 s1 => EVi G mX8_hollow SH [.ref 94, .int x] s1 (fun y' s2 => Q y1 y' s2)) := by
  have hR0 := hR
  obtain ⟨tp, ft, ⟨n, sz, v, b, T, r, st, tr, ho⟩, D', laws⟩ := M
  obtain ⟨hC, hRr, hm⟩ := hR
  have k2 := hm.2.1
  have c11 : σ.1 2 13 = nI ho.length := hC.2.2.1.2.2.2.2.2.2.2.2.2.2.1
  have r12 : σ.1 95 5 = nI ho.length := hRr.2.2.1.2.2.2.2.2.2.2.2.2.2.2.1
  have hl10 : ho.length ≤ 10 := k2.2.2.2.2.2.2.2.2.2.2.1
  by_cases hx : (1 : Int32) ≤ x ∧ x ≤ 99
  · by_cases hl : ho.length = 10
    · refine wX7_hollow _ (b_lt' hx.1 (b_lt' hx.2 (b_lt' ?_ (wX8_hollow _ (sX8_isInG _ _ _ ?_)))))
      · rw [c11, hl]; decide
      · rw [decide_eq_true hx]
        refine b_eq' (by decide) ⟨pk_in 5 334 (by decide), ?_⟩
        rw [show (5 : Int32).toNatClampNeg = 5 from rfl, r12, hl]
        exact b_ne' rfl (h _ _ _ hR0)
    · obtain ⟨k, kx0, kx, rfl⟩ := i_rng (x := x) 1 99 hx.1 hx.2
      refine wX7_hollow _ (b_lt' hx.1 (b_lt' hx.2 (b_lt ?_ ⟨?_, fun s1 e1 s2 e2 => ?_⟩)))
      · rw [c11]; exact nI_lt (b := 10) (by omega) (by decide)
      · rw [c11]; exact hd_vn (by omega) (by decide)
      · have e1 : s1 = hd_wI σ 8 ho.length (nI k) := by rw [e1, c11, nI_clamp (by omega)]
        have e2 : s2 = hd_wI s1 2 13 (nI (ho.length + 1)) := by rw [e2, e1, wI_ne (by decide), c11, nI_1]
        have y1 : s2.1 2 13 = nI (ho.length + 1) := by rw [e2, wI_eq, if_pos rfl]
        have f2 : fC σ s2 := by rw [e2, e1]; exact fC_w (fC_w fC_rf (by decide)) (by decide)
        have C3 : CREL s2 (tp, ft, (n, sz, v, b, T, r, st, tr, ho ++ [k]), D', laws) := by
          obtain ⟨c1, c2, c3, c4, c5, c6, c7, c8, c9, c10, c11, c12⟩ := hC.2.2.1
          simp only [d_n, d_sz, d_v, d_b, d_T, d_r, d_st, d_tr, d_ho] at *
          refine CREL_desk hC (Nat.le_refl _) k2.2.2.2.2.1 (fun j h1 h2 => ?_) ?_ (fun j hj => ?_) ?_ ⟨?_, fun p hp => ?_, ?_, ?_, ?_, ?_, ?_, ?_, ?_, ?_, ?_, ?_⟩ ?_
          all_goals (try rw [e2, e1])
          · rw [wI_ne (by omega), wI_ne (by omega)]
          · rw [wI_ne (by decide), wI_ne (by decide)]
          · rw [wI_ne (by decide), wI_ne (by decide)]
          · exact NV_cg hC.2.2.2.2.2.2.1 (by simp [wI_at]) (by rw [wI_ne (by decide), wI_ne (by decide)])
          · simpa [wI_at, d_n] using c1
          · simpa [wI_at, d_sz] using c2 p hp
          · simpa [wI_at, d_v] using c3
          · simpa [wI_at, d_b] using c4
          · simpa [wI_at, d_T] using c5
          · simpa [wI_at, d_r] using c6
          · simpa [wI_at, d_st] using c7
          · simpa [wI_at, d_st] using c8
          · simpa [wI_at, d_tr] using c9
          · simpa [wI_at, d_tr] using c10
          · simp [wI_at, d_ho]
          · intro j hj
            have hj : j < ho.length + 1 := by simpa [d_ho] using hj
            show _ = nI ((ho ++ [k]).getD j 0)
            by_cases hjl : j = ho.length
            · subst hjl
              rw [getD_app2]
              simp [wI_at]
            · rw [getD_app1 (by omega)]
              have := c12 j (by omega)
              simpa [wI_at, hjl] using this
          · exact cSch_cg hC.2.2.2.2.2.2.2 (by simp [wI_at]) (by rw [wI_ne (by decide), wI_ne (by decide)]) (by rw [wI_ne (by decide), wI_ne (by decide)]) (by rw [wI_ne (by decide), wI_ne (by decide)])
        have R3 := RREL_fC hRr f2
        obtain ⟨q1, q2, q3, q4, q5, q6, q7, q8, q9, q10, q11, q12, q13⟩ := R3.2.2.1
        have q12' : s2.1 95 5 = nI ho.length := q12
        rw [y1]
        refine wX8_hollow _ (sX8_isInG _ _ _ ?_)
        rw [decide_eq_true hx]
        refine b_eq' (by decide) ⟨pk_in 5 334 (by decide), ?_⟩
        rw [show (5 : Int32).toNatClampNeg = 5 from rfl, q12']
        refine b_ne (fun w => hl ((nI_eq (b := 10) (by omega) (by decide)).mp w)) ⟨pk_in 5 334 (by decide), ?_⟩
        rw [show (54 : Int32) = nI 54 from rfl, nI_add, nI_clamp (by omega)]
        refine ⟨hd_vn (by omega) (by decide), fun t3 d3 => ⟨pk_in 5 334 (by decide), pk_in 5 334 (by decide), fun t4 d4 => ⟨pk_in 5 334 (by decide), ?_⟩⟩⟩
        have w3 : t3.1 95 5 = nI ho.length := by rw [d3, wI_eq, if_neg (by omega), q12']
        rw [w3, nI_1] at d4
        have w4 : t4.1 95 5 = nI (ho.length + 1) := by rw [d4, wI_eq, if_pos rfl]
        rw [w4]
        have rd : ∀ j, t4.1 95 j = if j = 5 then nI (ho.length + 1) else if j = 54 + ho.length then nI k else s2.1 95 j := by
          intro j
          rw [d4, d3, wI_eq, wI_eq]
        have ne : ∀ j, j ≠ 5 → j ≠ 54 + ho.length → t4.1 95 j = s2.1 95 j := fun j h1 h2 => by rw [rd, if_neg h1, if_neg h2]
        have f4 : fR s2 t4 := by rw [d4, d3]; exact fR_w (fR_w fR_rf (by decide)) (by decide)
        have mo : mok (tp, ft, (n, sz, v, b, T, r, st, tr, ho ++ [k]), D', laws) := by
          obtain ⟨a1, ⟨o1, o2, o3, o4, o5, o6, o7, o8, o9, o10, o11, o12⟩, a3, a4, a5⟩ := hm
          refine ⟨a1, ⟨o1, o2, o3, o4, o5, o6, o7, o8, o9, o10, ?_, fun t ht => ?_⟩, a3, a4, a5⟩
          · show (ho ++ [k]).length ≤ 10
            simp
            omega
          · rcases List.mem_append.mp ht with ht | ht
            · exact o12 t ht
            · have ht := List.mem_singleton.mp ht
              subst ht
              exact ⟨kx0, kx⟩
        have n6 : n ≤ 6 := k2.1
        have s30 : st.length ≤ 30 := k2.2.2.2.2.2.2.1
        have t12 : tr.length ≤ 12 := k2.2.2.2.2.2.2.2.2.1
        refine h _ _ (tp, ft, (n, sz, v, b, T, r, st, tr, ho ++ [k]), D', laws) ⟨CREL_fR C3 mo f4, RREL_desk R3 (Nat.le_refl _) (fun j h1 h2 => ?_) (fun j h1 h2 => ?_) ⟨?_, fun p hp => ?_, fun p hp => ?_, ?_, ?_, ?_, ?_, ?_, fun j hj => ?_, ?_, fun j hj => ?_, ?_, fun j hj => ?_⟩, mo⟩
        · rw [d4, d3, wI_ne (by omega), wI_ne (by omega)]
        · rw [d4, d3, wI_ne (by omega), wI_ne (by omega)]
        · rw [ne _ (by omega) (by omega)]; exact q1
        · have hp : p < n := hp
          rw [ne _ (by omega) (by omega)]; exact q2 p hp
        · have hp : p < n := hp
          rw [ne _ (by omega) (by omega)]; exact q3 p hp
        · rw [ne _ (by omega) (by omega)]; exact q4
        · rw [ne _ (by omega) (by omega)]; exact q5
        · rw [ne _ (by omega) (by omega)]; exact q6
        · rw [ne _ (by omega) (by omega)]; exact q7
        · rw [ne _ (by omega) (by omega)]; exact q8
        · have hj : j < st.length := hj
          exact rStep_cg (q9 j hj) (Nat.le_refl _) n6 (fun i h1 h2 => ne i (by omega) (by omega))
        · rw [ne _ (by omega) (by omega)]; exact q10
        · have hj : j < tr.length := hj
          rw [ne _ (by omega) (by omega), ne _ (by omega) (by omega)]; exact q11 j hj
        · rw [w4]
          show _ = nI (ho ++ [k]).length
          rw [List.length_append, List.length_singleton]
        · have hj : j < ho.length + 1 := by simpa [d_ho] using hj
          show _ = nI ((ho ++ [k]).getD j 0)
          by_cases hjl : j = ho.length
          · subst hjl
            rw [getD_app2, rd, if_neg (by omega), if_pos rfl]
          · rw [getD_app1 (by omega), ne _ (by omega) (by omega)]
            exact q13 j (by show j < ho.length; omega)
  · have no : EVi G mX8_hollow SH [.ref 94, .int x] σ (fun y' s2 => Q (-1) y' s2) := by
      refine wX8_hollow _ (sX8_isInG _ _ _ ?_)
      rw [decide_eq_false hx]
      exact b_eq (by decide) (h _ _ _ hR0)
    exact wX7_hollow _ ⟨fun _ => no, fun h1 => ⟨fun _ => no, fun h2 => absurd ⟨h1, h2⟩ hx⟩⟩
