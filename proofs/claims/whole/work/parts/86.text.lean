theorem tq_row {σ σ' : hd_M} {t : Nat} {K : List (Nat → Nat)} {cd : List Nat} (h : tq σ t K cd) (he : ∀ j, 730 * t ≤ j → j < 730 * t + 730 → σ'.1 97 j = σ.1 97 j) : tq σ' t K cd := by
  obtain ⟨h1, h2, h3, h4, h5, h6, h7⟩ := h
  refine ⟨h1, by rw [he _ (by omega) (by omega)]; exact h2, h3, h4, fun k hk j hj hu => by rw [he _ (by omega) (by omega)]; exact h5 k hk j hj hu, h6, fun i hi => ?_⟩
  rw [he _ (by omega) (by omega), he _ (by omega) (by omega)]
  exact h7 i hi
theorem lqt_no {T k : Nat} (hT : T < 4) (h : k ∈ lqt (17 + 9 * T)) : k = 62 ∨ k = 63 ∨ k = 64 ∨ k = 65 ∨ k = 66 ∨ k = 77 ∨ (17 + 9 * T ≤ k ∧ k ≤ 17 + 9 * T + 8) := by
  unfold lqt lqs at h
  simp at h
  omega
theorem jText {G : hd_G} {σ : hd_M} {M : MM} {Q : Int32 → Int32 → hd_M → Prop} (hR : REL σ M) (h : ∀ y s M', REL s M' → Q y y s) : EVi G mX7_text SH [.ref 0] σ (fun y s1 => EVi G mX8_text SH [.ref 94] s1 (fun y' s2 => Q y y' s2)) := by
  obtain ⟨tp, ft, ⟨n, sz, v, b, T, r, st, tr, ho⟩, D', laws⟩ := M
  have hR0 := hR
  obtain ⟨hC, hRr, hm⟩ := hR
  have ht : tok tp := hm.1
  obtain ⟨o1, o2, o3, o4, o5, o6, o7⟩ := hm.2.1
  have T4 : T ≤ 4 := o5
  have c24 : σ.1 2 4 = nI T := hC.2.2.1.2.2.2.2.1
  have r95 : σ.1 95 1 = nI T := hRr.2.2.1.2.2.2.2.2.1
  have hv1 : vp_in 1 334 := hd_vn (k := 1) (by decide) (by decide)
  have i1 : (1 : Int32).toNatClampNeg = 1 := rfl
  by_cases hT : T = 4
  · refine wX7_text (b_lt' (by rw [c24, hT]; decide) (wX8_text ⟨hv1, ?_⟩))
    rw [i1]
    exact b_ne' (by rw [r95, hT]; rfl) (h _ _ _ hR0)
  have hT : T < 4 := by omega
  have hq : hd_law (17 + 9 * T) := by
    unfold hd_law
    omega
  have eq : ([17, 26, 35, 44] : List Nat).getD T 0 = 17 + 9 * T := by
    have : T = 0 ∨ T = 1 ∨ T = 2 ∨ T = 3 := by omega
    rcases this with rfl | rfl | rfl | rfl <;> rfl
  have tl : (tkF tp 301 0).length ≤ 301 := by
    have := tkF_len (tp := tp) 301 0
    have := ht.1
    omega
  have ht1 : tok tp := ht
  -- the class's cells behind both
  have frC : ∀ (s1 s5 s' : hd_M), ag (lqt (17 + 9 * T)) σ s1 → (∀ k, k ≠ 0 → k ≠ 2 → s5.1 k = s1.1 k) → (∀ k, k < 94 → s'.1 k = s5.1 k) → (∀ k, 2 < k → k < 94 → k ∉ lqt (17 + 9 * T) → s'.1 k = σ.1 k) := fun s1 s5 s' a1 e5 e' k k2 k94 kn => by
    rw [e' k k94, e5 k (by omega) (by omega), (a1 k kn).1]
  have nin : ∀ k, (k < 17 ∨ (53 ≤ k ∧ k < 62) ∨ 77 < k ∨ (17 ≤ k ∧ k < 17 + 9 * T)) → k ∉ lqt (17 + 9 * T) := fun k hk z => by
    have := lqt_no hT z
    omega
  refine wX7_text ?_
  rw [c24, nI_clamp (by omega), eq]
  refine b_lt (nI_lt (b := 4) hT (by decide)) ⟨hd_vn hT (by decide), by omega, ?_⟩
  rw [hC.1.1]
  refine sX3_read hq ht1 (fun j hj => hC.1.2 j hj) (fun f p s1 ep a1 f1 f7 p62 s3 e3 s4 e4 s5 e5 => ?_) (fun K cd s1 ep a1 L1 KC1 p62 s3 e3 s4 e4 s5 e5 => ?_)
  · -- a fault
    have f3 : s3.1 62 3 = nI p := by rw [e3, wI_ne (by decide)]; exact p62
    rw [f3] at e4
    have z2 : s5.1 0 2 = nI f := by rw [e5, wI_eq, if_neg (by decide), e4, wI_eq, if_neg (by decide), e3, wI_eq, if_pos rfl]
    have r5 : ∀ k, k ≠ 0 → s5.1 k = s1.1 k := fun k hk => by rw [e5, wI_ne hk, e4, wI_ne hk, e3, wI_ne hk]
    have j5 : ∀ j, j ≠ 1 → j ≠ 2 → j ≠ 3 → s5.1 0 j = s1.1 0 j := fun j x y z => by rw [e5, wI_eq, if_neg x, e4, wI_eq, if_neg z, e3, wI_eq, if_neg y]
    have l5 : s5.2 = s1.2 := by rw [e5, e4, e3]; rfl
    have hi : ∀ k, 94 ≤ k → s5.1 k = σ.1 k := fun k hk => by rw [r5 k (by omega), (a1 k (nin k (by omega))).1]
    refine b_eq' (by rw [z2]; exact f_nz f1 (by omega)) (wX8_text ⟨hv1, ?_⟩)
    rw [i1, hi 95 (by decide), r95]
    refine c_ne (T : Int) 4 rfl rfl (fun _ => ?_) (fun z => by omega)
    have rT : rTape s5 tp := ⟨by rw [hi 94 (by decide)]; exact hRr.1.1, fun j hj => by rw [hi 98 (by decide)]; exact hRr.1.2 j hj⟩
    refine sX8_readText ht1 rT (by rw [hi 95 (by decide)]; exact r95) hT tl (fun f' p' s6 ep' a6 fl s7 e7 => ?_) (fun K cd s6 ep' _ _ _ _ => by rw [ep] at ep'; cases ep')
    rw [ep] at ep'
    injection ep' with ep'
    injection ep' with q1 q2
    subst q1 q2
    have z5 : s7.1 94 5 = nI f := by rw [e7, wI_eq, if_pos rfl]
    refine b_ne (by rw [z5]; exact f_nz f1 (by omega)) (fun s8 e8 s9 e9 => ?_)
    have g8 : s7.1 94 8 = nI p := by rw [e7, wI_eq, if_neg (by decide)]; exact fl.2.2
    rw [g8] at e8
    have z9 : s9.1 94 5 = nI f := by rw [e9, wI_eq, if_neg (by decide), e8, wI_eq, if_neg (by decide)]; exact z5
    refine b_eq' (by rw [z9]; exact f_nz f1 (by omega)) (h _ s9 ([], (nI f, nI p), (n, sz, v, b, T, r, st, tr, ho), D', laws) ⟨?_, ?_, ?_⟩)
    · have lo : ∀ k, k < 94 → s9.1 k = s5.1 k := fun k hk => by rw [e9, wI_ne (by omega), e8, wI_ne (by omega), e7, wI_ne (by omega), (a6.1 k (by omega) (by omega) (by omega)).1]
      have sm : ∀ k, 0 < k → k < 94 → k ∉ lqt (17 + 9 * T) → s9.1 k = σ.1 k := fun k k0 k94 kn => by rw [lo k k94, r5 k (by omega), (a1 k kn).1]
      have s0 : ∀ j, j ≠ 1 → j ≠ 2 → j ≠ 3 → s9.1 0 j = σ.1 0 j := fun j x y z => by rw [lo 0 (by decide), j5 j x y z, (a1 0 (nin 0 (by omega))).1]
      obtain ⟨b1, b2, b3, b4, b5, b6, b7, b8⟩ := hC
      refine ⟨⟨?_, fun j hj => absurd hj (by simp)⟩, ⟨?_, ?_⟩, cDesk_cg b3 (fun k x y => sm k (by omega) (by omega) (nin k (by omega))), cDesk_cg b4 (fun k x y => sm k (by omega) (by omega) (nin k (by omega))), fun t htt => ?_, lq_cg b6 (fun k x y => sm k (by omega) (by omega) (nin k (by omega))), NV_cg b7 (by rw [sm 78 (by decide) (by decide) (nin 78 (by omega))]) (sm 79 (by decide) (by decide) (nin 79 (by omega))), cSch_cg b8 (s0 13 (by decide) (by decide) (by decide)) (sm 81 (by decide) (by decide) (nin 81 (by omega))) (sm 84 (by decide) (by decide) (nin 84 (by omega))) (sm 85 (by decide) (by decide) (nin 85 (by omega)))⟩
      · rw [lo 0 (by decide), e5, wI_eq, if_pos rfl]; rfl
      · rw [lo 0 (by decide)]; exact z2
      · rw [lo 0 (by decide), e5, wI_eq, if_neg (by decide), e4, wI_eq, if_pos rfl]
      · have htt : t < T := htt
        exact lq_cg (b5 t htt) (fun k x y => sm k (by omega) (by omega) (nin k (by omega)))
    · have up : ∀ k, k = 95 ∨ k = 96 → s9.1 k = σ.1 k := fun k hk => by rw [e9, wI_ne (by omega), e8, wI_ne (by omega), e7, wI_ne (by omega), (a6.1 k (by omega) (by omega) (by omega)).1, hi k (by omega)]
      have r97 : ∀ j, j < 730 * T → s9.1 97 j = σ.1 97 j := fun j hj => by rw [e9, wI_ne (by omega), e8, wI_ne (by omega), e7, wI_ne (by omega), a6.2.2 j (by omega), hi 97 (by decide)]
      obtain ⟨b1, b2, b3, b4, b5⟩ := hRr
      refine ⟨⟨?_, fun j hj => absurd hj (by simp)⟩, ⟨z9, ?_⟩, rDesk_cg b3 (up 95 (by omega)), rDesk_cg b4 (up 96 (by omega)), fun t htt => ?_⟩
      · rw [e9, wI_eq, if_pos rfl]; rfl
      · rw [e9, wI_eq, if_neg (by decide), e8, wI_eq, if_pos rfl]
      · have htt : t < T := htt
        obtain ⟨q1, K, cd, q2, q3, q4⟩ := b5 t htt
        exact ⟨q1, K, cd, tq_row q2 (fun j x y => r97 j (by omega)), q3, q4⟩
    · exact ⟨⟨by simp, fun x hx => by cases hx⟩, hm.2.1, hm.2.2⟩
  · -- a text
    have FMK := pText_form 25 FM_0 ep
    have hLW := LW_ok FMK KC1
    have f3 : s3.1 62 3 = -1 := by rw [e3, wI_ne (by decide)]; exact p62
    rw [f3] at e4
    have z2 : s5.1 0 2 = 0 := by rw [e5, wI_eq, if_neg (by decide), e4, wI_eq, if_neg (by decide), e3, wI_eq, if_pos rfl]
    have r5 : ∀ k, k ≠ 0 → s5.1 k = s1.1 k := fun k hk => by rw [e5, wI_ne hk, e4, wI_ne hk, e3, wI_ne hk]
    refine b_eq z2 (fun s6 e6 s7 e7 => ?_)
    have g24 : s5.1 2 4 = nI T := by rw [r5 2 (by decide), (a1 2 (nin 2 (by omega))).1]; exact c24
    rw [g24, nI_1] at e6
    have g7 : s7.1 2 4 = nI (T + 1) := by rw [e7, wI_ne (by decide), e6, wI_eq, if_pos rfl]
    rw [g7, nI_pred]
    have r7 : ∀ k, k ≠ 0 → k ≠ 2 → s7.1 k = s1.1 k := fun k x y => by rw [e7, wI_ne x, e6, wI_ne y, r5 k x]
    have l7 : s7.2 = s1.2 := by rw [e7, e6, e5, e4, e3]; rfl
    have hi : ∀ k, 94 ≤ k → s7.1 k = σ.1 k := fun k hk => by rw [r7 k (by omega) (by omega), (a1 k (nin k (by omega))).1]
    refine wX8_text ⟨hv1, ?_⟩
    rw [i1, hi 95 (by decide), r95]
    refine c_ne (T : Int) 4 rfl rfl (fun _ => ?_) (fun z => by omega)
    have rT : rTape s7 tp := ⟨by rw [hi 94 (by decide)]; exact hRr.1.1, fun j hj => by rw [hi 98 (by decide)]; exact hRr.1.2 j hj⟩
    refine sX8_readText ht1 rT (by rw [hi 95 (by decide)]; exact r95) hT tl (fun f' p' s8 ep' _ _ => by rw [ep] at ep'; cases ep') (fun K' cd' s8 ep' a8 k8 c8 _ s9 e9 => ?_)
    rw [ep] at ep'
    injection ep' with ep'
    injection ep' with q1 q2
    subst q1 q2
    have z5 : s9.1 94 5 = 0 := by rw [e9, wI_eq, if_pos rfl]
    refine b_ne' z5 (fun s10 e10 s11 e11 => ?_)
    have z11 : s11.1 94 5 = 0 := by rw [e11, wI_eq, if_neg (by decide), e10, wI_eq, if_neg (by decide)]; exact z5
    have g95 : s11.1 95 1 = nI T := by rw [e11, wI_ne (by decide), e10, wI_ne (by decide), e9, wI_ne (by decide), (a8.1 95 (by decide) (by decide) (by decide)).1, hi 95 (by decide)]; exact r95
    refine b_eq z11 ⟨hv1, hv1, fun s12 e12 => ⟨hv1, ?_⟩⟩
    rw [g95, nI_1] at e12
    have g12 : s12.1 95 1 = nI (T + 1) := by rw [e12, wI_eq, if_pos rfl]
    rw [g12, nI_pred]
    refine h _ s12 ([], (0, -1), (n, sz, v, b, T + 1, r, st, tr, ho), D', fun i => if i = T then LWof K cd else laws i) ⟨?_, ?_, ?_⟩
    · have lo : ∀ k, k < 94 → s12.1 k = s7.1 k := fun k hk => by rw [e12, wI_ne (by omega), e11, wI_ne (by omega), e10, wI_ne (by omega), e9, wI_ne (by omega), (a8.1 k (by omega) (by omega) (by omega)).1]
      have sm : ∀ k, k ≠ 0 → k ≠ 2 → k < 94 → k ∉ lqt (17 + 9 * T) → s12.1 k = σ.1 k := fun k k0 k2 k94 kn => by rw [lo k k94, r7 k k0 k2, (a1 k kn).1]
      have s2 : ∀ j, j ≠ 4 → s12.1 2 j = σ.1 2 j := fun j hj => by rw [lo 2 (by decide), e7, wI_ne (by decide), e6, wI_eq, if_neg hj, r5 2 (by decide), (a1 2 (nin 2 (by omega))).1]
      have e07 : ∀ j, j ≠ 13 → s12.1 0 j = s5.1 0 j := fun j hj => by rw [lo 0 (by decide), e7, wI_eq, if_neg hj, e6, wI_ne (by decide)]
      obtain ⟨b1, b2, b3, b4, b5, b6, b7, b8⟩ := hC
      refine ⟨⟨?_, fun j hj => absurd hj (by simp)⟩, ⟨?_, ?_⟩, ?_, cDesk_cg b4 (fun k x y => sm k (by omega) (by omega) (by omega) (nin k (by omega))), fun t htt => ?_, lq_cg b6 (fun k x y => sm k (by omega) (by omega) (by omega) (nin k (by omega))), NV_cg b7 (by rw [sm 78 (by decide) (by decide) (by decide) (nin 78 (by omega))]) (sm 79 (by decide) (by decide) (by decide) (nin 79 (by omega))), Or.inl ?_⟩
      · rw [e07 1 (by decide), e5, wI_eq, if_pos rfl]; rfl
      · rw [e07 2 (by decide)]; exact z2
      · rw [e07 3 (by decide), e5, wI_eq, if_neg (by decide), e4, wI_eq, if_pos rfl]
      · obtain ⟨d1, d2, d3, d4, d5, d6, d7, d8, d9, d10, d11, d12⟩ := b3
        have sk : ∀ k, 3 ≤ k → k ≤ 8 → s12.1 k = σ.1 k := fun k x y => sm k (by omega) (by omega) (by omega) (nin k (by omega))
        refine ⟨by rw [s2 1 (by decide)]; exact d1, fun p hp => by rw [sk 3 (by decide) (by decide)]; exact d2 p hp, by rw [s2 2 (by decide)]; exact d3, by rw [s2 3 (by decide)]; exact d4, by rw [lo 2 (by decide)]; exact g7, by rw [s2 5 (by decide)]; exact d6, by rw [s2 8 (by decide)]; exact d7, fun j hj => by rw [sk 4 (by decide) (by decide), sk 5 (by decide) (by decide)]; exact d8 j hj, by rw [s2 11 (by decide)]; exact d9, fun j hj => by rw [sk 6 (by decide) (by decide), sk 7 (by decide) (by decide)]; exact d10 j hj, by rw [s2 13 (by decide)]; exact d11, fun j hj => by rw [sk 8 (by decide) (by decide)]; exact d12 j hj⟩
      · have htt : t < T + 1 := htt
        by_cases z : t = T
        · subst z
          show lq s12 _ (if t = t then _ else _)
          rw [if_pos rfl]
          exact lq_cg (lq_of L1 KC1) (fun k x y => by rw [lo k (by omega), r7 k (by omega) (by omega)])
        · show lq s12 _ (if t = T then _ else _)
          rw [if_neg z]
          exact lq_cg (b5 t (show t < T by omega)) (fun k x y => sm k (by omega) (by omega) (by omega) (nin k (by omega)))
      · rw [lo 0 (by decide), e7, wI_eq, if_pos rfl]
    · have r97 : s12.1 97 = s8.1 97 := by rw [e12, wI_ne (by decide), e11, wI_ne (by decide), e10, wI_ne (by decide), e9, wI_ne (by decide)]
      have j95 : ∀ j, j ≠ 1 → s12.1 95 j = σ.1 95 j := fun j hj => by rw [e12, wI_eq, if_neg hj, e11, wI_ne (by decide), e10, wI_ne (by decide), e9, wI_ne (by decide), (a8.1 95 (by decide) (by decide) (by decide)).1, hi 95 (by decide)]
      have f94 : s12.1 94 = s11.1 94 := by rw [e12, wI_ne (by decide)]
      obtain ⟨b1, b2, b3, b4, b5⟩ := hRr
      refine ⟨⟨?_, fun j hj => absurd hj (by simp)⟩, ⟨by rw [f94]; exact z11, ?_⟩, ?_, rDesk_cg b4 ?_, fun t htt => ?_⟩
      · rw [f94, e11, wI_eq, if_pos rfl]; rfl
      · rw [f94, e11, wI_eq, if_neg (by decide), e10, wI_eq, if_pos rfl]
      · obtain ⟨d1, d2, d3, d4, d5, d6, d7, d8, d9, d10, d11, d12, d13⟩ := b3
        refine ⟨by rw [j95 0 (by decide)]; exact d1, fun p hp => by rw [j95 _ (by omega)]; exact d2 p hp, fun p hp => by rw [j95 _ (by omega)]; exact d3 p hp, by rw [j95 26 (by decide)]; exact d4, by rw [j95 27 (by decide)]; exact d5, g12, by rw [j95 2 (by decide)]; exact d7, by rw [j95 3 (by decide)]; exact d8, fun j hj => rStep_cg (d9 j hj) (Nat.le_refl _) o1 (fun i x y => j95 i (by omega)), by rw [j95 4 (by decide)]; exact d10, fun j hj => by rw [j95 _ (by omega), j95 _ (by omega)]; exact d11 j hj, by rw [j95 5 (by decide)]; exact d12, fun j hj => by rw [j95 _ (by omega)]; exact d13 j hj⟩
      · rw [e12, wI_ne (by decide), e11, wI_ne (by decide), e10, wI_ne (by decide), e9, wI_ne (by decide), (a8.1 96 (by decide) (by decide) (by decide)).1, hi 96 (by decide)]
      · have htt : t < T + 1 := htt
        by_cases z : t = T
        · subst z
          show LWok (if t = t then _ else _) ∧ ∃ K' cd', tq s12 t K' cd' ∧ KW K' ∧ LWof K' cd' = (if t = t then _ else _)
          rw [if_pos rfl]
          exact ⟨hLW, K, cd, tq_cg (tq_of k8 c8 KC1) r97, FMK.2, rfl⟩
        · show LWok (if t = T then _ else _) ∧ ∃ K' cd', tq s12 t K' cd' ∧ KW K' ∧ LWof K' cd' = (if t = T then _ else _)
          rw [if_neg z]
          obtain ⟨q1, K', cd', q2, q3, q4⟩ := b5 t (show t < T by omega)
          exact ⟨q1, K', cd', tq_row q2 (fun j x y => by rw [r97, a8.2.2 j (by omega), hi 97 (by decide)]), q3, q4⟩
    · refine ⟨⟨by simp, fun x hx => by cases hx⟩, ⟨o1, o2, o3, o4, by show T + 1 ≤ 4; omega, ?_, o7⟩, hm.2.2.1, ?_, fun t htt => ?_⟩
      · have o6 : -1 ≤ r ∧ r < (T : Int) := o6
        show -1 ≤ r ∧ r < ((T + 1 : Nat) : Int)
        omega
      · have := hm.2.2.2.1
        have this : d_T D' ≤ T := this
        show d_T D' ≤ T + 1
        omega
      · have htt : t < T + 1 := htt
        show LWok (if t = T then _ else _)
        split
        · exact hLW
        · exact hm.2.2.2.2 t (show t < T by omega)
