theorem rDesk_mv {σ σ' : hd_M} {q q' : Nat} {D : MD} (hd : dok D) (h : rDesk σ q D) (hc : ∀ i, i < 334 → σ'.1 q' i = σ.1 q i) : rDesk σ' q' D := by
  obtain ⟨r1, r2, r3, r4, r5, r6, r7, r8, r9, r10, r11, r12, r13⟩ := h
  have n6 := hd.1
  have s30 := hd.2.2.2.2.2.2.1
  have t12 := hd.2.2.2.2.2.2.2.2.1
  have h10 := hd.2.2.2.2.2.2.2.2.2.2.1
  refine ⟨?_, fun p hp => ?_, fun p hp => ?_, ?_, ?_, ?_, ?_, ?_, fun j hj => ?_, ?_, fun j hj => ?_, ?_, fun j hj => ?_⟩
  · rw [hc _ (by omega)]; exact r1
  · rw [hc _ (by omega)]; exact r2 p hp
  · rw [hc _ (by omega)]; exact r3 p hp
  · rw [hc _ (by omega)]; exact r4
  · rw [hc _ (by omega)]; exact r5
  · rw [hc _ (by omega)]; exact r6
  · rw [hc _ (by omega)]; exact r7
  · rw [hc _ (by omega)]; exact r8
  · obtain ⟨m, h1, h2, h3, h4, h5, h6⟩ := r9 j hj
    exact ⟨m, h1, by rw [hc _ (by omega)]; exact h2, fun k hk => by rw [hc _ (by omega)]; exact h3 k hk, h4, by rw [hc _ (by omega)]; exact h5, by rw [hc _ (by omega)]; exact h6⟩
  · rw [hc _ (by omega)]; exact r10
  · rw [hc _ (by omega), hc _ (by omega)]; exact r11 j hj
  · rw [hc _ (by omega)]; exact r12
  · rw [hc _ (by omega)]; exact r13 j hj
theorem jImage {G : hd_G} {σ : hd_M} {M : MM} {Q : Int32 → Int32 → hd_M → Prop} (hR : REL σ M) (h : ∀ y s M', REL s M' → Q y y s) : EVi G mX7_image SH [.ref 0] σ (fun y1 s1 => EVi G mX8_image SH [.ref 94] s1 (fun y' s2 => Q y1 y' s2)) := by
  obtain ⟨tp, ft, D, D', laws⟩ := M
  obtain ⟨hC, hRr, hm⟩ := hR
  have hd : dok D := hm.2.1
  have mo : mok (tp, ft, D, D, laws) := ⟨hm.1, hd, hd, Nat.le_refl _, hm.2.2.2.2⟩
  refine wX7_image (sX1_copyFrom (Or.inr ⟨rfl, rfl⟩) hC.2.2.1 hd (fun s1 f1 d1 => ?_))
  have c : ∀ k, (k < 9 ∨ 15 < k) → s1.1 k = σ.1 k := fun k hk => (f1 k (by omega)).1
  have C1 : CREL s1 (tp, ft, D, D, laws) := by
    obtain ⟨a1, a2, a3, a4, a5, a6, a7, a8⟩ := hC
    exact ⟨cTape_cg a1 (by rw [c 0 (by omega)]) (c 1 (by omega)), by rw [c 0 (by omega)]; exact a2, cDesk_cg a3 (fun k x y => c k (by omega)), d1, cLaws_cg a5 hd.2.2.2.2.1 (fun k x y => c k (by omega)), lq_cg a6 (fun k x y => c k (by omega)), NV_cg a7 (by rw [c 78 (by omega)]) (c 79 (by omega)), cSch_cg a8 (by rw [c 0 (by omega)]) (c 81 (by omega)) (c 84 (by omega)) (c 85 (by omega))⟩
  have R1 := RREL_fC hRr (fun k hk => f1 k (by omega))
  have e1 : s1.1 2 1 = nI (d_n D) := C1.2.2.1.1
  rw [e1]
  refine wX8_image (sX8_copy rfl rfl (by decide) ⟨pk_in 0 334 (by decide), ?_⟩)
  have e2 : (hd_cpy s1 95 96 334).1 95 (0 : Int32).toNatClampNeg = nI (d_n D) := by
    rw [cpy_ne (by decide)]
    exact R1.2.2.1.1
  rw [e2]
  refine h _ _ (tp, ft, D, D, laws) ⟨CREL_fR C1 mo (fun k hk => ⟨cpy_ne (by omega), rfl⟩), ?_, mo⟩
  obtain ⟨b1, b2, b3, b4, b5⟩ := R1
  refine ⟨?_, by rw [cpy_ne (by decide)]; exact b2, rDesk_cg b3 (cpy_ne (by decide)), rDesk_mv hd b3 (fun i hi => by rw [cpy_eq, if_pos hi]), rTexts_cg b5 (cpy_ne (by decide))⟩
  unfold rTape
  rw [cpy_ne (by decide), cpy_ne (by decide)]
  exact b1
theorem jBack {G : hd_G} {σ : hd_M} {M : MM} {Q : Int32 → Int32 → hd_M → Prop} (hR : REL σ M) (h : ∀ y s M', REL s M' → Q y y s) : EVi G mX7_back SH [.ref 0] σ (fun y1 s1 => EVi G mX8_back SH [.ref 94] s1 (fun y' s2 => Q y1 y' s2)) := by
  obtain ⟨tp, ft, D, D', laws⟩ := M
  obtain ⟨hC, hRr, hm⟩ := hR
  have hd : dok D' := hm.2.2.1
  have hTT : d_T D' ≤ d_T D := hm.2.2.2.1
  have mo : mok (tp, ft, D', D', laws) := ⟨hm.1, hd, hd, Nat.le_refl _, fun t ht => hm.2.2.2.2 t (Nat.lt_of_lt_of_le ht hTT)⟩
  refine wX7_back (sX1_copyFrom (Or.inl ⟨rfl, rfl⟩) hC.2.2.2.1 hd (fun s1 f1 d1 s2 e2 => ?_))
  have c : ∀ k, (k < 2 ∨ 8 < k) → s1.1 k = σ.1 k := fun k hk => (f1 k (by omega)).1
  have c2 : ∀ k, 8 < k → s2.1 k = σ.1 k := fun k hk => by rw [e2, wI_ne (by omega)]; exact c k (by omega)
  have f2 : fC σ s2 := by rw [e2]; exact fC_w (fun k hk => f1 k (by omega)) (by decide)
  have C2 : CREL s2 (tp, ft, D', D', laws) := by
    have hT4 : d_T D ≤ 4 := hm.2.1.2.2.2.2.1
    refine CREL_desk hC hTT hT4 (fun k x y => c2 k (by omega)) (by rw [e2, wI_ne (by decide)]; exact c 1 (by omega)) (fun k hk => by rw [e2, wI_eq, if_neg (by omega), c 0 (by omega)]) (NV_cg hC.2.2.2.2.2.2.1 (by rw [c2 78 (by omega)]) (c2 79 (by omega))) (cDesk_cg d1 (fun k x y => by rw [e2, wI_ne (by omega)])) (Or.inl (by rw [e2, wI_eq, if_pos rfl]))
  have R2 := RREL_fC hRr f2
  have e1 : s2.1 2 1 = nI (d_n D') := C2.2.2.1.1
  rw [e1]
  refine wX8_back (sX8_copy rfl rfl (by decide) ⟨pk_in 0 334 (by decide), ?_⟩)
  have e3 : (hd_cpy s2 96 95 334).1 95 (0 : Int32).toNatClampNeg = nI (d_n D') := by
    rw [show (0 : Int32).toNatClampNeg = 0 from rfl, cpy_eq, if_pos (by decide)]
    exact R2.2.2.2.1.1
  rw [e3]
  refine h _ _ (tp, ft, D', D', laws) ⟨CREL_fR C2 mo (fun k hk => ⟨cpy_ne (by omega), rfl⟩), RREL_desk R2 hTT (fun k x y => cpy_ne (by omega)) (fun k x y => by rw [cpy_ne (by decide)]) (rDesk_mv hd R2.2.2.2.1 (fun i hi => by rw [cpy_eq, if_pos hi])), mo⟩
/-! feed -/
def byM (x s : Int32) : Nat := (x >>> (s &&& 31)).toBitVec.toNat % 256
theorem byM_r (x s : Int32) : (x >>> (s &&& 31)) &&& 255 = nI (byM x s) := pk_and _ 8 (by decide)
theorem byM_c (x s : Int32) : ((x >>> (s &&& 31)).toInt8.toInt32).toInt8.toInt32 = zI (sb (byM x s)) := by
  generalize hy : x >>> (s &&& 31) = y
  have hb : byM x s = y.toBitVec.toNat % 256 := by unfold byM; rw [hy]
  rw [hb]
  have e1 : (y.toInt8.toInt32).toInt8.toInt32 = y.toInt8.toInt32 := by simp
  rw [e1]
  apply Int32.toInt_inj.mp
  have hr : zr (sb (y.toBitVec.toNat % 256)) := by
    have := Nat.mod_lt y.toBitVec.toNat (show 0 < 256 by decide)
    unfold sb zr
    split <;> omega
  rw [zI_toInt hr, Int8.toInt_toInt32]
  have e2 : y.toInt8.toInt = y.toInt8.toBitVec.toInt := rfl
  have e3 : y.toInt8.toBitVec.toNat = y.toBitVec.toNat % 256 := by
    show (y.toBitVec.signExtend 8).toNat = _
    rw [BitVec.signExtend_eq_setWidth_of_le _ (by decide), BitVec.toNat_setWidth]
  rw [e2, BitVec.toInt_eq_toNat_cond, e3]
  unfold sb
  have := Nat.mod_lt y.toBitVec.toNat (show 0 < 256 by decide)
  split
  · rw [if_pos (by omega)]
  · rw [if_neg (by omega)]
    omega
def fourM (x : Int32) : List Nat := [byM x 24, byM x 16, byM x 8, byM x 0]
theorem byM_lt (x s : Int32) : byM x s < 256 := Nat.mod_lt _ (by decide)
/-- only the tape's cells change -/
def agT (σ σ' : hd_M) : Prop := (∀ k, 2 ≤ k → σ'.1 k = σ.1 k) ∧ σ'.2 = σ.2 ∧ ∀ k, k ≠ 1 → σ'.1 0 k = σ.1 0 k
theorem agT_tr {σ σ' σ'' : hd_M} (h : agT σ σ') (h' : agT σ' σ'') : agT σ σ'' := ⟨fun k hk => (h'.1 k hk).trans (h.1 k hk), h'.2.1.trans h.2.1, fun k hk => (h'.2.2 k hk).trans (h.2.2 k hk)⟩
theorem cTape_put {σ : hd_M} {tp : List Nat} {b : Nat} (h : cTape σ tp) : cTape (hd_wI (hd_wI σ 1 tp.length (zI (sb b))) 0 1 (nI (tp.length + 1))) (tp ++ [b]) := by
  refine ⟨by rw [wI_eq, if_pos rfl, List.length_append, List.length_singleton], fun j hj => ?_⟩
  rw [List.length_append, List.length_singleton] at hj
  rw [wI_ne (by decide), wI_eq]
  by_cases hjl : j = tp.length
  · subst hjl
    rw [if_pos rfl, getD_app2]
  · rw [if_neg hjl, getD_app1 (by omega)]
    exact h.2 j (by omega)
theorem sX7_putFour {G : hd_G} {σ : hd_M} {P : hd_M → Prop} {tp : List Nat} (x : Int32) (hl : tp.length + 4 ≤ 300) (ht : cTape σ tp) (h : ∀ σ', agT σ σ' → cTape σ' (tp ++ fourM x) → P σ') : EVv G mX7_putFour SH [.ref 0, .int x] σ P := by
  refine wX7_putFour _ (fun X hX v1 e1 => ?_)
  have step : ∀ (s s' : Int32) (tp : List Nat) (σ1 : hd_M), 0 ≤ s → s + (-8) = s' → tp.length < 300 → cTape σ1 tp → (∀ σ2, agT σ1 σ2 → cTape σ2 (tp ++ [byM x s]) → hd_J G mX7_putFour X SH (0, 0) 3 [(0, .ref 0), (1, .int x), (2, .int s')] [] σ2) → hd_J G mX7_putFour X SH (0, 0) 3 [(0, .ref 0), (1, .int x), (2, .int s)] [] σ1 := by
    intro s s' tp σ1 h0 hs hl ht hk
    refine wX7_putFour_3 hX _ _ (b_lt' h0 (b_le' ?_ ⟨?_, fun s2 e2 s3 e3 v4 e4 => ?_⟩))
    · rw [ht.1]
      exact nI_lt (b := 300) hl (by decide)
    · rw [ht.1]
      exact hd_vn hl (by decide)
    · rw [ht.1, nI_clamp (by omega), byM_c] at e2
      rw [e2, wI_ne (by decide), ht.1, nI_1] at e3
      rw [e4, hs, e3]
      refine hk _ ⟨fun k hk => by rw [wI_ne (by omega), wI_ne (by omega)], rfl, fun k hk => by rw [wI_eq, if_neg hk, wI_ne (by decide)]⟩ (cTape_put ht)
  rw [e1]
  refine step 24 16 tp σ (by decide) (by decide) (by omega) ht (fun σ1 a1 t1 => ?_)
  refine step 16 8 _ σ1 (by decide) (by decide) (by simp; omega) t1 (fun σ2 a2 t2 => ?_)
  refine step 8 0 _ σ2 (by decide) (by decide) (by simp; omega) t2 (fun σ3 a3 t3 => ?_)
  refine step 0 (-8) _ σ3 (by decide) (by decide) (by simp; omega) t3 (fun σ4 a4 t4 => ?_)
  refine wX7_putFour_3 hX _ _ (b_lt (by decide) (h σ4 (agT_tr (agT_tr (agT_tr a1 a2) a3) a4) ?_))
  simpa [fourM] using t4
def agT' (σ σ' : hd_M) : Prop := (∀ k, k ≠ 94 → k ≠ 98 → σ'.1 k = σ.1 k) ∧ σ'.2 = σ.2 ∧ ∀ k, k ≠ 4 → σ'.1 94 k = σ.1 94 k
theorem agT'_tr {σ σ' σ'' : hd_M} (h : agT' σ σ') (h' : agT' σ' σ'') : agT' σ σ'' := ⟨fun k hk hk' => (h'.1 k hk hk').trans (h.1 k hk hk'), h'.2.1.trans h.2.1, fun k hk => (h'.2.2 k hk).trans (h.2.2 k hk)⟩
theorem rTape_put {σ : hd_M} {tp : List Nat} {b : Nat} (h : rTape σ tp) : rTape (hd_wI (hd_wI σ 98 tp.length (nI b)) 94 4 (nI (tp.length + 1))) (tp ++ [b]) := by
  refine ⟨by rw [wI_eq, if_pos rfl, List.length_append, List.length_singleton], fun j hj => ?_⟩
  rw [List.length_append, List.length_singleton] at hj
  rw [wI_ne (by decide), wI_eq]
  by_cases hjl : j = tp.length
  · subst hjl
    rw [if_pos rfl, getD_app2]
  · rw [if_neg hjl, getD_app1 (by omega)]
    exact h.2 j (by omega)
theorem sX8_four {G : hd_G} {σ : hd_M} {P : hd_M → Prop} {tp : List Nat} (x : Int32) (hl : tp.length + 4 ≤ 300) (ht : rTape σ tp) (h : ∀ σ', agT' σ σ' → rTape σ' (tp ++ fourM x) → P σ') : EVv G mX8_four SH [.ref 94, .int x] σ P := by
  refine wX8_four _ (fun X hX v1 e1 => ?_)
  have step : ∀ (s s' : Int32) (tp : List Nat) (σ1 : hd_M), 0 ≤ s → s + (-8) = s' → tp.length < 300 → rTape σ1 tp → (∀ σ2, agT' σ1 σ2 → rTape σ2 (tp ++ [byM x s]) → hd_J G mX8_four X SH (0, 0) 3 [(0, .ref 94), (1, .int x), (2, .int s')] [] σ2) → hd_J G mX8_four X SH (0, 0) 3 [(0, .ref 94), (1, .int x), (2, .int s)] [] σ1 := by
    intro s s' tp σ1 h0 hs hl ht hk
    refine wX8_four_3 hX _ _ (b_lt' h0 ⟨?_, fun s2 e2 s3 e3 v4 e4 => ?_⟩)
    · rw [ht.1]
      exact hd_vn hl (by decide)
    · rw [ht.1, nI_clamp (by omega), byM_r] at e2
      rw [e2, wI_ne (by decide), ht.1, nI_1] at e3
      rw [e4, hs, e3]
      refine hk _ ⟨fun k hk hk' => by rw [wI_ne hk, wI_ne hk'], rfl, fun k hk => by rw [wI_eq, if_neg hk, wI_ne (by decide)]⟩ (rTape_put ht)
  rw [e1]
  refine step 24 16 tp σ (by decide) (by decide) (by omega) ht (fun σ1 a1 t1 => ?_)
  refine step 16 8 _ σ1 (by decide) (by decide) (by simp; omega) t1 (fun σ2 a2 t2 => ?_)
  refine step 8 0 _ σ2 (by decide) (by decide) (by simp; omega) t2 (fun σ3 a3 t3 => ?_)
  refine step 0 (-8) _ σ3 (by decide) (by decide) (by simp; omega) t3 (fun σ4 a4 t4 => ?_)
  refine wX8_four_3 hX _ _ (b_lt (by decide) (h σ4 (agT'_tr (agT'_tr (agT'_tr a1 a2) a3) a4) ?_))
  simpa [fourM] using t4
theorem four_lt {x : Int32} : ∀ b ∈ fourM x, b < 256 := by
  intro b hb
  simp [fourM] at hb
  rcases hb with rfl | rfl | rfl | rfl <;> exact byM_lt _ _
theorem jFeed {G : hd_G} {σ : hd_M} {M : MM} {Q : Int32 → Int32 → hd_M → Prop} (hR : REL σ M) (x1 x2 x3 x4 x5 : Int32) (h : ∀ y s M', REL s M' → Q y y s) : EVi G mX7_feed SH [.ref 0, .int x1, .int x2, .int x3, .int x4, .int x5] σ (fun y1 s1 => EVi G mX8_feed SH [.ref 94, .int x1, .int x2, .int x3, .int x4, .int x5] s1 (fun y' s2 => Q y1 y' s2)) := by
  have hR0 := hR
  obtain ⟨tp, ft, D, D', laws⟩ := M
  obtain ⟨hC, hRr, hm⟩ := hR
  have ht : cTape σ tp := hC.1
  have hl : tp.length ≤ 300 := hm.1.1
  have hb : ∀ b ∈ tp, b < 256 := hm.1.2
  have a20 : nI tp.length + 20 = nI (tp.length + 20) := nI_add _ 20
  have l4 : ∀ x, (fourM x).length = 4 := fun _ => rfl
  by_cases hx : tp.length + 20 ≤ 300
  · refine wX7_feed _ _ _ _ _ (b_le ?_ ?_)
    · rw [ht.1, a20]
      exact nI_le (b := 300) hx (by decide)
    · refine sX7_putFour x1 (by omega) ht (fun s1 g1 t1 => sX7_putFour x2 (by simp [l4]; omega) t1 (fun s2 g2 t2 => sX7_putFour x3 (by simp [l4]; omega) t2 (fun s3 g3 t3 => sX7_putFour x4 (by simp [l4]; omega) t3 (fun s4 g4 t4 => sX7_putFour x5 (by simp [l4]; omega) t4 (fun s5 g5 t5 => ?_)))))
      have g := agT_tr (agT_tr (agT_tr (agT_tr g1 g2) g3) g4) g5
      generalize hT : tp ++ fourM x1 ++ fourM x2 ++ fourM x3 ++ fourM x4 ++ fourM x5 = tq' at t5
      have hTl : tq'.length = tp.length + 20 := by rw [← hT]; simp [l4]
      have mo : mok (tq', ft, D, D', laws) := by
        refine ⟨⟨by rw [hTl]; omega, fun b hb' => ?_⟩, hm.2⟩
        have hb' : b ∈ tq' := hb'
        rw [← hT] at hb'
        simp only [List.mem_append] at hb'
        rcases hb' with ((((h1 | h1) | h1) | h1) | h1) | h1
        · exact hb b h1
        all_goals exact four_lt b h1
      have C5 : CREL s5 (tq', ft, D, D', laws) := CREL_tape hC hm.2.1.2.2.2.2.1 (fun k x y => g.1 k x) g.2.2 t5
      have f5 : fC σ s5 := fun k hk => ⟨g.1 k (by omega), by rw [g.2.1]⟩
      have R5 := RREL_fC hRr f5
      have ht' : rTape s5 tp := R5.1
      rw [t5.1, hTl]
      refine wX8_feed _ _ _ _ _ (b_le ?_ ?_)
      · rw [ht'.1, a20]
        exact nI_le (b := 300) hx (by decide)
      · refine sX8_four x1 (by omega) ht' (fun s1 g1 t1 => sX8_four x2 (by simp [l4]; omega) t1 (fun s2 g2 t2 => sX8_four x3 (by simp [l4]; omega) t2 (fun s3 g3 t3 => sX8_four x4 (by simp [l4]; omega) t3 (fun s4 g4 t4 => sX8_four x5 (by simp [l4]; omega) t4 (fun s6 g5 t6 => ?_)))))
        have g' := agT'_tr (agT'_tr (agT'_tr (agT'_tr g1 g2) g3) g4) g5
        rw [hT] at t6
        rw [t6.1, hTl]
        refine h _ _ (tq', ft, D, D', laws) ⟨CREL_fR C5 mo (fun k hk => ⟨g'.1 k (by omega) (by omega), by rw [g'.2.1]⟩), RREL_tape R5 (fun k x y => g'.1 k (by omega) (by omega)) g'.2.2 t6, mo⟩
  · have ht' : rTape σ tp := hRr.1
    refine wX7_feed _ _ _ _ _ (b_le' ?_ (wX8_feed _ _ _ _ _ (b_le' ?_ (h _ _ _ hR0))))
    · rw [ht.1, a20]
      exact nI_lt (a := 300) (by omega) (by omega)
    · rw [ht'.1, a20]
      exact nI_lt (a := 300) (by omega) (by omega)
