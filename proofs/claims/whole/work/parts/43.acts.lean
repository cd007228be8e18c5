/-- only the cell 95 changes -/
def ag95 (σ σ' : hd_M) : Prop := (∀ k, k ≠ 95 → σ'.1 k = σ.1 k) ∧ σ'.2 = σ.2
theorem ag95_rf {σ : hd_M} : ag95 σ σ := ⟨fun _ _ => rfl, rfl⟩
theorem ag95_tr {σ σ' σ'' : hd_M} (h : ag95 σ σ') (h' : ag95 σ' σ'') : ag95 σ σ'' := ⟨fun k hk => (h'.1 k hk).trans (h.1 k hk), h'.2.trans h.2⟩
theorem ag95_w {σ σ' : hd_M} {i : Nat} {x : Int32} (h : ag95 σ σ') : ag95 σ (hd_wI σ' 95 i x) := ⟨fun k hk => (wI_ne hk).trans (h.1 k hk), h.2⟩
theorem fR_95 {σ σ' : hd_M} (h : ag95 σ σ') : fR σ σ' := fun k hk => ⟨h.1 k (by omega), by rw [h.2]⟩
theorem sX8_keep {G : hd_G} {σ : hd_M} {P : hd_M → Prop} {D : MD} (hD : rDesk σ 95 D) (hd : dok D) (h : ∀ σ', ag95 σ σ' → rDesk σ' 95 (putSt D (stpM (d_st D) (d_v D, d_b D))) → P σ') : EVv G mX8_keep SH [.ref 94] σ P := by
  have hl := hd.2.2.2.2.2.2.1
  have n6 := hd.1
  have t12 := hd.2.2.2.2.2.2.2.2.1
  have h10 := hd.2.2.2.2.2.2.2.2.2.2.1
  obtain ⟨q1, q2, q3, q4, q5, q6, q7, q8, q9, q10, q11, q12, q13⟩ := hD
  refine wX8_keep (fun X hX => ⟨pk_in 3 334 (by decide), ?_⟩)
  -- the new step, at the end of m steps
  have put : ∀ (s2 : hd_M) (m : Nat), m < 30 → ag95 σ s2 → s2.1 95 3 = nI m → s2.1 95 (64 + 9 * m) = nI (d_n D) → (∀ j, j < 64 → j ≠ 3 → s2.1 95 j = σ.1 95 j) → (∀ j, j < m → rStep s2 95 (64 + 9 * j) (d_n D) ((stpM (d_st D) (d_v D, d_b D)).getD j (0, 0))) → (stpM (d_st D) (d_v D, d_b D)).length = m + 1 → (stpM (d_st D) (d_v D, d_b D)).getD m (0, 0) = (d_v D, d_b D) → hd_J G mX8_keep X SH (0, 0) 81 [(0, .ref 94), (1, .int (nI (64 + 9 * m))), (2, .int (nI 0))] [] s2 := by
    intro s2 m hm a2 h3 hx hlow hst hlen hlast
    have key : ∀ k, k ≤ 8 → ∀ s : hd_M, ag95 σ s → (∀ j, s.1 95 j = if 64 + 9 * m + 1 ≤ j ∧ j < 64 + 9 * m + 1 + k then s2.1 95 (20 + (j - (64 + 9 * m + 1))) else s2.1 95 j) → hd_J G mX8_keep X SH (0, 0) 81 [(0, .ref 94), (1, .int (nI (64 + 9 * m))), (2, .int (nI k))] [] s := by
      refine hd_upto (n := 8) (fun k => ∀ s : hd_M, ag95 σ s → (∀ j, s.1 95 j = if 64 + 9 * m + 1 ≤ j ∧ j < 64 + 9 * m + 1 + k then s2.1 95 (20 + (j - (64 + 9 * m + 1))) else s2.1 95 j) → hd_J G mX8_keep X SH (0, 0) 81 [(0, .ref 94), (1, .int (nI (64 + 9 * m))), (2, .int (nI k))] [] s) (fun k hk ih s a hs => ?_)
      refine wX8_keep_81 hX _ _ (c_le 8 (k : Int) rfl rfl (fun h8 => ⟨pk_in 3 334 (by decide), pk_in 3 334 (by decide), fun s1 e1 => ?_⟩) (fun h8 => ?_))
      · have hk8 : k = 8 := by omega
        subst hk8
        have e1 : s1 = hd_wI s 95 3 (nI (m + 1)) := by
          rw [e1, show (3 : Int32).toNatClampNeg = 3 from rfl, hs, if_neg (by omega), h3, nI_1]
        have rd : ∀ j, s1.1 95 j = if j = 3 then nI (m + 1) else if 64 + 9 * m + 1 ≤ j ∧ j < 64 + 9 * m + 1 + 8 then s2.1 95 (20 + (j - (64 + 9 * m + 1))) else s2.1 95 j := fun j => by rw [e1, wI_eq, hs]
        have lo : ∀ j, j < 64 → j ≠ 3 → s1.1 95 j = σ.1 95 j := fun j h1 h2 => by rw [rd, if_neg h2, if_neg (by omega)]; exact hlow j h1 h2
        refine h s1 (by rw [e1]; exact ag95_w a) ⟨?_, fun p hp => ?_, fun p hp => ?_, ?_, ?_, ?_, ?_, ?_, fun j hj => ?_, ?_, fun j hj => ?_, ?_, fun j hj => ?_⟩
        · rw [lo _ (by omega) (by omega)]; exact q1
        · have hp : p < d_n D := hp
          rw [lo _ (by omega) (by omega)]; exact q2 p hp
        · have hp : p < d_n D := hp
          rw [lo _ (by omega) (by omega)]; exact q3 p hp
        · rw [lo _ (by omega) (by omega)]; exact q4
        · rw [lo _ (by omega) (by omega)]; exact q5
        · rw [lo _ (by omega) (by omega)]; exact q6
        · rw [lo _ (by omega) (by omega)]; exact q7
        · rw [rd, if_pos rfl]
          show _ = nI (stpM (d_st D) (d_v D, d_b D)).length
          rw [hlen]
        · have hj : j < (stpM (d_st D) (d_v D, d_b D)).length := hj
          show rStep s1 95 (64 + 9 * j) (d_n D) ((stpM (d_st D) (d_v D, d_b D)).getD j (0, 0))
          rw [hlen] at hj
          by_cases hjm : j = m
          · subst hjm
            rw [hlast]
            refine ⟨d_n D, Nat.le_refl _, ?_, fun k hk => ?_, fun k h1 h2 => hd.2.2.2.1.2.2 k h1 h2, ?_, ?_⟩
            · rw [rd, if_neg (by omega), if_neg (by omega)]
              exact hx
            · rw [rd, if_neg (by omega), if_pos (by omega), show 20 + (64 + 9 * j + 1 + k - (64 + 9 * j + 1)) = 20 + k by omega, hlow _ (by omega) (by omega)]
              exact q3 k hk
            · rw [rd, if_neg (by omega), if_pos (by omega), show 20 + (64 + 9 * j + 7 - (64 + 9 * j + 1)) = 26 by omega, hlow _ (by omega) (by omega)]
              exact q4
            · rw [rd, if_neg (by omega), if_pos (by omega), show 20 + (64 + 9 * j + 8 - (64 + 9 * j + 1)) = 27 by omega, hlow _ (by omega) (by omega)]
              exact q5
          · refine rStep_cg (hst j (by omega)) (Nat.le_refl _) n6 (fun i h1 h2 => ?_)
            rw [rd, if_neg (by omega), if_neg (by omega)]
        · rw [lo _ (by omega) (by omega)]; exact q10
        · have hj : j < (d_tr D).length := hj
          rw [lo _ (by omega) (by omega), lo _ (by omega) (by omega)]; exact q11 j hj
        · rw [lo _ (by omega) (by omega)]; exact q12
        · have hj : j < (d_ho D).length := hj
          rw [lo _ (by omega) (by omega)]; exact q13 j hj
      · have i1 : (20 : Int32) + nI k = nI (20 + k) := nI_add 20 k
        have i2 : nI (64 + 9 * m) + 1 + nI k = nI (64 + 9 * m + 1 + k) := by rw [nI_1, nI_add]
        rw [i1, i2, nI_clamp (by omega), nI_clamp (by omega)]
        refine ⟨hd_vn (by omega) (by decide), hd_vn (by omega) (by decide), fun s4 e4 v3 e3 => ?_⟩
        rw [e3, nI_1]
        refine ih (by omega) s4 (by rw [e4]; exact ag95_w a) (fun j => ?_)
        rw [e4, wI_eq, hs (20 + k), hs j, if_neg (show ¬ (64 + 9 * m + 1 ≤ 20 + k ∧ 20 + k < 64 + 9 * m + 1 + k) by omega)]
        by_cases hj : j = 64 + 9 * m + 1 + k
        · rw [if_pos hj, if_pos (by omega)]
          rw [show 20 + (j - (64 + 9 * m + 1)) = 20 + k by omega]
        · rw [if_neg hj]
          by_cases hj2 : 64 + 9 * m + 1 ≤ j ∧ j < 64 + 9 * m + 1 + k
          · rw [if_pos hj2, if_pos (by omega)]
          · rw [if_neg hj2, if_neg (by omega)]
    refine key 0 (by decide) s2 a2 (fun j => by rw [if_neg (by omega)])
  have ix : ∀ m : Nat, (64 : Int32) + 9 * nI m = nI (64 + 9 * m) := fun m => by
    rw [show (64 : Int32) = nI 64 from rfl, show (9 : Int32) = nI 9 from rfl, pk_mul, nI_add]
  rw [show (3 : Int32).toNatClampNeg = 3 from rfl, q8]
  by_cases h30 : (d_st D).length = 30
  · rw [h30]
    refine b_ne' rfl (fun v4 e4 => ?_)
    have key : ∀ k, k ≤ 261 → ∀ s : hd_M, ag95 σ s → (∀ j, s.1 95 j = if 64 ≤ j ∧ j < 64 + k then σ.1 95 (j + 9) else σ.1 95 j) → hd_J G mX8_keep X SH (0, 0) 13 [(0, .ref 94), (1, .int (nI k))] [] s := by
      refine hd_upto (n := 261) (fun k => ∀ s : hd_M, ag95 σ s → (∀ j, s.1 95 j = if 64 ≤ j ∧ j < 64 + k then σ.1 95 (j + 9) else σ.1 95 j) → hd_J G mX8_keep X SH (0, 0) 13 [(0, .ref 94), (1, .int (nI k))] [] s) (fun k hk ih s a hs => ?_)
      refine wX8_keep_13 hX _ (c_le 261 (k : Int) rfl rfl (fun h8 => ?_) (fun h8 => ?_))
      · have hk8 : k = 261 := by omega
        subst hk8
        refine ⟨pk_in 3 334 (by decide), pk_in 3 334 (by decide), fun s1 e1 => ⟨pk_in 3 334 (by decide), fun v2 e2 => ?_⟩⟩
        have e1 : s1 = hd_wI s 95 3 (nI 29) := by
          rw [e1, show (3 : Int32).toNatClampNeg = 3 from rfl, hs, if_neg (by omega), q8, h30]
          rfl
        have n1 : s1.1 95 3 = nI 29 := by rw [e1, wI_eq, if_pos rfl]
        rw [show (3 : Int32).toNatClampNeg = 3 from rfl, n1, ix] at e2
        have rd : ∀ j, s1.1 95 j = if j = 3 then nI 29 else if 64 ≤ j ∧ j < 64 + 261 then σ.1 95 (j + 9) else σ.1 95 j := fun j => by rw [e1, wI_eq, hs]
        refine ⟨pk_in 0 334 (by decide), by rw [e2]; exact hd_vn (by decide) (by decide), fun s3 e3 v5 e5 => ?_⟩
        rw [show (0 : Int32).toNatClampNeg = 0 from rfl, rd, if_neg (by decide), if_neg (by decide), q1, e2, nI_clamp (by decide)] at e3
        rw [e2, e5]
        have a3 : ag95 σ s3 := by rw [e3, e1]; exact ag95_w (ag95_w a)
        have r3 : ∀ j, j ≠ 64 + 9 * 29 → s3.1 95 j = s1.1 95 j := fun j hj => by rw [e3, wI_eq, if_neg hj]
        refine put s3 29 (by decide) a3 (by rw [r3 _ (by decide), n1]) (by rw [e3, wI_eq, if_pos rfl]) (fun j h1 h2 => by rw [r3 _ (by omega), rd, if_neg h2, if_neg (by omega)]) (fun j hj => ?_) (by rw [stpM_len hl, if_pos h30]) (stpM_last h30)
        rw [stpM_at h30 hj]
        obtain ⟨m, w1, w2, w3, w4, w5, w6⟩ := q9 (j + 1) (by omega)
        have sh : ∀ i, 64 + 9 * j ≤ i → i ≤ 64 + 9 * j + 8 → s3.1 95 i = σ.1 95 (i + 9) := fun i h1 h2 => by rw [r3 _ (by omega), rd, if_neg (by omega), if_pos (by omega)]
        refine ⟨m, w1, ?_, fun k hk => ?_, w4, ?_, ?_⟩
        · rw [sh _ (by omega) (by omega), show 64 + 9 * j + 9 = 64 + 9 * (j + 1) by omega]
          exact w2
        · rw [sh _ (by omega) (by omega), show 64 + 9 * j + 1 + k + 9 = 64 + 9 * (j + 1) + 1 + k by omega]
          exact w3 k hk
        · rw [sh _ (by omega) (by omega), show 64 + 9 * j + 7 + 9 = 64 + 9 * (j + 1) + 7 by omega]
          exact w5
        · rw [sh _ (by omega) (by omega), show 64 + 9 * j + 8 + 9 = 64 + 9 * (j + 1) + 8 by omega]
          exact w6
      · have i1 : (73 : Int32) + nI k = nI (73 + k) := nI_add 73 k
        have i2 : (64 : Int32) + nI k = nI (64 + k) := nI_add 64 k
        rw [i1, i2, nI_clamp (by omega), nI_clamp (by omega)]
        refine ⟨hd_vn (by omega) (by decide), hd_vn (by omega) (by decide), fun s5 e5 v6 e6 => ?_⟩
        rw [e6, nI_1]
        refine ih (by omega) s5 (by rw [e5]; exact ag95_w a) (fun j => ?_)
        rw [e5, wI_eq, hs (73 + k), hs j, if_neg (show ¬ (64 ≤ 73 + k ∧ 73 + k < 64 + k) by omega)]
        by_cases hj : j = 64 + k
        · rw [if_pos hj, if_pos (by omega)]
          rw [show j + 9 = 73 + k by omega]
        · rw [if_neg hj]
          by_cases hj2 : 64 ≤ j ∧ j < 64 + k
          · rw [if_pos hj2, if_pos (by omega)]
          · rw [if_neg hj2, if_neg (by omega)]
    rw [e4]
    exact key 0 (by decide) σ ag95_rf (fun j => by rw [if_neg (by omega)])
  · refine b_ne (fun w => h30 ((nI_eq (b := 30) (by omega) (by decide)).mp w)) ⟨pk_in 3 334 (by decide), fun v1 e1 => ?_⟩
    rw [ix] at e1
    refine ⟨pk_in 0 334 (by decide), by rw [e1]; exact hd_vn (by omega) (by decide), fun s2 e2 v3 e3 => ?_⟩
    rw [show (0 : Int32).toNatClampNeg = 0 from rfl, q1, e1, nI_clamp (by omega)] at e2
    rw [e1, e3]
    have hst : stpM (d_st D) (d_v D, d_b D) = d_st D ++ [(d_v D, d_b D)] := by unfold stpM; rw [if_neg h30]
    have r2 : ∀ j, j ≠ 64 + 9 * (d_st D).length → s2.1 95 j = σ.1 95 j := fun j hj => by rw [e2, wI_eq, if_neg hj]
    refine put s2 (d_st D).length (by omega) (by rw [e2]; exact ag95_w ag95_rf) (by rw [r2 _ (by omega)]; exact q8) (by rw [e2, wI_eq, if_pos rfl]) (fun j h1 h2 => r2 j (by omega)) (fun j hj => ?_) (by rw [hst]; simp) (by rw [hst, getD_app2])
    rw [hst, getD_app1 hj]
    exact rStep_cg (q9 j hj) (Nat.le_refl _) n6 (fun i h1 h2 => r2 i (by omega))
theorem RREL_95 {σ σ' : hd_M} {tp : List Nat} {ft : Int32 × Int32} {D D1 D' : MD} {laws : Nat → LW} (h : RREL σ (tp, ft, D, D', laws)) (ha : ag95 σ σ') (hT : d_T D1 = d_T D) (hd : rDesk σ' 95 D1) : RREL σ' (tp, ft, D1, D', laws) := RREL_desk h (by rw [hT]; exact Nat.le_refl _) (fun k h1 h2 => ha.1 k (by omega)) (fun k h1 h2 => by rw [ha.1 94 (by decide)]) hd
theorem haM_none {L : LW} {sz : Nat → Nat} {v act : Nat} : haM L sz v act = -1 ↔ afM L sz v act = none := by
  unfold haM
  cases h : afM L sz v act with
  | none => simp
  | some w =>
    constructor
    · intro z
      have := congrArg Int32.toInt z
      have h9 := hrM_le L (dg v) (dg w) act
      have e : (nI (hrM L (dg v) (dg w) act)).toInt = -1 := this
      rw [nI_toInt (by omega)] at e
      omega
    · intro z
      cases z
theorem sX8_doNow {G : hd_G} {σ : hd_M} {P : Int32 → hd_M → Prop} {tp : List Nat} {ft : Int32 × Int32} {D D' : MD} {laws : Nat → LW} {act : Nat} (hR : RREL σ (tp, ft, D, D', laws)) (hm : mok (tp, ft, D, D', laws)) (ha : act < 15) (h : ∀ σ', fR σ σ' → RREL σ' (tp, ft, mvS (ruM (d_r D) laws) D act, D', laws) → P (haM (ruM (d_r D) laws) (d_sz D) (d_v D) act) σ') : EVi G mX8_doNow SH [.ref 94, .int (nI act)] σ P := by
  have hd : dok D := hm.2.1
  have n6 := hd.1
  have hv : d_v D < 2187 := hd.2.2.2.1.1
  have hb : 0 ≤ d_b D ∧ d_b D ≤ 9 := hd.2.2.2.1.2.1
  have hrT := hd.2.2.2.2.2.1
  have hD : rDesk σ 95 D := hR.2.2.1
  have rT : rTexts σ (d_T D) laws := hR.2.2.2.2
  obtain ⟨K, cd, t1, t2, t3, t4⟩ := TX_r rT hrT
  generalize ruM (d_r D) laws = L at *
  refine wX8_doNow _ (fun X hX => sX8_standNow (rDesk_SR hD hd) (rDesk_PL hD hd) (fun s1 a1 r1 => ⟨pk_in 2 334 (by decide), ?_⟩))
  have D1 : rDesk s1 95 D := rDesk_cg hD (agR_c a1 (by decide))
  have r2 : s1.1 95 2 = zI (d_r D) := D1.2.2.2.2.2.2.1
  rw [show (2 : Int32).toNatClampNeg = 2 from rfl, r2]
  refine sX8_doesV (TX_R t1 a1) t4 t2 (rDesk_SR D1 hd) hv r1 ha (fun s2 a2 r2 v4 e4 => ?_)
  rw [t3] at r2 e4
  rw [e4]
  have a12 := agR_tr a1 a2
  have hR2 := RREL_R hR a12
  cases haf : afM L (d_sz D) (d_v D) act with
  | none =>
    have e1 : haM L (d_sz D) (d_v D) act = -1 := haM_none.mpr haf
    rw [e1] at h ⊢
    refine b_ne' rfl (h s2 (fR_R a12) ?_)
    unfold mvS
    rw [haf]
    exact hR2
  | some w =>
    have hne : ¬ haM L (d_sz D) (d_v D) act = -1 := fun z => by rw [haM_none.mp z] at haf; cases haf
    rw [haf] at r2
    have r2 : RS s2 (dg w) := r2
    have hL : LWok L := by rw [← t3]; exact t4
    have hw := afM_lt hL (dok_sz hd) hv ha haf
    have D2 : rDesk s2 95 D := hR2.2.2.1
    refine b_ne hne (fun v5 e5 => ?_)
    have key : ∀ k, k ≤ d_n D → ∀ s : hd_M, ag95 s2 s → (∀ j, s.1 95 j = if 20 ≤ j ∧ j < 20 + k then nI (dg w (j - 20)) else s2.1 95 j) → hd_J G mX8_doNow X SH (0, 0) 25 [(0, .ref 94), (2, .int (haM L (d_sz D) (d_v D) act)), (3, .int (nI k))] [] s := by
      refine hd_upto (n := d_n D) (fun k => ∀ s : hd_M, ag95 s2 s → (∀ j, s.1 95 j = if 20 ≤ j ∧ j < 20 + k then nI (dg w (j - 20)) else s2.1 95 j) → hd_J G mX8_doNow X SH (0, 0) 25 [(0, .ref 94), (2, .int (haM L (d_sz D) (d_v D) act)), (3, .int (nI k))] [] s) (fun k hk ih s a hs => ?_)
      have n0 : s.1 95 0 = nI (d_n D) := by rw [hs, if_neg (by omega)]; exact D2.1
      have rs : RS s (dg w) := RS_cg r2 (a.1 103 (by decide)) (by rw [a.1 94 (by decide)])
      refine wX8_doNow_25 hX _ _ ⟨pk_in 0 334 (by decide), ?_⟩
      rw [show (0 : Int32).toNatClampNeg = 0 from rfl, n0]
      refine c_le (d_n D : Int) (k : Int) rfl rfl (fun h8 => ⟨pk_in 26 334 (by decide), fun s3 e3 => ?_⟩) (fun h8 => ?_)
      · have hkn : k = d_n D := by omega
        subst hkn
        rw [show (26 : Int32).toNatClampNeg = 26 from rfl, rs.2.1] at e3
        have a3 : ag95 s2 s3 := by rw [e3]; exact ag95_w a
        have rd : ∀ j, s3.1 95 j = if j = 26 then nI (dg w 6) else if 20 ≤ j ∧ j < 20 + d_n D then nI (dg w (j - 20)) else s2.1 95 j := fun j => by rw [e3, wI_eq, hs]
        have t3' : TX s3 (zI (d_r D)) K cd := TX_cg (TX_R t1 a12) (a3.1 97 (by decide))
        refine sX8_roll (x := zI (d_r D)) (b := d_b D) (by rw [rd, if_neg (by decide), if_neg (by omega)]; exact D2.2.2.2.2.2.2.1) t3' t4 (RS_cg r2 (a3.1 103 (by decide)) (by rw [a3.1 94 (by decide)])) (by rw [rd, if_pos rfl]) (by rw [rd, if_neg (by decide), if_neg (by omega)]; exact D2.2.2.2.2.1) hb (fun s4 a4 => ?_)
        rw [t3] at a4
        have rd4 : ∀ j, s4.1 95 j = if j = 27 then zI (ballM L (dg w) (d_b D)) else s3.1 95 j := fun j => by rw [agR_c a4 (by decide), wI_eq]
        have ff : fR σ s4 := fR_tr (fR_tr (fR_R a12) (fR_95 (ag95_w a3))) (fR_R a4)
        refine h s4 ff ?_
        unfold mvS
        rw [haf]
        obtain ⟨q1, q2, q3, q4, q5, q6, q7, q8, q9, q10, q11, q12, q13⟩ := D2
        have lo : ∀ j, j ≠ 26 → j ≠ 27 → ¬ (20 ≤ j ∧ j < 20 + d_n D) → s4.1 95 j = s2.1 95 j := fun j h1 h2 h3 => by rw [rd4, if_neg h2, rd, if_neg h1, if_neg h3]
        refine RREL_desk hR2 (Nat.le_refl _) (fun k h1 h2 => ?_) (fun k h1 h2 => ?_) ⟨?_, fun p hp => ?_, fun p hp => ?_, ?_, ?_, ?_, ?_, ?_, fun j hj => ?_, ?_, fun j hj => ?_, ?_, fun j hj => ?_⟩
        · rw [agR_c a4 (by simp; omega), wI_ne (by omega), a3.1 k (by omega)]
        · rw [a4.2 k (by omega), wI_ne (by decide), a3.1 94 (by decide)]
        · rw [lo _ (by omega) (by omega) (by omega)]; exact q1
        · have hp : p < d_n D := hp
          rw [lo _ (by omega) (by omega) (by omega)]; exact q2 p hp
        · have hp : p < d_n D := hp
          rw [rd4, if_neg (by omega), rd, if_neg (by omega), if_pos (by omega), show 20 + p - 20 = p by omega]
          rfl
        · rw [rd4, if_neg (by decide), rd, if_pos rfl]
          rfl
        · rw [rd4, if_pos rfl]
          rfl
        · rw [lo _ (by omega) (by omega) (by omega)]; exact q6
        · rw [lo _ (by omega) (by omega) (by omega)]; exact q7
        · rw [lo _ (by omega) (by omega) (by omega)]; exact q8
        · exact rStep_cg (q9 j hj) (Nat.le_refl _) n6 (fun i h1 h2 => lo i (by omega) (by omega) (by omega))
        · rw [lo _ (by omega) (by omega) (by omega)]; exact q10
        · rw [lo _ (by omega) (by omega) (by omega), lo _ (by omega) (by omega) (by omega)]; exact q11 j hj
        · rw [lo _ (by omega) (by omega) (by omega)]; exact q12
        · rw [lo _ (by omega) (by omega) (by omega)]; exact q13 j hj
      · have i1 : (20 : Int32) + nI k = nI (20 + k) := nI_add 20 k
        rw [i1, nI_clamp (by omega), nI_clamp (by omega), rs.1 k (by omega)]
        refine ⟨hd_vn (by omega) (by decide), hd_vn (by omega) (by decide), fun s3 e3 v4 e4 => ?_⟩
        rw [e4, nI_1]
        refine ih (by omega) s3 (by rw [e3]; exact ag95_w a) (fun j => ?_)
        rw [e3, wI_eq, hs]
        by_cases hj : j = 20 + k
        · rw [if_pos hj, if_pos (by omega), show j - 20 = k by omega]
        · rw [if_neg hj]
          by_cases hj2 : 20 ≤ j ∧ j < 20 + k
          · rw [if_pos hj2, if_pos (by omega)]
          · rw [if_neg hj2, if_neg (by omega)]
    rw [e5]
    exact key 0 (Nat.zero_le _) s2 ag95_rf (fun j => by rw [if_neg (by omega)])
theorem sX8_act {G : hd_G} {σ : hd_M} {P : Int32 → hd_M → Prop} {tp : List Nat} {ft : Int32 × Int32} {D D' : MD} {laws : Nat → LW} {act : Nat} (hR : RREL σ (tp, ft, D, D', laws)) (hm : mok (tp, ft, D, D', laws)) (ha : act < 15) (h : ∀ σ', fR σ σ' → RREL σ' (tp, ft, aftA (ruM (d_r D) laws) D act, D', laws) → P (haM (ruM (d_r D) laws) (d_sz D) (d_v D) act) σ') : EVi G mX8_act SH [.ref 94, .int (nI act)] σ P := by
  have hd : dok D := hm.2.1
  have hrT := hd.2.2.2.2.2.1
  have hD : rDesk σ 95 D := hR.2.2.1
  have rT : rTexts σ (d_T D) laws := hR.2.2.2.2
  obtain ⟨K, cd, t1, t2, t3, t4⟩ := TX_r rT hrT
  refine wX8_act _ (wX8_can _ (wX8_isAct _ (sX8_isInG _ _ _ ⟨cl_bit_i _, ?_⟩)))
  rw [decide_eq_true ⟨nI_pos' (by omega), nI_le (b := 14) (by omega) (by decide)⟩]
  refine b_ne (by decide) (sX8_standNow (rDesk_SR hD hd) (rDesk_PL hD hd) (fun s1 a1 r1 => ⟨pk_in 2 334 (by decide), ?_⟩))
  have D1 : rDesk s1 95 D := rDesk_cg hD (agR_c a1 (by decide))
  have r2 : s1.1 95 2 = zI (d_r D) := D1.2.2.2.2.2.2.1
  rw [show (2 : Int32).toNatClampNeg = 2 from rfl, r2]
  refine sX8_canBe (TX_R t1 a1) t4 (rDesk_SR D1 hd) r1 ha (fun s2 a2 r2 => ⟨cl_bit_i _, ?_⟩)
  have a12 := agR_tr a1 a2
  have hR2 := RREL_R hR a12
  rw [canM_af, t3]
  unfold aftA at h
  cases haf : afM (ruM (d_r D) laws) (d_sz D) (d_v D) act with
  | none =>
    have e1 : haM (ruM (d_r D) laws) (d_sz D) (d_v D) act = -1 := haM_none.mpr haf
    rw [haf, e1] at h
    exact b_ne' (by decide) (h s2 (fR_R a12) hR2)
  | some w =>
    rw [haf] at h
    refine b_ne (show ¬ zI (cl_bit true) = 0 by decide) (sX8_keep hR2.2.2.1 hd (fun s3 a3 d3 => ?_))
    have R3 := RREL_95 (D1 := putSt D (stpM (d_st D) (d_v D, d_b D))) hR2 a3 rfl d3
    refine sX8_doNow R3 (mok_D hm (dok_putSt hd) rfl) ha (fun s4 f4 R4 => ?_)
    unfold mvS at R4
    have haf' : afM (ruM (d_r (putSt D (stpM (d_st D) (d_v D, d_b D)))) laws) (d_sz (putSt D (stpM (d_st D) (d_v D, d_b D)))) (d_v (putSt D (stpM (d_st D) (d_v D, d_b D)))) act = some w := haf
    rw [haf'] at R4
    exact h s4 (fR_tr (fR_tr (fR_R a12) (fR_95 a3)) f4) R4
