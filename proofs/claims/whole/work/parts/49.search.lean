/-! fewest and whatever -/
theorem CREL_srch {σ σ' : hd_M} {tp : List Nat} {ft : Int32 × Int32} {D D' : MD} {laws : Nat → LW} {x : Int32} (h : CREL σ (tp, ft, D, D', laws)) (hT4 : d_T D ≤ 4) (hn : NV σ') (ha : ∀ k, k ∉ sw → k ≠ 0 → σ'.1 k = σ.1 k) (h0 : ∀ k, k ≠ 13 → σ'.1 0 k = σ.1 0 k) (hs : cSch σ' D laws) : CREL σ' (tp, ft, D, D', laws) :=
  CREL_desk h (Nat.le_refl _) hT4 (fun k h1 h2 => ha k (by simp [sw]; omega) (by omega)) (ha 1 (by decide) (by decide)) (fun k hk => h0 k (by omega)) hn (cDesk_cg h.2.2.1 (fun k h1 h2 => ha k (by simp [sw]; omega) (by omega))) hs
theorem sX7_fewest {G : hd_G} {σ : hd_M} {P : Int32 → hd_M → Prop} {tp : List Nat} {ft : Int32 × Int32} {D D' : MD} {laws : Nat → LW} (hC : CREL σ (tp, ft, D, D', laws)) (hm : mok (tp, ft, D, D', laws)) (i : Int32) (hi : (-1) ≤ i) (h : ∀ σ', fC σ σ' → CREL σ' (tp, ft, D, D', laws) → P (bAns (nowB D laws) i) σ') : EVi G mX7_fewest SH [.ref 0, .int i] σ P := by
  have hd : dok D := hm.2.1
  have hT4 : d_T D ≤ 4 := hd.2.2.2.2.1
  have hrT := hd.2.2.2.2.2.1
  have hcd : cDesk σ 2 D := hC.2.2.1
  have hv : d_v D < 2187 := hd.2.2.2.1.1
  refine wX7_fewest _ (b_le hi ⟨fun z => ?_, fun z => ?_⟩)
  · have hs : cSch σ D laws := hC.2.2.2.2.2.2.2
    rcases hs with q | ⟨q, q2⟩ | ⟨m, q1, q2, q3, q4, q5⟩
    · rw [q] at z
      exact absurd z (by decide)
    · exact sX5_answerOf q2 i hi (h σ fC_rf hC)
    · rw [q4] at z
      have : m < 16 := Nat.lt_of_lt_of_le q2 (Nat.pow_le_pow_right (by decide) hT4)
      exact absurd z (nI_ne0 q1 (by omega))
  · have hL := ruM_ok hm.2.2.2.2 hrT
    have hq := ruQ_law hT4 hrT
    have hl : lq σ (ruQ (d_r D)) (ruM (d_r D) laws) := ruQ_lq hrT hC.2.2.2.2.1 hC.2.2.2.2.2.1
    refine sX7_rulingLaw hcd.2.2.2.2.1 hcd.2.2.2.2.2.1 hT4 hrT ?_
    rw [hcd.2.2.1]
    refine sX5_seek (most := 1000) hq hq hl hl hL hL (cDesk_SZ hcd hd) hC.2.2.2.2.2.2.1 ⟨by decide, by decide⟩ (fun _ => rfl) hv (fun s5 a5 n5 S5 s6 e6 => ?_)
    have r : ∀ k, k ≠ 0 → s6.1 k = s5.1 k := fun k hk => by rw [e6, wI_ne hk]
    have S6 : cSO s6 (nowB D laws) := cSO_cg S5 (r 81 (by decide)) (r 84 (by decide)) (r 85 (by decide))
    refine sX5_answerOf S6 i hi (h s6 (fun k hk => ⟨by rw [r k (by omega)]; exact (a5 k (by simp [sw]; omega)).1, by rw [e6]; exact (a5 k (by simp [sw]; omega)).2⟩) ?_)
    exact CREL_srch (x := 0) hC hT4 (NV_cg n5 (by rw [r 78 (by decide)]) (r 79 (by decide))) (fun k h1 h2 => by rw [r k h2]; exact (a5 k h1).1) (fun k hk => by rw [e6, wI_eq, if_neg hk, (a5 0 (by decide)).1]) (Or.inr (Or.inl ⟨by rw [e6, wI_eq, if_pos rfl], S6⟩))
theorem sX8_fewest {G : hd_G} {σ : hd_M} {P : Int32 → hd_M → Prop} {tp : List Nat} {ft : Int32 × Int32} {D D' : MD} {laws : Nat → LW} (hR : RREL σ (tp, ft, D, D', laws)) (hm : mok (tp, ft, D, D', laws)) (i : Int32) (hi : (-1) ≤ i) (h : ∀ σ', fR σ σ' → RREL σ' (tp, ft, D, D', laws) → P (bAns (nowB D laws) i) σ') : EVi G mX8_fewest SH [.ref 94, .int i] σ P := by
  have hd : dok D := hm.2.1
  have hrT := hd.2.2.2.2.2.1
  have hrd : rDesk σ 95 D := hR.2.2.1
  have hv : d_v D < 2187 := hd.2.2.2.1.1
  refine wX8_fewest _ (b_le hi (sX8_standNow (rDesk_SR hrd hd) (rDesk_PL hrd hd) (fun s1 a1 r1 => ⟨pk_in 2 334 (by decide), sX8_standing r1 ?_⟩)))
  have R1 := RREL_R hR a1
  have D1 : rDesk s1 95 D := R1.2.2.1
  have r2 : s1.1 95 2 = zI (d_r D) := D1.2.2.2.2.2.2.1
  have rT : rTexts s1 (d_T D) laws := R1.2.2.2.2
  rw [show (2 : Int32).toNatClampNeg = 2 from rfl, r2, nm_dg hv]
  obtain ⟨K, cd, t1, t2, t3, t4⟩ := TX_r rT hrT
  refine sX8_search (most := 1000) ⟨K, cd, t1, t2, t3, by rw [← t3]; exact t4⟩ (Or.inl ⟨rfl, rfl⟩) (rDesk_SR D1 hd) ⟨by decide, by decide⟩ hv (fun s4 a4 F4 => ?_)
  exact sX8_actsTo F4 i hi (h s4 (fR_tr (fR_R a1) (fR_S a4)) (RREL_S R1 a4))
theorem jFewest {G : hd_G} {σ : hd_M} {M : MM} {Q : Int32 → Int32 → hd_M → Prop} (hR : REL σ M) (x : Int32) (h : ∀ y s M', REL s M' → Q y y s) : EVi G mX7_fewest SH [.ref 0, .int x] σ (fun y1 s1 => EVi G mX8_fewest SH [.ref 94, .int x] s1 (fun y' s2 => Q y1 y' s2)) := by
  obtain ⟨tp, ft, D, D', laws⟩ := M
  by_cases hx : (-1) ≤ x
  · exact jOf (M' := (tp, ft, D, D', laws)) hR hR.2.2 (fun P hp => sX7_fewest hR.1 hR.2.2 x hx hp) (fun s P hs hp => sX8_fewest hs hR.2.2 x hx hp) h
  · have hx := Int32.not_le.mp hx
    exact wX7_fewest _ (b_le' hx (wX8_fewest _ (b_le' hx (h _ _ _ hR))))
/-! bits of small numbers -/
theorem bit_i : ∀ m, m < 16 → ∀ t, t < 4 → (nI m >>> (nI t &&& 31)) &&& 1 = nI (m / 2 ^ t % 2) := by decide +kernel
theorem shl_i : ∀ t, t < 5 → (1 : Int32) <<< (nI t &&& 31) = nI (2 ^ t) := by decide +kernel
def loA (m : Nat) : Nat → Nat
  | 0 => 3
  | t + 1 => if m / 2 ^ t % 2 = 1 then (if t < loA m t then t else loA m t) else loA m t
def hiA (m : Nat) : Nat → Nat
  | 0 => 0
  | t + 1 => if m / 2 ^ t % 2 = 1 then (if hiA m t < t then t else hiA m t) else hiA m t
def fiA (m : Nat) : Nat → Int
  | 0 => -1
  | t + 1 => if m / 2 ^ t % 2 = 1 ∧ fiA m t < 0 then (t : Int) else fiA m t
def seA (m : Nat) : Nat → Int
  | 0 => -2
  | t + 1 => if m / 2 ^ t % 2 = 1 ∧ 0 ≤ fiA m t then (t : Int) else seA m t
theorem loA_r : ∀ m, m < 16 → ∀ t, t < 5 → loA m t < 4 ∧ hiA m t < 4 ∧ (-1 ≤ fiA m t ∧ fiA m t < 4) ∧ (-2 ≤ seA m t ∧ seA m t < 4) := by decide +kernel
theorem loA_e : ∀ m, m < 16 → 0 < m → loA m 4 = lowM m ∧ hiA m 4 = highM m ∧ lowM m < 4 ∧ highM m < 4 := by decide +kernel
def seC (m T : Nat) : Bool := !(decide (0 < m) && decide (m < 2 ^ T) && decide (bitsM m ≤ 2)) || (decide (fiA m T = (lowM m : Int)) && decide (seA m T = (if lowM m = highM m then -2 else (highM m : Int))) && decide (lowM m < T) && decide (highM m < T))
theorem seA_d : ∀ m, m < 16 → ∀ T, T < 5 → seC m T = true := by decide +kernel
theorem seA_e (m : Nat) (h16 : m < 16) (h0 : 0 < m) (T : Nat) (hT : T < 5) (hmT : m < 2 ^ T) (hb : bitsM m ≤ 2) : fiA m T = (lowM m : Int) ∧ seA m T = (if lowM m = highM m then -2 else (highM m : Int)) ∧ lowM m < T ∧ highM m < T := by
  have h := seA_d m h16 T hT
  unfold seC at h
  rw [decide_eq_true h0, decide_eq_true hmT, decide_eq_true hb] at h
  simp only [Bool.and_self, Bool.not_true, Bool.false_or, Bool.and_eq_true, decide_eq_true_eq] at h
  exact ⟨h.1.1.1, h.1.1.2, h.1.2, h.2⟩
theorem seA_b : ∀ m, m < 16 → ∀ T, T < 5 → m < 2 ^ T → ((bitsM m ≤ 2) ↔ ∀ t, t < T → ¬ (m / 2 ^ t % 2 = 1 ∧ seA m t ≠ -2)) := by decide +kernel
theorem sJ6_bits {G : hd_G} {σ : hd_M} {P : Int32 → hd_M → Prop} {sh : hd_S} {m : Nat} (hm : m < 16) (h : P (nI (bitsM m)) σ) : EVi G mJ6_bitCount_0f7a4 sh [.int (nI m)] σ P := by
  refine wJ6_bitCount_0f7a4 _ (fun v1 e1 v2 e2 v3 e3 v4 e4 v5 e5 => ?_)
  subst e1 e2 e3 e4 e5
  have hc : m = 0 ∨ m = 1 ∨ m = 2 ∨ m = 3 ∨ m = 4 ∨ m = 5 ∨ m = 6 ∨ m = 7 ∨ m = 8 ∨ m = 9 ∨ m = 10 ∨ m = 11 ∨ m = 12 ∨ m = 13 ∨ m = 14 ∨ m = 15 := by omega
  rcases hc with rfl | rfl | rfl | rfl | rfl | rfl | rfl | rfl | rfl | rfl | rfl | rfl | rfl | rfl | rfl | rfl <;> exact hd_cvI (by decide +kernel) h
theorem sX7_whatever {G : hd_G} {σ : hd_M} {P : Int32 → hd_M → Prop} {tp : List Nat} {ft : Int32 × Int32} {D D' : MD} {laws : Nat → LW} {m : Nat} (hC : CREL σ (tp, ft, D, D', laws)) (hm : mok (tp, ft, D, D', laws)) (i : Int32) (hi : (-1) ≤ i) (h0 : 0 < m) (hT : m < 2 ^ d_T D) (hb : bitsM m ≤ 2) (h : ∀ σ', fC σ σ' → CREL σ' (tp, ft, D, D', laws) → P (bAns (whB D laws m) i) σ') : EVi G mX7_whatever SH [.ref 0, .int (nI m), .int i] σ P := by
  have hd : dok D := hm.2.1
  have hT4 : d_T D ≤ 4 := hd.2.2.2.2.1
  have hcd : cDesk σ 2 D := hC.2.2.1
  have h2T : 2 ^ d_T D ≤ 16 := (Nat.pow_le_pow_right (n := 2) (by decide) hT4 : 2 ^ d_T D ≤ 2 ^ 4)
  have hm16 : m < 16 := Nat.lt_of_lt_of_le hT h2T
  refine wX7_whatever _ _ (fun X hX => b_lt' hi (b_le' (nI_lt (a := 0) h0 (by omega)) ?_))
  rw [hcd.2.2.2.2.1, shl_i _ (by omega)]
  refine b_le' (nI_lt hT (by omega)) (sJ6_bits hm16 (b_le (nI_le (b := 2) hb (by decide)) ⟨fun z => ?_, fun z => fun v5 e5 v6 e6 v7 e7 => ?_⟩))
  · have hs : cSch σ D laws := hC.2.2.2.2.2.2.2
    rcases hs with q | ⟨q, q2⟩ | ⟨m', q1, q2, q3, q4, q5⟩
    · rw [q] at z
      have z2 := congrArg Int32.toInt z
      rw [nI_toInt (by omega)] at z2
      have e1 : (-1 : Int32).toInt = -1 := rfl
      omega
    · rw [q] at z
      exact absurd z.symm (nI_ne0 h0 (by omega))
    · rw [q4] at z
      have : m' < 16 := Nat.lt_of_lt_of_le q2 h2T
      have e := (nI_eq (by omega) (by omega)).mp z
      subst e
      exact sX5_answerOf q5 i hi (h σ fC_rf hC)
  · have se := loA_e m hm16 h0
    have key : ∀ t, t ≤ 4 → hd_J G mX7_whatever X SH (0, 0) 48 [(0, .ref 0), (1, .int (nI m)), (2, .int i), (3, .int (nI (loA m t))), (4, .int (nI (hiA m t))), (5, .int (nI t))] [] σ := by
      refine hd_upto (n := 4) (fun t => hd_J G mX7_whatever X SH (0, 0) 48 [(0, .ref 0), (1, .int (nI m)), (2, .int i), (3, .int (nI (loA m t))), (4, .int (nI (hiA m t))), (5, .int (nI t))] [] σ) (fun t ht ih => ?_)
      have rr := loA_r m hm16 t (by omega)
      refine wX7_whatever_48 hX _ _ _ _ _ (c_le 4 (t : Int) rfl rfl (fun z => ?_) (fun z => ?_))
      · have t4 : t = 4 := by omega
        subst t4
        rw [se.1, se.2.1, nI_clamp (show lowM m < 2 ^ 31 by omega), nI_clamp (show highM m < 2 ^ 31 by omega), lawRef se.2.2.1, lawRef se.2.2.2]
        have sb := seA_e m hm16 h0 (d_T D) (by omega) hT hb
        have hl1 : lq σ (17 + 9 * lowM m) (laws (lowM m)) := hC.2.2.2.2.1 _ sb.2.2.1
        have hl2 : lq σ (17 + 9 * highM m) (laws (highM m)) := hC.2.2.2.2.1 _ sb.2.2.2
        have hL1 : LWok (laws (lowM m)) := hm.2.2.2.2 _ sb.2.2.1
        have hL2 : LWok (laws (highM m)) := hm.2.2.2.2 _ sb.2.2.2
        refine ⟨hd_vn se.2.2.1 (by decide), by omega, hd_vn se.2.2.2 (by decide), by omega, ?_⟩
        refine sX5_seek (most := 3000) (v := 0) (law_t se.2.2.1) (law_t se.2.2.2) hl1 hl2 hL1 hL2 (cDesk_SZ hcd hd) hC.2.2.2.2.2.2.1 ⟨by decide, by decide⟩ (fun q => by rw [show lowM m = highM m by omega]) (by decide) (fun s5 a5 n5 S5 s6 e6 => ?_)
        have r : ∀ k, k ≠ 0 → s6.1 k = s5.1 k := fun k hk => by rw [e6, wI_ne hk]
        have S6 : cSO s6 (whB D laws m) := cSO_cg S5 (r 81 (by decide)) (r 84 (by decide)) (r 85 (by decide))
        refine sX5_answerOf S6 i hi (h s6 (fun k hk => ⟨by rw [r k (by omega)]; exact (a5 k (by simp [sw]; omega)).1, by rw [e6]; exact (a5 k (by simp [sw]; omega)).2⟩) ?_)
        exact CREL_srch (x := 0) hC hT4 (NV_cg n5 (by rw [r 78 (by decide)]) (r 79 (by decide))) (fun k h1 h2 => by rw [r k h2]; exact (a5 k h1).1) (fun k hk => by rw [e6, wI_eq, if_neg hk, (a5 0 (by decide)).1]) (Or.inr (Or.inr ⟨m, h0, hT, hb, by rw [e6, wI_eq, if_pos rfl], S6⟩))
      · have ht4 : t < 4 := by omega
        have ih := ih ht4
        rw [bit_i m hm16 t ht4]
        refine c_ne ((m / 2 ^ t % 2 : Nat) : Int) 1 rfl rfl (fun zb => fun v5 e5 => ?_) (fun zb => fun v6 e6 v7 e7 v8 e8 => ?_) (by omega) (by omega)
        · rw [e5, nI_1]
          have zb : ¬ m / 2 ^ t % 2 = 1 := by omega
          rw [show loA m (t + 1) = loA m t from if_neg zb, show hiA m (t + 1) = hiA m t from if_neg zb] at ih
          exact ih
        · have zb : m / 2 ^ t % 2 = 1 := by omega
          rw [show loA m (t + 1) = if t < loA m t then t else loA m t from if_pos zb, show hiA m (t + 1) = if hiA m t < t then t else hiA m t from if_pos zb] at ih
          rw [e6, e7, e8, nI_1]
          have w1 : (if nI t < nI (loA m t) then nI t else nI (loA m t)) = nI (if t < loA m t then t else loA m t) := by
            by_cases q : t < loA m t
            · rw [if_pos q, if_pos (nI_lt q (by omega))]
            · rw [if_neg q, if_neg (nI_nlt (by omega) (by omega))]
          have w2 : (if nI (hiA m t) < nI t then nI t else nI (hiA m t)) = nI (if hiA m t < t then t else hiA m t) := by
            by_cases q : hiA m t < t
            · rw [if_pos q, if_pos (nI_lt q (by omega))]
            · rw [if_neg q, if_neg (nI_nlt (by omega) (by omega))]
          rw [w1, w2]
          exact ih
    rw [e5, e6, e7]
    exact key 0 (by omega)
theorem sX8_whatever {G : hd_G} {σ : hd_M} {P : Int32 → hd_M → Prop} {tp : List Nat} {ft : Int32 × Int32} {D D' : MD} {laws : Nat → LW} {m : Nat} (hR : RREL σ (tp, ft, D, D', laws)) (hm : mok (tp, ft, D, D', laws)) (i : Int32) (hi : (-1) ≤ i) (h0 : 0 < m) (hT : m < 2 ^ d_T D) (hN : ¬ bitsM m ≤ 2 → P (-1) σ) (h : bitsM m ≤ 2 → ∀ σ', fR σ σ' → RREL σ' (tp, ft, D, D', laws) → P (bAns (whB D laws m) i) σ') : EVi G mX8_whatever SH [.ref 94, .int (nI m), .int i] σ P := by
  have hd : dok D := hm.2.1
  have hT4 : d_T D ≤ 4 := hd.2.2.2.2.1
  have hrd : rDesk σ 95 D := hR.2.2.1
  have h2T : 2 ^ d_T D ≤ 16 := (Nat.pow_le_pow_right (n := 2) (by decide) hT4 : 2 ^ d_T D ≤ 2 ^ 4)
  have hm16 : m < 16 := Nat.lt_of_lt_of_le hT h2T
  have r6 : σ.1 95 1 = nI (d_T D) := hrd.2.2.2.2.2.1
  refine wX8_whatever _ _ (fun X hX => ⟨pk_in 1 334 (by decide), ?_⟩)
  rw [show (1 : Int32).toNatClampNeg = 1 from rfl, r6, shl_i _ (by omega), nI_sub1 (by omega)]
  refine sX8_isInG _ _ _ ?_
  rw [decide_eq_true ⟨nI_le (a := 1) (by omega) (by omega), nI_le (by omega) (by omega)⟩]
  refine b_eq' (by decide) (b_le hi (fun v3 e3 v4 e4 v5 e5 => ?_))
  have key : ∀ t, t ≤ d_T D → (∀ t', t' < t → ¬ (m / 2 ^ t' % 2 = 1 ∧ seA m t' ≠ -2)) → hd_J G mX8_whatever X SH (0, 0) 34 [(0, .ref 94), (1, .int (nI m)), (2, .int i), (3, .int (zI (fiA m t))), (4, .int (zI (seA m t))), (5, .int (nI t))] [] σ := by
    refine hd_upto (n := d_T D) (fun t => (∀ t', t' < t → ¬ (m / 2 ^ t' % 2 = 1 ∧ seA m t' ≠ -2)) → hd_J G mX8_whatever X SH (0, 0) 34 [(0, .ref 94), (1, .int (nI m)), (2, .int i), (3, .int (zI (fiA m t))), (4, .int (zI (seA m t))), (5, .int (nI t))] [] σ) (fun t ht ih inv => ?_)
    have rr := loA_r m hm16 t (by omega)
    refine wX8_whatever_34 hX _ _ _ _ _ ⟨pk_in 1 334 (by decide), ?_⟩
    rw [show (1 : Int32).toNatClampNeg = 1 from rfl, r6]
    refine c_le (d_T D : Int) (t : Int) rfl rfl (fun z => ?_) (fun z => wX8_has _ _ ?_)
    · have tT : t = d_T D := by omega
      subst tT
      have hb : bitsM m ≤ 2 := (seA_b m hm16 (d_T D) (by omega) hT).mpr inv
      have sb := seA_e m hm16 h0 (d_T D) (by omega) hT hb
      have rT : rTexts σ (d_T D) laws := hR.2.2.2.2
      have tl : ∀ t, t < d_T D → TL σ (nI t) (laws t) := fun t ht => by
        obtain ⟨K, cd, a, b, c, d⟩ := TX_t rT ht
        exact ⟨K, cd, a, b, c, by rw [← c]; exact d⟩
      rw [sb.1, sb.2.1]
      refine sX8_search (most := 3000) (v := 0) (L2 := laws (highM m)) (tl _ sb.2.2.1) ?_ (rDesk_SR hrd hd) ⟨by decide, by decide⟩ (by decide) (fun s1 a1 F1 => ?_)
      · by_cases q : lowM m = highM m
        · rw [if_pos q, q]
          exact Or.inl ⟨rfl, rfl⟩
        · rw [if_neg q]
          exact Or.inr (tl _ sb.2.2.2)
      · exact sX8_actsTo F1 i hi (h hb s1 (fR_S a1) (RREL_S hR a1))
    · have ht4 : t < 4 := by omega
      have ih := ih (by omega)
      rw [bit_i m hm16 t ht4]
      refine c_ne ((m / 2 ^ t % 2 : Nat) : Int) 1 rfl rfl (fun zb => ⟨Or.inl rfl, ?_⟩) (fun zb => ⟨Or.inr rfl, ?_⟩) (by omega) (by omega)
      · have zb : ¬ m / 2 ^ t % 2 = 1 := by omega
        have inv' : ∀ t', t' < t + 1 → ¬ (m / 2 ^ t' % 2 = 1 ∧ seA m t' ≠ -2) := fun t' ht' => by
          by_cases q : t' = t
          · rw [q]
            exact fun w => zb w.1
          · exact inv t' (by omega)
        have ih := ih inv'
        rw [show fiA m (t + 1) = fiA m t from if_neg (fun w => zb w.1), show seA m (t + 1) = seA m t from if_neg (fun w => zb w.1)] at ih
        refine b_ne' rfl (fun v11 e11 => ?_)
        rw [e11, nI_1]
        exact ih
      · have zb : m / 2 ^ t % 2 = 1 := by omega
        refine b_ne (by decide) (c_eq (seA m t) (-2) rfl rfl (fun q => ?_) (fun q => ?_))
        · have inv' : ∀ t', t' < t + 1 → ¬ (m / 2 ^ t' % 2 = 1 ∧ seA m t' ≠ -2) := fun t' ht' => by
            by_cases w : t' = t
            · rw [w]
              exact fun u => u.2 q
            · exact inv t' (by omega)
          have ih := ih inv'
          refine c_lt (fiA m t) 0 rfl rfl (fun q2 => fun v7 e7 v8 e8 => ?_) (fun q2 => fun v9 e9 v10 e10 => ?_)
          · rw [show fiA m (t + 1) = (t : Int) from if_pos ⟨zb, q2⟩, show seA m (t + 1) = seA m t from if_neg (fun w => by omega)] at ih
            rw [e7, e8, nI_1]
            exact ih
          · rw [show fiA m (t + 1) = fiA m t from if_neg (fun w => by omega), show seA m (t + 1) = (t : Int) from if_pos ⟨zb, q2⟩] at ih
            rw [e9, e10, nI_1]
            exact ih
        · refine hN (fun hb => ?_)
          exact (seA_b m hm16 (d_T D) (by omega) hT).mp hb t (by omega) ⟨zb, q⟩
  rw [e3, e4, e5]
  exact key 0 (by omega) (fun t' ht' => absurd ht' (by omega))
theorem jWhatever {G : hd_G} {σ : hd_M} {M : MM} {Q : Int32 → Int32 → hd_M → Prop} (hR : REL σ M) (x y : Int32) (h : ∀ y s M', REL s M' → Q y y s) : EVi G mX7_whatever SH [.ref 0, .int x, .int y] σ (fun y1 s1 => EVi G mX8_whatever SH [.ref 94, .int x, .int y] s1 (fun y' s2 => Q y1 y' s2)) := by
  obtain ⟨tp, ft, D, D', laws⟩ := M
  have hd : dok D := hR.2.2.2.1
  have hT4 : d_T D ≤ 4 := hd.2.2.2.2.1
  have hcd : cDesk σ 2 D := hR.1.2.2.1
  have r6 : σ.1 95 1 = nI (d_T D) := hR.2.1.2.2.1.2.2.2.2.2.1
  have h2T : 2 ^ d_T D ≤ 16 := (Nat.pow_le_pow_right (n := 2) (by decide) hT4 : 2 ^ d_T D ≤ 2 ^ 4)
  have h1T : 1 ≤ 2 ^ d_T D := Nat.one_le_two_pow
  by_cases hy : (-1) ≤ y
  · by_cases hx : (1 : Int32) ≤ x ∧ x ≤ nI (2 ^ d_T D - 1)
    · obtain ⟨m, m1, m2, rfl⟩ := i_rng (x := x) 1 (2 ^ d_T D - 1) hx.1 hx.2 (by decide) (by omega)
      by_cases hb : bitsM m ≤ 2
      · exact jOf (M' := (tp, ft, D, D', laws)) hR hR.2.2 (fun P hp => sX7_whatever hR.1 hR.2.2 y hy (by omega) (by omega) hb hp) (fun s P hs hp => sX8_whatever hs hR.2.2 y hy (by omega) (by omega) (fun z => absurd hb z) (fun _ => hp)) h
      · have b4 : bitsM m ≤ 4 := by unfold bitsM; omega
        refine wX7_whatever _ _ (fun X hX => b_lt' hy (b_le' (nI_lt (a := 0) (by omega) (by omega)) ?_))
        rw [hcd.2.2.2.2.1, shl_i _ (by omega)]
        refine b_le' (nI_lt (by omega) (by omega)) (sJ6_bits (by omega) (b_le' (nI_lt (a := 2) (by omega) (by omega)) ?_))
        exact sX8_whatever hR.2.1 hR.2.2 y hy (by omega) (by omega) (fun _ => h _ _ _ hR) (fun z => absurd z hb)
    · have no : EVi G mX8_whatever SH [.ref 94, .int x, .int y] σ (fun y' s2 => Q (-1) y' s2) := by
        refine wX8_whatever _ _ (fun X hX => ⟨pk_in 1 334 (by decide), ?_⟩)
        rw [show (1 : Int32).toNatClampNeg = 1 from rfl, r6, shl_i _ (by omega), nI_sub1 (by omega)]
        refine sX8_isInG _ _ _ ?_
        rw [decide_eq_false hx]
        exact b_eq (by decide) (h _ _ _ hR)
      refine wX7_whatever _ _ (fun X hX => b_lt' hy ⟨fun _ => no, fun h1 => ?_⟩)
      rw [hcd.2.2.2.2.1, shl_i _ (by omega)]
      refine ⟨fun _ => no, fun h2 => absurd ⟨?_, ?_⟩ hx⟩
      · have a := Int32.lt_iff_toInt_lt.mp h1
        refine Int32.le_iff_toInt_le.mpr ?_
        have e0 : (0 : Int32).toInt = 0 := rfl
        have e1 : (1 : Int32).toInt = 1 := rfl
        omega
      · have a := Int32.lt_iff_toInt_lt.mp h2
        rw [nI_toInt (by omega)] at a
        refine Int32.le_iff_toInt_le.mpr ?_
        rw [nI_toInt (by omega)]
        omega
  · have hy := Int32.not_le.mp hy
    refine wX7_whatever _ _ (fun X hX => b_lt hy (wX8_whatever _ _ (fun X hX => ⟨pk_in 1 334 (by decide), ?_⟩)))
    refine sX8_isInG _ _ _ ⟨fun _ => h _ _ _ hR, fun _ => b_le' hy (h _ _ _ hR)⟩
