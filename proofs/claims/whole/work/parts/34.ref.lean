theorem sX8_stand {G : hd_G} {σ : hd_M} {P : hd_M → Prop} {v : Nat} (hv : v < 2187) (h : ∀ σ', agR σ σ' → RS σ' (dg v) → P σ') : EVv G mX8_stand SH [.ref 94, .int (nI v)] σ P := by
  refine wX8_stand _ (fun X hX v1 e1 v2 e2 => ?_)
  have key : ∀ k, k ≤ 6 → ∀ σ1 : hd_M, agR σ σ1 → (∀ j, j < k → σ1.1 103 j = nI (dg v j)) → hd_J G mX8_stand X SH (0, 0) 4 [(0, .ref 94), (2, .int (nI (v / 3 ^ k))), (3, .int (nI k))] [] σ1 := by
    refine hd_upto (n := 6) (fun k => ∀ σ1 : hd_M, agR σ σ1 → (∀ j, j < k → σ1.1 103 j = nI (dg v j)) → hd_J G mX8_stand X SH (0, 0) 4 [(0, .ref 94), (2, .int (nI (v / 3 ^ k))), (3, .int (nI k))] [] σ1) (fun k hk ih σ1 a1 a2 => ?_)
    have hvk : v / 3 ^ k ≤ v := Nat.div_le_self _ _
    refine wX8_stand_4 hX _ _ (c_le 6 (k : Int) rfl rfl (fun h6 s1 e1 => ?_) (fun h6 => ⟨by decide, hd_vn (by omega) (by decide), fun s2 e2 => ⟨by decide, fun v3 e3 v4 e4 => ?_⟩⟩))
    · have hk6 : k = 6 := by omega
      subst hk6
      rw [e1]
      refine h _ (agR_27 a1) ⟨fun j hj => by rw [wI_ne (by decide)]; exact a2 j hj, ?_, dg_o7 hv⟩
      rw [wI_eq, if_pos rfl]
      rfl
    · have hm : nI (v / 3 ^ k) - nI (v / 3 ^ k) / 3 * 3 = nI (v / 3 ^ k % 3) := pk_rem (d := 3) (by omega) (by decide) (by decide)
      have hd : nI (v / 3 ^ k) / 3 = nI (v / 3 ^ (k + 1)) := by
        rw [Nat.pow_succ, ← Nat.div_div_eq_div_mul]
        exact pk_div (d := 3) (by omega) (by decide) (by decide)
      rw [nI_clamp (by omega), hm] at e2
      rw [e2, e3, e4, hd, nI_1]
      refine ih (by omega) _ (agR_w a1 (by decide)) (fun j hj => ?_)
      rw [wI_eq]
      by_cases hjk : j = k
      · rw [if_pos hjk, hjk, dg_lo (by omega)]
      · rw [if_neg hjk]
        exact a2 j (by omega)
  have k0 := key 0 (by decide) σ agR_rf (fun j hj => by omega)
  rw [Nat.pow_zero, Nat.div_one] at k0
  rw [e1, e2]
  exact k0
theorem sX8_standing {G : hd_G} {σ : hd_M} {P : Int32 → hd_M → Prop} {f : Nat → Nat} (hR : RS σ f) (h : P (nI (nm f)) σ) : EVi G mX8_standing SH [.ref 94] σ P := by
  refine wX8_standing (fun X hX v1 e1 v2 e2 => ?_)
  have e1 : v1 = nI (f 6) := e1.trans hR.2.1
  have st : ∀ a b : Nat, 3 * nI a + nI b = nI (b + 3 * a) := fun a b => by
    rw [show (3 : Int32) = nI 3 from rfl, pk_mul, nI_add]
    congr 1
    omega
  have e2 : v2 = nI 5 := e2
  rw [e1, e2]
  refine wX8_standing_7 hX _ _ (b_lt' (by decide) ⟨hd_vn (k := 5) (by decide) (by decide), fun v3 e3 v4 e4 => ?_⟩)
  have e4 : v4 = nI 4 := by rw [e4]; rfl
  have e3 : v3 = nI (f 5 + 3 * f 6) := by rw [e3, ← st, ← hR.1 5 (by decide)]; rfl
  rw [e3, e4]
  refine wX8_standing_7 hX _ _ (b_lt' (by decide) ⟨hd_vn (k := 4) (by decide) (by decide), fun v3 e3 v4 e4 => ?_⟩)
  have e4 : v4 = nI 3 := by rw [e4]; rfl
  have e3 : v3 = nI (f 4 + 3 * (f 5 + 3 * f 6)) := by rw [e3, ← st _ (f 4), ← hR.1 4 (by decide)]; rfl
  rw [e3, e4]
  refine wX8_standing_7 hX _ _ (b_lt' (by decide) ⟨hd_vn (k := 3) (by decide) (by decide), fun v3 e3 v4 e4 => ?_⟩)
  have e4 : v4 = nI 2 := by rw [e4]; rfl
  have e3 : v3 = nI (f 3 + 3 * (f 4 + 3 * (f 5 + 3 * f 6))) := by rw [e3, ← st _ (f 3), ← hR.1 3 (by decide)]; rfl
  rw [e3, e4]
  refine wX8_standing_7 hX _ _ (b_lt' (by decide) ⟨hd_vn (k := 2) (by decide) (by decide), fun v3 e3 v4 e4 => ?_⟩)
  have e4 : v4 = nI 1 := by rw [e4]; rfl
  have e3 : v3 = nI (f 2 + 3 * (f 3 + 3 * (f 4 + 3 * (f 5 + 3 * f 6)))) := by rw [e3, ← st _ (f 2), ← hR.1 2 (by decide)]; rfl
  rw [e3, e4]
  refine wX8_standing_7 hX _ _ (b_lt' (by decide) ⟨hd_vn (k := 1) (by decide) (by decide), fun v3 e3 v4 e4 => ?_⟩)
  have e4 : v4 = nI 0 := by rw [e4]; rfl
  have e3 : v3 = nI (f 1 + 3 * (f 2 + 3 * (f 3 + 3 * (f 4 + 3 * (f 5 + 3 * f 6))))) := by rw [e3, ← st _ (f 1), ← hR.1 1 (by decide)]; rfl
  rw [e3, e4]
  refine wX8_standing_7 hX _ _ (b_lt' (by decide) ⟨hd_vn (k := 0) (by decide) (by decide), fun v3 e3 v4 e4 => ?_⟩)
  have e4 : v4 = -1 := by rw [e4]; rfl
  have e3 : v3 = nI (nm f) := by unfold nm; rw [e3, ← st _ (f 0), ← hR.1 0 (by decide)]; rfl
  rw [e3, e4]
  exact wX8_standing_7 hX _ _ (b_lt (by decide) h)
theorem dg_0 (k : Nat) : dg 0 k = 0 := by
  unfold dg
  split <;> simp
theorem sX8_standFirst {G : hd_G} {σ : hd_M} {P : hd_M → Prop} (h : ∀ σ', agR σ σ' → RS σ' (dg 0) → P σ') : EVv G mX8_standFirst SH [.ref 94] σ P := by
  refine wX8_standFirst (fun X hX v1 e1 => ?_)
  have key : ∀ k, k ≤ 6 → ∀ σ1 : hd_M, agR σ σ1 → (∀ j, j < k → σ1.1 103 j = nI 0) → hd_J G mX8_standFirst X SH (0, 0) 2 [(0, .ref 94), (1, .int (nI k))] [] σ1 := by
    refine hd_upto (n := 6) (fun k => ∀ σ1 : hd_M, agR σ σ1 → (∀ j, j < k → σ1.1 103 j = nI 0) → hd_J G mX8_standFirst X SH (0, 0) 2 [(0, .ref 94), (1, .int (nI k))] [] σ1) (fun k hk ih σ1 a1 a2 => ?_)
    refine wX8_standFirst_2 hX _ (c_le 6 (k : Int) rfl rfl (fun h6 s1 e1 => ?_) (fun h6 => ⟨hd_vn (by omega) (by decide), fun s2 e2 v3 e3 => ?_⟩))
    · have hk6 : k = 6 := by omega
      subst hk6
      rw [e1]
      refine h _ (agR_27 a1) ⟨fun j hj => by rw [wI_ne (by decide), dg_0]; exact a2 j hj, ?_, dg_o7 (by decide)⟩
      rw [wI_eq, if_pos rfl, dg_0]
      rfl
    · rw [nI_clamp (by omega)] at e2
      rw [e2, e3, nI_1]
      refine ih (by omega) _ (agR_w a1 (by decide)) (fun j hj => ?_)
      rw [wI_eq]
      split
      · rfl
      · exact a2 j (by omega)
  rw [e1]
  exact key 0 (by decide) σ agR_rf (fun j hj => by omega)
/-- where the reference's desk stands -/
def PL (σ : hd_M) (n v : Nat) : Prop := v < 2187 ∧ (∀ p, p < n → σ.1 95 (20 + p) = nI (dg v p)) ∧ (∀ p, n ≤ p → p < 6 → dg v p = 0) ∧ σ.1 95 26 = nI (dg v 6)
theorem sX8_standNow {G : hd_G} {σ : hd_M} {P : hd_M → Prop} {n v : Nat} {sz : Nat → Nat} (hS : SR σ n sz) (hP : PL σ n v) (h : ∀ σ', agR σ σ' → RS σ' (dg v) → P σ') : EVv G mX8_standNow SH [.ref 94] σ P := by
  refine wX8_standNow (fun X hX v1 e1 => ?_)
  have key : ∀ k, k ≤ 6 → ∀ σ1 : hd_M, agR σ σ1 → (∀ j, j < k → σ1.1 103 j = nI (dg v j)) → hd_J G mX8_standNow X SH (0, 0) 2 [(0, .ref 94), (1, .int (nI k))] [] σ1 := by
    refine hd_upto (n := 6) (fun k => ∀ σ1 : hd_M, agR σ σ1 → (∀ j, j < k → σ1.1 103 j = nI (dg v j)) → hd_J G mX8_standNow X SH (0, 0) 2 [(0, .ref 94), (1, .int (nI k))] [] σ1) (fun k hk ih σ1 a1 a2 => ?_)
    have h95 : σ1.1 95 = σ.1 95 := agR_c a1 (by decide)
    refine wX8_standNow_2 hX _ (c_le 6 (k : Int) rfl rfl (fun h6 => ⟨pk_in 26 334 (by decide), fun s1 e1 => ?_⟩) (fun h6 => sX8_isPart (z := (k : Int)) (SR_R hS a1) (by omega) ?_))
    · have hk6 : k = 6 := by omega
      subst hk6
      rw [h95, show (26 : Int32).toNatClampNeg = 26 from rfl, hP.2.2.2] at e1
      rw [e1]
      refine h _ (agR_27 a1) ⟨fun j hj => by rw [wI_ne (by decide)]; exact a2 j hj, ?_, dg_o7 hP.1⟩
      rw [wI_eq, if_pos rfl]
    · have nx : ∀ s4 : hd_M, s4 = hd_wI σ1 103 (nI k).toNatClampNeg (nI (dg v k)) → ∀ v5 : Int32, v5 = nI k + 1 → hd_J G mX8_standNow X SH (0, 0) 2 [(0, .ref 94), (1, .int v5)] [] s4 := by
        intro s4 e4 v5 e5
        rw [nI_clamp (by omega)] at e4
        rw [e4, e5, nI_1]
        refine ih (by omega) _ (agR_w a1 (by decide)) (fun j hj => ?_)
        rw [wI_eq]
        by_cases hjk : j = k
        · rw [if_pos hjk, hjk]
        · rw [if_neg hjk]
          exact a2 j (by omega)
      by_cases hkn : k < n
      · rw [decide_eq_true (by omega)]
        refine b_eq' (by decide) ⟨?_, hd_vn (by omega) (by decide), fun s6 e6 => nx s6 ?_⟩
        · rw [show (20 : Int32) = nI 20 from rfl, nI_add]
          exact hd_vn (by omega) (by decide)
        · rw [e6, h95, show (20 : Int32) = nI 20 from rfl, nI_add, nI_clamp (n := 20 + k) (by omega), hP.2.1 k hkn]
      · rw [decide_eq_false (by omega)]
        refine b_eq (by decide) ⟨hd_vn (by omega) (by decide), fun s4 e4 => nx s4 ?_⟩
        rw [e4, hP.2.2.1 k (by omega) (by omega)]
        rfl
  rw [e1]
  exact key 0 (by decide) σ agR_rf (fun j hj => by omega)
/-! the ball -/
theorem sX8_isStopped {G : hd_G} {σ : hd_M} {P : Int32 → hd_M → Prop} {x : Int32} {f : Nat → Nat} {at' : Int} {K : List (Nat → Nat)} {cd : List Nat} (hx : σ.1 95 2 = x) (hT : TX σ x K cd) (hL : LWok (LWof K cd)) (hR : RS σ f) (hat : cl_m at') (h : ∀ σ', agR σ σ' → RS σ' f → P (zI (cl_bit (spM (LWof K cd) f at'))) σ') : EVi G mX8_isStopped SH [.ref 94, .int (zI at')] σ P := by
  refine wX8_isStopped _ (sX8_name (on := 0) (part := -1) (at' := at') hR ⟨by decide, by decide⟩ ⟨by decide, by decide⟩ hat (fun s1 a1 n1 => ⟨pk_in 2 334 (by decide), ?_⟩))
  have a1' : agR σ s1 := agR_ag (ag_mo a1 (fun k hk => by simp at hk ⊢; omega))
  rw [show (2 : Int32).toNatClampNeg = 2 from rfl, agR_c a1' (by decide), hx]
  refine sX8_isSo (r := 8) (s := 5) (p := 0) (d := false) (Or.inr (Or.inr ⟨rfl, rfl⟩)) (by decide) (TX_R hT a1') hL n1 (fun σ' f' => ⟨cl_bit_i _, ?_⟩)
  exact h σ' (agR_tr a1' (agR_wk f')) (RS_ag (RS_ag hR (ag_mo a1 (fun k hk => by simp at hk ⊢; omega))) (wk100 f'))
theorem agR_95 {σ s : hd_M} {i : Nat} {x y : Int32} (h : agR (hd_wI σ 95 i x) s) : agR (hd_wI σ 95 i y) (hd_wI s 95 i y) := by
  refine ⟨fun k hk => ?_, fun k hk => ?_⟩
  · have h1 := h.1 k hk
    by_cases h95 : k = 95
    · subst h95
      refine ⟨?_, h1.2⟩
      funext j
      rw [wI_eq, wI_eq]
      by_cases hj : j = i
      · rw [if_pos hj, if_pos hj]
      · rw [if_neg hj, if_neg hj, h1.1, wI_eq, if_neg hj]
    · rw [wI_ne h95, wI_ne h95]
      rw [wI_ne h95] at h1
      exact h1
  · rw [wI_ne (by decide), wI_ne (by decide)]
    have := h.2 k hk
    rwa [wI_ne (by decide)] at this
theorem RS_95 {σ : hd_M} {i : Nat} {x : Int32} {f : Nat → Nat} (h : RS σ f) : RS (hd_wI σ 95 i x) f := RS_cg h (by rw [wI_ne (by decide)]) (by rw [wI_ne (by decide)])
theorem wI_self {σ : hd_M} {q i : Nat} : hd_wI σ q i (σ.1 q i) = σ := by
  unfold hd_wI
  refine Prod.ext ?_ rfl
  funext a
  by_cases h : a = q
  · subst h
    simp only [va_up, if_true]
    funext j
    by_cases h2 : j = i
    · subst h2; simp [va_up]
    · simp [va_up, h2]
  · simp [va_up, h]
theorem sX8_roll {G : hd_G} {σ : hd_M} {P : hd_M → Prop} {x : Int32} {f : Nat → Nat} {b : Int} {K : List (Nat → Nat)} {cd : List Nat} (hx : σ.1 95 2 = x) (hT : TX σ x K cd) (hL : LWok (LWof K cd)) (hR : RS σ f) (h26 : σ.1 95 26 = nI (f 6)) (h27 : σ.1 95 27 = zI b) (hb : 0 ≤ b ∧ b ≤ 9) (h : ∀ σ', agR (hd_wI σ 95 27 (zI (ballM (LWof K cd) f b))) σ' → P σ') : EVv G mX8_roll SH [.ref 94] σ P := by
  have key : ∀ (X : hd_X), hd_CX G mX8_roll X (hd_Zv P) SH (0, 0) → ∀ (way : Int), way = -1 ∨ way = 1 → ∀ (n : Nat) (c : Int) (s : hd_M), (way = 1 → 9 - c ≤ n) → (way = -1 → c ≤ n) → 0 ≤ c ∧ c ≤ 9 → agR (hd_wI σ 95 27 (zI c)) s → RS s f → (∀ σ', agR (hd_wI σ 95 27 (zI (rollM (LWof K cd) f way n c))) σ' → P σ') → hd_J G mX8_roll X SH (0, 0) 32 [(0, .ref 94), (1, .int (zI way))] [] s := by
    intro X hX way hway n
    induction n with
    | zero =>
      intro c s n1 n2 hc hs hr hp
      have wz : ¬ zI way = 0 := by rcases hway with rfl | rfl <;> decide
      have h27s : s.1 95 27 = zI c := by rw [agR_c hs (by decide), wI_eq, if_pos rfl]
      refine wX8_roll_32 hX _ (b_eq' wz ⟨pk_in 27 334 (by decide), ?_⟩)
      rw [show (27 : Int32).toNatClampNeg = 27 from rfl, h27s, zI_add]
      refine sX8_isIn (a := 0) (b := 9) (by omega) (by omega) (by omega) ?_
      rw [decide_eq_false (by omega)]
      exact b_eq (by decide) (hp s hs)
    | succ n ih =>
      intro c s n1 n2 hc hs hr hp
      have wz : ¬ zI way = 0 := by rcases hway with rfl | rfl <;> decide
      have h27s : s.1 95 27 = zI c := by rw [agR_c hs (by decide), wI_eq, if_pos rfl]
      have h2s : s.1 95 2 = x := by rw [agR_c hs (by decide), wI_eq, if_neg (by decide)]; exact hx
      have ts : TX s x K cd := TX_R (TX_cg hT (by rw [wI_ne (by decide)])) hs
      refine wX8_roll_32 hX _ (b_eq' wz ⟨pk_in 27 334 (by decide), ?_⟩)
      rw [show (27 : Int32).toNatClampNeg = 27 from rfl, h27s, zI_add]
      refine sX8_isIn (a := 0) (b := 9) (by omega) (by omega) (by omega) ?_
      have stop : ¬ (0 ≤ c + way ∧ c + way ≤ 9 ∧ spM (LWof K cd) f (c + way) = false) → ∀ σ', agR (hd_wI σ 95 27 (zI c)) σ' → P σ' := by
        intro hn σ' x1
        refine hp σ' ?_
        unfold rollM
        rw [if_neg hn]
        exact x1
      by_cases hin : 0 ≤ c + way ∧ c + way ≤ 9
      · rw [decide_eq_true hin]
        refine b_eq' (by decide) ⟨pk_in 27 334 (by decide), ?_⟩
        rw [h27s, zI_add]
        refine sX8_isStopped h2s ts hL hr ⟨by omega, by omega⟩ (fun s3 a3 r3 => ?_)
        have s3a := agR_tr hs a3
        cases hsp : spM (LWof K cd) f (c + way) with
        | true => exact b_ne (by decide) (stop (fun z => by rw [hsp] at z; cases z.2.2) s3 s3a)
        | false =>
          have h27t : s3.1 95 27 = zI c := by rw [agR_c s3a (by decide), wI_eq, if_pos rfl]
          refine b_ne' (by decide) ⟨pk_in 27 334 (by decide), pk_in 27 334 (by decide), fun s5 e5 => ?_⟩
          rw [h27t, zI_add] at e5
          rw [e5]
          refine ih (c + way) _ (by omega) (by omega) hin (agR_95 s3a) (RS_95 r3) (fun σ' x1 => hp σ' ?_)
          unfold rollM
          rw [if_pos ⟨hin.1, hin.2, hsp⟩]
          exact x1
      · rw [decide_eq_false hin]
        exact b_eq (by decide) (stop (fun z => hin ⟨z.1, z.2.1⟩) s hs)
  have h0 : agR (hd_wI σ 95 27 (zI b)) σ := by
    rw [← h27, wI_self]
    exact agR_rf
  have f6 := hR.2.2 6 (by decide)
  refine wX8_roll (fun X hX => ⟨pk_in 26 334 (by decide), ?_⟩)
  rw [show (26 : Int32).toNatClampNeg = 26 from rfl, h26]
  unfold ballM wayM at h
  refine c_ne (f 6 : Int) 1 rfl rfl (fun hne => ⟨pk_in 26 334 (by decide), c_ne (f 6 : Int) 2 rfl rfl (fun hne2 v1 e1 => ?_) (fun he v1 e1 => ?_)⟩) (fun he v1 e1 => ?_)
  · rw [e1]
    rw [if_pos (by omega : f 6 = 0), if_pos rfl] at h
    exact wX8_roll_32 hX _ (b_eq rfl (h σ h0))
  · rw [e1]
    rw [if_neg (by omega : ¬ f 6 = 0), if_neg (by omega : ¬ f 6 = 1), if_neg (by decide)] at h
    exact key X hX 1 (Or.inr rfl) 9 b σ (fun _ => by omega) (fun z => by omega) hb h0 hR h
  · rw [e1]
    rw [if_neg (by omega : ¬ f 6 = 0), if_pos (by omega : f 6 = 1), if_neg (by decide)] at h
    exact key X hX (-1) (Or.inl rfl) 9 b σ (fun z => by omega) (fun _ => by omega) hb h0 hR h
