/-! for ever, the reference -/
def ew : List Nat := [94, 100, 101, 102, 103, 104, 111, 112, 113, 114]
def agE (σ σ' : hd_M) : Prop := ag ew σ σ' ∧ ∀ k, k ≠ 27 → σ'.1 94 k = σ.1 94 k
theorem agE_rf {σ : hd_M} : agE σ σ := ⟨ag_rf, fun _ _ => rfl⟩
theorem agE_tr {σ σ' σ'' : hd_M} (h : agE σ σ') (h' : agE σ' σ'') : agE σ σ'' := ⟨ag_tr h.1 h'.1, fun k a => (h'.2 k a).trans (h.2 k a)⟩
theorem agE_R {σ σ' : hd_M} (h : agR σ σ') : agE σ σ' := ⟨ag_mo h.1 (fun k hk => by simp [ew] at hk ⊢; omega), h.2⟩
theorem agE_w {σ σ' : hd_M} {q i : Nat} {x : Int32} (h : agE σ σ') (hq : 111 ≤ q ∧ q ≤ 114) : agE σ (hd_wI σ' q i x) := ⟨ag_wI h.1 (by simp [ew]; omega), fun k hk => by rw [wI_ne (by omega)]; exact h.2 k hk⟩
theorem agE_c {σ σ' : hd_M} (h : agE σ σ') {k : Nat} (hk : k ∉ ew) : σ'.1 k = σ.1 k := (h.1 k hk).1
theorem RREL_E {σ σ' : hd_M} {M : MM} (h : RREL σ M) (ha : agE σ σ') : RREL σ' M := by
  obtain ⟨h1, h2, h3, h4, h5⟩ := h
  refine ⟨?_, ?_, rDesk_cg h3 (agE_c ha (by decide)), rDesk_cg h4 (agE_c ha (by decide)), rTexts_cg h5 (agE_c ha (by decide))⟩
  · unfold rTape
    rw [ha.2 4 (by decide), agE_c ha (k := 98) (by decide)]
    exact h1
  · rw [ha.2 5 (by decide), ha.2 6 (by decide)]
    exact h2
theorem TL_E {σ σ' : hd_M} {x : Int32} {L : LW} (h : TL σ x L) (ha : agE σ σ') : TL σ' x L := by
  obtain ⟨K, cd, h1, h2⟩ := h
  exact ⟨K, cd, TX_cg h1 (agE_c ha (by decide)), h2⟩
theorem SR_E {σ σ' : hd_M} {n : Nat} {sz : Nat → Nat} (h : SR σ n sz) (ha : agE σ σ') : SR σ' n sz := SR_cg h (agE_c ha (by decide))
/-- reached rows -/
def eQ (σ : hd_M) (L : LW) (sz : Nat → Nat) (Q : List Nat) (rk : Nat → Nat) (J : Nat) : Prop := (∀ k, k < Q.length → σ.1 114 k = nI (Q.getD k 0) ∧ Q.getD k 0 < 2187 ∧ rk (Q.getD k 0) ≠ 0) ∧ (∀ w, w < 2187 → σ.1 111 w = nI (rk w) ∧ rk w ≤ 1) ∧ (∀ w, w < 2187 → rk w ≠ 0 → ∃ k, k < Q.length ∧ Q.getD k 0 = w) ∧ cntN rk 2187 = Q.length ∧ ∀ j, j < J → σ.1 113 (15 * Q.getD (j / 15) 0 + j % 15) = nI (mkM L sz (Q.getD (j / 15) 0) (j % 15)) ∧ rk (mkM L sz (Q.getD (j / 15) 0) (j % 15)) ≠ 0
theorem eQ_cg {σ σ' : hd_M} {L : LW} {sz : Nat → Nat} {Q : List Nat} {rk : Nat → Nat} {J : Nat} (h : eQ σ L sz Q rk J) (h1 : σ'.1 111 = σ.1 111) (h3 : σ'.1 113 = σ.1 113) (h4 : σ'.1 114 = σ.1 114) : eQ σ' L sz Q rk J := by
  unfold eQ
  rw [h1, h3, h4]
  exact h
theorem sX8_reachAll {G : hd_G} {σ : hd_M} {P : Int32 → hd_M → Prop} {n v : Nat} {x : Int32} {L : LW} {sz : Nat → Nat} (hx : σ.1 95 2 = x) (hT : TL σ x L) (hS : SR σ n sz) (hv : v < 2187) (h : ∀ σ' Q rk, agE σ σ' → eQ σ' L sz Q rk (15 * Q.length) → rk v ≠ 0 → P (nI Q.length) σ') : EVi G mX8_reachAll SH [.ref 94, .int (nI v)] σ P := by
  have hsz := SR_sz hS
  have hL : LWok L := by obtain ⟨K, cd, a, b, c, d⟩ := hT; exact d
  refine wX8_reachAll _ (fun X hX v1 e1 => ?_)
  have loop : ∀ (N k : Nat) (s : hd_M) (Q : List Nat) (rk : Nat → Nat), 2187 ≤ k + N → k ≤ Q.length → agE σ s → eQ s L sz Q rk (15 * k) → rk v ≠ 0 → hd_J G mX8_reachAll X SH (0, 0) 40 [(0, .ref 94), (2, .int (nI Q.length)), (3, .int (nI k))] [] s := by
    intro N
    induction N with
    | zero =>
      intro k s Q rk hN hk a E rv
      have hQ : Q.length ≤ 2187 := by rw [← E.2.2.2.1]; exact cntN_le _ _
      have : k = Q.length := by omega
      subst this
      exact wX8_reachAll_40 hX _ _ (b_le (Int32.le_refl _) (h s Q rk a E rv))
    | succ N ih =>
      intro k s Q rk hN hk a E rv
      have hQ : Q.length ≤ 2187 := by rw [← E.2.2.2.1]; exact cntN_le _ _
      refine wX8_reachAll_40 hX _ _ (c_le (Q.length : Int) (k : Int) rfl rfl (fun z => ?_) (fun z => fun v1 e1 => ?_))
      · have : k = Q.length := by omega
        subst this
        exact h s Q rk a E rv
      · have inner : ∀ (m act : Nat) (s : hd_M) (Q : List Nat) (rk : Nat → Nat), act + m = 15 → k < Q.length → agE σ s → eQ s L sz Q rk (15 * k + act) → rk v ≠ 0 → hd_J G mX8_reachAll X SH (0, 0) 48 [(0, .ref 94), (2, .int (nI Q.length)), (3, .int (nI k)), (4, .int (nI act))] [] s := by
          intro m
          induction m with
          | zero =>
            intro act s Q rk hact hkQ a E rv
            refine wX8_reachAll_48 hX _ _ _ (b_le (nI_le (a := 15) (by omega) (by omega)) (fun v1 e1 => ?_))
            rw [e1, nI_1]
            have e : 15 * (k + 1) = 15 * k + act := by omega
            exact ih (k + 1) s Q rk (by omega) (by omega) a (by rw [e]; exact E) rv
          | succ m ihm =>
            intro act s Q rk hact hkQ a E rv
            have hQ : Q.length ≤ 2187 := by rw [← E.2.2.2.1]; exact cntN_le _ _
            have hact2 : act < 15 := by omega
            have ek := E.1 k hkQ
            generalize hu : Q.getD k 0 = u at ek
            have hw7 : mkM L sz u act < 2187 := mkM_lt hL hsz ek.2.1 hact2
            refine wX8_reachAll_48 hX _ _ _ (b_le' (nI_lt (b := 15) hact2 (by decide)) ⟨pk_in 2 334 (by decide), hd_vn (by omega) (by decide), ?_⟩)
            rw [show (2 : Int32).toNatClampNeg = 2 from rfl, agE_c a (k := 95) (by decide), hx, nI_clamp (show k < 2 ^ 31 by omega), ek.1]
            refine sX8_made (TL_E hT a) (SR_E hS a) ek.2.1 hact2 (fun s2 a2 v4 e4 => ?_)
            have r2 : ∀ k, 105 ≤ k → s2.1 k = s.1 k := fun k hk => agR_c a2 (by simp; omega)
            rw [r2 114 (by decide), ek.1, e4, show (15 : Int32) * nI u + nI act = nI (15 * u + act) by rw [show (15 : Int32) = nI 15 from rfl, pk_mul, nI_add], nI_clamp (show 15 * u + act < 2 ^ 31 by omega), nI_clamp (show mkM L sz u act < 2 ^ 31 by omega)]
            refine ⟨hd_vn (by omega) (by decide), hd_vn (by omega) (by decide), fun s5 e5 => ⟨hd_vn hw7 (by decide), ?_⟩⟩
            have a5 : agE σ s5 := by rw [e5]; exact agE_w (agE_tr a (agE_R a2)) (by decide)
            have c5 : ∀ k, 105 ≤ k → k ≠ 113 → s5.1 k = s.1 k := fun k h1 h2 => by rw [e5, wI_ne h2, r2 k h1]
            have w5 : ∀ e, s5.1 113 e = if e = 15 * u + act then nI (mkM L sz u act) else s.1 113 e := fun e => by rw [e5, wI_eq, r2 113 (by decide)]
            have hj15 : (15 * k + act) / 15 = k := by omega
            have hjm : (15 * k + act) % 15 = act := by omega
            have old : ∀ j, j < 15 * k + act → s5.1 113 (15 * Q.getD (j / 15) 0 + j % 15) = nI (mkM L sz (Q.getD (j / 15) 0) (j % 15)) := fun j hj => by
              have hjj : j % 15 < 15 := Nat.mod_lt _ (by decide)
              rw [w5]
              by_cases q : 15 * Q.getD (j / 15) 0 + j % 15 = 15 * u + act
              · rw [if_pos q, show Q.getD (j / 15) 0 = u by omega, show j % 15 = act by omega]
              · rw [if_neg q]
                exact (E.2.2.2.2 j hj).1
            have new : s5.1 113 (15 * Q.getD ((15 * k + act) / 15) 0 + (15 * k + act) % 15) = nI (mkM L sz (Q.getD ((15 * k + act) / 15) 0) ((15 * k + act) % 15)) := by rw [hj15, hjm, hu, w5, if_pos rfl]
            rw [c5 111 (by decide) (by decide), (E.2.1 _ hw7).1]
            refine c_eq (rk (mkM L sz u act) : Int) 0 rfl rfl (fun z => ⟨hd_vn hw7 (by decide), Or.inr rfl, fun s6 e6 => ⟨?_, fun s7 e7 v8 e8 v9 e9 => ?_⟩⟩) (fun z => fun v10 e10 => ?_) (by have := (E.2.1 _ hw7).2; omega)
            · have z : rk (mkM L sz u act) = 0 := by omega
              have : Q.length < 2187 := by rw [← E.2.2.2.1]; exact cntN_lt hw7 z
              exact hd_vn this (by decide)
            · have z : rk (mkM L sz u act) = 0 := by omega
              have hQl : Q.length < 2187 := by rw [← E.2.2.2.1]; exact cntN_lt hw7 z
              rw [nI_clamp (by omega)] at e7
              have um : ∀ x, up rk (mkM L sz u act) 1 x = if x = mkM L sz u act then 1 else rk x := fun _ => rfl
              have un : ∀ x, rk x ≠ 0 → up rk (mkM L sz u act) 1 x ≠ 0 := fun x hx => by
                rw [um]
                split
                · decide
                · exact hx
              rw [e8, e9, nI_1, nI_1]
              have c7 : s7.1 113 = s5.1 113 := by rw [e7, wI_ne (by decide), e6, wI_ne (by decide)]
              have gk : ∀ j, j < 15 * k + (act + 1) → (Q ++ [mkM L sz u act]).getD (j / 15) 0 = Q.getD (j / 15) 0 := fun j hj => getD_app1 (by omega)
              have := ihm (act + 1) s7 (Q ++ [mkM L sz u act]) (up rk (mkM L sz u act) 1) (by omega) (by simp; omega) (by rw [e7, e6]; exact agE_w (agE_w a5 (by decide)) (by decide)) ⟨fun j hj => ?_, fun w hw => ?_, fun w hw hw2 => ?_, ?_, fun j hj => ?_⟩ (un v rv)
              · rw [List.length_append, List.length_singleton] at this
                exact this
              · simp only [List.length_append, List.length_singleton] at hj
                rw [e7, wI_eq, e6, wI_ne (by decide), c5 114 (by decide) (by decide)]
                by_cases q : j = Q.length
                · rw [if_pos q, q, getD_app2]
                  exact ⟨rfl, hw7, by rw [um, if_pos rfl]; decide⟩
                · rw [if_neg q, getD_app1 (show j < Q.length by omega)]
                  have ej := E.1 j (by omega)
                  exact ⟨ej.1, ej.2.1, un _ ej.2.2⟩
              · rw [e7, wI_ne (by decide), e6, wI_eq, um, c5 111 (by decide) (by decide)]
                by_cases q : w = mkM L sz u act
                · rw [if_pos q, if_pos q]
                  exact ⟨rfl, Nat.le_refl _⟩
                · rw [if_neg q, if_neg q]
                  exact E.2.1 w hw
              · rw [um] at hw2
                by_cases q : w = mkM L sz u act
                · exact ⟨Q.length, by simp, by rw [getD_app2, q]⟩
                · rw [if_neg q] at hw2
                  obtain ⟨j, j1, j2⟩ := E.2.2.1 w hw hw2
                  exact ⟨j, by simp; omega, by rw [getD_app1 j1]; exact j2⟩
              · rw [cntN_set z (by decide) hw7, E.2.2.2.1]
                simp
              · rw [gk j hj, c7]
                by_cases q : j = 15 * k + act
                · rw [q]
                  refine ⟨new, ?_⟩
                  rw [hj15, hjm, hu, um, if_pos rfl]
                  decide
                · exact ⟨old j (by omega), un _ (E.2.2.2.2 j (by omega)).2⟩
            · rw [e10, nI_1]
              refine ihm (act + 1) s5 Q rk (by omega) hkQ a5 ⟨fun j hj => by rw [c5 114 (by decide) (by decide)]; exact E.1 j hj, fun w hw => by rw [c5 111 (by decide) (by decide)]; exact E.2.1 w hw, E.2.2.1, E.2.2.2.1, fun j hj => ?_⟩ rv
              by_cases q : j = 15 * k + act
              · rw [q]
                refine ⟨new, ?_⟩
                rw [hj15, hjm, hu]
                omega
              · exact ⟨old j (by omega), (E.2.2.2.2 j (by omega)).2⟩
        rw [e1]
        exact inner 15 0 s Q rk rfl (by omega) a E rv
  have start : ∀ k, k ≤ 2187 → ∀ s, agE σ s → (∀ w, w < k → s.1 111 w = 0) → hd_J G mX8_reachAll X SH (0, 0) 2 [(0, .ref 94), (1, .int (nI v)), (2, .int (nI k))] [] s := by
    refine hd_upto (n := 2187) (fun k => ∀ s, agE σ s → (∀ w, w < k → s.1 111 w = 0) → hd_J G mX8_reachAll X SH (0, 0) 2 [(0, .ref 94), (1, .int (nI v)), (2, .int (nI k))] [] s) (fun k hk ih s a hz => ?_)
    refine wX8_reachAll_2 hX _ _ (c_le 2187 (k : Int) rfl rfl (fun z => fun v1 e1 => ⟨pk_in 0 2187 (by decide), fun s2 e2 => ⟨hd_vn hv (by decide), Or.inr rfl, fun s3 e3 v4 e4 => ?_⟩⟩) (fun z => ⟨hd_vn (by omega) (by decide), Or.inl rfl, fun s5 e5 v6 e6 => ?_⟩))
    · have k7 : k = 2187 := by omega
      subst k7
      have e2 : s2 = hd_wI s 114 0 (nI v) := e2
      rw [nI_clamp (by omega)] at e3
      have um : ∀ x, up (fun _ => 0) v 1 x = if x = v then 1 else 0 := fun _ => rfl
      rw [e1, e4]
      refine loop 2187 0 s3 [v] (up (fun _ => 0) v 1) (by omega) (by omega) (by rw [e3, e2]; exact agE_w (agE_w a (by decide)) (by decide)) ⟨fun j hj => ?_, fun w hw => ?_, fun w hw hw2 => ?_, ?_, fun j hj => absurd hj (by omega)⟩ (by rw [um, if_pos rfl]; decide)
      · have hj : j < 1 := hj
        have : j = 0 := by omega
        subst this
        rw [e3, wI_ne (by decide), e2, wI_eq, if_pos rfl]
        exact ⟨rfl, hv, by show up (fun _ => 0) v 1 v ≠ 0; rw [um, if_pos rfl]; decide⟩
      · rw [e3, wI_eq, um]
        by_cases q : w = v
        · rw [if_pos q, if_pos q]
          exact ⟨rfl, Nat.le_refl _⟩
        · rw [if_neg q, if_neg q, e2, wI_ne (by decide), hz w hw]
          exact ⟨rfl, by omega⟩
      · rw [um] at hw2
        by_cases q : w = v
        · exact ⟨0, by simp, by rw [q]; rfl⟩
        · rw [if_neg q] at hw2
          exact absurd rfl hw2
      · rw [cntN_set rfl (by decide) hv, cntN_0]
        rfl
    · rw [e6, nI_1]
      rw [nI_clamp (by omega)] at e5
      refine ih (by omega) s5 (by rw [e5]; exact agE_w a (by decide)) (fun w hw => ?_)
      rw [e5, wI_eq]
      by_cases q : w = k
      · rw [if_pos q]
      · rw [if_neg q]
        exact hz w (by omega)
  rw [e1]
  exact start 0 (by omega) σ agE_rf (fun w hw => absurd hw (by omega))
