/-! the reference: where its parts stand, what an act does -/
def RS (σ : hd_M) (f : Nat → Nat) : Prop := (∀ k, k < 6 → σ.1 103 k = nI (f k)) ∧ σ.1 94 27 = nI (f 6) ∧ o7 f
/-- the reference's questions leave all as it was, but its own rows and tilted -/
def agR (σ σ' : hd_M) : Prop := ag [94, 100, 101, 102, 103, 104] σ σ' ∧ ∀ k, k ≠ 27 → σ'.1 94 k = σ.1 94 k
theorem agR_rf {σ : hd_M} : agR σ σ := ⟨ag_rf, fun _ _ => rfl⟩
theorem agR_tr {σ σ' σ'' : hd_M} (h : agR σ σ') (h' : agR σ' σ'') : agR σ σ'' := ⟨ag_tr h.1 h'.1, fun k hk => (h'.2 k hk).trans (h.2 k hk)⟩
theorem agR_ag {σ σ' : hd_M} (h : ag [100, 101, 102, 103, 104] σ σ') : agR σ σ' := ⟨ag_mo h (fun k hk => by simp at hk ⊢; omega), fun k _ => by rw [(h 94 (by decide)).1]⟩
theorem agR_w {σ σ' : hd_M} {q i : Nat} {x : Int32} (h : agR σ σ') (hq : q ∈ [100, 102, 103, 104]) : agR σ (hd_wI σ' q i x) := ⟨ag_wI h.1 (by simp at hq ⊢; omega), fun k hk => by rw [wI_ne (by simp at hq; omega)]; exact h.2 k hk⟩
theorem agR_27 {σ σ' : hd_M} {x : Int32} (h : agR σ σ') : agR σ (hd_wI σ' 94 27 x) := ⟨ag_wI h.1 (by decide), fun k hk => by rw [wI_eq, if_neg hk]; exact h.2 k hk⟩
theorem agR_wk {σ σ' : hd_M} (h : wk_fr σ σ') : agR σ σ' := agR_ag (ag_mo (ag_wk h) (fun k hk => by simp at hk ⊢; omega))
theorem agR_c {σ σ' : hd_M} (h : agR σ σ') {k : Nat} (hk : k ∉ [94, 100, 101, 102, 103, 104]) : σ'.1 k = σ.1 k := (h.1 k hk).1
theorem TX_R {σ σ' : hd_M} {x : Int32} {K : List (Nat → Nat)} {cd : List Nat} (h : TX σ x K cd) (ha : agR σ σ') : TX σ' x K cd := TX_cg h (agR_c ha (by decide))
theorem SR_R {σ σ' : hd_M} {n : Nat} {sz : Nat → Nat} (h : SR σ n sz) (ha : agR σ σ') : SR σ' n sz := SR_cg h (agR_c ha (by decide))
theorem RS_cg {σ σ' : hd_M} {f : Nat → Nat} (h : RS σ f) (h1 : σ'.1 103 = σ.1 103) (h2 : σ'.1 94 27 = σ.1 94 27) : RS σ' f := by
  unfold RS
  rw [h1, h2]
  exact h
theorem RS_ag {σ σ' : hd_M} {f : Nat → Nat} (h : RS σ f) (ha : ag [100, 101, 102, 104] σ σ') : RS σ' f := RS_cg h (ha 103 (by decide)).1 (by rw [(ha 94 (by decide)).1])
theorem RS_f {σ : hd_M} {f g : Nat → Nat} (h : RS σ f) (hg : ∀ k, k < 7 → f k = g k) : RS σ g := ⟨fun k hk => by rw [← hg k (by omega)]; exact h.1 k hk, by rw [← hg 6 (by decide)]; exact h.2.1, fun k hk => by rw [← hg k hk]; exact h.2.2 k hk⟩
theorem wk100 {σ σ' : hd_M} (h : wk_fr σ σ') : ag [100, 101, 102, 104] σ σ' := ag_mo (ag_wk h) (fun k hk => by simp at hk ⊢; omega)
theorem RS_set {σ : hd_M} {f : Nat → Nat} {p x : Nat} (h : RS σ f) (hp : p < 6) (hx : x < 3) : RS (hd_wI σ 103 p (nI x)) (up f p x) := by
  refine ⟨fun k hk => ?_, ?_, up_o7 h.2.2 hx⟩
  · rw [wI_eq]
    unfold up
    split
    · rfl
    · exact h.1 k hk
  · rw [wI_ne (by decide), h.2.1]
    unfold up
    rw [if_neg (by omega)]
theorem RS_tilt {σ : hd_M} {f : Nat → Nat} {x : Nat} (h : RS σ f) (hx : x < 3) : RS (hd_wI σ 94 27 (nI x)) (up f 6 x) := by
  refine ⟨fun k hk => ?_, ?_, up_o7 h.2.2 hx⟩
  · rw [wI_ne (by decide), h.1 k hk]
    unfold up
    rw [if_neg (by omega)]
  · rw [wI_eq, if_pos rfl]
    unfold up
    rw [if_pos rfl]
theorem en_m {f : Nat → Nat} {on part at' : Int} (h : o7 f) (h1 : cl_m on) (h2 : cl_m part) (h3 : cl_m at') : ∀ k, k < 10 → cl_m (en f on part at' k) := by
  intro k hk
  unfold en
  split
  · exact nI_m (h k (by assumption))
  · split
    · exact h1
    · split
      · exact h2
      · exact h3
theorem sX8_name {G : hd_G} {σ : hd_M} {P : hd_M → Prop} {f : Nat → Nat} {on part at' : Int} (hR : RS σ f) (h1 : cl_m on) (h2 : cl_m part) (h3 : cl_m at') (h : ∀ σ', ag [100] σ σ' → (∀ k, k < 10 → σ'.1 100 k = zI (en f on part at' k) ∧ cl_m (en f on part at' k)) → P σ') : EVv G mX8_name SH [.ref 94, .int (zI on), .int (zI part), .int (zI at')] σ P := by
  refine wX8_name _ _ _ (fun X hX v1 e1 => ?_)
  have key : ∀ k, k ≤ 6 → ∀ σ1 : hd_M, ag [100] σ σ1 → (∀ j, j < k → σ1.1 100 j = nI (f j)) → hd_J G mX8_name X SH (0, 0) 3 [(0, .ref 94), (1, .int (zI on)), (2, .int (zI part)), (3, .int (zI at')), (4, .int (nI k))] [] σ1 := by
    refine hd_upto (n := 6) (fun k => ∀ σ1 : hd_M, ag [100] σ σ1 → (∀ j, j < k → σ1.1 100 j = nI (f j)) → hd_J G mX8_name X SH (0, 0) 3 [(0, .ref 94), (1, .int (zI on)), (2, .int (zI part)), (3, .int (zI at')), (4, .int (nI k))] [] σ1) (fun k hk ih σ1 a1 a2 => ?_)
    refine wX8_name_3 hX _ _ _ _ (c_le 6 (k : Int) rfl rfl (fun h6 => ?_) (fun h6 => ?_))
    · have hk6 : k = 6 := by omega
      subst hk6
      refine ⟨vl_6, fun s1 e1 => ⟨vl_7, fun s2 e2 => ⟨vl_8, fun s3 e3 => ⟨vl_9, fun s4 e4 => ?_⟩⟩⟩⟩
      rw [e4, e3, e2, e1, k_6, k_7, k_8, k_9]
      refine h _ (ag_wI (ag_wI (ag_wI (ag_wI a1 (by decide)) (by decide)) (by decide)) (by decide)) (fun j hj => ⟨?_, en_m hR.2.2 h1 h2 h3 j hj⟩)
      simp only [wI_eq]
      unfold en
      by_cases j9 : j = 9
      · subst j9; rfl
      · rw [if_neg j9]
        by_cases j8 : j = 8
        · subst j8; rfl
        · rw [if_neg j8]
          by_cases j7 : j = 7
          · subst j7; rfl
          · rw [if_neg j7]
            by_cases j6 : j = 6
            · subst j6
              rw [if_pos rfl, (a1 94 (by decide)).1, hR.2.1]
              rfl
            · rw [if_neg j6, if_pos (by omega), a2 j (by omega)]
              rfl
    · refine ⟨hd_vn (by omega) (by decide), hd_vn (by omega) (by decide), fun s5 e5 v6 e6 => ?_⟩
      rw [nI_clamp (by omega), (a1 103 (by decide)).1, hR.1 k (by omega)] at e5
      rw [e6, nI_1, e5]
      refine ih (by omega) _ (ag_wI a1 (by decide)) (fun j hj => ?_)
      rw [wI_eq]
      split
      · rename_i e; rw [e]
      · exact a2 j (by omega)
  rw [e1]
  exact key 0 (by decide) σ ag_rf (fun j hj => by omega)
theorem sX8_isOpen {G : hd_G} {σ : hd_M} {P : Int32 → hd_M → Prop} {x : Int32} {f : Nat → Nat} {K : List (Nat → Nat)} {cd : List Nat} (hT : TX σ x K cd) (hL : LWok (LWof K cd)) (hR : RS σ f) (h : ∀ σ', agR σ σ' → RS σ' f → P (zI (cl_bit (opM (LWof K cd) f))) σ') : EVi G mX8_isOpen SH [.ref 94, .int x] σ P := by
  refine wX8_isOpen _ (sX8_name (on := 0) (part := -1) (at' := 0) hR ⟨by decide, by decide⟩ ⟨by decide, by decide⟩ ⟨by decide, by decide⟩ (fun s1 a1 n1 => ?_))
  have a1' : agR σ s1 := agR_ag (ag_mo a1 (fun k hk => by simp at hk ⊢; omega))
  refine sX8_isSo (r := 7) (s := 4) (p := 0) (d := false) (Or.inr (Or.inl ⟨rfl, rfl⟩)) (by decide) (TX_R hT a1') hL n1 (fun σ' f' => ⟨cl_bit_i _, ?_⟩)
  exact h σ' (agR_tr a1' (agR_wk f')) (RS_ag (RS_ag hR (ag_mo a1 (fun k hk => by simp at hk ⊢; omega))) (wk100 f'))
theorem sX8_canBe {G : hd_G} {σ : hd_M} {P : Int32 → hd_M → Prop} {x : Int32} {act n : Nat} {f sz : Nat → Nat} {K : List (Nat → Nat)} {cd : List Nat} (hT : TX σ x K cd) (hL : LWok (LWof K cd)) (hS : SR σ n sz) (hR : RS σ f) (ha : act < 15) (h : ∀ σ', agR σ σ' → RS σ' f → P (zI (cl_bit (canM (LWof K cd) sz f act))) σ') : EVi G mX8_canBe SH [.ref 94, .int x, .int (nI act)] σ P := by
  refine wX8_canBe _ _ (c_lt (act : Int) 12 rfl rfl (fun h12 => ⟨by decide, fun v1 e1 => ?_⟩) (fun h12 => ?_))
  · have hd2 : nI act / 2 = nI (act / 2) := pk_div (d := 2) (by omega) (by decide) (by decide)
    have hm2 : nI act - nI act / 2 * 2 = nI (act % 2) := pk_rem (d := 2) (by omega) (by decide) (by decide)
    have hp : act / 2 < 6 := by omega
    have f3 := hR.2.2 (act / 2) (by omega)
    rw [hd2] at e1
    rw [e1, hm2, nI_clamp (by omega), hR.1 _ hp]
    have go : ∀ v2 : Int32, v2 = zI (toP f act) → EVi G mX8_isPlace SH [.ref 94, .int (nI (act / 2)), .int v2] σ (fun y4 s3 => (¬ y4 = 0 → ¬ (2 : Int32) = 0 ∧ (EVv G mX8_name SH [.ref 94, .int (nI (act % 2)), .int (nI (act / 2)), .int 0] s3 (fun s5 => EVi G mX8_isSo SH [.ref 94, .int x, .int 0, .int (nI (act / 2)), .int 1] s5 (fun y7 s6 => (y7 = 0 ∨ y7 = 1) ∧ P y7 s6)))) ∧ (y4 = 0 → ((0 : Int32) = 0 ∨ (0 : Int32) = 1) ∧ P 0 s3)) := by
      intro v2 e2
      rw [e2]
      have hz : -1000 ≤ toP f act ∧ toP f act ≤ 1000 := by unfold toP; split <;> omega
      refine sX8_isPlace hS hp hz ?_
      rw [canM_p (by omega)] at h
      cases hi : isP sz (act / 2) (toP f act) with
      | false =>
        rw [hi] at h
        exact b_ne' (by decide) ⟨Or.inl rfl, h σ agR_rf hR⟩
      | true =>
        rw [hi] at h
        refine b_ne (by decide) ⟨by decide, sX8_name (on := ((act % 2 : Nat) : Int)) (part := ((act / 2 : Nat) : Int)) (at' := 0) hR ⟨by omega, by omega⟩ ⟨by omega, by omega⟩ ⟨by decide, by decide⟩ (fun s1 a1 n1 => ?_)⟩
        have a1' : agR σ s1 := agR_ag (ag_mo a1 (fun k hk => by simp at hk ⊢; omega))
        refine sX8_isSo (r := act / 2) (s := 0) (p := act / 2) (d := true) (Or.inl ⟨hp, rfl, rfl⟩) (by omega) (TX_R hT a1') hL n1 (fun σ' f' => ⟨cl_bit_i _, ?_⟩)
        exact h σ' (agR_tr a1' (agR_wk f')) (RS_ag (RS_ag hR (ag_mo a1 (fun k hk => by simp at hk ⊢; omega))) (wk100 f'))
    refine ⟨hd_vn hp (by decide), by decide, c_ne ((act % 2 : Nat) : Int) 1 rfl rfl (fun hne v2 e2 => go v2 ?_) (fun heq v2 e2 => go v2 ?_)⟩
    · rw [e2, nI_z, show (-1 : Int32) = zI (-1) from rfl, zI_add]
      unfold toP
      rw [if_neg (by omega)]
    · rw [e2, nI_z, show (1 : Int32) = zI 1 from rfl, zI_add]
      unfold toP
      rw [if_pos (by omega)]
  · have f3 := hR.2.2 6 (by decide)
    rw [hR.2.1, show nI act - 12 = nI (act - 12) from pk_sub (b := 12) (by omega)]
    rw [canM_t (by omega)] at h
    refine c_eq (f 6 : Int) ((act - 12 : Nat) : Int) rfl rfl (fun he => ⟨Or.inl rfl, ?_⟩) (fun he => ⟨Or.inr rfl, ?_⟩)
    · have := h σ agR_rf hR
      rwa [decide_eq_false (by omega)] at this
    · have := h σ agR_rf hR
      rwa [decide_eq_true (by omega)] at this
/-- what a clause may hold -/
def KW (K : List (Nat → Nat)) : Prop := ∀ c ∈ K, (c 0 = 0 → c 1 < 6) ∧ (c 0 = 1 → c 1 < 6 ∧ c 2 < 3 ∧ c 3 < 6 ∧ c 4 < 3) ∧ (c 0 = 2 → c 1 < 3 ∧ c 2 < 6 ∧ c 3 < 3) ∧ (c 0 = 6 → c 1 < 15)
theorem sX8_sets {G : hd_G} {σ : hd_M} {P : hd_M → Prop} {n p x : Nat} {f sz : Nat → Nat} (hS : SR σ n sz) (hR : RS σ f) (hp : p < 6) (hx : x < 3) (h : ∀ σ', ag [103] σ σ' → RS σ' (if x < sz p then up f p x else f) → P σ') : EVv G mX8_sets SH [.ref 94, .int (nI p), .int (nI x)] σ P := by
  refine wX8_sets _ _ (sX8_isPlace (z := (x : Int)) hS hp ⟨by omega, by omega⟩ ?_)
  by_cases hl : x < sz p
  · have : isP sz p (x : Int) = true := by unfold isP; simp; omega
    rw [if_pos hl] at h
    rw [this]
    refine b_eq' (by decide) ⟨hd_vn hp (by decide), fun s3 e3 => ?_⟩
    rw [nI_clamp (by omega)] at e3
    rw [e3]
    exact h _ (ag_wI ag_rf (by decide)) (RS_set hR hp hx)
  · have : isP sz p (x : Int) = false := by unfold isP; simp; omega
    rw [if_neg hl] at h
    rw [this]
    exact b_eq (by decide) (h σ ag_rf hR)
