/-! carts -/
def crM (laws : Nat → LW) : Nat → Nat → Nat → MD → MD × Nat
  | 0, _, c, D => (D, c)
  | n + 1, x, c, D => crM laws n ((x * 211 + 91) % 30137) (if (afM (ruM (d_r D) laws) (d_sz D) (d_v D) (12 + x % 3)).isSome = true then c + 1 else c) (mvS (ruM (d_r D) laws) D (12 + x % 3))
theorem crM_ok {laws : Nat → LW} {tp : List Nat} {ft : Int32 × Int32} {D' : MD} : ∀ {n x c : Nat} {D : MD}, mok (tp, ft, D, D', laws) → mok (tp, ft, (crM laws n x c D).1, D', laws)
  | 0, _, _, D, hm => hm
  | n + 1, x, c, D, hm => by
    have hd : dok D := hm.2.1
    have hL : LWok (ruM (d_r D) laws) := ruM_ok hm.2.2.2.2 hd.2.2.2.2.2.1
    exact crM_ok (n := n) (mok_D hm (dok_mvS hd hL (by omega)) (mvS_T _ _ _).1)
theorem cart_x {x : Nat} (hx : x < 100000) : (nI x * 211 + 91) - (nI x * 211 + 91) / 30137 * 30137 = nI ((x * 211 + 91) % 30137) := by
  rw [show (211 : Int32) = nI 211 from rfl, show (91 : Int32) = nI 91 from rfl, show (30137 : Int32) = nI 30137 from rfl, pk_mul, nI_add]
  exact pk_rem (by omega) (by decide) (by decide)
theorem cart_t {x : Nat} (hx : x < 100000) : 12 + (nI x - nI x / 3 * 3) = nI (12 + x % 3) := by
  rw [show nI x - nI x / 3 * 3 = nI (x % 3) from pk_rem (d := 3) (by omega) (by decide) (by decide), show (12 : Int32) = nI 12 from rfl, nI_add]
theorem sX7_carts {G : hd_G} {σ : hd_M} {P : Int32 → hd_M → Prop} {tp : List Nat} {ft : Int32 × Int32} {D D' : MD} {laws : Nat → LW} {a n : Nat} (hC : CREL σ (tp, ft, D, D', laws)) (hm : mok (tp, ft, D, D', laws)) (ha : a ≤ 9999) (hn : 1 ≤ n ∧ n ≤ 99) (h : ∀ σ', fC σ σ' → CREL σ' (tp, ft, (crM laws n (a * 9 + 4) 0 (putSt D (stpM (d_st D) (d_v D, d_b D)))).1, D', laws) → P (nI (crM laws n (a * 9 + 4) 0 (putSt D (stpM (d_st D) (d_v D, d_b D)))).2) σ') : EVi G mX7_carts SH [.ref 0, .int (nI a), .int (nI n)] σ P := by
  have hd : dok D := hm.2.1
  have hcd : cDesk σ 2 D := hC.2.2.1
  refine wX7_carts _ _ (fun X hX => b_lt' (nI_pos' (by omega)) (b_lt' (nI_le (b := 9999) ha (by decide)) (b_lt' (nI_le (a := 1) hn.1 (by omega)) (b_le (nI_le (b := 99) hn.2 (by decide)) ?_))))
  rw [hcd.2.2.1, hcd.2.2.2.1]
  have key : ∀ (m i x c : Nat) (s : hd_M) (E : MD), i + m = n → x < 100000 → c ≤ i → fC σ s → CREL s (tp, ft, E, D', laws) → mok (tp, ft, E, D', laws) → (∀ σ', fC σ σ' → CREL σ' (tp, ft, (crM laws m x c E).1, D', laws) → P (nI (crM laws m x c E).2) σ') → hd_J G mX7_carts X SH (0, 0) 58 [(0, .ref 0), (2, .int (nI n)), (3, .int (nI x)), (4, .int (nI c)), (5, .int (nI i))] [] s := by
    intro m
    induction m with
    | zero =>
      intro i x c s E hi hx hc f C m h
      exact wX7_carts_58 hX _ _ _ _ (b_le (nI_le (by omega) (by omega)) (h s f C))
    | succ m ih =>
      intro i x c s E hi hx hc f C mm h
      have hL : LWok (ruM (d_r E) laws) := ruM_ok mm.2.2.2.2 mm.2.1.2.2.2.2.2.1
      have m2 := mok_D mm (dok_mvS (act := 12 + x % 3) mm.2.1 hL (by omega)) (mvS_T (ruM (d_r E) laws) E (12 + x % 3)).1
      refine wX7_carts_58 hX _ _ _ _ (b_le' (nI_lt (by omega) (by omega)) ⟨by decide, ?_⟩)
      rw [cart_t hx, cart_x hx]
      have h : ∀ σ', fC σ σ' → CREL σ' (tp, ft, (crM laws m ((x * 211 + 91) % 30137) (if (afM (ruM (d_r E) laws) (d_sz E) (d_v E) (12 + x % 3)).isSome = true then c + 1 else c) (mvS (ruM (d_r E) laws) E (12 + x % 3))).1, D', laws) → P (nI (crM laws m ((x * 211 + 91) % 30137) (if (afM (ruM (d_r E) laws) (d_sz E) (d_v E) (12 + x % 3)).isSome = true then c + 1 else c) (mvS (ruM (d_r E) laws) E (12 + x % 3))).2) σ' := h
      refine sX7_move C mm (by omega) (fun s1 f1 C1 => ?_)
      by_cases hnn : afM (ruM (d_r E) laws) (d_sz E) (d_v E) (12 + x % 3) = none
      · rw [haM_none.mpr hnn]
        rw [hnn, if_neg (by decide)] at h
        refine b_eq rfl ⟨by decide, fun v3 e3 v4 e4 => ?_⟩
        rw [e3, e4, nI_1]
        exact ih (i + 1) _ c s1 _ (by omega) (by have := Nat.mod_lt (x * 211 + 91) (show 0 < 30137 by decide); omega) (by omega) (fC_tr f f1) C1 m2 h
      · rw [if_pos (by cases hh : afM (ruM (d_r E) laws) (d_sz E) (d_v E) (12 + x % 3) with
          | none => exact absurd hh hnn
          | some w => rfl)] at h
        refine b_eq' (fun z => hnn (haM_none.mp z)) (fun v5 e5 => ⟨by decide, fun v6 e6 v7 e7 => ?_⟩)
        rw [e5, e6, e7, nI_1, nI_1]
        exact ih (i + 1) _ (c + 1) s1 _ (by omega) (by have := Nat.mod_lt (x * 211 + 91) (show 0 < 30137 by decide); omega) (by omega) (fC_tr f f1) C1 m2 h
  refine sX1_addStep hcd hd.2.2.2.2.2.2.1 (fun s1 c1 c1' d1 v2 e2 v3 e3 v4 e4 => ?_)
  have C1 : CREL s1 (tp, ft, putSt D (stpM (d_st D) (d_v D, d_b D)), D', laws) := CREL_step hC hd.2.2.2.2.1 c1 rfl rfl rfl rfl d1
  rw [e2, e3, e4, show (9 : Int32) = nI 9 from rfl, show (4 : Int32) = nI 4 from rfl, pk_mul, nI_add]
  exact key n 0 (a * 9 + 4) 0 s1 _ (by omega) (by omega) (by omega) (fun k hk => ⟨c1 k (by omega) (by omega) (by omega), by rw [c1']⟩) C1 (mok_D hm (dok_putSt hd) rfl) h
theorem sX8_carts {G : hd_G} {σ : hd_M} {P : Int32 → hd_M → Prop} {tp : List Nat} {ft : Int32 × Int32} {D D' : MD} {laws : Nat → LW} {a n : Nat} (hR : RREL σ (tp, ft, D, D', laws)) (hm : mok (tp, ft, D, D', laws)) (ha : a ≤ 9999) (hn : 1 ≤ n ∧ n ≤ 99) (h : ∀ σ', fR σ σ' → RREL σ' (tp, ft, (crM laws n (a * 9 + 4) 0 (putSt D (stpM (d_st D) (d_v D, d_b D)))).1, D', laws) → P (nI (crM laws n (a * 9 + 4) 0 (putSt D (stpM (d_st D) (d_v D, d_b D)))).2) σ') : EVi G mX8_carts SH [.ref 94, .int (nI a), .int (nI n)] σ P := by
  have hd : dok D := hm.2.1
  have hrd : rDesk σ 95 D := hR.2.2.1
  refine wX8_carts _ _ (fun X hX => sX8_isInG _ _ _ ?_)
  rw [decide_eq_true ⟨nI_pos' (by omega), nI_le (b := 9999) ha (by decide)⟩]
  refine b_eq' (by decide) (sX8_isInG _ _ _ ?_)
  rw [decide_eq_true ⟨nI_le (a := 1) hn.1 (by omega), nI_le (b := 99) hn.2 (by decide)⟩]
  refine b_ne (by decide) ?_
  have key : ∀ (m i x c : Nat) (s : hd_M) (E : MD), i + m = n → x < 100000 → c ≤ i → fR σ s → RREL s (tp, ft, E, D', laws) → mok (tp, ft, E, D', laws) → (∀ σ', fR σ σ' → RREL σ' (tp, ft, (crM laws m x c E).1, D', laws) → P (nI (crM laws m x c E).2) σ') → hd_J G mX8_carts X SH (0, 0) 40 [(0, .ref 94), (2, .int (nI n)), (3, .int (nI x)), (4, .int (nI c)), (5, .int (nI i))] [] s := by
    intro m
    induction m with
    | zero =>
      intro i x c s E hi hx hc f C m h
      exact wX8_carts_40 hX _ _ _ _ (b_le (nI_le (by omega) (by omega)) (h s f C))
    | succ m ih =>
      intro i x c s E hi hx hc f C mm h
      have hL : LWok (ruM (d_r E) laws) := ruM_ok mm.2.2.2.2 mm.2.1.2.2.2.2.2.1
      have m2 := mok_D mm (dok_mvS (act := 12 + x % 3) mm.2.1 hL (by omega)) (mvS_T (ruM (d_r E) laws) E (12 + x % 3)).1
      refine wX8_carts_40 hX _ _ _ _ (b_le' (nI_lt (by omega) (by omega)) ⟨by decide, ?_⟩)
      rw [cart_t hx, cart_x hx]
      have h : ∀ σ', fR σ σ' → RREL σ' (tp, ft, (crM laws m ((x * 211 + 91) % 30137) (if (afM (ruM (d_r E) laws) (d_sz E) (d_v E) (12 + x % 3)).isSome = true then c + 1 else c) (mvS (ruM (d_r E) laws) E (12 + x % 3))).1, D', laws) → P (nI (crM laws m ((x * 211 + 91) % 30137) (if (afM (ruM (d_r E) laws) (d_sz E) (d_v E) (12 + x % 3)).isSome = true then c + 1 else c) (mvS (ruM (d_r E) laws) E (12 + x % 3))).2) σ' := h
      refine sX8_doNow C mm (by omega) (fun s1 f1 C1 => ?_)
      by_cases hnn : afM (ruM (d_r E) laws) (d_sz E) (d_v E) (12 + x % 3) = none
      · rw [haM_none.mpr hnn]
        rw [hnn, if_neg (by decide)] at h
        refine b_lt (by decide) (fun v3 e3 => ⟨by decide, fun v4 e4 v5 e5 => ?_⟩)
        rw [e3, e4, e5, nI_1, show nI c + 0 = nI c from nI_add c 0]
        exact ih (i + 1) _ c s1 _ (by omega) (by have := Nat.mod_lt (x * 211 + 91) (show 0 < 30137 by decide); omega) (by omega) (fR_tr f f1) C1 m2 h
      · rw [if_pos (by cases hh : afM (ruM (d_r E) laws) (d_sz E) (d_v E) (12 + x % 3) with
          | none => exact absurd hh hnn
          | some w => rfl)] at h
        refine b_lt' (haM_nn hnn) (fun v5 e5 => ⟨by decide, fun v6 e6 v7 e7 => ?_⟩)
        rw [e5, e6, e7, nI_1, nI_1]
        exact ih (i + 1) _ (c + 1) s1 _ (by omega) (by have := Nat.mod_lt (x * 211 + 91) (show 0 < 30137 by decide); omega) (by omega) (fR_tr f f1) C1 m2 h
  refine sX8_keep hrd hd (fun s5 a5 d5 v6 e6 v7 e7 v8 e8 => ?_)
  have R5 := RREL_95 (D1 := putSt D (stpM (d_st D) (d_v D, d_b D))) hR a5 rfl d5
  rw [e6, e7, e8, show (9 : Int32) = nI 9 from rfl, show (4 : Int32) = nI 4 from rfl, pk_mul, nI_add]
  exact key n 0 (a * 9 + 4) 0 s5 _ (by omega) (by omega) (by omega) (fR_95 a5) R5 (mok_D hm (dok_putSt hd) rfl) h
theorem jCarts {G : hd_G} {σ : hd_M} {M : MM} {Q : Int32 → Int32 → hd_M → Prop} (hR : REL σ M) (x y : Int32) (h : ∀ y s M', REL s M' → Q y y s) : EVi G mX7_carts SH [.ref 0, .int x, .int y] σ (fun y1 s1 => EVi G mX8_carts SH [.ref 94, .int x, .int y] s1 (fun y' s2 => Q y1 y' s2)) := by
  obtain ⟨tp, ft, D, D', laws⟩ := M
  have hd : dok D := hR.2.2.2.1
  by_cases hx : (0 : Int32) ≤ x ∧ x ≤ 9999
  · by_cases hy : (1 : Int32) ≤ y ∧ y ≤ 99
    · obtain ⟨a, -, ka, rfl⟩ := i_rng (x := x) 0 9999 hx.1 hx.2
      obtain ⟨n, kn, kn2, rfl⟩ := i_rng (x := y) 1 99 hy.1 hy.2
      exact jOf (M' := (tp, ft, (crM laws n (a * 9 + 4) 0 (putSt D (stpM (d_st D) (d_v D, d_b D)))).1, D', laws)) hR (crM_ok (mok_D hR.2.2 (dok_putSt hd) rfl)) (fun P hp => sX7_carts hR.1 hR.2.2 ka ⟨kn, kn2⟩ hp) (fun s P hs hp => sX8_carts hs hR.2.2 ka ⟨kn, kn2⟩ hp) h
    · have no : EVi G mX8_carts SH [.ref 94, .int x, .int y] σ (fun y' s2 => Q (-1) y' s2) := by
        refine wX8_carts _ _ (fun X hX => sX8_isInG _ _ _ ?_)
        rw [decide_eq_true hx]
        refine b_eq' (by decide) (sX8_isInG _ _ _ ?_)
        rw [decide_eq_false hy]
        exact b_ne' (by decide) (h _ _ _ hR)
      refine wX7_carts _ _ (fun X hX => b_lt' hx.1 (b_lt' hx.2 ⟨fun _ => no, fun h1 => ⟨fun h2 => absurd ⟨h1, h2⟩ hy, fun _ => no⟩⟩))
  · have no : EVi G mX8_carts SH [.ref 94, .int x, .int y] σ (fun y' s2 => Q (-1) y' s2) := by
      refine wX8_carts _ _ (fun X hX => sX8_isInG _ _ _ ?_)
      rw [decide_eq_false hx]
      exact b_eq (by decide) (h _ _ _ hR)
    refine wX7_carts _ _ (fun X hX => ⟨fun _ => no, fun h1 => ⟨fun _ => no, fun h2 => absurd ⟨h1, h2⟩ hx⟩⟩)
/-! undo -/
def unM (D : MD) : MD := putSt (putV D ((d_st D).getD ((d_st D).length - 1) (0, 0)).1 ((d_st D).getD ((d_st D).length - 1) (0, 0)).2) ((d_st D).take ((d_st D).length - 1))
theorem getD_mem {α : Type} {l : List α} {d : α} {j : Nat} (h : j < l.length) : l.getD j d ∈ l := by
  rw [List.getD_eq_getElem?_getD, List.getElem?_eq_getElem h]
  exact List.getElem_mem h
theorem dok_unM {D : MD} (hd : dok D) (h : 0 < (d_st D).length) : dok (unM D) := by
  obtain ⟨o1, o2, o3, o4, o5, o6, o7, o8, o9⟩ := hd
  refine ⟨o1, o2, o3, o8 _ (getD_mem (by omega)), o5, o6, ?_, fun s hs => o8 s (List.mem_of_mem_take hs), o9⟩
  show ((d_st D).take ((d_st D).length - 1)).length ≤ 30
  rw [List.length_take]
  omega
theorem sX7_undo {G : hd_G} {σ : hd_M} {P : Int32 → hd_M → Prop} {tp : List Nat} {ft : Int32 × Int32} {D D' : MD} {laws : Nat → LW} (hC : CREL σ (tp, ft, D, D', laws)) (hm : mok (tp, ft, D, D', laws)) (h0 : 0 < (d_st D).length) (h : ∀ σ', fC σ σ' → CREL σ' (tp, ft, unM D, D', laws) → P (nI ((d_st D).length - 1)) σ') : EVi G mX7_undo SH [.ref 0] σ P := by
  have hd : dok D := hm.2.1
  have h30 := hd.2.2.2.2.2.2.1
  have hcd : cDesk σ 2 D := hC.2.2.1
  obtain ⟨c1, c2, c3, c4, c5, c6, c7, c8, c9, c10, c11, c12⟩ := hcd
  refine wX7_undo (wX1_takeStepBack (Or.inl rfl) ?_)
  rw [c7]
  refine b_lt (nI_lt (a := 0) h0 (by omega)) (fun s1 e1 => ?_)
  rw [nI_sub1 h0] at e1
  have n1 : s1.1 2 8 = nI ((d_st D).length - 1) := by rw [e1, wI_eq, if_pos rfl]
  rw [n1, nI_clamp (by omega)]
  refine ⟨hd_vn (by omega) (by decide), fun s2 e2 => ?_⟩
  have l8 := c8 ((d_st D).length - 1) (by omega)
  have e2 : s2 = hd_wI s1 2 2 (nI ((d_st D).getD ((d_st D).length - 1) (0, 0)).1) := by
    rw [e2, ← l8.1, e1]
    rfl
  have n2 : s2.1 2 8 = nI ((d_st D).length - 1) := by rw [e2, wI_eq, if_neg (by decide), n1]
  rw [n2, nI_clamp (by omega)]
  refine ⟨hd_vn (by omega) (by decide), fun s3 e3 => ⟨Or.inr rfl, b_ne (by decide) (fun s4 e4 => ?_)⟩⟩
  have e3 : s3 = hd_wI s2 2 3 (zI ((d_st D).getD ((d_st D).length - 1) (0, 0)).2) := by
    rw [e3, ← l8.2, e2, e1]
    rfl
  have n4 : s4.1 2 8 = nI ((d_st D).length - 1) := by rw [e4, wI_ne (by decide), e3, wI_eq, if_neg (by decide), n2]
  rw [n4]
  have hl : ((d_st D).take ((d_st D).length - 1)).length = (d_st D).length - 1 := by rw [List.length_take]; omega
  have ne : ∀ k, k ≠ 0 → k ≠ 2 → s4.1 k = σ.1 k := fun k h1 h2 => by rw [e4, wI_ne h1, e3, wI_ne h2, e2, wI_ne h2, e1, wI_ne h2]
  have ne2 : ∀ j, j ≠ 8 → j ≠ 2 → j ≠ 3 → s4.1 2 j = σ.1 2 j := fun j h1 h2 h3 => by rw [e4, wI_ne (by decide), e3, wI_eq, if_neg h3, e2, wI_eq, if_neg h2, e1, wI_eq, if_neg h1]
  refine h s4 (fun k hk => ⟨ne k (by omega) (by omega), by rw [e4, e3, e2, e1]; rfl⟩) ?_
  refine CREL_desk hC (Nat.le_refl _) hd.2.2.2.2.1 (fun j h1 h2 => ne j (by omega) (by omega)) (ne 1 (by decide) (by decide)) (fun j hj => ?_) ?_ ⟨?_, fun p hp => ?_, ?_, ?_, ?_, ?_, ?_, fun j hj => ?_, ?_, fun j hj => ?_, ?_, fun j hj => ?_⟩ (Or.inl ?_)
  · rw [e4, wI_eq, if_neg (by omega), e3, wI_ne (by decide), e2, wI_ne (by decide), e1, wI_ne (by decide)]
  · exact NV_cg hC.2.2.2.2.2.2.1 (by rw [ne 78 (by decide) (by decide)]) (ne 79 (by decide) (by decide))
  · rw [ne2 1 (by decide) (by decide) (by decide)]; exact c1
  · rw [ne (2 + 1) (by decide) (by decide)]; exact c2 p hp
  · rw [e4, wI_ne (by decide), e3, wI_eq, if_neg (by decide), e2, wI_eq, if_pos rfl]; rfl
  · rw [e4, wI_ne (by decide), e3, wI_eq, if_pos rfl]; rfl
  · rw [ne2 4 (by decide) (by decide) (by decide)]; exact c5
  · rw [ne2 5 (by decide) (by decide) (by decide)]; exact c6
  · rw [n4]; exact congrArg nI hl.symm
  · have hj : j < ((d_st D).take ((d_st D).length - 1)).length := hj
    show s4.1 (2 + 2) j = nI (((d_st D).take ((d_st D).length - 1)).getD j (0, 0)).1 ∧ s4.1 (2 + 3) j = zI (((d_st D).take ((d_st D).length - 1)).getD j (0, 0)).2
    rw [getD_take (by omega), ne (2 + 2) (by decide) (by decide), ne (2 + 3) (by decide) (by decide)]
    exact c8 j (by omega)
  · rw [ne2 11 (by decide) (by decide) (by decide)]; exact c9
  · rw [ne (2 + 4) (by decide) (by decide), ne (2 + 5) (by decide) (by decide)]; exact c10 j hj
  · rw [ne2 13 (by decide) (by decide) (by decide)]; exact c11
  · rw [ne (2 + 6) (by decide) (by decide)]; exact c12 j hj
  · rw [e4, wI_eq, if_pos rfl]
theorem sX8_undo {G : hd_G} {σ : hd_M} {P : Int32 → hd_M → Prop} {tp : List Nat} {ft : Int32 × Int32} {D D' : MD} {laws : Nat → LW} (hR : RREL σ (tp, ft, D, D', laws)) (hm : mok (tp, ft, D, D', laws)) (h0 : 0 < (d_st D).length) (h : ∀ σ', fR σ σ' → RREL σ' (tp, ft, unM D, D', laws) → P (nI ((d_st D).length - 1)) σ') : EVi G mX8_undo SH [.ref 94] σ P := by
  have hd : dok D := hm.2.1
  have h30 := hd.2.2.2.2.2.2.1
  have hn6 := hd.1
  have hrd : rDesk σ 95 D := hR.2.2.1
  obtain ⟨q1, q2, q3, q4, q5, q6, q7, q8, q9, q10, q11, q12, q13⟩ := hrd
  obtain ⟨m, m1, m2, m3, m4, m5, m6⟩ := q9 ((d_st D).length - 1) (by omega)
  generalize hs : (d_st D).getD ((d_st D).length - 1) (0, 0) = sp at m3 m4 m5 m6
  generalize hx : 64 + 9 * ((d_st D).length - 1) = xx at m2 m3 m5 m6
  refine wX8_undo (fun X hX => ⟨pk_in 3 334 (by decide), ?_⟩)
  rw [show (3 : Int32).toNatClampNeg = 3 from rfl, q8]
  refine b_ne (nI_ne0 h0 (by omega)) ⟨pk_in 3 334 (by decide), pk_in 3 334 (by decide), fun s1 e1 => ⟨pk_in 3 334 (by decide), fun v2 e2 v3 e3 => ?_⟩⟩
  rw [nI_sub1 h0] at e1
  have n1 : s1.1 95 3 = nI ((d_st D).length - 1) := by rw [e1, wI_eq, if_pos rfl]
  rw [n1, show (64 : Int32) = nI 64 from rfl, show (9 : Int32) = nI 9 from rfl, pk_mul, nI_add, hx] at e2
  have s195 : ∀ j, j ≠ 3 → s1.1 95 j = σ.1 95 j := fun j hj => by rw [e1, wI_eq, if_neg hj]
  have key : ∀ k, k ≤ 8 → ∀ s, ag95 s1 s → (∀ j, s.1 95 j = if 20 ≤ j ∧ j < 20 + k then (if j < 26 then nI (dg sp.1 (j - 20)) else if j = 26 then nI (dg sp.1 6) else zI sp.2) else s1.1 95 j) → hd_J G mX8_undo X SH (0, 0) 36 [(0, .ref 94), (1, .int (nI xx)), (2, .int (nI k))] [] s := by
    refine hd_upto (n := 8) (fun k => ∀ s, ag95 s1 s → (∀ j, s.1 95 j = if 20 ≤ j ∧ j < 20 + k then (if j < 26 then nI (dg sp.1 (j - 20)) else if j = 26 then nI (dg sp.1 6) else zI sp.2) else s1.1 95 j) → hd_J G mX8_undo X SH (0, 0) 36 [(0, .ref 94), (1, .int (nI xx)), (2, .int (nI k))] [] s) (fun k hk ih s f hs2 => ?_)
    refine wX8_undo_36 hX _ _ (c_le 8 (k : Int) rfl rfl (fun h8 => ⟨pk_in 3 334 (by decide), ?_⟩) (fun h8 => ⟨hd_vn (by omega) (by decide), ?_⟩))
    · have k8 : k = 8 := by omega
      subst k8
      rw [show (3 : Int32).toNatClampNeg = 3 from rfl, hs2 3, if_neg (by omega), n1]
      have hl : ((d_st D).take ((d_st D).length - 1)).length = (d_st D).length - 1 := by rw [List.length_take]; omega
      have ne : ∀ j, j ≠ 3 → (j < 20 ∨ 28 ≤ j) → s.1 95 j = σ.1 95 j := fun j h1 h2 => by rw [hs2, if_neg (by omega), s195 j h1]
      have a01 : ag95 σ s := ag95_tr (by rw [e1]; exact ag95_w ag95_rf) f
      refine h s (fR_95 a01) (RREL_95 hR a01 rfl ⟨?_, fun p hp => ?_, fun p hp => ?_, ?_, ?_, ?_, ?_, ?_, fun j hj => ?_, ?_, fun j hj => ?_, ?_, fun j hj => ?_⟩)
      · rw [ne _ (by omega) (by omega)]; exact q1
      · have hp : p < d_n D := hp
        rw [ne _ (by omega) (by omega)]; exact q2 p hp
      · have hp : p < d_n D := hp
        rw [hs2, if_pos (by omega), if_pos (by omega), show 20 + p - 20 = p by omega]
        show nI (dg sp.1 p) = nI (dg ((d_st D).getD ((d_st D).length - 1) (0, 0)).1 p)
        rw [hs]
      · rw [hs2, if_pos (by omega), if_neg (by omega), if_pos rfl]
        show nI (dg sp.1 6) = nI (dg ((d_st D).getD ((d_st D).length - 1) (0, 0)).1 6)
        rw [hs]
      · rw [hs2, if_pos (by omega), if_neg (by omega), if_neg (by omega)]
        show zI sp.2 = zI ((d_st D).getD ((d_st D).length - 1) (0, 0)).2
        rw [hs]
      · rw [ne _ (by omega) (by omega)]; exact q6
      · rw [ne _ (by omega) (by omega)]; exact q7
      · rw [hs2, if_neg (by omega), n1]; exact congrArg nI hl.symm
      · have hj : j < ((d_st D).take ((d_st D).length - 1)).length := hj
        show rStep s 95 (64 + 9 * j) (d_n D) (((d_st D).take ((d_st D).length - 1)).getD j (0, 0))
        rw [getD_take (by omega)]
        exact rStep_cg (q9 j (by omega)) (Nat.le_refl _) hn6 (fun i h1 h2 => ne i (by omega) (by omega))
      · rw [ne _ (by omega) (by omega)]; exact q10
      · have hj : j < (d_tr D).length := hj
        rw [ne _ (by omega) (by omega), ne _ (by omega) (by omega)]; exact q11 j hj
      · rw [ne _ (by omega) (by omega)]; exact q12
      · have hj : j < (d_ho D).length := hj
        rw [ne _ (by omega) (by omega)]; exact q13 j hj
    · have hk8 : k < 8 := by omega
      have hxl : 64 ≤ xx ∧ xx + 9 ≤ 334 := by omega
      rw [nI_clamp (show xx < 2 ^ 31 by omega), show nI xx + 1 + nI k = nI (xx + 1 + k) by rw [nI_1, nI_add], show (20 : Int32) + nI k = nI (20 + k) from nI_add 20 k, nI_clamp (show xx + 1 + k < 2 ^ 31 by omega), nI_clamp (show 20 + k < 2 ^ 31 by omega), hs2 xx, if_neg (by omega), s195 xx (by omega), m2]
      have up1 : ∀ (x : Int32), x = (if 20 + k < 26 then nI (dg sp.1 k) else if 20 + k = 26 then nI (dg sp.1 6) else zI sp.2) → ∀ s', s' = hd_wI s 95 (20 + k) x → ∀ v : Int32, v = nI k + 1 → hd_J G mX8_undo X SH (0, 0) 36 [(0, .ref 94), (1, .int (nI xx)), (2, .int v)] [] s' := by
        intro x hx s' e' v ev
        rw [ev, nI_1]
        refine ih hk8 s' (by rw [e']; exact ag95_w f) (fun j => ?_)
        rw [e', wI_eq]
        by_cases hj : j = 20 + k
        · subst hj
          rw [if_pos rfl, if_pos (by omega), hx, show 20 + k - 20 = k by omega]
        · rw [if_neg hj, hs2 j]
          by_cases hj2 : 20 ≤ j ∧ j < 20 + k
          · rw [if_pos hj2, if_pos (show 20 ≤ j ∧ j < 20 + (k + 1) by omega)]
          · rw [if_neg hj2, if_neg (by omega)]
      have src : ∀ j, xx ≤ j → s.1 95 j = σ.1 95 j := fun j hj => by rw [hs2, if_neg (by omega), s195 j (by omega)]
      refine c_lt (k : Int) (m : Int) rfl rfl (fun hkm => ⟨hd_vn (by omega) (by decide), hd_vn (by omega) (by decide), fun s' e' v ev => ?_⟩) (fun hkm => c_le 6 (k : Int) rfl rfl (fun h6 => ⟨hd_vn (by omega) (by decide), hd_vn (by omega) (by decide), fun s' e' v ev => ?_⟩) (fun h6 => ⟨hd_vn (by omega) (by decide), fun s' e' v ev => ?_⟩))
      · refine up1 _ ?_ s' e' v ev
        rw [if_pos (by omega), src _ (by omega), m3 k (by omega)]
      · refine up1 _ ?_ s' e' v ev
        rw [src _ (by omega), if_neg (by omega)]
        by_cases h7 : k = 6
        · subst h7
          rw [if_pos rfl]
          exact m5
        · have : k = 7 := by omega
          subst this
          rw [if_neg (by omega)]
          exact m6
      · refine up1 _ ?_ s' e' v ev
        rw [if_pos (by omega), m4 k (by omega) (by omega)]
        rfl
  rw [e2, e3]
  exact key 0 (Nat.zero_le _) s1 ag95_rf (fun j => by rw [if_neg (by omega)])
theorem jUndo {G : hd_G} {σ : hd_M} {M : MM} {Q : Int32 → Int32 → hd_M → Prop} (hR : REL σ M) (h : ∀ y s M', REL s M' → Q y y s) : EVi G mX7_undo SH [.ref 0] σ (fun y1 s1 => EVi G mX8_undo SH [.ref 94] s1 (fun y' s2 => Q y1 y' s2)) := by
  obtain ⟨tp, ft, D, D', laws⟩ := M
  have hd : dok D := hR.2.2.2.1
  have h30 := hd.2.2.2.2.2.2.1
  by_cases h0 : 0 < (d_st D).length
  · exact jOf (M' := (tp, ft, unM D, D', laws)) hR (mok_D hR.2.2 (dok_unM hd h0) rfl) (fun P hp => sX7_undo hR.1 hR.2.2 h0 hp) (fun s P hs hp => sX8_undo hs hR.2.2 h0 hp) h
  · have c7 : σ.1 2 8 = nI (d_st D).length := hR.1.2.2.1.2.2.2.2.2.2.1
    have q8 : σ.1 95 3 = nI (d_st D).length := hR.2.1.2.2.1.2.2.2.2.2.2.2.1
    have z : (d_st D).length = 0 := by omega
    refine wX7_undo (wX1_takeStepBack (Or.inl rfl) ?_)
    rw [c7, z]
    refine b_lt' (by decide) ⟨Or.inl rfl, b_ne' rfl (wX8_undo (fun X hX => ⟨pk_in 3 334 (by decide), ?_⟩))⟩
    rw [show (3 : Int32).toNatClampNeg = 3 from rfl, q8, z]
    exact b_ne' rfl (h _ _ _ hR)
