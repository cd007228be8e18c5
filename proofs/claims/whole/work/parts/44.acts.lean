/-! class and reference, one behind the other -/
theorem jOf {G : hd_G} {σ : hd_M} {M M' : MM} {mC mR : hd_I} {asC asR : List Value} {y : Int32} {Q : Int32 → Int32 → hd_M → Prop} (hR : REL σ M) (hm : mok M') (hC : ∀ P : Int32 → hd_M → Prop, (∀ σ', fC σ σ' → CREL σ' M' → P y σ') → EVi G mC SH asC σ P) (hr : ∀ (s : hd_M) (P : Int32 → hd_M → Prop), RREL s M → (∀ σ', fR s σ' → RREL σ' M' → P y σ') → EVi G mR SH asR s P) (h : ∀ y s M', REL s M' → Q y y s) : EVi G mC SH asC σ (fun y1 s1 => EVi G mR SH asR s1 (fun y' s2 => Q y1 y' s2)) :=
  hC _ (fun s1 f1 C1 => hr s1 _ (RREL_fC hR.2.1 f1) (fun s2 f2 R2 => h _ _ M' ⟨CREL_fR C1 hm f2, R2, hm⟩))
theorem jAct {G : hd_G} {σ : hd_M} {M : MM} {Q : Int32 → Int32 → hd_M → Prop} (hR : REL σ M) (x : Int32) (h : ∀ y s M', REL s M' → Q y y s) : EVi G mX7_act SH [.ref 0, .int x] σ (fun y1 s1 => EVi G mX8_act SH [.ref 94, .int x] s1 (fun y' s2 => Q y1 y' s2)) := by
  obtain ⟨tp, ft, D, D', laws⟩ := M
  have hd : dok D := hR.2.2.2.1
  have hrT := hd.2.2.2.2.2.1
  have hT4 := hd.2.2.2.2.1
  by_cases hx : (0 : Int32) ≤ x ∧ x ≤ 14
  · obtain ⟨k, -, kx, rfl⟩ := i_rng (x := x) 0 14 hx.1 hx.2
    have hL : LWok (ruM (d_r D) laws) := ruM_ok hR.2.2.2.2.2.2 hrT
    exact jOf (M' := (tp, ft, aftA (ruM (d_r D) laws) D k, D', laws)) hR (mok_D hR.2.2 (dok_aftA hd hL (by omega)) (aftA_T _ _ _).1) (fun P hp => sX7_act hR.1 hR.2.2 (by omega) hp) (fun s P hs hp => sX8_act hs hR.2.2 (by omega) hp) h
  · have hcd : cDesk σ 2 D := hR.1.2.2.1
    refine wX7_act _ (fun v1 e1 v2 e2 => wX7_move _ (sX7_rulingLaw hcd.2.2.2.2.1 hcd.2.2.2.2.2.1 hT4 hrT (sX4_standingOut hx (fun v5 e5 => ?_))))
    rw [e5]
    refine b_ne' rfl (fun v6 e6 => ?_)
    rw [e6]
    refine b_eq rfl ?_
    refine wX8_act _ (wX8_can _ (wX8_isAct _ (sX8_isInG _ _ _ ⟨cl_bit_i _, ?_⟩)))
    rw [decide_eq_false hx]
    exact b_ne' (by decide) ⟨Or.inl rfl, b_ne' rfl (h _ _ _ hR)⟩
/-! played -/
def plM (laws : Nat → LW) : List (Nat × Nat) → MD → MD × Int32
  | [], D => (D, -1)
  | d :: r, D => if (afM (ruM (d_r D) laws) (d_sz D) (d_v D) d.1).isSome = true then plM laws r (aftA (ruM (d_r D) laws) D d.1) else (D, nI d.2)
theorem aftA_none {L : LW} {D : MD} {act : Nat} (h : afM L (d_sz D) (d_v D) act = none) : aftA L D act = D := by unfold aftA; rw [h]
theorem plM_s {laws : Nat → LW} {d : Nat × Nat} {r : List (Nat × Nat)} {D : MD} (h : afM (ruM (d_r D) laws) (d_sz D) (d_v D) d.1 ≠ none) : plM laws (d :: r) D = plM laws r (aftA (ruM (d_r D) laws) D d.1) := by
  show (if _ then _ else _) = _
  rw [if_pos (by cases hh : afM (ruM (d_r D) laws) (d_sz D) (d_v D) d.1 with
    | none => exact absurd hh h
    | some w => rfl)]
theorem plM_n {laws : Nat → LW} {d : Nat × Nat} {r : List (Nat × Nat)} {D : MD} (h : afM (ruM (d_r D) laws) (d_sz D) (d_v D) d.1 = none) : plM laws (d :: r) D = (D, nI d.2) := by
  show (if _ then _ else _) = _
  rw [h]
  rfl
theorem plM_ok {laws : Nat → LW} {tp : List Nat} {ft : Int32 × Int32} {D' : MD} : ∀ {l : List (Nat × Nat)} {D : MD}, (∀ d ∈ l, d.1 < 15) → mok (tp, ft, D, D', laws) → mok (tp, ft, (plM laws l D).1, D', laws) ∧ d_T (plM laws l D).1 = d_T D
  | [], D, _, hm => ⟨hm, rfl⟩
  | d :: r, D, hl, hm => by
    have hd : dok D := hm.2.1
    have hL : LWok (ruM (d_r D) laws) := ruM_ok hm.2.2.2.2 hd.2.2.2.2.2.1
    have ha := hl d List.mem_cons_self
    by_cases h : afM (ruM (d_r D) laws) (d_sz D) (d_v D) d.1 = none
    · rw [plM_n h]
      exact ⟨hm, rfl⟩
    · rw [plM_s h]
      have := plM_ok (l := r) (fun d hd => hl d (List.mem_cons_of_mem _ hd)) (mok_D hm (dok_aftA hd hL ha) (aftA_T _ _ _).1)
      exact ⟨this.1, this.2.trans (aftA_T _ _ _).1⟩
theorem law_kr {q : Nat} (hq : hd_law q) {f : Nat → List Nat → Prop} (h : f 0 [q + 1, 0, q + 2, q + 3, q + 4, q + 5, q + 6, 0, q + 7, q + 8, 0]) : hd_kr SH q 12 f := by
  rcases hq with rfl | rfl | rfl | rfl | rfl | rfl <;> exact h
theorem law_7 {q : Nat} (hq : hd_law q) {f : Nat → Prop} (h : f 24) : hd_k SH (q + 7) 0 f := by
  rcases hq with rfl | rfl | rfl | rfl | rfl | rfl <;> exact h
theorem law_8 {q : Nat} (hq : hd_law q) {f : Nat → Prop} (h : f 24) : hd_k SH (q + 8) 0 f := by
  rcases hq with rfl | rfl | rfl | rfl | rfl | rfl <;> exact h
theorem haM_nn {L : LW} {sz : Nat → Nat} {v act : Nat} (h : afM L sz v act ≠ none) : 0 ≤ haM L sz v act := by
  unfold haM
  cases hh : afM L sz v act with
  | none => exact absurd hh h
  | some w => exact nI_pos' (by have := hrM_le L (dg v) (dg w) act; omega)
theorem sX7_played {G : hd_G} {σ : hd_M} {P : Int32 → hd_M → Prop} {tp : List Nat} {ft : Int32 × Int32} {D D' : MD} {laws : Nat → LW} {t : Nat} (hC : CREL σ (tp, ft, D, D', laws)) (hm : mok (tp, ft, D, D', laws)) (ht : t < d_T D) (h : ∀ σ', fC σ σ' → CREL σ' (tp, ft, (plM laws (laws t).2.2 D).1, D', laws) → P (plM laws (laws t).2.2 D).2 σ') : EVi G mX7_played SH [.ref 0, .int (nI t)] σ P := by
  have hd : dok D := hm.2.1
  have hT4 : d_T D ≤ 4 := hd.2.2.2.2.1
  have hcd : cDesk σ 2 D := hC.2.2.1
  have hq := law_t (t := t) (by omega)
  have hLW : LWok (laws t) := hm.2.2.2.2 t ht
  refine wX7_played _ (fun X hX => sX7_isText hcd.2.2.2.2.1 hT4 _ ?_)
  rw [decide_eq_true ⟨nI_pos' (by omega), nI_lt ht (by omega)⟩]
  refine b_ne (by decide) ⟨hd_vn (by omega) (by decide), ?_⟩
  rw [nI_clamp (by omega), lawRef (by omega)]
  refine ⟨by omega, fun v3 e3 => ?_⟩
  rw [e3]
  have key : ∀ (l : List (Nat × Nat)) (i : Nat) (s : hd_M) (E : MD), (laws t).2.2.drop i = l → i ≤ (laws t).2.2.length → fC σ s → CREL s (tp, ft, E, D', laws) → mok (tp, ft, E, D', laws) → d_T E = d_T D → (∀ σ', fC σ σ' → CREL σ' (tp, ft, (plM laws l E).1, D', laws) → P (plM laws l E).2 σ') → hd_J G mX7_played X SH (0, 0) 20 [(0, .ref 0), (2, .ref (17 + 9 * t)), (3, .int (nI i))] [] s := by
    intro l
    induction l with
    | nil =>
      intro i s E hl hi f C m hT h
      have hi2 : (laws t).2.2.length ≤ i := List.drop_eq_nil_iff.mp hl
      have lw : lq s (17 + 9 * t) (laws t) := C.2.2.2.2.1 t (by show t < d_T E; omega)
      refine wX7_played_20 hX _ _ (law_kr hq ?_)
      rw [lw.2.2.2.1]
      exact b_le (nI_le hi2 (by have := hLW.2.2.2.1; omega)) (h s f C)
    | cons d r ih =>
      intro i s E hl hi f C m hT h
      have hi2 : i < (laws t).2.2.length := by
        rcases Nat.lt_or_ge i (laws t).2.2.length with z | z
        · exact z
        · rw [List.drop_eq_nil_iff.mpr z] at hl
          cases hl
      have hdr : (laws t).2.2.getD i (0, 0) = d ∧ (laws t).2.2.drop (i + 1) = r := by
        rw [List.drop_eq_getElem_cons hi2] at hl
        cases hl
        exact ⟨by simp [hi2], rfl⟩
      have lw : lq s (17 + 9 * t) (laws t) := C.2.2.2.2.1 t (by show t < d_T E; omega)
      have h24 := hLW.2.2.2.1
      have hdo := hLW.2.2.2.2 d (by rw [← hdr.1, List.getD_eq_getElem?_getD, List.getElem?_eq_getElem hi2]; exact List.getElem_mem hi2)
      have la := lw.2.2.2.2 i hi2
      rw [hdr.1] at la
      refine wX7_played_20 hX _ _ (law_kr hq ?_)
      rw [lw.2.2.2.1]
      refine b_le' (nI_lt hi2 (by omega)) (b_le' (nI_lt (b := 24) (by omega) (by decide)) (law_kr hq ⟨?_, law_7 hq ⟨hd_vn (by omega) (by decide), ?_⟩⟩))
      · show ¬ 17 + 9 * t + 7 = 0
        omega
      have la1 : s.1 (([17 + 9 * t + 1, 0, 17 + 9 * t + 2, 17 + 9 * t + 3, 17 + 9 * t + 4, 17 + 9 * t + 5, 17 + 9 * t + 6, 0, 17 + 9 * t + 7, 17 + 9 * t + 8, 0] : List Nat).getD 8 0) (nI i).toNatClampNeg = nI d.1 := by
        rw [nI_clamp (by omega)]
        exact la.1
      rw [la1]
      have hL : LWok (ruM (d_r E) laws) := ruM_ok m.2.2.2.2 m.2.1.2.2.2.2.2.1
      have m2 := mok_D m (dok_aftA (act := d.1) m.2.1 hL hdo.1) (aftA_T (ruM (d_r E) laws) E d.1).1
      refine sX7_act C m hdo.1 (fun s3 f3 C3 => ?_)
      by_cases hn : afM (ruM (d_r E) laws) (d_sz E) (d_v E) d.1 = none
      · rw [haM_none.mpr hn]
        rw [plM_n hn] at h
        refine b_ne' rfl (law_kr hq ⟨?_, law_8 hq ⟨hd_vn (by omega) (by decide), ?_⟩⟩)
        · show ¬ 17 + 9 * t + 8 = 0
          omega
        rw [aftA_none hn] at C3
        have lw3 : lq s3 (17 + 9 * t) (laws t) := C3.2.2.2.2.1 t (by show t < d_T E; omega)
        have la3 := (lw3.2.2.2.2 i hi2).2
        rw [hdr.1] at la3
        have la2 : s3.1 (([17 + 9 * t + 1, 0, 17 + 9 * t + 2, 17 + 9 * t + 3, 17 + 9 * t + 4, 17 + 9 * t + 5, 17 + 9 * t + 6, 0, 17 + 9 * t + 7, 17 + 9 * t + 8, 0] : List Nat).getD 9 0) (nI i).toNatClampNeg = nI d.2 := by
          rw [nI_clamp (by omega)]
          exact la3
        rw [la2]
        exact h s3 (fC_tr f f3) C3
      · rw [plM_s hn] at h
        refine b_ne (fun z => hn (haM_none.mp z)) (fun v5 e5 => ?_)
        rw [e5, nI_1]
        exact ih (i + 1) s3 _ hdr.2 (by omega) (fC_tr f f3) C3 m2 ((aftA_T _ _ _).1.trans hT) h
  exact key _ 0 σ D rfl (Nat.zero_le _) fC_rf hC hm rfl h
theorem dosOf_drop : ∀ (K : List (Nat → Nat)) (i k : Nat), (dosOf i K).filter (fun d => decide (i + k ≤ d.2)) = dosOf (i + k) (K.drop k)
  | [], i, k => by simp [dosOf]
  | c :: K, i, 0 => by
    have h := dosOf_drop K (i + 1) 0
    have e : ∀ l : List (Nat × Nat), (∀ d ∈ l, i + 1 ≤ d.2) → l.filter (fun d => decide (i + 0 ≤ d.2)) = l := fun l hl => List.filter_eq_self.mpr (fun d hd => by have := hl d hd; simp; omega)
    have e2 : ∀ (K : List (Nat → Nat)) (j : Nat), ∀ d ∈ dosOf j K, j ≤ d.2 := by
      intro K
      induction K with
      | nil => intro j d hd; cases hd
      | cons c K ih =>
        intro j d hd
        unfold dosOf at hd
        split at hd
        · rcases List.mem_cons.mp hd with rfl | hd
          · exact Nat.le_refl _
          · have := ih (j + 1) d hd
            omega
        · have := ih (j + 1) d hd
          omega
    show (if c 0 = 6 then (c 1, i) :: dosOf (i + 1) K else dosOf (i + 1) K).filter _ = (if c 0 = 6 then (c 1, i) :: dosOf (i + 1) K else dosOf (i + 1) K)
    split
    · rw [List.filter_cons_of_pos (by simp), e _ (e2 K (i + 1))]
    · rw [e _ (e2 K (i + 1))]
  | c :: K, i, k + 1 => by
    have h := dosOf_drop K (i + 1) k
    have e : i + 1 + k = i + (k + 1) := by omega
    rw [e] at h
    show (if c 0 = 6 then (c 1, i) :: dosOf (i + 1) K else dosOf (i + 1) K).filter _ = dosOf (i + (k + 1)) (K.drop k)
    split
    · rw [List.filter_cons_of_neg (by simp), h]
    · exact h
theorem sX8_played {G : hd_G} {σ : hd_M} {P : Int32 → hd_M → Prop} {tp : List Nat} {ft : Int32 × Int32} {D D' : MD} {laws : Nat → LW} {t : Nat} (hR : RREL σ (tp, ft, D, D', laws)) (hm : mok (tp, ft, D, D', laws)) (ht : t < d_T D) (h : ∀ σ', fR σ σ' → RREL σ' (tp, ft, (plM laws (laws t).2.2 D).1, D', laws) → P (plM laws (laws t).2.2 D).2 σ') : EVi G mX8_played SH [.ref 94, .int (nI t)] σ P := by
  have hd : dok D := hm.2.1
  have hT4 : d_T D ≤ 4 := hd.2.2.2.2.1
  have r6 : σ.1 95 1 = nI (d_T D) := hR.2.2.1.2.2.2.2.2.1
  refine wX8_played _ (fun X hX => wX8_isText _ ⟨pk_in 1 334 (by decide), ?_⟩)
  rw [show (1 : Int32).toNatClampNeg = 1 from rfl, r6, nI_pm]
  refine sX8_isIn (v := (t : Int)) (a := 0) (b := (d_T D : Int) - 1) (by omega) (by omega) (by omega) ⟨cl_bit_i _, ?_⟩
  rw [decide_eq_true (by omega)]
  refine b_ne (by decide) (fun v3 e3 => ?_)
  rw [e3]
  have key : ∀ (n k : Nat) (s : hd_M) (E : MD), 24 ≤ k + n → k ≤ 24 → fR σ s → RREL s (tp, ft, E, D', laws) → mok (tp, ft, E, D', laws) → d_T E = d_T D → (∀ σ', fR σ σ' → RREL σ' (tp, ft, (plM laws ((laws t).2.2.filter (fun d => decide (k ≤ d.2))) E).1, D', laws) → P (plM laws ((laws t).2.2.filter (fun d => decide (k ≤ d.2))) E).2 σ') → hd_J G mX8_played X SH (0, 0) 13 [(0, .ref 94), (1, .int (nI t)), (2, .int (nI k))] [] s := by
    intro n
    induction n with
    | zero =>
      intro k s E hn hk f R m hT h
      have rT : rTexts s (d_T E) laws := R.2.2.2.2
      obtain ⟨hLW, K, cd, hq, hW, hLof⟩ := rT t (by omega)
      have t1 : TX s (nI t) K cd := Or.inr ⟨t, rfl, hq⟩
      have hKl := hq.2.2.1
      refine wX8_played_13 hX _ _ (sX8_clausesOf t1 (b_le (nI_le (by omega) (by omega)) ?_))
      have e : (laws t).2.2.filter (fun d => decide (k ≤ d.2)) = [] := by
        have := dosOf_drop K 0 k
        rw [Nat.zero_add, List.drop_eq_nil_iff.mpr (by omega)] at this
        rw [← hLof]
        exact this
      rw [e] at h
      exact h s f R
    | succ n ih =>
      intro k s E hn hk f R m hT h
      have rT : rTexts s (d_T E) laws := R.2.2.2.2
      obtain ⟨hLW, K, cd, hq, hW, hLof⟩ := rT t (by omega)
      have t1 : TX s (nI t) K cd := Or.inr ⟨t, rfl, hq⟩
      have hKl := hq.2.2.1
      have e := dosOf_drop K 0 k
      have e' := dosOf_drop K 0 (k + 1)
      rw [Nat.zero_add] at e e'
      have eL : (laws t).2.2 = dosOf 0 K := by rw [← hLof]; rfl
      rw [← eL] at e e'
      refine wX8_played_13 hX _ _ (sX8_clausesOf t1 (c_le (K.length : Int) (k : Int) rfl rfl (fun z => ?_) (fun z => ?_)))
      · rw [List.drop_eq_nil_iff.mpr (by omega)] at e
        rw [e] at h
        exact h s f R
      · have hk2 : k < K.length := by omega
        have hc : kg K k = K[k] := by unfold kg; simp [hk2]
        rw [List.drop_eq_getElem_cons hk2, ← hc] at e
        have e : (laws t).2.2.filter (fun d => decide (k ≤ d.2)) = (if kg K k 0 = 6 then (kg K k 1, k) :: dosOf (k + 1) (K.drop (k + 1)) else dosOf (k + 1) (K.drop (k + 1))) := e
        rw [← e'] at e
        refine sX8_told t1 hk2 (j := 0) (by decide) (us_0 _) (fun b0 => ?_)
        refine c_ne (kg K k 0 : Int) 6 rfl rfl (fun z6 v5 e5 => ?_) (fun z6 => ?_)
        · rw [if_neg (by omega)] at e
          rw [e] at h
          rw [e5, nI_1]
          exact ih (k + 1) s E (by omega) (by omega) f R m hT h
        · have z6 : kg K k 0 = 6 := by omega
          rw [if_pos z6] at e
          rw [e] at h
          have ha : kg K k 1 < 15 := (hW (kg K k) (by rw [hc]; exact List.getElem_mem hk2)).2.2.2 z6
          refine sX8_told t1 hk2 (j := 1) (by decide) (by rw [z6]; rfl) (fun b1 => ?_)
          have hL : LWok (ruM (d_r E) laws) := ruM_ok m.2.2.2.2 m.2.1.2.2.2.2.2.1
          have m2 := mok_D m (dok_aftA (act := kg K k 1) m.2.1 hL ha) (aftA_T (ruM (d_r E) laws) E (kg K k 1)).1
          refine sX8_act R m ha (fun s8 f8 R8 => ?_)
          by_cases hnn : afM (ruM (d_r E) laws) (d_sz E) (d_v E) (kg K k 1) = none
          · rw [haM_none.mpr hnn]
            rw [plM_n hnn] at h
            rw [aftA_none hnn] at R8
            exact b_le' (by decide) (h s8 (fR_tr f f8) R8)
          · rw [plM_s hnn] at h
            refine b_le (haM_nn hnn) (fun v10 e10 => ?_)
            rw [e10, nI_1]
            exact ih (k + 1) s8 _ (by omega) (by omega) (fR_tr f f8) R8 m2 ((aftA_T _ _ _).1.trans hT) h
  refine key 24 0 σ D (by omega) (by omega) fR_rf hR hm rfl ?_
  rw [List.filter_eq_self.mpr (fun d _ => by simp)]
  exact h
theorem jPlayed {G : hd_G} {σ : hd_M} {M : MM} {Q : Int32 → Int32 → hd_M → Prop} (hR : REL σ M) (x : Int32) (h : ∀ y s M', REL s M' → Q y y s) : EVi G mX7_played SH [.ref 0, .int x] σ (fun y1 s1 => EVi G mX8_played SH [.ref 94, .int x] s1 (fun y' s2 => Q y1 y' s2)) := by
  obtain ⟨tp, ft, D, D', laws⟩ := M
  have hd : dok D := hR.2.2.2.1
  have hT4 : d_T D ≤ 4 := hd.2.2.2.2.1
  by_cases hx : (0 : Int32) ≤ x ∧ x < nI (d_T D)
  · obtain ⟨k, kx, rfl⟩ : ∃ k : Nat, k < d_T D ∧ x = nI k := by
      have a := Int32.le_iff_toInt_le.mp hx.1
      have b := Int32.lt_iff_toInt_lt.mp hx.2
      rw [nI_toInt (by omega)] at b
      have e1 : (0 : Int32).toInt = 0 := rfl
      exact ⟨x.toInt.toNat, by omega, i_nn (by omega)⟩
    have hLW : LWok (laws k) := hR.2.2.2.2.2.2 k kx
    have ok := plM_ok (l := (laws k).2.2) (fun d hd => (hLW.2.2.2.2 d hd).1) hR.2.2
    exact jOf (M' := (tp, ft, (plM laws (laws k).2.2 D).1, D', laws)) hR ok.1 (fun P hp => sX7_played hR.1 hR.2.2 kx hp) (fun s P hs hp => sX8_played hs hR.2.2 kx hp) h
  · have hcd : cDesk σ 2 D := hR.1.2.2.1
    have r6 : σ.1 95 1 = nI (d_T D) := hR.2.1.2.2.1.2.2.2.2.2.1
    refine wX7_played _ (fun X hX => sX7_isText hcd.2.2.2.2.1 hT4 _ ?_)
    rw [decide_eq_false hx]
    refine b_ne' (by decide) (wX8_played _ (fun X hX => wX8_isText _ ⟨pk_in 1 334 (by decide), ?_⟩))
    rw [show (1 : Int32).toNatClampNeg = 1 from rfl, r6, nI_pm]
    refine sX8_isInG _ _ _ ⟨cl_bit_i _, ?_⟩
    rw [decide_eq_false (fun z => hx ⟨z.1, ?_⟩)]
    · exact b_ne' (by decide) (h _ _ _ hR)
    · have b := Int32.le_iff_toInt_le.mp z.2
      rw [zI_toInt ⟨by omega, by omega⟩] at b
      refine Int32.lt_iff_toInt_lt.mpr ?_
      rw [nI_toInt (by omega)]
      omega
