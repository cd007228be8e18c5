theorem CREL_tape {σ σ' : hd_M} {tp tp' : List Nat} {ft : Int32 × Int32} {D D' : MD} {laws : Nat → LW} (h : CREL σ (tp, ft, D, D', laws)) (hT4 : d_T D ≤ 4) (hc : ∀ k, 2 ≤ k → k < 94 → σ'.1 k = σ.1 k) (h0 : ∀ k, k ≠ 1 → σ'.1 0 k = σ.1 0 k) (ht : cTape σ' tp') : CREL σ' (tp', ft, D, D', laws) := by
  obtain ⟨a1, a2, a3, a4, a5, a6, a7, a8⟩ := h
  exact ⟨ht, by rw [h0 2 (by decide), h0 3 (by decide)]; exact a2, cDesk_cg a3 (fun k x y => hc k (by omega) (by omega)), cDesk_cg a4 (fun k x y => hc k (by omega) (by omega)), cLaws_cg a5 hT4 (fun k x y => hc k (by omega) (by omega)), lq_cg a6 (fun k x y => hc k (by omega) (by omega)), NV_cg a7 (by rw [hc 78 (by decide) (by decide)]) (hc 79 (by decide) (by decide)), cSch_cg a8 (h0 13 (by decide)) (hc 81 (by decide) (by decide)) (hc 84 (by decide) (by decide)) (hc 85 (by decide) (by decide))⟩
theorem RREL_tape {σ σ' : hd_M} {tp tp' : List Nat} {ft : Int32 × Int32} {D D' : MD} {laws : Nat → LW} (h : RREL σ (tp, ft, D, D', laws)) (hc : ∀ k, 95 ≤ k → k < 98 → σ'.1 k = σ.1 k) (h0 : ∀ k, k ≠ 4 → σ'.1 94 k = σ.1 94 k) (ht : rTape σ' tp') : RREL σ' (tp', ft, D, D', laws) := by
  obtain ⟨a1, a2, a3, a4, a5⟩ := h
  exact ⟨ht, by rw [h0 5 (by decide), h0 6 (by decide)]; exact a2, rDesk_cg a3 (hc 95 (by decide) (by decide)), rDesk_cg a4 (hc 96 (by decide) (by decide)), rTexts_cg a5 (hc 97 (by decide) (by decide))⟩
theorem getD_take {α : Type} {l : List α} {d : α} {k j : Nat} (h : j < k) : (l.take k).getD j d = l.getD j d := by
  simp only [List.getD_eq_getElem?_getD, List.getElem?_take, if_pos h]
theorem jEnd {G : hd_G} {σ : hd_M} {M : MM} {Q : Int32 → Int32 → hd_M → Prop} (hR : REL σ M) (x : Int32) (h : ∀ y s M', REL s M' → Q y y s) : EVi G mX7_end SH [.ref 0, .int x] σ (fun y s1 => EVi G mX8_end SH [.ref 94, .int x] s1 (fun y' s2 => Q y y' s2)) := by
  obtain ⟨tp, ft, D, D', laws⟩ := M
  obtain ⟨hC, hRr, hm⟩ := hR
  obtain ⟨k1, k2⟩ := hm.1
  have k1 : tp.length ≤ 300 := k1
  have k2 : ∀ b ∈ tp, b < 256 := k2
  have c1 : σ.1 0 1 = nI tp.length := hC.1.1
  have r1 : σ.1 94 4 = nI tp.length := hRr.1.1
  by_cases hx : (0 : Int32) ≤ x ∧ x ≤ nI tp.length
  · refine wX7_end _ (b_lt' hx.1 (b_le (by rw [c1]; exact hx.2) (fun s1 e1 => wX8_end _ (sX8_isInG _ _ _ ?_))))
    obtain ⟨k, -, kx, rfl⟩ := i_rng (x := x) 0 tp.length hx.1 hx.2 (by decide) (by omega)
    have f1 : fC σ s1 := by rw [e1]; exact fC_w fC_rf (by decide)
    rw [(f1 94 (by decide)).1, r1, decide_eq_true hx]
    refine b_ne (by decide) (fun s3 e3 => ?_)
    have f3 : fR s1 s3 := by rw [e3]; exact fR_w fR_rf (by decide)
    have mo : mok (tp.take k, ft, D, D', laws) := ⟨⟨by rw [List.length_take]; omega, fun b hb => k2 b (List.mem_of_mem_take hb)⟩, hm.2⟩
    have hl : (tp.take k).length = k := by rw [List.length_take]; omega
    refine h _ _ (tp.take k, ft, D, D', laws) ⟨CREL_fR (CREL_tape hC hm.2.1.2.2.2.2.1 (fun j h1 h2 => ?_) (fun j hj => ?_) ⟨?_, fun j hj => ?_⟩) mo f3, RREL_tape (RREL_fC hRr f1) (fun j h1 h2 => ?_) (fun j hj => ?_) ⟨?_, fun j hj => ?_⟩, mo⟩
    · rw [e1, wI_ne (by omega)]
    · rw [e1, wI_eq, if_neg hj]
    · rw [e1, wI_eq, if_pos rfl, hl]
    · rw [e1, wI_ne (by decide), getD_take (by omega)]
      exact hC.1.2 j (by show j < tp.length; omega)
    · rw [e3, wI_ne (by omega)]
    · rw [e3, wI_eq, if_neg hj]
    · rw [e3, wI_eq, if_pos rfl, hl]
    · rw [e3, wI_ne (by decide), (f1 98 (by decide)).1, getD_take (by omega)]
      exact hRr.1.2 j (by show j < tp.length; omega)
  · have no : EVi G mX8_end SH [.ref 94, .int x] σ (fun y' s2 => Q (-1) y' s2) := by
      refine wX8_end _ (sX8_isInG _ _ _ ?_)
      rw [r1, decide_eq_false hx]
      exact b_ne' (by decide) (h _ _ _ ⟨hC, hRr, hm⟩)
    refine wX7_end _ ⟨fun _ => no, fun h1 => ⟨fun h2 => absurd ⟨h1, by rw [← c1]; exact h2⟩ hx, fun _ => no⟩⟩
theorem jFault {G : hd_G} {σ : hd_M} {M : MM} {Q : Int32 → Int32 → hd_M → Prop} (hR : REL σ M) (x : Int32) (h : ∀ y s M', REL s M' → Q y y s) : EVi G mX7_fault SH [.ref 0, .int x] σ (fun y s1 => EVi G mX8_fault SH [.ref 94, .int x] s1 (fun y' s2 => Q y y' s2)) := by
  have a := hR.1.2.1
  have b := hR.2.1.2.1
  refine wX7_fault _ ⟨fun n0 => ⟨fun n1 => wX8_fault _ (b_ne n0 (b_ne n1 (h _ _ _ hR))), fun n1 => wX8_fault _ (b_ne n0 (b_ne' n1 ?_))⟩, fun n0 => wX8_fault _ (b_ne' n0 ?_)⟩
  · rw [a.2, b.2]
    exact h _ _ _ hR
  · rw [a.1, b.1]
    exact h _ _ _ hR
/-! the law that rules, in the class -/
def ruQ (r : Int) : Nat := if 0 ≤ r then 17 + 9 * r.toNat else 53
theorem sX7_isText {G : hd_G} {σ : hd_M} {P : Int32 → hd_M → Prop} {T : Nat} (hT : σ.1 2 4 = nI T) (h4 : T ≤ 4) (x : Int32) (h : P (zI (cl_bit (decide (0 ≤ x ∧ x < nI T)))) σ) : EVi G mX7_isText SH [.ref 0, .int x] σ P := by
  refine wX7_isText _ ⟨fun h1 => ⟨Or.inl rfl, ?_⟩, fun h1 => ⟨fun h2 => ⟨Or.inl rfl, ?_⟩, fun h2 => ⟨fun h3 => ?_, fun h3 => ⟨Or.inr rfl, ?_⟩⟩⟩⟩
  · rwa [decide_eq_false (fun z => absurd h1 (Int32.not_lt.mpr z.1))] at h
  · rw [hT] at h2
    rwa [decide_eq_false (fun z => absurd z.2 (Int32.not_lt.mpr h2))] at h
  · rw [hT] at h2
    have a := Int32.lt_iff_toInt_lt.mp h2
    have b := Int32.le_iff_toInt_le.mp h3
    rw [nI_toInt (by omega)] at a
    have e4 : (Int32.ofNat 4).toInt = 4 := rfl
    omega
  · rw [hT] at h2
    rwa [decide_eq_true ⟨h1, h2⟩] at h
theorem zI_nn {r : Int} (h : 0 ≤ r) : zI r = nI r.toNat := by rw [nI_z]; congr 1; omega
theorem sX7_rulingLaw {G : hd_G} {σ : hd_M} {P : Nat → hd_M → Prop} {T : Nat} {r : Int} (hT : σ.1 2 4 = nI T) (hr : σ.1 2 5 = zI r) (h4 : T ≤ 4) (hrT : -1 ≤ r ∧ r < T) (h : P (ruQ r) σ) : EVr G mX7_rulingLaw SH [.ref 0] σ P := by
  refine wX7_rulingLaw (sX7_isText hT h4 _ ?_)
  rw [hr]
  unfold ruQ at h
  by_cases h0 : 0 ≤ r
  · rw [if_pos h0] at h
    rw [zI_nn h0, decide_eq_true ⟨nI_pos' (by omega), nI_lt (by omega) (by omega)⟩]
    refine b_eq' (by decide) ⟨hd_vn (by omega) (by decide), ?_, ?_⟩
    · rw [nI_clamp (by omega), lawRef (by omega)]
      omega
    · rw [nI_clamp (by omega), lawRef (by omega)]
      exact h
  · rw [if_neg h0] at h
    rw [decide_eq_false (fun z => by rw [show r = -1 by omega] at z; exact absurd z.1 (by decide))]
    exact b_eq (by decide) h
theorem ruQ_law {r : Int} {T : Nat} (h4 : T ≤ 4) (hr : -1 ≤ r ∧ r < T) : hd_law (ruQ r) := by
  unfold ruQ
  split
  · exact law_t (by omega)
  · exact Or.inr (Or.inr (Or.inr (Or.inr (Or.inl rfl))))
theorem ruQ_lq {σ : hd_M} {r : Int} {T : Nat} {laws : Nat → LW} (hr : -1 ≤ r ∧ r < T) (h : cLaws σ T laws) (h0 : lq σ 53 L0) : lq σ (ruQ r) (ruM r laws) := by
  unfold ruQ ruM
  by_cases h1 : 0 ≤ r
  · rw [if_pos h1, if_pos h1]
    exact h _ (by omega)
  · rw [if_neg h1, if_neg h1]
    exact h0
theorem dok_sz {D : MD} (h : dok D) : ∀ p, p < 6 → d_sz D p ≤ 3 := by
  intro p hp
  by_cases hn : p < d_n D
  · exact (h.2.1 p hn).2
  · rw [h.2.2.1 p (by omega)]
    omega
theorem cDesk_SZ {σ : hd_M} {D : MD} (h : cDesk σ 2 D) (hd : dok D) : SZ σ (d_sz D) := fun p hp => ⟨h.2.1 p hp, dok_sz hd p hp⟩
theorem sX4_standingOut {G : hd_G} {σ : hd_M} {P : Int32 → hd_M → Prop} {q : Nat} {x v : Int32} (hx : ¬ (0 ≤ x ∧ x ≤ 14)) (h : P (-1) σ) : EVi G mX4_standingAfter SH [.ref 78, .ref q, .int x, .int v] σ P := by
  refine wX4_standingAfter _ _ _ ⟨fun _ => h, fun h1 => ⟨fun h2 => absurd ⟨h1, ?_⟩ hx, fun _ => h⟩⟩
  have h2 := Int32.lt_iff_toInt_lt.mp h2
  refine Int32.le_iff_toInt_le.mpr ?_
  have e1 : (15 : Int32).toInt = 15 := rfl
  have e2 : (14 : Int32).toInt = 14 := rfl
  omega
theorem jBy {G : hd_G} {σ : hd_M} {M : MM} {Q : Int32 → Int32 → hd_M → Prop} (hR : REL σ M) (x : Int32) (h : ∀ y s M', REL s M' → Q y y s) : EVi G mX7_by SH [.ref 0, .int x] σ (fun y s1 => EVi G mX8_by SH [.ref 94, .int x] s1 (fun y' s2 => Q y y' s2)) := by
  obtain ⟨tp, ft, ⟨n, sz, v, b, T, r, st, tr, ho⟩, D', laws⟩ := M
  obtain ⟨hC, hRr, hm⟩ := hR
  have k2 := hm.2.1
  have hT4 : T ≤ 4 := k2.2.2.2.2.1
  have c5 : σ.1 2 4 = nI T := hC.2.2.1.2.2.2.2.1
  have r6 : σ.1 95 1 = nI T := hRr.2.2.1.2.2.2.2.2.1
  have hlim : nI T - 1 = zI ((T : Int) - 1) := nI_pm
  by_cases hx : (-1 : Int32) ≤ x ∧ x ≤ nI T - 1
  · obtain ⟨z, hz1, hz2, rfl⟩ : ∃ z : Int, -1 ≤ z ∧ z < T ∧ x = zI z := by
      have a := Int32.le_iff_toInt_le.mp hx.1
      have b := Int32.le_iff_toInt_le.mp hx.2
      rw [hlim, zI_toInt ⟨by omega, by omega⟩] at b
      have e1 : (-1 : Int32).toInt = -1 := rfl
      exact ⟨x.toInt, by omega, by omega, (zI_of x).symm⟩
    have fin : ∀ s1 : hd_M, s1 = hd_wI σ 2 5 (zI z) → ∀ s2, s2 = hd_wI s1 0 13 (-1) → ((1 : Int32) = 0 ∨ (1 : Int32) = 1) ∧ EVi G mX8_by SH [.ref 94, .int (zI z)] s2 (fun y' s2 => Q 1 y' s2) := by
      intro s1 e1 s2 e2
      refine ⟨Or.inr rfl, ?_⟩
      have f2 : fC σ s2 := by rw [e2, e1]; exact fC_w (fC_w fC_rf (by decide)) (by decide)
      have R2 := RREL_fC hRr f2
      have r6' : s2.1 95 1 = nI T := R2.2.2.1.2.2.2.2.2.1
      have C2 : CREL s2 (tp, ft, (n, sz, v, b, T, z, st, tr, ho), D', laws) := by
        obtain ⟨c1, c2, c3, c4, c5, c6, c7, c8, c9, c10, c11, c12⟩ := hC.2.2.1
        simp only [d_n, d_sz, d_v, d_b, d_T, d_r, d_st, d_tr, d_ho] at *
        refine CREL_desk hC (Nat.le_refl _) hT4 (fun j h1 h2 => ?_) ?_ (fun j hj => ?_) ?_ ⟨?_, fun p hp => ?_, ?_, ?_, ?_, ?_, ?_, ?_, ?_, ?_, ?_, ?_⟩ (Or.inl ?_)
        all_goals (try rw [e2, e1])
        · rw [wI_ne (by omega), wI_ne (by omega)]
        · rw [wI_ne (by decide), wI_ne (by decide)]
        · rw [wI_eq, if_neg (by omega), wI_ne (by decide)]
        · exact NV_cg hC.2.2.2.2.2.2.1 (by simp [wI_at]) (by rw [wI_ne (by decide), wI_ne (by decide)])
        · simpa [wI_at, d_n] using c1
        · simpa [wI_at, d_sz] using c2 p hp
        · simpa [wI_at, d_v] using c3
        · simpa [wI_at, d_b] using c4
        · simpa [wI_at, d_T] using c5
        · simp [wI_at, d_r]
        · simpa [wI_at, d_st] using c7
        · simpa [wI_at, d_st] using c8
        · simpa [wI_at, d_tr] using c9
        · simpa [wI_at, d_tr] using c10
        · simpa [wI_at, d_ho] using c11
        · simpa [wI_at, d_ho] using c12
        · rw [wI_eq, if_pos rfl]
      refine wX8_by _ ⟨pk_in 1 334 (by decide), sX8_isInG _ _ _ ?_⟩
      rw [show (1 : Int32).toNatClampNeg = 1 from rfl, r6', decide_eq_true hx]
      refine b_ne (by decide) ⟨pk_in 2 334 (by decide), fun s3 e3 => ⟨Or.inr rfl, ?_⟩⟩
      have e3 : s3 = hd_wI s2 95 2 (zI z) := e3
      have f3 : fR s2 s3 := by rw [e3]; exact fR_w fR_rf (by decide)
      have mo : mok (tp, ft, (n, sz, v, b, T, z, st, tr, ho), D', laws) := by
        obtain ⟨a1, ⟨o1, o2, o3, o4, o5, o6, o7, o8, o9, o10, o11, o12⟩, a3, a4, a5⟩ := hm
        exact ⟨a1, ⟨o1, o2, o3, o4, o5, ⟨hz1, hz2⟩, o7, o8, o9, o10, o11, o12⟩, a3, a4, a5⟩
      refine h _ _ (tp, ft, (n, sz, v, b, T, z, st, tr, ho), D', laws) ⟨CREL_fR C2 mo f3, RREL_desk R2 (Nat.le_refl _) (fun j h1 h2 => ?_) (fun j h1 h2 => ?_) ?_, mo⟩
      · rw [e3, wI_ne (by omega)]
      · rw [e3, wI_ne (by omega)]
      · obtain ⟨q1, q2, q3, q4, q5, q6, q7, q8, q9, q10, q11, q12, q13⟩ := R2.2.2.1
        have ne : ∀ j, j ≠ 2 → s3.1 95 j = s2.1 95 j := fun j hj => by rw [e3, wI_eq, if_neg hj]
        refine ⟨by rw [ne _ (by omega)]; exact q1, fun p hp => by rw [ne _ (by omega)]; exact q2 p hp, fun p hp => by rw [ne _ (by omega)]; exact q3 p hp, by rw [ne _ (by omega)]; exact q4, by rw [ne _ (by omega)]; exact q5, by rw [ne _ (by omega)]; exact q6, by rw [e3, wI_eq, if_pos rfl]; rfl, by rw [ne _ (by omega)]; exact q8, fun j hj => rStep_cg (q9 j hj) (Nat.le_refl _) k2.1 (fun i h1 h2 => ne i (by omega)), by rw [ne _ (by omega)]; exact q10, fun j hj => by rw [ne _ (by omega), ne _ (by omega)]; exact q11 j hj, by rw [ne _ (by omega)]; exact q12, fun j hj => by rw [ne _ (by omega)]; exact q13 j hj⟩
    refine wX7_by _ ⟨fun _ s1 e1 s2 e2 => fin s1 e1 s2 e2, fun hne => sX7_isText c5 hT4 _ ?_⟩
    have h0 : 0 ≤ z := by
      by_cases hh : 0 ≤ z
      · exact hh
      · exact absurd (by rw [show z = -1 by omega]; rfl) hne
    rw [zI_nn h0, decide_eq_true ⟨nI_pos' (by omega), nI_lt (by omega) (by omega)⟩, ← zI_nn h0]
    exact b_ne (by decide) (fun s1 e1 s2 e2 => fin s1 e1 s2 e2)
  · have no : EVi G mX8_by SH [.ref 94, .int x] σ (fun y' s2 => Q 0 y' s2) := by
      refine wX8_by _ ⟨pk_in 1 334 (by decide), sX8_isInG _ _ _ ?_⟩
      rw [show (1 : Int32).toNatClampNeg = 1 from rfl, r6, decide_eq_false hx]
      exact b_ne' (by decide) ⟨Or.inl rfl, h _ _ _ ⟨hC, hRr, hm⟩⟩
    have hm1 : ¬ x = -1 := fun hx1 => hx ⟨by rw [hx1]; decide, by rw [hx1, hlim]; exact (zI_le (x := -1) (y := (T : Int) - 1) ⟨by decide, by decide⟩ ⟨by omega, by omega⟩).mpr (by omega)⟩
    refine wX7_by _ (b_eq' hm1 (sX7_isText c5 hT4 _ ?_))
    have hz : ¬ ((0 : Int32) ≤ x ∧ x < nI T) := by
      intro z
      refine hx ⟨Int32.le_trans (by decide) z.1, ?_⟩
      have := Int32.lt_iff_toInt_lt.mp z.2
      rw [nI_toInt (by omega)] at this
      refine Int32.le_iff_toInt_le.mpr ?_
      rw [hlim, zI_toInt ⟨by omega, by omega⟩]
      omega
    rw [decide_eq_false hz]
    exact b_ne' (by decide) ⟨Or.inl rfl, no⟩
theorem jCan {G : hd_G} {σ : hd_M} {M : MM} {Q : Int32 → Int32 → hd_M → Prop} (hR : REL σ M) (x : Int32) (h : ∀ y s M', REL s M' → Q y y s) : EVi G mX7_can SH [.ref 0, .int x] σ (fun y s1 => EVi G mX8_can SH [.ref 94, .int x] s1 (fun y' s2 => Q y y' s2)) := by
  obtain ⟨tp, ft, D, D', laws⟩ := M
  obtain ⟨hC, hRr, hm⟩ := hR
  have hd : dok D := hm.2.1
  have hT4 : d_T D ≤ 4 := hd.2.2.2.2.1
  have hrT := hd.2.2.2.2.2.1
  have hcd : cDesk σ 2 D := hC.2.2.1
  refine wX7_can _ (sX7_rulingLaw hcd.2.2.2.2.1 hcd.2.2.2.2.2.1 hT4 hrT ?_)
  have hq := ruQ_law hT4 hrT
  have hl := ruQ_lq hrT hC.2.2.2.2.1 hC.2.2.2.2.2.1
  have hL := ruM_ok hm.2.2.2.2 hrT
  by_cases hx : (0 : Int32) ≤ x ∧ x ≤ 14
  · obtain ⟨k, -, kx, rfl⟩ := i_rng (x := x) 0 14 hx.1 hx.2
    rw [hcd.2.2.1]
    refine sX4_standingAfter hq hl hL (cDesk_SZ hcd hd) hC.2.2.2.2.2.2.1 hd.2.2.2.1.1 (by omega) (fun s1 a1 n1 => ?_)
    have C1 := CREL_R hC hm a1 n1
    have R1 := RREL_fC hRr (fC_ag a1 (by decide))
    obtain ⟨K, cd, t1, t2, t3, t4⟩ := TX_r R1.2.2.2.2 hrT
    have ref : EVi G mX8_can SH [.ref 94, .int (nI k)] s1 (fun y' s2 => Q (zI (cl_bit (afM (ruM (d_r D) laws) (d_sz D) (d_v D) k).isSome)) y' s2) := by
      refine wX8_can _ (wX8_isAct _ (sX8_isInG _ _ _ ⟨cl_bit_i _, ?_⟩))
      rw [decide_eq_true hx]
      refine b_ne (by decide) (sX8_standNow (rDesk_SR R1.2.2.1 hd) (rDesk_PL R1.2.2.1 hd) (fun s3 a3 r3 => ⟨pk_in 2 334 (by decide), ?_⟩))
      have R3 := RREL_R R1 a3
      rw [show (2 : Int32).toNatClampNeg = 2 from rfl, R3.2.2.1.2.2.2.2.2.2.1]
      refine sX8_canBe (TX_R t1 a3) t4 (rDesk_SR R3.2.2.1 hd) r3 (by omega) (fun s4 a4 r4 => ⟨cl_bit_i _, ?_⟩)
      rw [canM_af]
      have t3 : LWof K cd = ruM (d_r D) laws := t3
      rw [t3]
      exact h _ _ (tp, ft, D, D', laws) ⟨CREL_fR C1 hm (fR_R (agR_tr a3 a4)), RREL_R R3 a4, hm⟩
    cases ha : afM (ruM (d_r D) laws) (d_sz D) (d_v D) k with
    | none =>
      rw [ha] at ref
      exact b_eq rfl ⟨Or.inl rfl, ref⟩
    | some w =>
      rw [ha] at ref
      have hw := afM_lt hL (dok_sz hd) hd.2.2.2.1.1 (by omega) ha
      exact c_eq (w : Int) (-1) rfl rfl (fun z => by omega) (fun _ => ⟨Or.inr rfl, ref⟩)
  · refine sX4_standingOut hx (b_eq rfl ⟨Or.inl rfl, ?_⟩)
    refine wX8_can _ (wX8_isAct _ (sX8_isInG _ _ _ ⟨cl_bit_i _, ?_⟩))
    rw [decide_eq_false hx]
    exact b_ne' (by decide) ⟨Or.inl rfl, h _ _ _ ⟨hC, hRr, hm⟩⟩
theorem sX7_placeIn {G : hd_G} {σ : hd_M} {P : Int32 → hd_M → Prop} {sh : hd_S} {v p : Nat} (hv : v < 2187) (hp : p < 6) (h : P (nI (dg v p)) σ) : EVi G mX7_placeIn sh [.int (nI v), .int (nI p)] σ P := by
  refine wX7_placeIn _ _ (fun X hX v1 e1 v2 e2 => ?_)
  have key : ∀ k, k ≤ p → hd_J G mX7_placeIn X sh (0, 0) 4 [(1, .int (nI p)), (2, .int (nI (v / 3 ^ k))), (3, .int (nI k))] [] σ := by
    refine hd_upto (n := p) (fun k => hd_J G mX7_placeIn X sh (0, 0) 4 [(1, .int (nI p)), (2, .int (nI (v / 3 ^ k))), (3, .int (nI k))] [] σ) (fun k hk ih => ?_)
    have hvk : v / 3 ^ k ≤ v := Nat.div_le_self _ _
    refine wX7_placeIn_4 hX _ _ _ (c_le (p : Int) (k : Int) rfl rfl (fun h6 => ⟨by decide, ?_⟩) (fun h6 => b_le' (nI_lt (b := 6) (by omega) (by decide)) ⟨by decide, fun v1 e1 v2 e2 => ?_⟩))
    · have hkp : k = p := by omega
      subst hkp
      rw [show nI (v / 3 ^ k) - nI (v / 3 ^ k) / 3 * 3 = nI (v / 3 ^ k % 3) from pk_rem (d := 3) (by omega) (by decide) (by decide), ← dg_lo hp]
      exact h
    · have hd : nI (v / 3 ^ k) / 3 = nI (v / 3 ^ (k + 1)) := by
        rw [Nat.pow_succ, ← Nat.div_div_eq_div_mul]
        exact pk_div (d := 3) (by omega) (by decide) (by decide)
      rw [e1, e2, hd, nI_1]
      exact ih (by omega)
  have k0 := key 0 (Nat.zero_le _)
  rw [Nat.pow_zero, Nat.div_one] at k0
  rw [e1, e2]
  exact k0
theorem jPlace {G : hd_G} {σ : hd_M} {M : MM} {Q : Int32 → Int32 → hd_M → Prop} (hR : REL σ M) (x : Int32) (h : ∀ y s M', REL s M' → Q y y s) : EVi G mX7_place SH [.ref 0, .int x] σ (fun y s1 => EVi G mX8_place SH [.ref 94, .int x] s1 (fun y' s2 => Q y y' s2)) := by
  have hd := hR.2.2.2.1
  have hn6 := hd.1
  have hcd := hR.1.2.2.1
  have hrd := hR.2.1.2.2.1
  have e0 : (1 : Int32) = zI 1 := rfl
  by_cases hx : (0 : Int32) ≤ x ∧ x < nI (d_n M.2.2.1)
  · obtain ⟨k, kx, rfl⟩ : ∃ k : Nat, k < d_n M.2.2.1 ∧ x = nI k := by
      have a := Int32.le_iff_toInt_le.mp hx.1
      have b := Int32.lt_iff_toInt_lt.mp hx.2
      rw [nI_toInt (by omega)] at b
      have e1 : (0 : Int32).toInt = 0 := rfl
      refine ⟨x.toInt.toNat, by omega, ?_⟩
      rw [nI_z, show ((x.toInt.toNat : Nat) : Int) = x.toInt by omega, zI_of]
    refine wX7_place _ (b_lt' hx.1 (b_le' (by rw [hcd.1]; exact hx.2) ?_))
    rw [hcd.2.2.1]
    refine sX7_placeIn hd.2.2.2.1.1 (by omega) ?_
    refine wX8_place _ (sX8_isPart (z := (k : Int)) (rDesk_SR hrd hd) (by omega) ?_)
    rw [decide_eq_true (by omega)]
    refine b_eq' (by decide) ?_
    rw [show (20 : Int32) = nI 20 from rfl, nI_add, nI_clamp (by omega), hrd.2.2.1 k kx]
    exact ⟨hd_vn (by omega) (by decide), h _ _ _ hR⟩
  · have no : EVi G mX8_place SH [.ref 94, .int x] σ (fun y' s2 => Q (-1) y' s2) := by
      refine wX8_place _ (wX8_isPart _ ⟨pk_in 0 334 (by decide), ?_⟩)
      rw [show (0 : Int32).toNatClampNeg = 0 from rfl, hrd.1, nI_pm]
      refine sX8_isInG _ _ _ ⟨cl_bit_i _, ?_⟩
      rw [decide_eq_false (fun z => hx ⟨z.1, ?_⟩)]
      · exact b_eq (by decide) (h _ _ _ hR)
      · have b := Int32.le_iff_toInt_le.mp z.2
        rw [zI_toInt ⟨by omega, by omega⟩] at b
        refine Int32.lt_iff_toInt_lt.mpr ?_
        rw [nI_toInt (by omega)]
        omega
    exact wX7_place _ ⟨fun _ => no, fun h1 => ⟨fun _ => no, fun h2 => absurd ⟨h1, by rw [← hcd.1]; exact h2⟩ hx⟩⟩
theorem jNow {G : hd_G} {σ : hd_M} {M : MM} {Q : Int32 → Int32 → hd_M → Prop} (hR : REL σ M) (x : Int32) (h : ∀ y s M', REL s M' → Q y y s) : EVi G mX7_now SH [.ref 0, .int x] σ (fun y s1 => EVi G mX8_now SH [.ref 94, .int x] s1 (fun y' s2 => Q y y' s2)) := by
  have hd := hR.2.2.2.1
  have hm := hR.2.2
  have hv := hd.2.2.2.1.1
  have hv : d_v M.2.2.1 < 2187 := hv
  have hT4 := hd.2.2.2.2.1
  have hrT := hd.2.2.2.2.2.1
  have hcd := hR.1.2.2.1
  have hrd := hR.2.1.2.2.1
  refine wX7_now _ ⟨fun n0 => ⟨by decide, ?_⟩, fun n0 => ⟨fun n1 => ?_, fun n1 => ⟨fun n2 => ?_, fun n2 => ?_⟩⟩⟩
  · refine wX8_now _ (sX8_standNow (rDesk_SR hrd hd) (rDesk_PL hrd hd) (fun s1 a1 r1 => b_ne' n0 ⟨pk_in 26 334 (by decide), ?_⟩))
    have R1 := RREL_R hR.2.1 a1
    rw [show (26 : Int32).toNatClampNeg = 26 from rfl, R1.2.2.1.2.2.2.1, hcd.2.2.1, show nI (d_v M.2.2.1) / 729 = nI (d_v M.2.2.1 / 729) from pk_div (d := 729) (by omega) (by decide) (by decide)]
    exact h _ _ M ⟨CREL_fR hR.1 hm (fR_R a1), R1, hm⟩
  · refine wX8_now _ (sX8_standNow (rDesk_SR hrd hd) (rDesk_PL hrd hd) (fun s1 a1 r1 => b_ne n0 (b_ne' n1 ⟨pk_in 27 334 (by decide), ?_⟩)))
    have R1 := RREL_R hR.2.1 a1
    rw [show (27 : Int32).toNatClampNeg = 27 from rfl, R1.2.2.1.2.2.2.2.1, hcd.2.2.2.1]
    exact h _ _ M ⟨CREL_fR hR.1 hm (fR_R a1), R1, hm⟩
  · refine sX7_rulingLaw hcd.2.2.2.2.1 hcd.2.2.2.2.2.1 hT4 hrT ?_
    rw [hcd.2.2.1]
    have hL := ruM_ok hm.2.2.2.2 hrT
    refine sX4_isOpen (ruQ_law hT4 hrT) (ruQ_lq hrT hR.1.2.2.2.2.1 hR.1.2.2.2.2.2.1) hL hR.1.2.2.2.2.2.2.1 hv (fun s1 a1 nv1 => ?_)
    have C1 := CREL_R hR.1 hm a1 nv1
    have R1 := RREL_fC hR.2.1 (fC_ag a1 (by decide))
    obtain ⟨K, cd, t1, t2, t3, t4⟩ := TX_r R1.2.2.2.2 hrT
    have ref : ∀ y : Int32, y = zI (cl_bit (opM (ruM (d_r M.2.2.1) M.2.2.2.2) (dg (d_v M.2.2.1)))) → EVi G mX8_now SH [.ref 94, .int x] s1 (fun y' s2 => Q y y' s2) := by
      intro y ey
      refine wX8_now _ (sX8_standNow (rDesk_SR R1.2.2.1 hd) (rDesk_PL R1.2.2.1 hd) (fun s3 a3 r3 => b_ne n0 (b_ne n1 (b_ne' n2 ⟨pk_in 2 334 (by decide), ?_⟩))))
      have R3 := RREL_R R1 a3
      rw [show (2 : Int32).toNatClampNeg = 2 from rfl, R3.2.2.1.2.2.2.2.2.2.1]
      refine sX8_isOpen (TX_R t1 a3) t4 r3 (fun s4 a4 r4 => ?_)
      rw [t3]
      have fin := h y s4 M ⟨CREL_fR C1 hm (fR_R (agR_tr a3 a4)), RREL_R R3 a4, hm⟩
      rw [ey] at fin ⊢
      cases hb : opM (ruM (d_r M.2.2.1) M.2.2.2.2) (dg (d_v M.2.2.1)) with
      | false =>
        rw [hb] at fin
        exact b_eq (by decide) fin
      | true =>
        rw [hb] at fin
        exact b_eq' (by decide) fin
    cases hb : opM (ruM (d_r M.2.2.1) M.2.2.2.2) (dg (d_v M.2.2.1)) with
    | false => exact b_eq (by decide) (ref _ (by rw [hb]; rfl))
    | true => exact b_eq' (by decide) (ref _ (by rw [hb]; rfl))
  · refine wX8_now _ (sX8_standNow (rDesk_SR hrd hd) (rDesk_PL hrd hd) (fun s1 a1 r1 => b_ne n0 (b_ne n1 (b_ne n2 ?_))))
    exact h _ _ M ⟨CREL_fR hR.1 hm (fR_R a1), RREL_R hR.2.1 a1, hm⟩
