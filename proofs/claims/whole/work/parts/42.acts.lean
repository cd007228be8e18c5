/-! acts: STEPS, the standing, the ball -/
def stpM (st : List (Nat × Int)) (s : Nat × Int) : List (Nat × Int) := (if st.length = 30 then st.drop 1 else st) ++ [s]
def putSt (D : MD) (st : List (Nat × Int)) : MD := (d_n D, d_sz D, d_v D, d_b D, d_T D, d_r D, st, d_tr D, d_ho D)
def putV (D : MD) (v : Nat) (b : Int) : MD := (d_n D, d_sz D, v, b, d_T D, d_r D, d_st D, d_tr D, d_ho D)
def mvS (L : LW) (D : MD) (act : Nat) : MD := match afM L (d_sz D) (d_v D) act with
  | none => D
  | some w => putV D w (ballM L (dg w) (d_b D))
def aftA (L : LW) (D : MD) (act : Nat) : MD := match afM L (d_sz D) (d_v D) act with
  | none => D
  | some w => putV (putSt D (stpM (d_st D) (d_v D, d_b D))) w (ballM L (dg w) (d_b D))
theorem stpM_len {st : List (Nat × Int)} {s : Nat × Int} (h : st.length ≤ 30) : (stpM st s).length = if st.length = 30 then 30 else st.length + 1 := by
  unfold stpM
  split <;> simp <;> omega
theorem stpM_le {st : List (Nat × Int)} {s : Nat × Int} (h : st.length ≤ 30) : (stpM st s).length ≤ 30 := by
  rw [stpM_len h]
  split <;> omega
theorem stpM_mem {st : List (Nat × Int)} {s t : Nat × Int} (h : t ∈ stpM st s) : t ∈ st ∨ t = s := by
  unfold stpM at h
  rcases List.mem_append.mp h with h | h
  · split at h
    · exact Or.inl (List.mem_of_mem_drop h)
    · exact Or.inl h
  · exact Or.inr (List.mem_singleton.mp h)
theorem stpM_at {st : List (Nat × Int)} {s : Nat × Int} (h : st.length = 30) {j : Nat} (hj : j < 29) : (stpM st s).getD j (0, 0) = st.getD (j + 1) (0, 0) := by
  unfold stpM
  rw [if_pos h, getD_app1 (by simp; omega)]
  simp only [List.getD_eq_getElem?_getD, List.getElem?_drop]
  rw [Nat.add_comm]
theorem stpM_last {st : List (Nat × Int)} {s : Nat × Int} (h : st.length = 30) : (stpM st s).getD 29 (0, 0) = s := by
  unfold stpM
  rw [if_pos h]
  have : (st.drop 1).length = 29 := by simp; omega
  rw [← this, getD_app2]
theorem ballM_rng {L : LW} {f : Nat → Nat} {b : Int} (hb : 0 ≤ b ∧ b ≤ 9) : 0 ≤ ballM L f b ∧ ballM L f b ≤ 9 := by
  have key : ∀ (way : Int) (n : Nat) (c : Int), 0 ≤ c ∧ c ≤ 9 → 0 ≤ rollM L f way n c ∧ rollM L f way n c ≤ 9 := by
    intro way n
    induction n with
    | zero => intro c hc; exact hc
    | succ n ih =>
      intro c hc
      unfold rollM
      split
      · exact ih _ (by omega)
      · exact hc
  unfold ballM
  split
  · exact hb
  · exact key _ _ _ hb
theorem setF_z {sz : Nat → Nat} {c p : Nat} (hp : sz p = 0) : ∀ {l : List (Nat × Nat × Nat)} {f : Nat → Nat}, f p = 0 → setF sz c l f p = 0
  | [], _, h => h
  | s :: r, f, h => by
    unfold setF
    refine setF_z hp ?_
    split
    · rename_i hc
      unfold up
      split
      · rename_i e
        rw [← e, hp] at hc
        omega
      · exact h
    · exact h
theorem afM_z {L : LW} {sz : Nat → Nat} {v act w p : Nat} (hL : LWok L) (hs : ∀ p, p < 6 → sz p ≤ 3) (hv : v < 2187) (ha : act < 15) (h : afM L sz v act = some w) (hp : p < 6) (hz : sz p = 0) (h0 : dg v p = 0) : dg w p = 0 := by
  cases hc : canM L sz (dg v) act with
  | false =>
    rw [afM_n hc] at h
    cases h
  | true =>
    rw [afM_s hc] at h
    cases h
    rw [dg_nm (mvM_o7 hL hs (dg_o7 hv) ha hc) p (by omega)]
    by_cases h12 : 12 ≤ act
    · rw [mvM_t h12]
      refine setF_z hz ?_
      unfold up
      rw [if_neg (by omega)]
      exact h0
    · rw [mvM_p (by omega)]
      refine setF_z hz ?_
      unfold up
      split
      · rename_i e
        rw [canM_p (by omega)] at hc
        simp [isP, ← e, hz] at hc
        omega
      · exact h0
theorem dok_putV {D : MD} {L : LW} {act w : Nat} (hd : dok D) (hL : LWok L) (ha : act < 15) (h : afM L (d_sz D) (d_v D) act = some w) : dok (putV D w (ballM L (dg w) (d_b D))) := by
  obtain ⟨o1, o2, o3, o4, o5, o6, o7, o8, o9, o10, o11, o12⟩ := hd
  have hs : ∀ p, p < 6 → d_sz D p ≤ 3 := dok_sz ⟨o1, o2, o3, o4, o5, o6, o7, o8, o9, o10, o11, o12⟩
  exact ⟨o1, o2, o3, ⟨afM_lt hL hs o4.1 ha h, ballM_rng o4.2.1, fun p hp hp6 => afM_z hL hs o4.1 ha h hp6 (o3 p hp) (o4.2.2 p hp hp6)⟩, o5, o6, o7, o8, o9, o10, o11, o12⟩
theorem dok_putSt {D : MD} (hd : dok D) : dok (putSt D (stpM (d_st D) (d_v D, d_b D))) := by
  obtain ⟨o1, o2, o3, o4, o5, o6, o7, o8, o9, o10, o11, o12⟩ := hd
  refine ⟨o1, o2, o3, o4, o5, o6, stpM_le o7, fun s hs => ?_, o9, o10, o11, o12⟩
  rcases stpM_mem hs with h | h
  · exact o8 s h
  · rw [h]
    exact o4
theorem dok_mvS {D : MD} {L : LW} {act : Nat} (hd : dok D) (hL : LWok L) (ha : act < 15) : dok (mvS L D act) := by
  unfold mvS
  split
  · exact hd
  · rename_i w h
    exact dok_putV hd hL ha h
theorem dok_aftA {D : MD} {L : LW} {act : Nat} (hd : dok D) (hL : LWok L) (ha : act < 15) : dok (aftA L D act) := by
  unfold aftA
  split
  · exact hd
  · rename_i w h
    exact dok_putV (D := putSt D (stpM (d_st D) (d_v D, d_b D))) (dok_putSt hd) hL ha h
theorem mvS_T (L : LW) (D : MD) (act : Nat) : d_T (mvS L D act) = d_T D ∧ d_r (mvS L D act) = d_r D := by
  unfold mvS
  split <;> exact ⟨rfl, rfl⟩
theorem aftA_T (L : LW) (D : MD) (act : Nat) : d_T (aftA L D act) = d_T D ∧ d_r (aftA L D act) = d_r D := by
  unfold aftA
  split <;> exact ⟨rfl, rfl⟩
theorem mok_D {tp : List Nat} {ft : Int32 × Int32} {D D1 D' : MD} {laws : Nat → LW} (hm : mok (tp, ft, D, D', laws)) (hd : dok D1) (hT : d_T D1 = d_T D) : mok (tp, ft, D1, D', laws) := ⟨hm.1, hd, hm.2.2.1, by show d_T D' ≤ d_T D1; rw [hT]; exact hm.2.2.2.1, by show okL (d_T D1) laws; rw [hT]; exact hm.2.2.2.2⟩
/-- the class: a move -/
theorem sX7_move {G : hd_G} {σ : hd_M} {P : Int32 → hd_M → Prop} {tp : List Nat} {ft : Int32 × Int32} {D D' : MD} {laws : Nat → LW} {act : Nat} (hC : CREL σ (tp, ft, D, D', laws)) (hm : mok (tp, ft, D, D', laws)) (ha : act < 15) (h : ∀ σ', fC σ σ' → CREL σ' (tp, ft, mvS (ruM (d_r D) laws) D act, D', laws) → P (haM (ruM (d_r D) laws) (d_sz D) (d_v D) act) σ') : EVi G mX7_move SH [.ref 0, .int (nI act)] σ P := by
  have hd : dok D := hm.2.1
  have hT4 : d_T D ≤ 4 := hd.2.2.2.2.1
  have hrT := hd.2.2.2.2.2.1
  have hcd : cDesk σ 2 D := hC.2.2.1
  have hv := hd.2.2.2.1.1
  have hv : d_v D < 2187 := hv
  have hb := hd.2.2.2.1.2.1
  have hb : 0 ≤ d_b D ∧ d_b D ≤ 9 := hb
  have hq := ruQ_law hT4 hrT
  have hl : lq σ (ruQ (d_r D)) (ruM (d_r D) laws) := ruQ_lq hrT hC.2.2.2.2.1 hC.2.2.2.2.2.1
  have hL : LWok (ruM (d_r D) laws) := ruM_ok hm.2.2.2.2 hrT
  generalize ruM (d_r D) laws = L at *
  refine wX7_move _ (sX7_rulingLaw hcd.2.2.2.2.1 hcd.2.2.2.2.2.1 hT4 hrT ?_)
  rw [hcd.2.2.1]
  refine sX4_standingAfter hq hl hL (cDesk_SZ hcd hd) hC.2.2.2.2.2.2.1 hv ha (fun s3 a3 n3 v5 e5 => ?_)
  rw [e5]
  unfold mvS haM at h
  cases haf : afM L (d_sz D) (d_v D) act with
  | none =>
    rw [haf] at h
    exact b_ne' rfl (h s3 (fC_ag a3 (by decide)) (CREL_R hC hm a3 n3))
  | some w =>
    rw [haf] at h
    have hw := afM_lt hL (dok_sz hd) hv ha haf
    refine c_ne (w : Int) (-1) rfl rfl (fun _ => ?_) (fun z => by omega)
    rw [(a3 2 (by decide)).1, hcd.2.2.1]
    refine sX4_heardOf hq (lq_ag hl hq a3) hL n3 hv hw ha (fun s6 a6 n6 v8 e8 s9 e9 => ?_)
    have e9 : s9 = hd_wI s6 2 2 (nI w) := e9
    have a36 := ag_tr a3 a6
    have c69 : ∀ k, k ≠ 2 → s9.1 k = s6.1 k := fun k hk => by rw [e9, wI_ne hk]
    have l9 : lq s9 (ruQ (d_r D)) L := lq_cg (lq_ag hl hq a36) (fun k h1 h2 => c69 k (by have := law_no hq h1 h2; omega))
    have n9 : NV s9 := NV_cg n6 (by rw [c69 78 (by decide)]) (c69 79 (by decide))
    have b9 : s9.1 2 3 = zI (d_b D) := by rw [e9, wI_eq, if_neg (by decide), (a36 2 (by decide)).1]; exact hcd.2.2.2.1
    rw [b9]
    refine sX4_ballAfter hq l9 hL n9 hw hb (fun s10 a10 n10 s12 e12 s13 e13 => ?_)
    have cs : ∀ k, k ∉ [0, 2, 78, 79, 80] → s13.1 k = σ.1 k := by
      intro k hk
      simp at hk
      rw [e13, wI_ne (by omega), e12, wI_ne (by omega), (a10 k (by simp; omega)).1, c69 k (by omega), (a36 k (by simp; omega)).1]
    have c2 : ∀ j, s13.1 2 j = if j = 3 then zI (ballM L (dg w) (d_b D)) else if j = 2 then nI w else σ.1 2 j := by
      intro j
      rw [e13, wI_ne (by decide), e12, wI_eq, (a10 2 (by decide)).1, e9, wI_eq, (a36 2 (by decide)).1]
    have c0 : ∀ j, s13.1 0 j = if j = 13 then -1 else σ.1 0 j := by
      intro j
      rw [e13, wI_eq, e12, wI_ne (by decide), (a10 0 (by decide)).1, e9, wI_ne (by decide), (a36 0 (by decide)).1]
    have fc : fC σ s13 := by
      rw [e13, e12]
      exact fC_w (fC_w (fC_tr (by rw [e9]; exact fC_w (fC_ag a36 (by decide)) (by decide)) (fC_ag a10 (by decide))) (by decide)) (by decide)
    rw [e8]
    refine h s13 fc ?_
    obtain ⟨d1, d2, d3, d4, d5, d6, d7, d8, d9, d10, d11, d12⟩ := hcd
    refine CREL_desk hC (Nat.le_refl _) hT4 (fun k h1 h2 => cs k (by simp; omega)) (cs 1 (by decide)) (fun k hk => by rw [c0, if_neg (by omega)]) ?_ ⟨?_, fun p hp => ?_, ?_, ?_, ?_, ?_, ?_, fun j hj => ?_, ?_, fun j hj => ?_, ?_, fun j hj => ?_⟩ (Or.inl (by rw [c0, if_pos rfl]))
    · exact NV_cg n10 (by rw [e13, wI_ne (by decide), e12, wI_ne (by decide)]) (by rw [e13, wI_ne (by decide), e12, wI_ne (by decide)])
    · rw [c2, if_neg (by decide), if_neg (by decide)]; exact d1
    · rw [cs 3 (by decide)]; exact d2 p hp
    · rw [c2, if_neg (by decide), if_pos rfl]; rfl
    · rw [c2, if_pos rfl]; rfl
    · rw [c2, if_neg (by decide), if_neg (by decide)]; exact d5
    · rw [c2, if_neg (by decide), if_neg (by decide)]; exact d6
    · rw [c2, if_neg (by decide), if_neg (by decide)]; exact d7
    · rw [cs 4 (by decide), cs 5 (by decide)]; exact d8 j hj
    · rw [c2, if_neg (by decide), if_neg (by decide)]; exact d9
    · rw [cs 6 (by decide), cs 7 (by decide)]; exact d10 j hj
    · rw [c2, if_neg (by decide), if_neg (by decide)]; exact d11
    · rw [cs 8 (by decide)]; exact d12 j hj
theorem sX1_addStep {G : hd_G} {σ : hd_M} {P : hd_M → Prop} {D : MD} {v0 : Nat} {b0 : Int} (hD : cDesk σ 2 D) (hl : (d_st D).length ≤ 30) (h : ∀ σ', (∀ k, k ≠ 2 → k ≠ 4 → k ≠ 5 → σ'.1 k = σ.1 k) → σ'.2 = σ.2 → cDesk σ' 2 (putSt D (stpM (d_st D) (v0, b0))) → P σ') : EVv G mX1_addStep SH [.ref 2, .int (nI v0), .int (zI b0)] σ P := by
  obtain ⟨d1, d2, d3, d4, d5, d6, d7, d8, d9, d10, d11, d12⟩ := hD
  refine wX1_addStep (Or.inl rfl) _ _ ?_
  rw [d7]
  have put : ∀ (s9 s3 : hd_M) (m : Nat), m < 30 → (∀ k, k ≠ 2 → k ≠ 4 → k ≠ 5 → s3.1 k = σ.1 k) → s3.2 = σ.2 → (∀ j, j ≠ 8 → s3.1 2 j = σ.1 2 j) → (stpM (d_st D) (v0, b0)).length = m + 1 → (stpM (d_st D) (v0, b0)).getD m (0, 0) = (v0, b0) → (∀ j, j < m → s3.1 4 j = nI ((stpM (d_st D) (v0, b0)).getD j (0, 0)).1 ∧ s3.1 5 j = zI ((stpM (d_st D) (v0, b0)).getD j (0, 0)).2) → s9 = hd_wI (hd_wI (hd_wI s3 4 m (nI v0)) 5 m (zI b0)) 2 8 (nI (m + 1)) → P s9 := by
    intro s9 s3 m hm hc hc2 h2 hlen hlast hrow e9
    have cs : ∀ k, k ≠ 2 → k ≠ 4 → k ≠ 5 → s9.1 k = σ.1 k := fun k h1 h2 h3 => by rw [e9, wI_ne h1, wI_ne h3, wI_ne h2]; exact hc k h1 h2 h3
    have c2 : ∀ j, s9.1 2 j = if j = 8 then nI (m + 1) else σ.1 2 j := by
      intro j
      rw [e9, wI_eq, wI_ne (by decide), wI_ne (by decide)]
      by_cases hj : j = 8
      · rw [if_pos hj, if_pos hj]
      · rw [if_neg hj, if_neg hj, h2 j hj]
    refine h s9 cs (by rw [e9]; exact hc2) ⟨?_, fun p hp => ?_, ?_, ?_, ?_, ?_, ?_, fun j hj => ?_, ?_, fun j hj => ?_, ?_, fun j hj => ?_⟩
    · rw [c2, if_neg (by decide)]; exact d1
    · rw [cs 3 (by decide) (by decide) (by decide)]; exact d2 p hp
    · rw [c2, if_neg (by decide)]; exact d3
    · rw [c2, if_neg (by decide)]; exact d4
    · rw [c2, if_neg (by decide)]; exact d5
    · rw [c2, if_neg (by decide)]; exact d6
    · rw [c2, if_pos rfl]
      show _ = nI (stpM (d_st D) (v0, b0)).length
      rw [hlen]
    · have hj : j < (stpM (d_st D) (v0, b0)).length := hj
      show s9.1 4 j = nI ((stpM (d_st D) (v0, b0)).getD j (0, 0)).1 ∧ s9.1 5 j = zI ((stpM (d_st D) (v0, b0)).getD j (0, 0)).2
      rw [hlen] at hj
      have q4 : s9.1 4 j = if j = m then nI v0 else s3.1 4 j := by rw [e9, wI_ne (by decide), wI_ne (by decide), wI_eq]
      have q5 : s9.1 5 j = if j = m then zI b0 else s3.1 5 j := by rw [e9, wI_ne (by decide), wI_eq, wI_ne (by decide)]
      rw [q4, q5]
      by_cases hjm : j = m
      · rw [if_pos hjm, if_pos hjm, hjm, hlast]
        exact ⟨rfl, rfl⟩
      · rw [if_neg hjm, if_neg hjm]
        exact hrow j (by omega)
    · rw [c2, if_neg (by decide)]; exact d9
    · rw [cs 6 (by decide) (by decide) (by decide), cs 7 (by decide) (by decide) (by decide)]; exact d10 j hj
    · rw [c2, if_neg (by decide)]; exact d11
    · rw [cs 8 (by decide) (by decide) (by decide)]; exact d12 j hj
  by_cases h30 : (d_st D).length = 30
  · rw [h30]
    refine b_lt' (by decide) ⟨⟨by decide, by decide, by decide, by decide, by decide⟩, fun s4 e4 => ⟨⟨by decide, by decide, by decide, by decide, by decide⟩, fun s5 e5 s6 e6 => ?_⟩⟩
    have e4 : s4 = (va_up σ.1 4 (va_cpy (σ.1 4) (σ.1 4) 1 0 29), σ.2) := e4
    have e5 : s5 = (va_up s4.1 5 (va_cpy (s4.1 5) (s4.1 5) 1 0 29), s4.2) := e5
    have r4 : ∀ k, k ≠ 4 → s4.1 k = σ.1 k := fun k hk => by rw [e4]; exact hd_up_ne hk
    have r5 : ∀ k, k ≠ 5 → s5.1 k = s4.1 k := fun k hk => by rw [e5]; exact hd_up_ne hk
    have n6 : s6.1 2 8 = nI 29 := by rw [e6, wI_eq, if_pos rfl]; rfl
    rw [n6, nI_clamp (by decide)]
    refine ⟨hd_vn (by decide) (by decide), fun s7 e7 => ?_⟩
    have n7 : s7.1 2 8 = nI 29 := by rw [e7, wI_ne (by decide), n6]
    have e7 : s7 = hd_wI s6 4 29 (nI v0) := e7
    rw [n7, nI_clamp (by decide)]
    refine ⟨hd_vn (by decide) (by decide), fun s8 e8 s9 e9 => ?_⟩
    have e8 : s8 = hd_wI s7 5 29 (zI b0) := e8
    have n8 : s8.1 2 8 = nI 29 := by rw [e8, wI_ne (by decide), n7]
    have e9 : s9 = hd_wI s8 2 8 (nI (29 + 1)) := by rw [e9, n8, nI_1]
    refine put s9 s6 29 (by decide) (fun k h1 h2 h3 => by rw [e6, wI_ne h1, r5 k h3, r4 k h2]) (by rw [e6, e5, e4]; rfl) (fun j hj => by rw [e6, wI_eq, if_neg hj, r5 2 (by decide), r4 2 (by decide)]) (by rw [stpM_len hl, if_pos h30]) (stpM_last h30) (fun j hj => ?_) (by rw [e9, e8, e7])
    rw [stpM_at h30 hj]
    have q4 : s6.1 4 j = σ.1 4 (j + 1) := by
      have w : s4.1 4 j = va_cpy (σ.1 4) (σ.1 4) 1 0 29 j := by rw [e4]; simp [va_up]
      rw [e6, wI_ne (by decide), r5 4 (by decide), w, pk_cpy_in (by omega) (by omega), Nat.sub_zero, Nat.add_comm]
    have q5 : s6.1 5 j = σ.1 5 (j + 1) := by
      have w : s5.1 5 j = va_cpy (s4.1 5) (s4.1 5) 1 0 29 j := by rw [e5]; simp [va_up]
      rw [e6, wI_ne (by decide), w, pk_cpy_in (by omega) (by omega), Nat.sub_zero, Nat.add_comm, r4 5 (by decide)]
    rw [q4, q5]
    exact d8 (j + 1) (by omega)
  · have hlt : (d_st D).length < 30 := by omega
    refine b_lt (nI_lt (b := 30) hlt (by decide)) ⟨hd_vn hlt (by decide), fun s1 e1 => ?_⟩
    rw [nI_clamp (by omega)] at e1
    have e1 : s1 = hd_wI σ 4 (d_st D).length (nI v0) := e1
    have n1 : s1.1 2 8 = nI (d_st D).length := by rw [e1, wI_ne (by decide), d7]
    rw [n1, nI_clamp (by omega)]
    refine ⟨hd_vn hlt (by decide), fun s2 e2 s3 e3 => ?_⟩
    have e2 : s2 = hd_wI s1 5 (d_st D).length (zI b0) := e2
    have n2 : s2.1 2 8 = nI (d_st D).length := by rw [e2, wI_ne (by decide), n1]
    rw [n2, nI_1] at e3
    have hst : stpM (d_st D) (v0, b0) = d_st D ++ [(v0, b0)] := by unfold stpM; rw [if_neg h30]
    refine put s3 σ (d_st D).length hlt (fun k _ _ _ => rfl) rfl (fun j _ => rfl) (by rw [hst]; simp) (by rw [hst, getD_app2]) (fun j hj => ?_) (by rw [e3, e2, e1])
    rw [hst, getD_app1 hj]
    exact d8 j hj
theorem CREL_step {σ σ' : hd_M} {tp : List Nat} {ft : Int32 × Int32} {D D1 D' : MD} {laws : Nat → LW} (hC : CREL σ (tp, ft, D, D', laws)) (hT4 : d_T D ≤ 4) (hc : ∀ k, k ≠ 2 → k ≠ 4 → k ≠ 5 → σ'.1 k = σ.1 k) (hT : d_T D1 = d_T D) (hs : d_sz D1 = d_sz D) (hv : d_v D1 = d_v D) (hr : d_r D1 = d_r D) (hd : cDesk σ' 2 D1) : CREL σ' (tp, ft, D1, D', laws) := by
  refine CREL_desk hC (by rw [hT]; exact Nat.le_refl _) hT4 (fun k h1 h2 => hc k (by omega) (by omega) (by omega)) (hc 1 (by decide) (by decide) (by decide)) (fun k hk => by rw [hc 0 (by decide) (by decide) (by decide)]) (NV_cg hC.2.2.2.2.2.2.1 (by rw [hc 78 (by decide) (by decide) (by decide)]) (hc 79 (by decide) (by decide) (by decide))) hd ?_
  have h8 : cSch σ D laws := hC.2.2.2.2.2.2.2
  have : cSch σ D1 laws := by
    unfold cSch nowB whB at h8 ⊢
    rw [hT, hs, hv, hr]
    exact h8
  exact cSch_cg this (by rw [hc 0 (by decide) (by decide) (by decide)]) (hc 81 (by decide) (by decide) (by decide)) (hc 84 (by decide) (by decide) (by decide)) (hc 85 (by decide) (by decide) (by decide))
theorem sX7_act {G : hd_G} {σ : hd_M} {P : Int32 → hd_M → Prop} {tp : List Nat} {ft : Int32 × Int32} {D D' : MD} {laws : Nat → LW} {act : Nat} (hC : CREL σ (tp, ft, D, D', laws)) (hm : mok (tp, ft, D, D', laws)) (ha : act < 15) (h : ∀ σ', fC σ σ' → CREL σ' (tp, ft, aftA (ruM (d_r D) laws) D act, D', laws) → P (haM (ruM (d_r D) laws) (d_sz D) (d_v D) act) σ') : EVi G mX7_act SH [.ref 0, .int (nI act)] σ P := by
  have hd : dok D := hm.2.1
  have hcd : cDesk σ 2 D := hC.2.2.1
  refine wX7_act _ (fun v1 e1 v2 e2 => sX7_move hC hm ha (fun s3 f3 C3 v5 e5 => ?_))
  rw [e5]
  unfold mvS at C3
  unfold aftA haM at h
  unfold haM
  have hL : LWok (ruM (d_r D) laws) := ruM_ok hm.2.2.2.2 hd.2.2.2.2.2.1
  cases haf : afM (ruM (d_r D) laws) (d_sz D) (d_v D) act with
  | none =>
    rw [haf] at h C3
    exact b_eq rfl (h s3 f3 C3)
  | some w =>
    rw [haf] at h C3
    have h9 := hrM_le (ruM (d_r D) laws) (dg (d_v D)) (dg w) act
    refine c_eq (hrM (ruM (d_r D) laws) (dg (d_v D)) (dg w) act : Int) (-1) rfl rfl (fun z => by omega) (fun _ => ?_)
    rw [e1, e2, hcd.2.2.1, hcd.2.2.2.1]
    have C3 : CREL s3 (tp, ft, putV D w (ballM (ruM (d_r D) laws) (dg w) (d_b D)), D', laws) := C3
    refine sX1_addStep C3.2.2.1 hd.2.2.2.2.2.2.1 (fun s6 c6 c6' d6 => ?_)
    have : CREL s6 (tp, ft, putV (putSt D (stpM (d_st D) (d_v D, d_b D))) w (ballM (ruM (d_r D) laws) (dg w) (d_b D)), D', laws) := CREL_step C3 hd.2.2.2.2.1 c6 rfl rfl rfl rfl d6
    exact h s6 (fC_tr f3 (fun k hk => ⟨c6 k (by omega) (by omega) (by omega), by rw [c6']⟩)) this
