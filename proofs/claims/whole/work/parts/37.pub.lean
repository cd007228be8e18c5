/-! small methods: class and reference side by side -/
theorem i_rng {x : Int32} (a b : Nat) (h1 : nI a ≤ x) (h2 : x ≤ nI b) (ha : a < 2 ^ 31 := by decide) (hb : b < 2 ^ 31 := by decide) : ∃ k : Nat, a ≤ k ∧ k ≤ b ∧ x = nI k := by
  have h1 := Int32.le_iff_toInt_le.mp h1
  have h2 := Int32.le_iff_toInt_le.mp h2
  rw [nI_toInt ha] at h1
  rw [nI_toInt hb] at h2
  refine ⟨x.toInt.toNat, by omega, by omega, ?_⟩
  rw [nI_z, show ((x.toInt.toNat : Nat) : Int) = x.toInt by omega, zI_of]
theorem i_rngM {x : Int32} (b : Nat) (h1 : (-1) ≤ x) (h2 : x ≤ nI b) (hb : b < 2 ^ 31 := by decide) : ∃ z : Int, -1 ≤ z ∧ z ≤ b ∧ x = zI z := by
  have h1 : (-1 : Int) ≤ x.toInt := Int32.le_iff_toInt_le.mp h1
  have h2 := Int32.le_iff_toInt_le.mp h2
  rw [nI_toInt hb] at h2
  exact ⟨x.toInt, h1, h2, (zI_of x).symm⟩
theorem i_lt {x y : Int32} : x < y ↔ ¬ y ≤ x := Int32.not_le.symm
theorem rStep_cg {σ σ' : hd_M} {q x n n' : Nat} {s : Nat × Int} (h : rStep σ q x n s) (hn : n ≤ n') (hn6 : n ≤ 6) (hc : ∀ i, x ≤ i → i ≤ x + 8 → σ'.1 q i = σ.1 q i) : rStep σ' q x n' s := by
  obtain ⟨m, h1, h2, h3, h4, h5, h6⟩ := h
  refine ⟨m, by omega, by rw [hc x (by omega) (by omega)]; exact h2, fun k hk => by rw [hc _ (by omega) (by omega)]; exact h3 k hk, h4, by rw [hc _ (by omega) (by omega)]; exact h5, by rw [hc _ (by omega) (by omega)]; exact h6⟩
theorem okSt_mono {n n' : Nat} {s : Nat × Int} (h : okSt n s) (hn : n ≤ n') : okSt n' s := ⟨h.1, h.2.1, fun p hp => h.2.2 p (by omega)⟩
theorem nI_k {n : Nat} (h : n ≠ 6) (hn : n ≤ 6) : ¬ nI n = 6 := fun z => h ((nI_eq (b := 6) (by omega) (by decide)).mp z)
/-- the rest of the class's cells, where only the desk and the latest search have changed -/
theorem CREL_desk {σ σ' : hd_M} {tp : List Nat} {ft : Int32 × Int32} {D D1 D' : MD} {laws : Nat → LW} (h : CREL σ (tp, ft, D, D', laws)) (hT : d_T D1 ≤ d_T D) (hT4 : d_T D ≤ 4) (hc : ∀ k, 9 ≤ k → k < 78 → σ'.1 k = σ.1 k) (h1 : σ'.1 1 = σ.1 1) (h0 : ∀ k, k < 4 → σ'.1 0 k = σ.1 0 k) (hn : NV σ') (hd : cDesk σ' 2 D1) (hs : cSch σ' D1 laws) : CREL σ' (tp, ft, D1, D', laws) := by
  obtain ⟨a1, a2, a3, a4, a5, a6, a7, a8⟩ := h
  refine ⟨cTape_cg a1 (h0 1 (by decide)) h1, by rw [h0 2 (by decide), h0 3 (by decide)]; exact a2, hd, cDesk_cg a4 (fun k x y => hc k (by omega) (by omega)), fun t ht => ?_, lq_cg a6 (fun k x y => hc k (by omega) (by omega)), hn, hs⟩
  have ht : t < d_T D1 := ht
  exact lq_cg (a5 t (Nat.lt_of_lt_of_le ht hT)) (fun k x y => hc k (by omega) (by omega))
theorem RREL_desk {σ σ' : hd_M} {tp : List Nat} {ft : Int32 × Int32} {D D1 D' : MD} {laws : Nat → LW} (h : RREL σ (tp, ft, D, D', laws)) (hT : d_T D1 ≤ d_T D) (hc : ∀ k, 96 ≤ k → k < 99 → σ'.1 k = σ.1 k) (h4 : ∀ k, 4 ≤ k → k < 7 → σ'.1 94 k = σ.1 94 k) (hd : rDesk σ' 95 D1) : RREL σ' (tp, ft, D1, D', laws) := by
  obtain ⟨a1, a2, a3, a4, a5⟩ := h
  refine ⟨?_, by rw [h4 5 (by decide) (by decide), h4 6 (by decide) (by decide)]; exact a2, hd, rDesk_cg a4 (hc 96 (by decide) (by decide)), fun t ht => ?_⟩
  · unfold rTape
    rw [h4 4 (by decide) (by decide), hc 98 (by decide) (by decide)]
    exact a1
  · have ht : t < d_T D1 := ht
    exact rTexts_cg a5 (hc 97 (by decide) (by decide)) t (Nat.lt_of_lt_of_le ht hT)
theorem jPart {G : hd_G} {σ : hd_M} {M : MM} {Q : Int32 → Int32 → hd_M → Prop} (hR : REL σ M) (x : Int32) (h : ∀ y s M', REL s M' → Q y y s) : EVi G mX7_part SH [.ref 0, .int x] σ (fun y s1 => EVi G mX8_part SH [.ref 94, .int x] s1 (fun y' s2 => Q y y' s2)) := by
  obtain ⟨tp, ft, ⟨n, sz, v, b, T, r, st, tr, ho⟩, D', laws⟩ := M
  have hC := hR.1
  have hRr := hR.2.1
  obtain ⟨k1, k2, k3, k4, k5⟩ := hR.2.2
  obtain ⟨c1, c2, c3, c4, c5, c6, c7, c8, c9, c10, c11, c12⟩ := hC.2.2.1
  obtain ⟨r1, r2, r3, r4, r5, r6, r7, r8, r9, r10, r11, r12, r13⟩ := hRr.2.2.1
  obtain ⟨o1, o2, o3, o4, o5, o6, o7, o8, o9, o10, o11, o12⟩ := k2
  simp only [d_n, d_sz, d_v, d_b, d_T, d_r, d_st, d_tr, d_ho] at *
  by_cases hx : (2 : Int32) ≤ x ∧ x ≤ 3
  · obtain ⟨k, kx1, kx2, rfl⟩ := i_rng (x := x) 2 3 hx.1 hx.2
    by_cases hn : n = 6
    · have no : EVi G mX8_part SH [.ref 94, .int (nI k)] σ (fun y' s2 => Q (-1) y' s2) := by
        refine wX8_part _ (sX8_isInG _ _ _ ?_)
        rw [decide_eq_true hx]
        refine b_eq' (by decide) ⟨pk_in 0 334 (by decide), ?_⟩
        rw [show (0 : Int32).toNatClampNeg = 0 from rfl, r1, hn]
        exact b_ne' rfl (h _ _ _ hR)
      refine wX7_part _ (b_lt' hx.1 (b_lt' hx.2 (b_lt' ?_ no)))
      rw [c1, hn]
      decide
    · refine wX7_part _ (b_lt' hx.1 (b_lt' hx.2 (b_lt ?_ ⟨?_, fun s1 e1 s2 e2 s3 e3 => ?_⟩)))
      · rw [c1]
        exact nI_lt (b := 6) (by omega) (by decide)
      · rw [c1]
        exact hd_vn (by omega) (by decide)
      · have e1 : s1 = hd_wI σ 3 n (nI k) := by rw [e1, c1, nI_clamp (by omega)]
        have e2 : s2 = hd_wI s1 2 1 (nI (n + 1)) := by rw [e2, e1, wI_ne (by decide), c1, nI_1]
        have y1 : s3.1 2 1 - 1 = nI n := by
          rw [e3, wI_ne (by decide), e2, wI_eq, if_pos rfl]
          exact nI_pred n
        have f3 : fC σ s3 := by rw [e3, e2, e1]; exact fC_w (fC_w (fC_w fC_rf (by decide)) (by decide)) (by decide)
        have C3 : CREL s3 (tp, ft, (n + 1, up sz n k, v, b, T, r, st, tr, ho), D', laws) := by
          refine CREL_desk hC (Nat.le_refl _) o5 (fun j h1 h2 => ?_) ?_ (fun j hj => ?_) ?_ ⟨?_, fun p hp => ?_, ?_, ?_, ?_, ?_, ?_, ?_, ?_, ?_, ?_, ?_⟩ (Or.inl ?_)
          all_goals (try rw [e3, e2, e1])
          · rw [wI_ne (by omega), wI_ne (by omega), wI_ne (by omega)]
          · rw [wI_ne (by decide), wI_ne (by decide), wI_ne (by decide)]
          · rw [wI_eq, if_neg (by omega), wI_ne (by decide), wI_ne (by decide)]
          · exact NV_cg hC.2.2.2.2.2.2.1 (by simp [wI_at]) (by rw [wI_ne (by decide), wI_ne (by decide), wI_ne (by decide)])
          · simp [wI_at, d_n]
          · show _ = nI (up sz n k p)
            unfold up
            rw [wI_ne (by decide), wI_ne (by decide), wI_eq]
            by_cases hpn : p = n
            · rw [if_pos hpn, if_pos hpn]
            · rw [if_neg hpn, if_neg hpn]
              exact c2 p hp
          · simpa [wI_at, d_n, d_sz, d_v, d_b, d_T, d_r, d_st, d_tr, d_ho] using c3
          · simpa [wI_at, d_n, d_sz, d_v, d_b, d_T, d_r, d_st, d_tr, d_ho] using c4
          · simpa [wI_at, d_n, d_sz, d_v, d_b, d_T, d_r, d_st, d_tr, d_ho] using c5
          · simpa [wI_at, d_n, d_sz, d_v, d_b, d_T, d_r, d_st, d_tr, d_ho] using c6
          · simpa [wI_at, d_n, d_sz, d_v, d_b, d_T, d_r, d_st, d_tr, d_ho] using c7
          · simpa [wI_at, d_n, d_sz, d_v, d_b, d_T, d_r, d_st, d_tr, d_ho] using c8
          · simpa [wI_at, d_n, d_sz, d_v, d_b, d_T, d_r, d_st, d_tr, d_ho] using c9
          · simpa [wI_at, d_n, d_sz, d_v, d_b, d_T, d_r, d_st, d_tr, d_ho] using c10
          · simpa [wI_at, d_n, d_sz, d_v, d_b, d_T, d_r, d_st, d_tr, d_ho] using c11
          · simpa [wI_at, d_n, d_sz, d_v, d_b, d_T, d_r, d_st, d_tr, d_ho] using c12
          · rw [wI_eq, if_pos rfl]
        have R3 := RREL_fC hRr f3
        obtain ⟨q1, q2, q3, q4, q5, q6, q7, q8, q9, q10, q11, q12, q13⟩ := R3.2.2.1
        simp only [d_n, d_sz, d_v, d_b, d_T, d_r, d_st, d_tr, d_ho] at *
        rw [y1]
        refine wX8_part _ (sX8_isInG _ _ _ ?_)
        rw [decide_eq_true hx]
        refine b_eq' (by decide) ⟨pk_in 0 334 (by decide), ?_⟩
        rw [show (0 : Int32).toNatClampNeg = 0 from rfl, q1]
        refine b_ne (nI_k hn o1) ⟨pk_in 0 334 (by decide), ?_⟩
        rw [show (10 : Int32) = nI 10 from rfl, show (20 : Int32) = nI 20 from rfl, nI_add, nI_clamp (by omega)]
        refine ⟨hd_vn (by omega) (by decide), fun t3 d3 => ⟨pk_in 0 334 (by decide), ?_⟩⟩
        have w3 : t3.1 95 0 = nI n := by rw [d3, wI_eq, if_neg (by omega), q1]
        rw [w3, nI_add, nI_clamp (by omega)]
        refine ⟨hd_vn (by omega) (by decide), fun t4 d4 => ⟨pk_in 0 334 (by decide), pk_in 0 334 (by decide), fun t5 d5 => ⟨pk_in 0 334 (by decide), ?_⟩⟩⟩
        have w4 : t4.1 95 0 = nI n := by rw [d4, wI_eq, if_neg (by omega), w3]
        rw [w4, nI_1] at d5
        have w5 : t5.1 95 0 = nI (n + 1) := by rw [d5, wI_eq, if_pos rfl]
        have rd : ∀ j, t5.1 95 j = if j = 0 then nI (n + 1) else if j = 20 + n then 0 else if j = 10 + n then nI k else s3.1 95 j := by
          intro j
          rw [d5, d4, d3, wI_eq, wI_eq, wI_eq]
        have ne : ∀ j, j ≠ 0 → j ≠ 20 + n → j ≠ 10 + n → t5.1 95 j = s3.1 95 j := fun j h1 h2 h3 => by rw [rd, if_neg h1, if_neg h2, if_neg h3]
        have f5 : fR s3 t5 := by rw [d5, d4, d3]; exact fR_w (fR_w (fR_w fR_rf (by decide)) (by decide)) (by decide)
        have mo : mok (tp, ft, (n + 1, up sz n k, v, b, T, r, st, tr, ho), D', laws) := by
          refine ⟨k1, ⟨by show n + 1 ≤ 6; omega, fun p hp => ?_, fun p hp => ?_, okSt_mono o4 (by show n ≤ n + 1; omega), o5, o6, o7, fun s hs => okSt_mono (o8 s hs) (by show n ≤ n + 1; omega), o9, o10, o11, o12⟩, k3, k4, k5⟩
          · have hp : p < n + 1 := hp
            show 2 ≤ up sz n k p ∧ up sz n k p ≤ 3
            unfold up
            by_cases hpn : p = n
            · rw [if_pos hpn]
              omega
            · rw [if_neg hpn]
              exact o2 p (by omega)
          · have hp : n + 1 ≤ p := hp
            show up sz n k p = 0
            unfold up
            rw [if_neg (by omega)]
            exact o3 p (by omega)
        rw [w5, nI_pred]
        refine h _ _ (tp, ft, (n + 1, up sz n k, v, b, T, r, st, tr, ho), D', laws) ⟨CREL_fR C3 mo f5, RREL_desk R3 (Nat.le_refl _) (fun j h1 h2 => ?_) (fun j h1 h2 => ?_) ⟨w5, fun p hp => ?_, fun p hp => ?_, ?_, ?_, ?_, ?_, ?_, fun j hj => ?_, ?_, fun j hj => ?_, ?_, fun j hj => ?_⟩, mo⟩
        · rw [d5, d4, d3, wI_ne (by omega), wI_ne (by omega), wI_ne (by omega)]
        · rw [d5, d4, d3, wI_ne (by omega), wI_ne (by omega), wI_ne (by omega)]
        · have hp : p < n + 1 := hp
          show t5.1 95 (10 + p) = nI (up sz n k p)
          unfold up
          rw [rd, if_neg (by omega), if_neg (by omega)]
          by_cases hpn : p = n
          · rw [if_pos (by omega), if_pos hpn]
          · rw [if_neg (by omega), if_neg hpn]
            exact q2 p (by omega)
        · have hp : p < n + 1 := hp
          rw [rd, if_neg (by omega)]
          by_cases hpn : p = n
          · rw [if_pos (by omega), hpn]
            have := o4.2.2 n (Nat.le_refl _) (by omega)
            show 0 = nI (dg v n)
            rw [this]
            rfl
          · rw [if_neg (by omega), if_neg (by omega)]
            exact q3 p (by omega)
        · rw [ne _ (by omega) (by omega) (by omega)]; exact q4
        · rw [ne _ (by omega) (by omega) (by omega)]; exact q5
        · rw [ne _ (by omega) (by omega) (by omega)]; exact q6
        · rw [ne _ (by omega) (by omega) (by omega)]; exact q7
        · rw [ne _ (by omega) (by omega) (by omega)]; exact q8
        · exact rStep_cg (q9 j hj) (by show n ≤ n + 1; omega) o1 (fun i h1 h2 => ne i (by omega) (by omega) (by omega))
        · rw [ne _ (by omega) (by omega) (by omega)]; exact q10
        · rw [ne _ (by omega) (by omega) (by omega), ne _ (by omega) (by omega) (by omega)]; exact q11 j hj
        · rw [ne _ (by omega) (by omega) (by omega)]; exact q12
        · rw [ne _ (by omega) (by omega) (by omega)]; exact q13 j hj
  · have no : EVi G mX8_part SH [.ref 94, .int x] σ (fun y' s2 => Q (-1) y' s2) := by
      refine wX8_part _ (sX8_isInG _ _ _ ?_)
      rw [decide_eq_false hx]
      exact b_eq (by decide) (h _ _ _ hR)
    exact wX7_part _ ⟨fun _ => no, fun h1 => ⟨fun _ => no, fun h2 => absurd ⟨h1, h2⟩ hx⟩⟩
