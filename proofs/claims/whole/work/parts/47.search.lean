theorem bStep_go {L1 L2 : LW} {sz : Nat → Nat} {most i act : Nat} {S : BS} (hn : S.2 = none) (hi : i < S.1.length) (ha : act < 15) : bStep L1 L2 sz most S (15 * i + act) = bReach L1 L2 most S (mkM L1 sz (be S.1 i).1 act) (mkM L2 sz (be S.1 i).2.1 act) i act := by
  unfold bStep
  rw [if_neg (by rw [hn]; decide), show (15 * i + act) / 15 = i by omega, show (15 * i + act) % 15 = act by omega, if_neg (by omega)]
theorem bReach_len {L1 L2 : LW} {most x y i act : Nat} {S : BS} : S.1.length ≤ (bReach L1 L2 most S x y i act).1.length := by
  unfold bReach
  split
  · exact Nat.le_refl _
  · split
    · exact Nat.le_refl _
    · simp
def bDg (S : BS) : Prop := ∀ k, k < S.1.length → (be S.1 k).1 = (be S.1 k).2.1
theorem bDg_run {L : LW} {sz : Nat → Nat} {most v : Nat} : ∀ j, bDg (bRun L L sz most v j)
  | 0 => fun k hk => by
    have hk : k < 1 := hk
    have : k = 0 := by omega
    subst this
    rfl
  | j + 1 => by
    have ih := bDg_run (L := L) (sz := sz) (most := most) (v := v) j
    show bDg (bStep L L sz most (bRun L L sz most v j) j)
    unfold bStep
    split
    · exact ih
    · split
      · exact ih
      · rename_i h1 h2
        have hd := ih (j / 15) (by omega)
        unfold be at hd
        rw [hd]
        unfold bReach
        split
        · exact ih
        · split
          · exact ih
          · intro k hk
            simp only [List.length_append, List.length_singleton] at hk
            by_cases hk2 : k < (bRun L L sz most v j).1.length
            · show (be ((bRun L L sz most v j).1 ++ _) k).1 = (be ((bRun L L sz most v j).1 ++ _) k).2.1
              unfold be
              rw [getD_app1 hk2]
              exact ih k hk2
            · have : k = (bRun L L sz most v j).1.length := by omega
              subst this
              show (be ((bRun L L sz most v j).1 ++ _) (bRun L L sz most v j).1.length).1 = (be ((bRun L L sz most v j).1 ++ _) (bRun L L sz most v j).1.length).2.1
              unfold be
              rw [getD_app2]
theorem bOut_n {S : BS} (h : S.2 = none) : bOut S = -1 := by
  unfold bOut
  rw [h]
theorem bOut_s {S : BS} (hok : bOk 3000 S) (h : S.2 ≠ none) : ¬ bOut S = -1 := by
  unfold bOut
  cases hs : S.2 with
  | none => exact absurd hs h
  | some b =>
    cases b with
    | false => show ¬ (-2 : Int32) = -1; decide
    | true =>
      have := bDepth_le (bOk_fr hok) (S.1.length - 1) (S.1.length - 1) (Nat.le_refl _) (by have := hok.1; omega)
      have := hok.2.1
      show ¬ nI _ = -1
      intro z
      have z2 := congrArg Int32.toInt z
      rw [nI_toInt (by omega)] at z2
      have e1 : (-1 : Int32).toInt = -1 := rfl
      omega
theorem cSO_of {σ : hd_M} {q1 q2 most : Nat} {S : BS} (h : cB σ q1 q2 most S) (hok : bOk 3000 S) : cSO σ S := ⟨hok, h.1, h.2.2.2.2.1, fun k hk h0 => (h.2.2.2.2.2.1 k hk).2.2 h0⟩
theorem sX5_seek {G : hd_G} {σ : hd_M} {P : hd_M → Prop} {q1 q2 most v : Nat} {L1 L2 : LW} {sz : Nat → Nat} (hq1 : hd_law q1) (hq2 : hd_law q2) (hl1 : lq σ q1 L1) (hl2 : lq σ q2 L2) (hL1 : LWok L1) (hL2 : LWok L2) (hS : SZ σ sz) (hN : NV σ) (hm : 0 < most ∧ most ≤ 3000) (hs : q1 = q2 → L1 = L2) (hv : v < 2187) (h : ∀ σ', ag sw σ σ' → NV σ' → cSO σ' (bEnd L1 L2 sz most v) → P σ') : EVv G mX5_seek SH [.ref 81, .ref q1, .ref q2, .int (nI v), .int (nI most)] σ P := by
  have l1 := law_lt hq1
  have l2 := law_lt hq2
  have hsz : ∀ p, p < 6 → sz p ≤ 3 := fun p hp => (hS p hp).2
  have ok := bRun_ok (most := most) hL1 hL2 hsz hm.1 hv
  refine wX5_seek _ _ _ _ (fun X hX => ⟨⟨l1.1, by omega⟩, fun s1 e1 => ⟨⟨l2.1, by omega⟩, fun s2 e2 s3 e3 => sJ7_fill (n := 8192) (rs := []) rfl (by decide) (fun s5 e5 s6 e6 => ?_)⟩⟩)
  rw [if_neg (show ¬ (3000 : Int32) < nI most from nI_nlt (a := 3000) hm.2 (by decide))] at e3
  have fl : ∀ (s : hd_M) (k : Nat), k ≠ 86 → (hd_fill s 86 8192 0).1 k = s.1 k := fun s k hk => hd_up_ne hk
  have fl2 : ∀ (s : hd_M) (j : Nat), j < 8192 → (hd_fill s 86 8192 0).1 86 j = 0 := fun s j hj => by
    show va_up s.1 86 _ 86 j = 0
    rw [hd_up_eq]
    exact if_pos hj
  have a6 : ag sw σ s6 := by
    rw [e6, e5]
    refine ag_wI (ag_wI ?_ (by decide)) (by decide)
    intro k hk
    rw [fl s3 k (fun z => hk (by rw [z]; decide)), show (hd_fill s3 86 8192 0).2 = s3.2 from rfl, e3, e2, e1]
    exact ag_wI (ag_wI (ag_wI ag_rf (by decide)) (by decide)) (by decide) k hk
  have N6 : NV s6 := NV_cg hN (by rw [e6, wI_ne (by decide), e5, wI_ne (by decide), fl _ _ (by decide), e3, wI_ne (by decide), e2, wI_ne (by decide), e1, wI_ne (by decide)]) (by rw [e6, wI_ne (by decide), e5, wI_ne (by decide), fl _ _ (by decide), e3, wI_ne (by decide), e2, wI_ne (by decide), e1, wI_ne (by decide)])
  have B6 : cB s6 q1 q2 most ([], none) := by
    refine ⟨?_, ?_, ?_, ?_, ?_, fun k hk => absurd hk (by show ¬ k < 0; omega), fun _ => 0, fun j hj => ?_, ?_, fun j hj => Nat.zero_le _, fun k hk => absurd hk (by show ¬ k < 0; omega)⟩
    · rw [e6, wI_eq, if_neg (by decide), e5, wI_eq, if_pos rfl]; rfl
    · rw [e6, wI_eq, if_neg (by decide), e5, wI_eq, if_neg (by decide), fl _ _ (by decide), e3, wI_eq, if_neg (by decide), e2, wI_eq, if_neg (by decide), e1, wI_eq, if_pos rfl]; rfl
    · rw [e6, wI_eq, if_neg (by decide), e5, wI_eq, if_neg (by decide), fl _ _ (by decide), e3, wI_eq, if_neg (by decide), e2, wI_eq, if_pos rfl]; rfl
    · rw [e6, wI_eq, if_neg (by decide), e5, wI_eq, if_neg (by decide), fl _ _ (by decide), e3, wI_eq, if_pos rfl]
    · rw [e6, wI_eq, if_pos rfl]; rfl
    · rw [e6, wI_ne (by decide), e5, wI_ne (by decide), fl2 _ _ hj]; rfl
    · rw [cntN_0]; exact Nat.zero_le _
  have ini : bReach L1 L2 most ([], none) v v 0 0 = bRun L1 L2 sz most v 0 := bReach_new rfl (by show ¬ 0 = most; omega)
  have loop : ∀ (n i : Nat) (s : hd_M), most ≤ i + n → i ≤ most → ag sw σ s → NV s → cB s q1 q2 most (bRun L1 L2 sz most v (15 * i)) → hd_J G mX5_seek X SH (0, 0) 51 [(0, .ref 81), (5, .int (nI i))] [] s := by
    intro n
    induction n with
    | zero =>
      intro i s hn hi a N B
      have o := ok (15 * i)
      have e := bEnd_of (j := 15 * i) (by omega) (Or.inr (show (bRun L1 L2 sz most v (15 * i)).1.length ≤ 15 * i / 15 by have := o.2.1; omega))
      refine wX5_seek_51 hX _ ?_
      rw [B.1]
      refine b_le (nI_le (by have := o.2.1; omega) (by omega)) (h s a N ?_)
      rw [e]
      exact cSO_of B (bOk_mono o hm.2)
    | succ n ih =>
      intro i s hn hi a N B
      have inner : ∀ (m act : Nat) (s : hd_M), act + m = 15 → ag sw σ s → NV s → cB s q1 q2 most (bRun L1 L2 sz most v (15 * i + act)) → i < (bRun L1 L2 sz most v (15 * i + act)).1.length → hd_J G mX5_seek X SH (0, 0) 80 [(0, .ref 81), (5, .int (nI i)), (6, .int (nI act))] [] s := by
        intro m
        induction m with
        | zero =>
          intro act s hact a N B hi2
          have o := ok (15 * i + act)
          refine wX5_seek_80 hX _ _ (b_le (nI_le (a := 15) (by omega) (by omega)) (fun v1 e1 => ?_))
          rw [e1, nI_1]
          have : 15 * (i + 1) = 15 * i + act := by omega
          exact ih (i + 1) s (by omega) (by have := o.2.1; omega) a N (by rw [this]; exact B)
        | succ m ihm =>
          intro act s hact a N B hi2
          have ha : act < 15 := by omega
          have o := ok (15 * i + act)
          have o1 := ok (15 * i + (act + 1))
          have oi := o.2.2 i hi2
          have hio : i < most := by have := o.2.1; omega
          generalize hSt : bRun L1 L2 sz most v (15 * i + act) = St at B hi2 o oi
          have hnext : bRun L1 L2 sz most v (15 * i + (act + 1)) = bStep L1 L2 sz most St (15 * i + act) := by rw [← hSt]; rfl
          refine wX5_seek_80 hX _ _ (b_le' (nI_lt (b := 15) ha (by decide)) ?_)
          rw [B.2.2.2.2.1]
          by_cases hnn : St.2 = none
          · rw [bStep_go hnn hi2 ha] at hnext
            rw [hnext] at o1
            refine b_ne' (bOut_n hnn) ?_
            obtain ⟨b1, b2, b3, b4, b5, b6, b7⟩ := B
            have bi := b6 i hi2
            rw [b2, nI_clamp (show q1 < 2 ^ 31 by omega)]
            refine ⟨by omega, hd_vn (by omega) (by decide), ?_⟩
            rw [nI_clamp (show i < 2 ^ 31 by omega), bi.1]
            have hx1 : mkM L1 sz (be St.1 i).1 act < 2187 := mkM_lt hL1 hsz oi.1 ha
            have hy1 : mkM L2 sz (be St.1 i).2.1 act < 2187 := mkM_lt hL2 hsz oi.2.1 ha
            refine sX4_standingOrSame hq1 (lq_sw hl1 hq1 a) hL1 (fun p hp => by rw [(a 3 (by decide)).1]; exact hS p hp) N oi.1 ha (fun s3 a3 n3 v5 e5 => ?_)
            have e5 : v5 = nI (mkM L1 sz (be St.1 i).1 act) := e5
            have B3 : ∀ s : hd_M, ag [78, 79, 80] s3 s → cB s q1 q2 most St := fun s aa => cB_cg ⟨b1, b2, b3, b4, b5, b6, b7⟩ (fun k h1 h2 => ((ag_tr a3 aa) k (by simp; omega)).1)
            have B33 := B3 s3 ag_rf
            rw [B33.2.1, B33.2.2.1, nI_clamp (show q1 < 2 ^ 31 by omega), nI_clamp (show q2 < 2 ^ 31 by omega)]
            have tail : ∀ (t : hd_M) (y : Int32), ag [78, 79, 80] s3 t → NV t → y = nI (mkM L2 sz (be St.1 i).2.1 act) → (q1 = q2 → L1 = L2 ∧ mkM L1 sz (be St.1 i).1 act = mkM L2 sz (be St.1 i).2.1 act) → vp_in (nI i) 3000 ∧ ((¬ v5 = t.1 82 i → EVv G mX5_reach SH [.ref 81, .int v5, .int y, .int (nI i), .int (nI act)] t (fun s9 => hd_J G mX5_seek X SH (0, 0) 191 [(0, .ref 81), (5, .int (nI i)), (6, .int (nI act))] [] s9)) ∧ (v5 = t.1 82 i → vp_in (nI i) 3000 ∧ ((y = t.1 83 i → hd_J G mX5_seek X SH (0, 0) 191 [(0, .ref 81), (5, .int (nI i)), (6, .int (nI act))] [] t) ∧ (¬ y = t.1 83 i → EVv G mX5_reach SH [.ref 81, .int v5, .int y, .int (nI i), .int (nI act)] t (fun s10 => hd_J G mX5_seek X SH (0, 0) 191 [(0, .ref 81), (5, .int (nI i)), (6, .int (nI act))] [] s10))))) := by
              intro t y at3 nt ey hsame
              have Bt := B3 t at3
              have aT : ag sw σ t := ag_tr a (ag_sw (ag_tr a3 at3))
              have go : EVv G mX5_reach SH [.ref 81, .int v5, .int y, .int (nI i), .int (nI act)] t (fun s9 => hd_J G mX5_seek X SH (0, 0) 191 [(0, .ref 81), (5, .int (nI i)), (6, .int (nI act))] [] s9) := by
                rw [e5, ey]
                refine sX5_reach hq1 hq2 (lq_sw hl1 hq1 aT) (lq_sw hl2 hq2 aT) hL1 hL2 nt hm.2 hsame Bt hnn o.2.1 o1 (fun k hk => ⟨(o.2.2 k hk).1, (o.2.2 k hk).2.1⟩) hx1 hy1 (fun _ => ⟨rfl, rfl⟩) (fun s9 a9 n9 B9 => wX5_seek_191 hX _ _ (fun v1 e1 => ?_))
                rw [e1, nI_1]
                exact ihm (act + 1) s9 (by omega) (ag_tr aT a9) n9 (by rw [hnext]; exact B9) (by rw [hnext]; exact Nat.lt_of_lt_of_le hi2 bReach_len)
              have bt := Bt.2.2.2.2.2.1 i hi2
              refine ⟨hd_vn (by omega) (by decide), fun _ => go, fun z1 => ⟨hd_vn (by omega) (by decide), fun z2 => ?_, fun _ => go⟩⟩
              rw [bt.1, e5, nI_eq (by omega) (by have q : (be St.1 i).1 < 2187 := oi.1; omega)] at z1
              rw [bt.2.1, ey, nI_eq (by omega) (by have q : (be St.1 i).2.1 < 2187 := oi.2.1; omega)] at z2
              refine wX5_seek_191 hX _ _ (fun v1 e1 => ?_)
              rw [e1, nI_1]
              have same : bRun L1 L2 sz most v (15 * i + (act + 1)) = St := by
                rw [hnext]
                exact bReach_has (bHas_iff.mpr ⟨i, hi2, z1.symm, z2.symm⟩)
              exact ihm (act + 1) t (by omega) aT nt (by rw [same]; exact Bt) (by rw [same]; exact hi2)
            refine ⟨by omega, by omega, ⟨by omega, by omega⟩, fun hqq => ?_, fun hqq => fun v11 e11 => ?_⟩
            · refine ⟨by omega, hd_vn (by omega) (by decide), ?_⟩
              rw [(B33.2.2.2.2.2.1 i hi2).2.1]
              have a13 : ag sw σ s3 := ag_tr a (ag_sw a3)
              refine sX4_standingOrSame hq2 (lq_sw hl2 hq2 a13) hL2 (fun p hp => by rw [(a13 3 (by decide)).1]; exact hS p hp) n3 oi.2.1 ha (fun s6 a6 n6 v8 e8 => ?_)
              exact tail s6 v8 a6 n6 e8 (fun z => absurd z hqq)
            · have hLL := hs hqq
              have dg2 : (be St.1 i).1 = (be St.1 i).2.1 := by
                have := bDg_run (L := L1) (sz := sz) (most := most) (v := v) (15 * i + act)
                rw [← hLL] at hSt
                rw [hSt] at this
                exact this i hi2
              have mm : mkM L1 sz (be St.1 i).1 act = mkM L2 sz (be St.1 i).2.1 act := by rw [← hLL, dg2]
              exact tail s3 v11 ag_rf n3 (by rw [e11, e5, mm]) (fun _ => ⟨hLL, mm⟩)
          · refine b_ne (bOut_s (bOk_mono o hm.2) hnn) (fun v2 e2 => ?_)
            rw [e2, nI_1]
            have hsm : (bRun L1 L2 sz most v (15 * i + act)).2.isSome = true := by
              rw [hSt]
              cases hz : St.2 with
              | none => exact absurd hz hnn
              | some w => rfl
            have st := bRun_stay (Or.inl hsm) (15 - act)
            rw [show 15 * i + act + (15 - act) = 15 * (i + 1) by omega, hSt] at st
            exact ih (i + 1) s (by omega) (by omega) a N (by rw [st]; exact B)
      have o := ok (15 * i)
      have fin : (bRun L1 L2 sz most v (15 * i)).2.isSome = true ∨ (bRun L1 L2 sz most v (15 * i)).1.length ≤ 15 * i / 15 → P s := by
        intro hz
        have e := bEnd_of (by omega) hz
        refine h s a N ?_
        rw [e]
        exact cSO_of B (bOk_mono o hm.2)
      refine wX5_seek_51 hX _ ?_
      rw [B.1, B.2.2.2.1, B.2.2.2.2.1]
      refine c_le ((bRun L1 L2 sz most v (15 * i)).1.length : Int) (i : Int) rfl rfl (fun z => fin (Or.inr (by omega))) (fun z => c_le (most : Int) (i : Int) rfl rfl (fun z2 => ?_) (fun z2 => ⟨fun z3 => fin (Or.inl ?_), fun z3 => fun v1 e1 => ?_⟩)) (by have := o.2.1; omega)
      · have := o.2.1
        omega
      · cases hz : (bRun L1 L2 sz most v (15 * i)).2 with
        | none => exact absurd (bOut_n hz) z3
        | some w => rfl
      · rw [e1]
        exact inner 15 0 s rfl a N B (by show i < (bRun L1 L2 sz most v (15 * i)).1.length; omega)
  refine sX5_reach hq1 hq2 (lq_sw hl1 hq1 a6) (lq_sw hl2 hq2 a6) hL1 hL2 N6 hm.2 (fun z => ⟨hs z, rfl⟩) B6 rfl (Nat.zero_le _) (i := 0) (act := 0) (by rw [ini]; exact ok 0) (fun k hk => absurd hk (by show ¬ k < 0; omega)) hv hv (fun z => absurd z (by decide)) (fun s7 a7 n7 B7 v8 e8 => ?_)
  rw [ini] at B7
  rw [e8]
  exact loop most 0 s7 (by omega) (by omega) (ag_tr a6 a7) n7 B7
theorem bOut_neg {S : BS} (h : S.2 ≠ some true) : bOut S < 0 ∧ ∀ i, bAns S i = bOut S := by
  unfold bOut bAns
  cases hs : S.2 with
  | none => exact ⟨by show (-1 : Int32) < 0; decide, fun _ => rfl⟩
  | some b =>
    cases b with
    | false => exact ⟨by show (-2 : Int32) < 0; decide, fun _ => rfl⟩
    | true => exact absurd hs h
theorem bBk_s (es : List BE) (t k : Nat) : bBk es (t + 1) k = bBk es t (bFr es k) := rfl
theorem sX5_answerOf {G : hd_G} {σ : hd_M} {P : Int32 → hd_M → Prop} {S : BS} (hS : cSO σ S) (i : Int32) (hi : (-1) ≤ i) (h : P (bAns S i) σ) : EVi G mX5_answerOf SH [.ref 81, .int i] σ P := by
  obtain ⟨ok, h1, h2, h3⟩ := hS
  refine wX5_answerOf _ (fun X hX => ?_)
  rw [h1, h2]
  by_cases ht : S.2 = some true
  · have hf := bOk_fr ok
    have h0 := ok.1
    have h30 := ok.2.1
    have hD := bDepth_le hf (S.1.length - 1) (S.1.length - 1) (Nat.le_refl _) (by omega)
    have eo : bOut S = nI (bDepth S.1 (S.1.length - 1)) := by unfold bOut; rw [ht]
    unfold bAns at h
    rw [ht] at h
    have h : P (if i = -1 then nI (bDepth S.1 (S.1.length - 1)) else if nI (bDepth S.1 (S.1.length - 1)) ≤ i then -1 else nI (S.1.getD (bBk S.1 (bDepth S.1 (S.1.length - 1) - 1 - i.toNatClampNeg) (S.1.length - 1)) (0, 0, 0, 0)).2.2.2) σ := h
    rw [eo]
    refine ⟨fun z => ?_, fun z => b_le (nI_pos' (by omega)) ⟨fun z2 => ?_, fun z2 => ⟨fun z3 => fun v1 e1 v2 e2 => ?_, fun z3 => ?_⟩⟩⟩
    · rwa [if_pos z] at h
    · have a := Int32.le_iff_toInt_le.mp hi
      have b := Int32.lt_iff_toInt_lt.mp z2
      have e0 : (0 : Int32).toInt = 0 := rfl
      have e1 : (-1 : Int32).toInt = -1 := rfl
      exact absurd (Int32.toInt_inj.mp (by omega : i.toInt = (-1 : Int32).toInt)) z
    · have z2' := Int32.le_iff_toInt_le.mp z2
      have e0 : (0 : Int32).toInt = 0 := rfl
      have ei : i = nI i.toInt.toNat := i_nn (by omega)
      have hk31 : i.toInt.toNat < 2 ^ 31 := by
        have := Int32.toInt_lt i
        omega
      generalize i.toInt.toNat = k at ei hk31
      subst ei
      have hk : k < bDepth S.1 (S.1.length - 1) := (nI_ltI hk31 (by omega)).mp z3
      rw [if_neg z, if_neg (fun q => absurd z3 (Int32.not_lt.mpr q)), nI_clamp (by omega)] at h
      have key : ∀ (t at' : Nat), at' < S.1.length → bDepth S.1 at' = k + 1 + t → P (nI (S.1.getD (bBk S.1 t at') (0, 0, 0, 0)).2.2.2) σ → hd_J G mX5_answerOf X SH (0, 0) 45 [(0, .ref 81), (1, .int (nI k)), (2, .int (nI at')), (3, .int (nI (k + t)))] [] σ := by
        intro t
        induction t with
        | zero =>
          intro at' ha hb hp
          have a0 : 0 < at' := by
            rcases Nat.eq_zero_or_pos at' with z | z
            · rw [z, bDepth_0] at hb
              omega
            · exact z
          refine wX5_answerOf_45 hX _ _ _ (b_le (nI_le (by omega) (by omega)) ⟨hd_vn (by omega) (by decide), ?_⟩)
          rw [nI_clamp (by omega), (h3 at' ha a0).2]
          exact hp
        | succ t ih =>
          intro at' ha hb hp
          have a0 : 0 < at' := by
            rcases Nat.eq_zero_or_pos at' with z | z
            · rw [z, bDepth_0] at hb
              omega
            · exact z
          have fa := hf at' a0 ha
          have dl := bDepth_le hf at' at' (Nat.le_refl _) ha
          refine wX5_answerOf_45 hX _ _ _ (b_le' (nI_lt (by omega) (by omega)) (b_le' (nI_lt (a := 0) a0 (by omega)) ⟨hd_vn (by omega) (by decide), fun v1 e1 v2 e2 => ?_⟩))
          rw [e1, e2, nI_clamp (by omega), (h3 at' ha a0).1, show nI (k + (t + 1)) + (-1) = nI (k + t) from pk_m1 (k + t)]
          rw [bDepth_s hf a0 ha] at hb
          exact ih (bFr S.1 at') (by omega) (by omega) hp
      rw [e1, e2, nI_sub1 h0, nI_sub1 (by omega)]
      have := key (bDepth S.1 (S.1.length - 1) - 1 - k) (S.1.length - 1) (by omega) (by omega) h
      rwa [show k + (bDepth S.1 (S.1.length - 1) - 1 - k) = bDepth S.1 (S.1.length - 1) - 1 by omega] at this
    · rwa [if_neg z, if_pos z3] at h
  · have n := bOut_neg ht
    rw [n.2 i] at h
    refine ⟨fun _ => h, fun _ => b_le' n.1 h⟩
