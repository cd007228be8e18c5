/-- the reference's reader holds a state of the machine, with ts before it -/
def rM (σ : hd_M) (tp : List Nat) (t r : Nat) (S : PS) (ts : List Tk) : Prop := rC σ t S.2.2 ∧ rPl σ S.1.1 ∧ σ.1 94 18 = nI (nst (wO S.1)) ∧ σ.1 94 19 = zI (cl_bit (!S.2.1)) ∧ σ.1 94 20 = nI (soR r) ∧ rTs σ tp ts ∧ rTape σ tp ∧ sOK r S ∧ (wO S.1).length + S.2.2.length + ts.length ≤ 300
theorem rTape_G {t : Nat} {σ σ' : hd_M} {tp : List Nat} (h : rTape σ tp) (a : agG t σ σ') : rTape σ' tp := ⟨by rw [a.2.1 4 (by omega)]; exact h.1, fun j hj => by rw [(a.1 98 (by decide) (by decide) (by decide)).1]; exact h.2 j hj⟩
theorem nst_wO (D : PD) : nst (wO D) = nst D.1 + nst (wR D) := nst_app _ _
theorem rC_K {σ σ' : hd_M} {t : Nat} {cd : List Nat} (h : rC σ t cd) (a : agK σ σ') : rC σ' t cd := rC_cg h (a.2 12 (by omega)) (a.2 14 (by omega)) (a.1 97 (by decide)).1
theorem rPl_K {σ σ' : hd_M} {p : List Nat} (h : rPl σ p) (a : agK σ σ') : rPl σ' p := rPl_cg h (a.2 17 (by omega)) (a.1 99 (by decide)).1
theorem rPl_Em {σ σ' : hd_M} {p : List Nat} (h : rPl σ p) (a : agEm σ σ') : rPl σ' p := rPl_cg h (a.2.1 17 (by decide)) (a.1 99 (by decide) (by decide))
theorem rTs_Em {σ σ' : hd_M} {tp : List Nat} {ts : List Tk} (h : rTs σ tp ts) (a : agEm σ σ') : rTs σ' tp ts := rTs_cg h (fun j _ h2 => a.2.1 j (by omega)) a.2.2
theorem sX8_beginOne {G : hd_G} {σ : hd_M} {P : Int32 → hd_M → Prop} {tp : List Nat} {t r : Nat} {S : PS} {k : Tk} {ts : List Tk} (ht : tok tp) (hr : r < 9) (hM : rM σ tp t r S (k :: ts)) (hw : S.2.1 = true) (hn : ¬ (k.1 = 24 ∧ r ≠ 6 ∧ S.1.1 = [] ∧ S.1.2.1 = none)) (hF : ∀ f σ', pStep r k S = .inl f → agG t σ σ' → σ'.1 94 8 = nI k.2.2 → P (nI f) σ') (hN : ∀ S' σ', pStep r k S = .inr (.inl S') → agG t σ σ' → rM σ' tp t r S' ts → P 0 σ') : EVi G mX8_beginOne SH [.ref 94] σ P := by
  obtain ⟨mC, mP, m18, m19, m20, mT, mTp, mS, mL⟩ := hM
  have hk := rTs_hd mT
  have pl : S.1.1.length ≤ 26 := pOK_26 mS.1 (by have := mS.2.2.2.2; rw [nst_wO] at this; omega)
  have wl := wO_len S.1
  rw [List.length_cons] at mL
  -- a number or a name has been found
  have one : ∀ (x : Nat) (X Y : Int32), k.1 ≠ 0 → pStep r k S = .inr (.inl (pOne S.1 S.2.2 x)) → X = nI (cl_mo x) → (x < 10022 → Y = nI (cl_mv x)) → EVv G mX8_emit SH [.ref 94, .int X, .int Y] σ (fun s24 => EVv G mX8_nextToken SH [.ref 94] s24 (fun s25 => EVv G mX8_whole SH [.ref 94] s25 (fun s26 => P 0 s26))) := by
    intro x X Y k0 e eX eY
    obtain ⟨o1, o2, _⟩ := pStep_ok mS e
    refine sX8_emit (c := x) mC (by omega) eX eY (fun s1 a1 g1 c1 => sX8_nextT ht (rTape_G mTp a1) (rTs_Em mT g1) k0 (fun s2 a2 t2 => ?_))
    have n18 : s2.1 94 18 = nI (nst S.1.1 + nst (wR S.1)) := by rw [a2.2 18 (by omega), g1.2.1 18 (by decide), m18, nst_wO]
    refine sX8_whole (p := S.1.1) (cd := S.2.2 ++ [x]) (n := nst (wR S.1)) (rC_K c1 a2) (rPl_K (rPl_Em mP g1) a2) n18 (by rw [List.length_append, List.length_singleton]; omega) (by omega) (pOK_mem mS.1) (fun s3 a3 j3 l3 c3 p3 h18 h19 => ?_)
    have A3 : agG t σ s3 := agG_tr (agG_tr a1 (agG_K a2)) a3
    refine hN _ s3 e A3 ⟨c3, p3, ?_, h19, ?_, rTs_cg t2 (fun j _ h2 => j3 j (by omega)) l3, rTape_G mTp A3, o1, by omega⟩
    · rw [h18, nst_wO]
      rfl
    · rw [A3.2.1 20 (by omega)]; exact m20
  -- a bracket or a minus
  have nest : ∀ (c : Nat) (v : Int32), c = 35 ∨ c = 36 → v = nI (rk c) → k.1 ≠ 0 → pStep r k S = (if 8 ≤ nst (wO S.1) then .inl 3 else .inr (.inl ((c :: S.1.1, S.1.2), true, S.2.2))) → (¬ v = 0 → (¬ σ.1 94 18 = 8 → ∀ s12, s12 = hd_wI σ 94 18 ((σ.1 94 18) + 1) → EVv G mX8_push SH [.ref 94, .int v] s12 (fun s13 => EVv G mX8_nextToken SH [.ref 94] s13 (fun s14 => P 0 s14))) ∧ (σ.1 94 18 = 8 → P 3 σ)) ∧ (v = 0 → P 1 σ) := by
    intro c v hc ev k0 ep
    have n8 := mS.2.2.2.2
    refine b_ne (by rw [ev]; rcases hc with rfl | rfl <;> decide) ?_
    refine c_ne (nst (wO S.1) : Int) 8 m18 rfl (fun z s1 e1 => ?_) (fun z => ?_)
    · rw [if_neg (by omega)] at ep
      obtain ⟨o1, o2, _⟩ := pStep_ok mS ep
      rw [m18, nI_1] at e1
      have r1 : ∀ k, k ≠ 94 → s1.1 k = σ.1 k := fun k hk => by rw [e1, wI_ne hk]
      have j1 : ∀ j, j ≠ 18 → s1.1 94 j = σ.1 94 j := fun j hj => by rw [e1, wI_eq, if_neg hj]
      have a1 : agG t σ s1 := by rw [e1]; exact agG_94 agG_rf (by decide)
      rw [ev]
      refine sX8_push (t := t) (rPl_cg mP (j1 17 (by decide)) (r1 99 (by decide))) (by omega) (fun s2 a2 j2 e97 l2 p2 => ?_)
      refine sX8_nextT ht (rTape_G (rTape_G mTp a1) a2) (rTs_cg mT (fun j _ h2 => by rw [j2 j (by omega), j1 j (by omega)]) (by rw [l2, e1]; rfl)) k0 (fun s3 a3 t3 => ?_)
      have A3 : agG t σ s3 := agG_tr (agG_tr a1 a2) (agG_K a3)
      refine hN _ s3 ep A3 ⟨rC_K (rC_cg mC (by rw [j2 12 (by decide), j1 12 (by decide)]) (by rw [j2 14 (by decide), j1 14 (by decide)]) (by rw [e97, r1 97 (by decide)])) a3, rPl_K p2 a3, ?_, ?_, ?_, t3, rTape_G mTp A3, o1, by omega⟩
      · rw [a3.2 18 (by omega), j2 18 (by decide), e1, wI_eq, if_pos rfl]
        show nI (nst (wO S.1) + 1) = nI ((if isN c = true then 1 else 0) + nst (wO S.1))
        rw [if_pos (by rcases hc with rfl | rfl <;> rfl), Nat.add_comm]
      · rw [a3.2 19 (by omega), j2 19 (by decide), j1 19 (by decide), m19, hw]
      · rw [A3.2.1 20 (by omega)]; exact m20
    · rw [if_pos (by omega)] at ep
      exact hF 3 σ ep agG_rf hk.1
  have hw' : pStep r k S = (if k.1 = 2 then (if k.2.1 ≤ 9999 then .inr (.inl (pOne S.1 S.2.2 k.2.1)) else .inl 2)
    else if 12 ≤ k.1 ∧ k.1 ≤ 21 then (if al r (k.1 - 12) = true then .inr (.inl (pOne S.1 S.2.2 (10000 + k.1))) else .inl 5)
    else if k.1 = 36 then (if 8 ≤ nst (wO S.1) then .inl 3 else .inr (.inl ((36 :: S.1.1, S.1.2), true, S.2.2)))
    else if k.1 = 32 then (if 8 ≤ nst (wO S.1) then .inl 3 else .inr (.inl ((35 :: S.1.1, S.1.2), true, S.2.2)))
    else .inl 1) := by
    show (if S.2.1 = true then _ else _) = _
    rw [if_pos hw, if_neg hn]
  have cn := c_nu hk (A := (σ.1 94 10 ≤ 9999 → EVv G mX8_emit SH [.ref 94, .int 0, .int (σ.1 94 10)] σ (fun s24 => EVv G mX8_nextToken SH [.ref 94] s24 (fun s25 => EVv G mX8_whole SH [.ref 94] s25 (fun s26 => P 0 s26)))) ∧ (9999 < σ.1 94 10 → P 2 σ)) (B := True) (fun z => by
    rw [if_pos z] at hw'
    obtain ⟨n, n1, n2, n3⟩ : ∃ n, n < 2000000 ∧ σ.1 94 10 = nI n ∧ k.2.1 = min 10000 n := by
      rcases hk.2 with ⟨h1, _⟩ | ⟨_, _, h⟩ | ⟨h1, _⟩ | ⟨h1, _⟩
      · omega
      · exact h
      · rcases h1 with h1 | h1
        · omega
        · have := isSg_lt h1
          omega
      · omega
    rw [n2]
    refine c_le (n : Int) 9999 rfl rfl (fun w => ?_) (fun w => ?_)
    · have e : k.2.1 = n := by omega
      rw [if_pos (by omega)] at hw'
      refine one k.2.1 0 (nI n) (by omega) hw' ?_ (fun _ => ?_)
      · unfold cl_mo; rw [if_pos (by omega)]; rfl
      · unfold cl_mv; rw [if_pos (by omega), e]
    · rw [if_neg (by omega)] at hw'
      exact hF 2 σ hw' agG_rf hk.1) (fun _ => trivial)
  refine wX8_beginOne ⟨fun z => ?_, cn.1⟩
  have k2 : k.1 ≠ 2 := fun w => z ((c_nu hk (A := True) (B := False) (fun _ => trivial) (fun q => q w)).2 z).elim
  rw [if_neg k2] at hw'
  refine sX8_nameOf hk ?_
  by_cases hm : 12 ≤ k.1 ∧ k.1 ≤ 21
  · rw [if_pos hm] at hw'
    rw [if_pos hm]
    refine b_lt' (nI_le (a := 0) (Nat.zero_le _) (by omega)) (sX8_nameOf hk ?_)
    rw [if_pos hm]
    refine sX8_isBarred hr (by omega) m20 ⟨fun y => ?_, fun y => ?_⟩
    · rw [cl_bit_z] at y
      rw [if_pos (by simpa using y)] at hw'
      refine sX8_nameOf hk ?_
      rw [if_pos hm]
      refine one (10000 + k.1) 1 _ (by omega) hw' ?_ (fun _ => ?_)
      · unfold cl_mo; rw [if_neg (by omega), if_pos (by omega)]; rfl
      · unfold cl_mv; rw [if_neg (by omega), show 10000 + k.1 - 10012 = k.1 - 12 by omega]
    · rw [cl_bit_z] at y
      rw [if_neg (by simpa using y)] at hw'
      exact hF 5 σ hw' agG_rf hk.1
  · rw [if_neg hm] at hw'
    rw [if_neg hm]
    refine b_lt (by decide) (c_sgn hk 36 (by decide) (fun n36 => c_sgn hk 32 (by decide) (fun n32 v3 e3 => b_ne' e3 ?_) (fun n32 v7 e7 => nest 35 v7 (Or.inl rfl) e7 (by omega) ?_)) (fun n36 v11 e11 => nest 36 v11 (Or.inr rfl) e11 (by omega) ?_))
    · rw [if_neg n36, if_neg n32] at hw'
      exact hF 1 σ hw' agG_rf hk.1
    · rw [if_neg n36, if_pos n32] at hw'
      exact hw'
    · rw [if_pos n36] at hw'
      exact hw'
theorem sX8_behindOne {G : hd_G} {σ : hd_M} {P : Int32 → hd_M → Prop} {tp : List Nat} {t r : Nat} {S : PS} {k : Tk} {ts : List Tk} (ht : tok tp) (hM : rM σ tp t r S (k :: ts)) (hw : S.2.1 = false) (hg : onG k.1 S.1.1 = true) (hN : ∀ S' σ', pStep r k S = .inr (.inl S') → agG t σ σ' → rM σ' tp t r S' ts → P 0 σ') : EVi G mX8_behindOne SH [.ref 94] σ P := by
  obtain ⟨mC, mP, m18, m19, m20, mT, mTp, mS, mL⟩ := hM
  have hk := rTs_hd mT
  have pl : S.1.1.length ≤ 26 := pOK_26 mS.1 (by have := mS.2.2.2.2; rw [nst_wO] at this; omega)
  have wl := wO_len S.1
  rw [List.length_cons] at mL
  have nw : ¬ S.2.1 = true := by rw [hw]; decide
  have hg' : (31 ≤ k.1 ∧ k.1 ≤ 34) ∨ (k.1 = 37 ∧ 0 < brk S.1.1) := by
    unfold onG at hg
    simp at hg
    exact hg
  refine wX8_behindOne (fun X hX v1 e1 => ?_)
  subst e1
  have bin : ∀ (x : Nat), (x = 3 ∧ (k.1 = 31 ∨ k.1 = 32)) ∨ (x = 5 ∧ (k.1 = 33 ∨ k.1 = 34)) → ∀ (Q : hd_M → Prop), (∀ s2 : hd_M, (∀ j, j ≠ 14 → j ≠ 17 → s2.1 94 j = σ.1 94 j) → EVv G mX8_push SH [.ref 94, .int (nI (rk k.1))] s2 (fun s3 => ((0 : Int32) = 0 ∨ (0 : Int32) = 1) ∧ (∀ s4, s4 = hd_wI s3 94 19 0 → hd_J G mX8_behindOne X SH (0, 0) 115 [(0, .ref 94)] [] s4)) → Q s2) → EVv G mX8_settle SH [.ref 94, .int (nI x)] σ Q := by
    intro x hx Q hQ
    have hb : 31 ≤ k.1 ∧ k.1 ≤ 34 := by omega
    have ep : pStep r k S = .inr (.inl ((k.1 :: (rel (stg k.1) S.1.1 S.2.2).1, S.1.2), true, (rel (stg k.1) S.1.1 S.2.2).2)) := by
      show (if S.2.1 = true then _ else _) = _
      rw [if_neg nw, if_pos hb]
    have es : (x = 3 ∧ (stg k.1 = 5 ∨ stg k.1 = 1)) ∨ (x = 5 ∧ stg k.1 = 6) := by
      rcases hx with ⟨e, z | z⟩ | ⟨e, z | z⟩ <;> rw [z] <;> simp [e, stg]
    obtain ⟨o1, o2, _⟩ := pStep_ok mS ep
    refine sX8_settle es mC mP (by omega) (by omega) mS.1 (mS.2.1 hw) (fun s2 a2 j2 l2 c2 p2 n2 => hQ s2 j2 ?_)
    have pl2 : (rel (stg k.1) S.1.1 S.2.2).1.length ≤ 26 := by
      have := (rel_len (s := stg k.1) (w := S.1.1) (cd := S.2.2)).2
      omega
    refine sX8_push (t := t) p2 (by omega) (fun s3 a3 j3 e97 l3 p3 => ⟨Or.inl rfl, fun s4 e4 => ?_⟩)
    have j4 : ∀ j, j ≠ 19 → s4.1 94 j = s3.1 94 j := fun j hj => by rw [e4, wI_eq, if_neg hj]
    have r4 : ∀ k, k ≠ 94 → s4.1 k = s3.1 k := fun k hk => by rw [e4, wI_ne hk]
    have a4 : agG t σ s4 := by rw [e4]; exact agG_94 (agG_tr a2 a3) (by decide)
    refine wX8_behindOne_115 hX (sX8_nextT ht (rTape_G mTp a4) (rTs_cg mT (fun j _ h2 => by rw [j4 j (by omega), j3 j (by omega), j2 j (by omega) (by omega)]) (by rw [e4]; show s3.2 94 = _; rw [l3, l2])) (by omega) (fun s5 a5 t5 => ?_))
    have A5 : agG t σ s5 := agG_tr a4 (agG_K a5)
    refine hN _ s5 ep A5 ⟨rC_K (rC_cg c2 (by rw [j4 12 (by decide), j3 12 (by decide)]) (by rw [j4 14 (by decide), j3 14 (by decide)]) (by rw [r4 97 (by decide), e97])) a5, rPl_K (rPl_cg p3 (j4 17 (by decide)) (r4 99 (by decide))) a5, ?_, ?_, ?_, t5, rTape_G mTp A5, o1, by omega⟩
    · rw [a5.2 18 (by omega), j4 18 (by decide), j3 18 (by decide), j2 18 (by decide) (by decide), m18]
      show nI (nst (wO S.1)) = nI ((if isN k.1 = true then 1 else 0) + nst ((rel (stg k.1) S.1.1 S.2.2).1 ++ wR S.1))
      have nk : isN k.1 = false := by unfold isN; simp; omega
      rw [nk, if_neg (by decide), Nat.zero_add, nst_app, n2, nst_wO]
    · rw [a5.2 19 (by omega), e4, wI_eq, if_pos rfl]; rfl
    · rw [A5.2.1 20 (by omega)]; exact m20
  have cls : k.1 = 37 → 0 < brk S.1.1 → EVv G mX8_settle SH [.ref 94, .int 3] σ (fun s7 => ∀ s8, s8 = hd_wI s7 94 17 ((s7.1 94 17) - 1) → ∀ s9, s9 = hd_wI s8 94 18 ((s8.1 94 18) - 1) → EVv G mX8_whole SH [.ref 94] s9 (fun s10 => hd_J G mX8_behindOne X SH (0, 0) 115 [(0, .ref 94)] [] s10)) := by
    intro k37 hb
    have ep : pStep r k S = .inr (.inl (((rel 7 (rel 1 S.1.1 S.2.2).1.tail (rel 1 S.1.1 S.2.2).2).1, S.1.2), false, (rel 7 (rel 1 S.1.1 S.2.2).1.tail (rel 1 S.1.1 S.2.2).2).2)) := by
      show (if S.2.1 = true then _ else _) = _
      rw [if_neg nw, if_neg (by omega), if_neg (by omega), if_neg (by omega), if_neg (by omega), if_pos ⟨k37, hb⟩]
    obtain ⟨o1, o2, _⟩ := pStep_ok mS ep
    obtain ⟨tl, g1, g2, g3⟩ := rel1_b S.1.1 [] S.2.2 hb
    have hl := rel_len (s := 1) (w := S.1.1) (cd := S.2.2)
    have e1 : (rel 1 S.1.1 S.2.2).1 = 36 :: tl := by rw [g1]
    refine sX8_settle (x := 3) (s := 1) (Or.inl ⟨rfl, Or.inr rfl⟩) mC mP (by omega) (by omega) mS.1 (mS.2.1 hw) (fun s2 a2 j2 l2 c2 p2 n2 s3 e3 s4 e4 => ?_)
    obtain ⟨u, i1, i2, i3⟩ := rel_suf (s := 1) S.1.1 S.2.2
    have ok2 : pOK (rel 1 S.1.1 S.2.2).1 := by
      have := mS.1
      rw [i1] at this
      exact pOK_suf this
    rw [e1] at p2 n2 ep o1 o2 hl ok2
    rw [List.tail_cons] at ep o1 o2
    rw [List.length_cons] at hl
    generalize (rel 1 S.1.1 S.2.2).2 = cd1 at *
    have en : nst (36 :: tl) = 1 + nst tl := rfl
    have h17 : s2.1 94 17 = nI (tl.length + 1) := p2.1
    rw [h17, nI_pred] at e3
    have f3 : s3.1 94 18 = nI (nst tl + nst (wR S.1) + 1) := by
      rw [e3, wI_eq, if_neg (by decide), j2 18 (by decide) (by decide), m18, nst_wO, ← n2, en]
      congr 1
      omega
    rw [f3, nI_pred] at e4
    have j4 : ∀ j, j ≠ 17 → j ≠ 18 → s4.1 94 j = s2.1 94 j := fun j a b => by rw [e4, wI_eq, if_neg b, e3, wI_eq, if_neg a]
    have r4 : ∀ k, k ≠ 94 → s4.1 k = s2.1 k := fun k hk => by rw [e4, wI_ne hk, e3, wI_ne hk]
    have a4 : agG t σ s4 := by rw [e4, e3]; exact agG_94 (agG_94 a2 (by decide)) (by decide)
    have p4 : rPl s4 tl := ⟨by rw [e4, wI_eq, if_neg (by decide), e3, wI_eq, if_pos rfl], fun j hj => by rw [r4 99 (by decide), p2.2 j (by rw [List.length_cons]; omega), wk_getD_lt hj]⟩
    refine sX8_whole (n := nst (wR S.1)) (rC_cg c2 (j4 12 (by decide) (by decide)) (j4 14 (by decide) (by decide)) (r4 97 (by decide))) p4 (by rw [e4, wI_eq, if_pos rfl]) (by omega) (by omega) (pOK_mem ok2.2.2) (fun s5 a5 j5 l5 c5 p5 h18 h19 => ?_)
    have a5' : agG t σ s5 := agG_tr a4 a5
    refine wX8_behindOne_115 hX (sX8_nextT ht (rTape_G mTp a5') (rTs_cg mT (fun j _ h2 => by rw [j5 j (by omega), j4 j (by omega) (by omega), j2 j (by omega) (by omega)]) (by rw [l5, e4, e3]; exact l2)) (by omega) (fun s6 a6 t6 => ?_))
    have A6 : agG t σ s6 := agG_tr a5' (agG_K a6)
    refine hN _ s6 ep A6 ⟨rC_K c5 a6, rPl_K p5 a6, ?_, ?_, ?_, t6, rTape_G mTp A6, o1, by omega⟩
    · rw [a6.2 18 (by omega), h18]
      show _ = nI (nst ((rel 7 tl cd1).1 ++ wR S.1))
      rw [nst_app]
    · rw [a6.2 19 (by omega), h19]; rfl
    · rw [A6.2.1 20 (by omega)]; exact m20
  have J17 : k.1 = 31 ∨ k.1 = 32 → hd_J G mX8_behindOne X SH (0, 0) 17 [(0, .ref 94), (1, .int (σ.1 94 9))] [] σ := by
    intro z
    refine wX8_behindOne_17 hX _ (bin 3 (Or.inl ⟨rfl, z⟩) _ (fun s2 j2 hp => ?_))
    refine c_sgn hk 31 (by decide) (fun n => ?_) (fun n => ?_)
    · have e : k.1 = 32 := by omega
      rw [e] at hp
      exact hp
    · rw [n] at hp
      exact hp
  refine c_sg hk 31 (by decide) (fun z => J17 (Or.inl z)) (fun n31 => c_sgn hk 32 (by decide) (fun n32 => c_sg hk 33 (by decide) (fun z => ?_) (fun n33 => c_sgn hk 34 (by decide) (fun n34 => ?_) (fun z => ?_))) (fun z => J17 (Or.inr z)))
  · refine bin 5 (Or.inr ⟨rfl, Or.inl z⟩) _ (fun s2 j2 hp => c_sgn hk 33 (by decide) (fun n => absurd z n) (fun n => ?_))
    rw [n] at hp
    exact hp
  · rcases hg' with q | q
    · omega
    · exact cls q.1 q.2
  · refine bin 5 (Or.inr ⟨rfl, Or.inr z⟩) _ (fun s2 j2 hp => c_sgn hk 33 (by decide) (fun n => ?_) (fun n => absurd n n33))
    rw [z] at hp
    exact hp
