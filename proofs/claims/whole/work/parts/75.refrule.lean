theorem nst_rep (n : Nat) : nst (List.replicate n 24) = n := by
  induction n with
  | zero => rfl
  | succ n ih =>
    rw [List.replicate_succ]
    show (if isN 24 = true then 1 else 0) + nst (List.replicate n 24) = _
    rw [ih, if_pos (show isN 24 = true from rfl)]
    omega
theorem nst_ao (a o : Bool) : nst ((if a = true then [23] else []) ++ (if o = true then [22] else [])) = 0 := by
  cases a <;> cases o <;> rfl
theorem nst_ask (n : Nat) (a o : Bool) : nst (wO ([], none, n, a, o)) = n := by
  show nst (List.replicate n 24 ++ ((if a = true then [23] else []) ++ (if o = true then [22] else []))) = n
  rw [nst_app, nst_rep, nst_ao, Nat.add_zero]
theorem nst_cmp {c : Nat} (hc : 25 ≤ c ∧ c ≤ 30) (n : Nat) (a o : Bool) : nst (wO ([], some c, n, a, o)) = n := by
  show (if isN c = true then 1 else 0) + nst (List.replicate n 24 ++ ((if a = true then [23] else []) ++ (if o = true then [22] else []))) = n
  have nk : isN c = false := by unfold isN; simp; omega
  rw [nst_app, nst_rep, nst_ao, nk, if_neg (by decide)]
  omega
theorem w3_not : ((((110 : Int32).toInt64 <<< ((8 : Int32).toInt64 &&& 63)) ||| (111 : Int32).toInt64) <<< ((8 : Int32).toInt64 &&& 63)) ||| (116 : Int32).toInt64 = lN (pkN (wkL 24)) := by decide +kernel
theorem w3_and : ((((97 : Int32).toInt64 <<< ((8 : Int32).toInt64 &&& 63)) ||| (110 : Int32).toInt64) <<< ((8 : Int32).toInt64 &&& 63)) ||| (100 : Int32).toInt64 = lN (pkN (wkL 23)) := by decide +kernel
theorem pStep_none {r : Nat} {k : Tk} {n : Nat} {a o : Bool} {cd : List Nat} (hr6 : r ≠ 6) (hb : ¬ (31 ≤ k.1 ∧ k.1 ≤ 34)) : pStep r k (([], none, n, a, o), false, cd) = if 25 ≤ k.1 ∧ k.1 ≤ 30 then .inr (.inl (([], some k.1, n, a, o), true, cd)) else .inl 1 := by
  unfold pStep
  rw [if_neg (show ¬ (false = true) by decide), if_neg hb]
  by_cases h : 25 ≤ k.1 ∧ k.1 ≤ 30
  · rw [if_pos ⟨h.1, h.2, hr6, rfl, rfl⟩, if_pos h]
    simp
  · rw [if_neg (fun w => h ⟨w.1, w.2.1⟩), if_neg (fun w => w.2.2.2 rfl), if_neg (fun w => w.2.2.2 rfl), if_neg (fun w => absurd w.2 (by show ¬ 0 < 0; omega)), if_neg (fun w => w.2.2.elim (fun z => z rfl) hr6), if_neg h]
theorem nI_ss (n : Nat) : nI n - nI n = 0 := by
  show zI n - zI n = 0
  rw [zI_sub, Int.sub_self]
  rfl
theorem sX8_asks {G : hd_G} {σ : hd_M} {P : Int32 → hd_M → Prop} {tp : List Nat} {t r : Nat} {a o : Bool} {cd : List Nat} {ts : List Tk} (ht : tok tp) (hr : r < 9) (hr6 : r ≠ 6) (hM : rM0 σ tp t r (([], none, 0, a, o), true, cd) ts) (hF : ∀ f p σ', pRun r ts (([], none, 0, a, o), true, cd) = .inl (f, p) → agG t σ σ' → 1 ≤ f → f < 7 → σ'.1 94 8 = nI p → P (nI f) σ') (hD : ∀ n c cd' k ts' σ', pRun r ts (([], none, 0, a, o), true, cd) = pRun r (k :: ts') (([], some c, n, a, o), false, cd') → 25 ≤ c ∧ c ≤ 30 → agG t σ σ' → rC σ' t (cd' ++ [10000 + c] ++ List.replicate n 10024) → σ'.1 94 18 = 0 → rTs σ' tp (k :: ts') → sOK r (([], some c, n, a, o), false, cd') → (wO ([], some c, n, a, o)).length + cd'.length + (k :: ts').length ≤ 300 → ¬ (31 ≤ k.1 ∧ k.1 ≤ 34) → (k :: ts').length < ts.length → P 0 σ') : EVi G mX8_asks SH [.ref 94] σ P := by
  refine wX8_asks (fun X hX v1 e1 => ?_)
  rw [e1]
  have main : ∀ (m : Nat) (us : List Tk) (n : Nat) (s : hd_M), us.length ≤ m → agG t σ s → rM0 s tp t r (([], none, n, a, o), true, cd) us → pRun r ts (([], none, 0, a, o), true, cd) = pRun r us (([], none, n, a, o), true, cd) → us.length ≤ ts.length → hd_J G mX8_asks X SH (0, 0) 2 [(0, .ref 94), (1, .int (nI n))] [] s := by
    intro m
    induction m with
    | zero =>
      intro us n s hl ag M
      obtain ⟨k, us', e⟩ := rTs_ne M.2.2.2.1
      rw [e] at hl
      simp at hl
    | succ m ih =>
      intro us n s hl ag M er l1
      have M0 := M
      obtain ⟨mC, m18, m20, mT, mTp, mS, mL⟩ := M
      obtain ⟨k, us', e⟩ := rTs_ne mT
      subst e
      have hk := rTs_hd mT
      have n8 : n ≤ 8 := by
        have := mS.2.2.2.2
        rw [show nst (wO (([], none, n, a, o), true, cd).1) = n from nst_ask n a o] at this
        exact this
      have m18 : s.1 94 18 = nI n := by
        rw [m18]
        exact congrArg nI (nst_ask n a o)
      refine wX8_asks_2 hX _ (wX8_w3 _ _ _ (sX8_isWord hk 24 (by decide) w3_not ⟨fun y => ?_, fun y => ?_⟩))
      · rw [cl_bit_z] at y
        have y : k.1 ≠ 24 := by simpa using y
        refine sX8_summed ht hr M0 (fun k' ts' e w => ?_) (fun f p s1 e1 a1 f1 f2 p1 v7 e7 => ?_) (fun cd1 k1 ts1 s1 e1 a1 M1 b1 l2 v7 e7 => b_eq e7 ?_)
        · injection e with e2 e3
          rw [← e2] at w
          exact y w.1
        · rw [e7]
          exact b_eq' (f_nz f1 (by omega)) (hF f p s1 (er.trans e1) (agG_tr ag a1) f1 f2 p1)
        · have hk1 := rTs_hd M1.2.2.2.1
          refine sX8_compareOf hk1 (fun v10 e10 => ?_)
          have ep := pStep_none (r := r) (k := k1) (n := n) (a := a) (o := o) (cd := cd1) hr6 b1
          by_cases hc : 25 ≤ k1.1 ∧ k1.1 ≤ 30
          · rw [if_pos hc] at e10 ep
            rw [e10]
            refine b_le (nI_le (a := 0) (Nat.zero_le _) (by omega)) ?_
            obtain ⟨o1, o2, _⟩ := pStep_ok M1.2.2.2.2.2.1 ep
            have ml1 := M1.2.2.2.2.2.2
            rw [List.length_cons] at ml1 l2
            refine sX8_nextT ht M1.2.2.2.2.1 M1.2.2.2.1 (by omega) (fun s2 a2 t2 => ?_)
            have M2 : rM0 s2 tp t r (([], some k1.1, n, a, o), true, cd1) ts1 := by
              refine ⟨rC_K M1.1 a2, ?_, by rw [a2.2 20 (by omega)]; exact M1.2.2.1, t2, rTape_K M1.2.2.2.2.1 a2, o1, by omega⟩
              rw [a2.2 18 (by omega), M1.2.1]
              exact congrArg nI ((nst_ask n a o).trans (nst_cmp hc n a o).symm)
            refine sX8_summed ht hr M2 (fun _ _ _ w => absurd w.2.2 (by simp)) (fun f p s3 e3 a3 f1 f2 p3 v14 e14 => ?_) (fun cd2 k2 ts2 s3 e3 a3 M3 b3 l3 v14 e14 => b_eq e14 ?_)
            · rw [e14]
              exact b_eq' (f_nz f1 (by omega)) (hF f p s3 (er.trans (e1.trans ((pRun_s ep).trans e3))) (agG_tr (agG_tr (agG_tr ag a1) (agG_K a2)) a3) f1 f2 p3)
            · obtain ⟨nC, n18, n20, nT, nTp, nS, nL⟩ := M3
              have n18 : s3.1 94 18 = nI n := by
                rw [n18]
                exact congrArg nI (nst_cmp hc n a o)
              have wl : (wO ([], some k1.1, n, a, o)).length = 1 + n + ((if a = true then [23] else []) ++ (if o = true then [22] else []) : List Nat).length := by
                show (k1.1 :: (List.replicate n 24 ++ ((if a = true then [23] else []) ++ (if o = true then [22] else [])))).length = _
                rw [List.length_cons, List.length_append, List.length_replicate]
                omega
              have nL : (wO ([], some k1.1, n, a, o)).length + cd2.length + (k2 :: ts2).length ≤ 300 := nL
              refine sX8_emit (c := 10000 + k1.1) nC (show cd2.length < 300 by rw [List.length_cons] at nL; omega) ?_ (fun z => by omega) (fun s4 a4 g4 c4 s5 e5 v17 e17 => ?_)
              · unfold cl_mo
                rw [if_neg (by omega), if_neg (by omega), if_neg (by omega), if_pos (by omega), show 10000 + k1.1 - 10015 = k1.1 - 15 by omega]
              · rw [g4.2.1 18 (by decide), n18, nI_ss] at e5
                have j5 : ∀ j, j ≠ 18 → s5.1 94 j = s4.1 94 j := fun j hj => by rw [e5, wI_eq, if_neg hj]
                have r5 : ∀ k, k ≠ 94 → s5.1 k = s4.1 k := fun k hk => by rw [e5, wI_ne hk]
                rw [e17]
                have A5 : agG t σ s5 := by
                  rw [e5]
                  exact agG_94 (agG_tr (agG_tr (agG_tr (agG_tr ag a1) (agG_K a2)) a3) a4) (by decide)
                have nots : ∀ (m i : Nat) (s : hd_M), i + m = n → agG t σ s → (∀ j, j ≠ 14 → s.1 94 j = s5.1 94 j) → s.2 94 = s5.2 94 → rC s t (cd2 ++ [10000 + k1.1] ++ List.replicate i 10024) → hd_J G mX8_asks X SH (0, 0) 105 [(0, .ref 94), (1, .int (nI n)), (4, .int (nI i))] [] s := by
                  intro m
                  induction m with
                  | zero =>
                    intro i s hi as js ls cs
                    have : i = n := by omega
                    subst this
                    refine wX8_asks_105 hX _ _ (b_le (nI_le (Nat.le_refl _) (by omega)) (hD i k1.1 cd2 k2 ts2 s (er.trans (e1.trans ((pRun_s ep).trans e3))) hc as cs ?_ ?_ nS nL b3 ?_))
                    · rw [js 18 (by decide), e5, wI_eq, if_pos rfl]
                    · exact rTs_cg nT (fun j _ h2 => by rw [js j (by omega), j5 j (by omega), g4.2.1 j (by omega)]) (by rw [ls, e5]; exact g4.2.2)
                    · omega
                  | succ m ihm =>
                    intro i s hi as js ls cs
                    refine wX8_asks_105 hX _ _ (b_le' (nI_lt (by omega) (by omega)) (sX8_emit (c := 10024) cs ?_ rfl (fun z => absurd z (by decide)) (fun s6 a6 g6 c6 v2 e2 => ?_)))
                    · rw [List.length_append, List.length_append, List.length_singleton, List.length_replicate]
                      rw [List.length_cons] at nL
                      omega
                    · rw [e2, nI_1]
                      refine ihm (i + 1) s6 (by omega) (agG_tr as a6) (fun j hj => by rw [g6.2.1 j hj]; exact js j hj) (by rw [g6.2.2]; exact ls) ?_
                      rw [List.replicate_succ', ← List.append_assoc]
                      exact c6
                exact nots n 0 s5 (by omega) A5 (fun _ _ => rfl) rfl (by
                  rw [show List.replicate 0 10024 = ([] : List Nat) from rfl, List.append_nil]
                  exact rC_cg c4 (j5 12 (by decide)) (j5 14 (by decide)) (r5 97 (by decide)))
          · rw [if_neg hc] at e10 ep
            rw [e10]
            exact b_le' (by decide) (hF 1 k1.2.2 s1 (er.trans (e1.trans (pRun_f ep))) (agG_tr ag a1) (by decide) (by decide) hk1.1)
      · rw [cl_bit_z] at y
        have y : k.1 = 24 := by simpa using y
        have ep : pStep r k (([], none, n, a, o), true, cd) = (if 8 ≤ n then .inl 3 else .inr (.inl (([], none, n + 1, a, o), true, cd))) := by
          unfold pStep
          rw [if_pos rfl, if_neg (by omega), if_neg (by omega), if_neg (by omega), if_neg (by omega), if_pos ⟨y, hr6, rfl, rfl⟩]
          have : nst (wO (([], none, n, a, o), true, cd).1) = n := nst_ask n a o
          rw [this]
        refine c_ne (n : Int) 8 m18 rfl (fun z s1 e1 v19 e19 => ?_) (fun z => ?_)
        · rw [if_neg (by omega)] at ep
          obtain ⟨o1, o2, _⟩ := pStep_ok mS ep
          rw [m18, nI_1] at e1
          rw [e19, nI_1]
          have j1 : ∀ j, j ≠ 18 → s1.1 94 j = s.1 94 j := fun j hj => by rw [e1, wI_eq, if_neg hj]
          have r1 : ∀ k, k ≠ 94 → s1.1 k = s.1 k := fun k hk => by rw [e1, wI_ne hk]
          have a1 : agG t s s1 := by rw [e1]; exact agG_94 agG_rf (by decide)
          refine sX8_nextT ht (rTape_G mTp a1) (rTs_cg mT (fun j _ h2 => j1 j (by omega)) (by rw [e1]; rfl)) (by omega) (fun s2 a2 t2 => ?_)
          rw [List.length_cons] at hl l1 mL
          refine ih us' (n + 1) s2 (by omega) (agG_tr (agG_tr ag a1) (agG_K a2)) ⟨rC_K (rC_cg mC (j1 12 (by decide)) (j1 14 (by decide)) (r1 97 (by decide))) a2, ?_, by rw [a2.2 20 (by omega), j1 20 (by decide)]; exact m20, t2, rTape_K (rTape_G mTp a1) a2, o1, by omega⟩ (er.trans (pRun_s ep)) (by omega)
          rw [a2.2 18 (by omega), e1, wI_eq, if_pos rfl]
          exact congrArg nI (nst_ask (n + 1) a o).symm
        · rw [if_pos (by omega)] at ep
          exact hF 3 k.2.2 s (er.trans (pRun_f ep)) ag (by decide) (by decide) hk.1
  exact main ts.length ts 0 σ (Nat.le_refl _) agG_rf hM rfl (Nat.le_refl _)
