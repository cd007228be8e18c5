theorem pStep_some {r : Nat} {k : Tk} {c n : Nat} {a o : Bool} {cd : List Nat} (hr6 : r ≠ 6) (hb : ¬ (31 ≤ k.1 ∧ k.1 ≤ 34)) : pStep r k (([], some c, n, a, o), false, cd) = if k.1 = 23 then .inr (.inl (([], none, 0, true, o), true, cd ++ [10000 + c] ++ List.replicate n 10024 ++ (if a = true then [10023] else []))) else if k.1 = 22 then .inr (.inl (([], none, 0, false, true), true, cd ++ [10000 + c] ++ List.replicate n 10024 ++ (if a = true then [10023] else []) ++ (if o = true then [10022] else []))) else if k.1 = 3 then .inr (.inr (cd ++ [10000 + c] ++ List.replicate n 10024 ++ (if a = true then [10023] else []) ++ (if o = true then [10022] else []))) else .inl 1 := by
  have e1 : cd ++ em ([] ++ ((some c).toList ++ (List.replicate n 24 ++ (if a = true then [23] else [])))) = cd ++ [10000 + c] ++ List.replicate n 10024 ++ (if a = true then [10023] else []) := by
    cases a <;> simp [em, List.map_replicate]
  have e2 : cd ++ em (wO ([], some c, n, a, o)) = cd ++ [10000 + c] ++ List.replicate n 10024 ++ (if a = true then [10023] else []) ++ (if o = true then [10022] else []) := by
    cases a <;> cases o <;> simp [em, wO, wR, List.map_replicate]
  have b0 : brk ([] : List Nat) = 0 := rfl
  have sn : (some c) ≠ none := by simp
  rw [← e2, ← e1]
  unfold pStep
  rw [if_neg (show ¬ (false = true) by decide), if_neg hb, if_neg (fun w => absurd w.2.2.2.2 sn)]
  by_cases h23 : k.1 = 23
  · rw [if_pos ⟨h23, hr6, rfl, sn⟩, if_pos h23]
  · rw [if_neg (fun w => h23 w.1), if_neg h23]
    by_cases h22 : k.1 = 22
    · rw [if_pos ⟨h22, hr6, rfl, sn⟩, if_pos h22]
    · rw [if_neg (fun w => h22 w.1), if_neg h22, if_neg (fun w => absurd w.2 (by show ¬ 0 < 0; omega))]
      by_cases h3 : k.1 = 3
      · rw [if_pos ⟨h3, rfl, Or.inl sn⟩, if_pos h3]
      · rw [if_neg (fun w => h3 w.1), if_neg h3]
/-- what an asked clause leaves, its semicolon before it -/
def rEnd (σ : hd_M) (tp : List Nat) (t : Nat) (cd : List Nat) (k : Tk) (ts : List Tk) : Prop := rC σ t cd ∧ σ.1 94 18 = 0 ∧ rTs σ tp (k :: ts) ∧ cd.length + (k :: ts).length ≤ 300
theorem sX8_either {G : hd_G} {σ : hd_M} {P : Int32 → hd_M → Prop} {tp : List Nat} {t r : Nat} {cd : List Nat} {ts : List Tk} (ht : tok tp) (hr : r < 9) (hr6 : r ≠ 6) (hM : rM0 σ tp t r (([], none, 0, false, false), true, cd) ts) (hF : ∀ f p σ', pRun r ts (([], none, 0, false, false), true, cd) = .inl (f, p) → agG t σ σ' → 1 ≤ f → f < 7 → σ'.1 94 8 = nI p → P (nI f) σ') (hD : ∀ cd' k ts' σ', pRun r ts (([], none, 0, false, false), true, cd) = (if k.1 = 3 then .inr (ts', cd') else .inl (1, k.2.2)) → agG t σ σ' → rEnd σ' tp t cd' k ts' → (k :: ts').length < ts.length → P 0 σ') : EVi G mX8_either SH [.ref 94] σ P := by
  refine wX8_either (fun X hX v1 e1 v2 e2 v3 e3 => ?_)
  have main : ∀ (m : Nat) (us : List Tk) (a o : Bool) (cd0 : List Nat) (s : hd_M), us.length ≤ m → agG t σ s → rM0 s tp t r (([], none, 0, a, o), true, cd0) us → pRun r ts (([], none, 0, false, false), true, cd) = pRun r us (([], none, 0, a, o), true, cd0) → us.length ≤ ts.length → ∀ x1 x2 x3 : Int32, x1 = zI (cl_bit a) → x2 = zI (cl_bit o) → x3 = 1 → hd_J G mX8_either X SH (0, 0) 6 [(0, .ref 94), (1, .int x1), (2, .int x2), (3, .int x3)] [] s := by
    intro m
    induction m with
    | zero =>
      intro us a o cd0 s hl ag M
      obtain ⟨k, us', e⟩ := rTs_ne M.2.2.2.1
      rw [e] at hl
      simp at hl
    | succ m ih =>
      intro us a o cd0 s hl ag M er l1 x1 x2 x3 ex1 ex2 ex3
      have m20 := M.2.2.1
      have mTp := M.2.2.2.2.1
      refine wX8_either_6 hX _ _ _ (b_eq' (by rw [ex3]; decide) (sX8_asks ht hr hr6 M (fun f p s1 e1 a1 f1 f2 p1 v3 e3 => ?_) (fun n c cd1 k us' s1 e1 hc a1 c1 z18 t1 nS nL b1 l2 v3 e3 => b_eq e3 ?_)))
      · rw [e3]
        exact b_eq' (f_nz f1 (by omega)) (hF f p s1 (er.trans e1) (agG_tr ag a1) f1 f2 p1)
      · have hk : rTok s1 k := rTs_hd t1
        have ep := pStep_some (r := r) (k := k) (c := c) (n := n) (a := a) (o := o) (cd := cd1) hr6 b1
        have er1 := er.trans e1
        have wl : (wO ([], some c, n, a, o)).length = 1 + n + ((if a = true then 1 else 0) + (if o = true then 1 else 0)) := by
          show (c :: (List.replicate n 24 ++ ((if a = true then [23] else []) ++ (if o = true then [22] else [])))).length = _
          rw [List.length_cons, List.length_append, List.length_replicate]
          cases a <;> cases o <;> simp <;> omega
        have kl : (k :: us').length = us'.length + 1 := rfl
        have nL2 : 1 + n + ((if a = true then 1 else 0) + (if o = true then 1 else 0)) + cd1.length + (us'.length + 1) ≤ 300 := by
          rw [← wl, ← kl]
          exact nL
        generalize hC0 : cd1 ++ [10000 + c] ++ List.replicate n 10024 = C0 at *
        have c0l : C0.length = cd1.length + 1 + n := by
          rw [← hC0, List.length_append, List.length_append, List.length_singleton, List.length_replicate]
        -- behind the ask, its and
        have tail : ∀ (s2 : hd_M), agG t s1 s2 → (∀ j, j ≠ 14 → s2.1 94 j = s1.1 94 j) → s2.2 94 = s1.2 94 → rC s2 t (C0 ++ (if a = true then [10023] else [])) → EVl G mX8_w3 SH [.int 97, .int 110, .int 100] s2 (fun y5 s4 => EVi G mX8_isWord SH [.ref 94, .long y5] s4 (fun y7 s6 => ∀ v8 : Int32, v8 = y7 → (¬ s6.1 94 9 = 2 → hd_J G mX8_either X SH (0, 0) 72 [(0, .ref 94), (1, .int v8), (2, .int x2)] [] s6) ∧ (s6.1 94 9 = 2 → (¬ lg_cmp (s6.2 94 11) 28530 = 0 → hd_J G mX8_either X SH (0, 0) 72 [(0, .ref 94), (1, .int v8), (2, .int x2)] [] s6) ∧ (lg_cmp (s6.2 94 11) 28530 = 0 → ∀ v9 : Int32, v9 = 1 → (¬ v8 = 0 → hd_J G mX8_either X SH (0, 0) 93 [(0, .ref 94), (1, .int v8), (2, .int x2), (5, .int v9)] [] s6) ∧ (v8 = 0 → (x2 = 0 → hd_J G mX8_either X SH (0, 0) 90 [(0, .ref 94), (1, .int v8), (5, .int v9)] [] s6) ∧ (¬ x2 = 0 → EVv G mX8_emit SH [.ref 94, .int 22, .int 0] s6 (fun s10 => hd_J G mX8_either X SH (0, 0) 90 [(0, .ref 94), (1, .int v8), (5, .int v9)] [] s10))))))) := by
          intro s2 a2 j2 l2' c2
          have hk2 : rTok s2 k := rTs_hd (rTs_cg t1 (fun j _ h2 => j2 j (by omega)) l2')
          have t2 : rTs s2 tp (k :: us') := rTs_cg t1 (fun j _ h2 => j2 j (by omega)) l2'
          have A2 : agG t σ s2 := agG_tr (agG_tr ag a1) a2
          have z2 : s2.1 94 18 = 0 := by rw [j2 18 (by decide)]; exact z18
          -- the or's code, then on
          have orC : ∀ (Q : hd_M → Prop), (∀ s3, agG t σ s3 → (∀ j, j ≠ 14 → s3.1 94 j = s2.1 94 j) → s3.2 94 = s2.2 94 → rC s3 t (C0 ++ (if a = true then [10023] else []) ++ (if o = true then [10022] else [])) → Q s3) → (x2 = 0 → Q s2) ∧ (¬ x2 = 0 → EVv G mX8_emit SH [.ref 94, .int 22, .int 0] s2 Q) := by
            intro Q hQ
            rw [ex2, cl_bit_z]
            refine ⟨fun z => hQ s2 A2 (fun _ _ => rfl) rfl ?_, fun z => ?_⟩
            · rw [z, if_neg (show ¬ (false = true) by decide), List.append_nil]
              exact c2
            · have z : o = true := by simpa using z
              refine sX8_emit (c := 10022) c2 ?_ rfl (fun w => absurd w (by decide)) (fun s3 a3 g3 c3 => hQ s3 (agG_tr A2 a3) (fun j hj => g3.2.1 j hj) g3.2.2 ?_)
              · rw [List.length_append, c0l]
                rw [z] at nL2
                cases a <;> simp at nL2 ⊢ <;> omega
              · rw [z, if_pos rfl]
                exact c3
          have on : ∀ (s3 : hd_M) (a' o' : Bool) (C : List Nat) (y1 y2 : Int32), agG t σ s3 → (∀ j, j ≠ 14 → s3.1 94 j = s2.1 94 j) → s3.2 94 = s2.2 94 → rC s3 t C → pStep r k (([], some c, n, a, o), false, cd1) = .inr (.inl (([], none, 0, a', o'), true, C)) → y1 = zI (cl_bit a') → y2 = zI (cl_bit o') → k.1 ≠ 0 → hd_J G mX8_either X SH (0, 0) 102 [(0, .ref 94), (1, .int y1), (2, .int y2)] [] s3 := by
            intro s3 a' o' C y1 y2 A3 j3 l3 c3 ep3 ey1 ey2 k0
            refine wX8_either_102 hX _ _ (fun v1 e1 => b_eq' (by rw [e1]; decide) ?_)
            obtain ⟨o1, o2, _⟩ := pStep_ok nS ep3
            have o2 : (wO ([], none, 0, a', o')).length + C.length ≤ (wO ([], some c, n, a, o)).length + cd1.length + 1 := o2
            refine sX8_nextT ht (rTape_G hM.2.2.2.2.1 A3) (rTs_cg t2 (fun j _ h2 => j3 j (by omega)) l3) k0 (fun s4 a4 t4 => ?_)
            have A4 : agG t σ s4 := agG_tr A3 (agG_K a4)
            refine wX8_either_116 hX _ _ _ (ih us' a' o' C s4 (by omega) A4 ⟨rC_K c3 a4, ?_, by rw [A4.2.1 20 (by omega)]; exact hM.2.2.1, t4, rTape_G hM.2.2.2.2.1 A4, o1, ?_⟩ (er1.trans (pRun_s ep3)) (by omega) _ _ _ ey1 ey2 e1)
            · rw [a4.2 18 (by omega), j3 18 (by decide), z2]
              exact congrArg nI (nst_ask 0 a' o').symm
            · show (wO ([], none, 0, a', o')).length + C.length + us'.length ≤ 300
              omega
          refine wX8_w3 _ _ _ (sX8_isWord hk2 23 (by decide) w3_and (fun v8 e8 => ?_))
          have i22 : (28530 : Int64) = lN (pkN (wkL 22)) := by decide +kernel
          by_cases h23 : k.1 = 23
          · rw [decide_eq_true h23] at e8
            rw [if_pos h23] at ep
            have nz : ¬ v8 = 0 := by rw [e8]; decide
            have J72 : hd_J G mX8_either X SH (0, 0) 72 [(0, .ref 94), (1, .int v8), (2, .int x2)] [] s2 := wX8_either_72 hX _ _ (fun v1 e1 => b_ne nz (wX8_either_93 hX _ _ _ (b_ne nz (on s2 true o _ v8 x2 A2 (fun _ _ => rfl) rfl c2 ep e8 ex2 (by omega)))))
            exact c_wd hk2 22 (by decide) i22 (fun _ => J72) (fun z => by omega) (fun _ => J72)
          · rw [decide_eq_false h23] at e8
            rw [if_neg h23] at ep
            have e8z : v8 = 0 := e8
            by_cases h22 : k.1 = 22
            · rw [if_pos h22] at ep
              refine c_wd hk2 22 (by decide) i22 (fun z => absurd h22 z) (fun _ v9 e9 => b_ne' e8z (orC _ (fun s3 A3 j3 l3 c3 => wX8_either_90 hX _ _ (fun v1 e1 => wX8_either_93 hX _ _ _ (b_ne' e8z (b_eq' (by rw [e9]; decide) (on s3 false true _ v8 v1 A3 j3 l3 c3 ep e8 (by rw [e1, e9]; rfl) (by omega)))))))) (fun z => absurd h22 z)
            · rw [if_neg h22] at ep
              have J72 : hd_J G mX8_either X SH (0, 0) 72 [(0, .ref 94), (1, .int v8), (2, .int x2)] [] s2 := by
                refine wX8_either_72 hX _ _ (fun v1 e1 => b_ne' e8z (orC _ (fun s3 A3 j3 l3 c3 => wX8_either_90 hX _ _ (fun v e => wX8_either_93 hX _ _ _ (b_ne' e8z (b_eq e1 (fun v2 e2 => b_eq e2 (wX8_either_116 hX _ _ _ (wX8_either_6 hX _ _ _ (b_eq e2 (hD _ k us' s3 ?_ A3 ⟨c3, ?_, ?_, ?_⟩ ?_)))))))))))
                · rw [er1]
                  by_cases h3 : k.1 = 3
                  · rw [if_pos h3] at ep
                    rw [if_pos h3]
                    exact pRun_d ep
                  · rw [if_neg h3] at ep
                    rw [if_neg h3]
                    exact pRun_f ep
                · rw [j3 18 (by decide)]; exact z2
                · exact rTs_cg t2 (fun j _ h2 => j3 j (by omega)) l3
                · rw [List.length_append, List.length_append, c0l, kl]
                  cases a <;> cases o <;> simp at nL2 ⊢ <;> omega
                · omega
              exact c_wd hk2 22 (by decide) i22 (fun _ => J72) (fun z => absurd z h22) (fun _ => J72)
        rw [ex1, cl_bit_z]
        refine ⟨fun z => tail s1 agG_rf (fun _ _ => rfl) rfl ?_, fun z => ?_⟩
        · rw [z, if_neg (show ¬ (false = true) by decide), List.append_nil]
          exact c1
        · have z : a = true := by simpa using z
          refine sX8_emit (c := 10023) c1 ?_ rfl (fun w => absurd w (by decide)) (fun s3 a3 g3 c3 => tail s3 a3 (fun j hj => g3.2.1 j hj) g3.2.2 ?_)
          · rw [c0l]
            rw [z] at nL2
            cases o <;> simp at nL2 ⊢ <;> omega
          · rw [z, if_pos rfl]
            exact c3
  exact main ts.length ts false false cd σ (Nat.le_refl _) agG_rf hM rfl (Nat.le_refl _) v1 v2 v3 e1 e2 e3
