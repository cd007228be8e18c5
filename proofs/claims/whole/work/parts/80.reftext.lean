theorem srt_lt {k s : Nat} (h : srt k = some s) : s < 7 ∧ k ≠ 0 := by
  unfold srt at h
  repeat' (first | (cases h; done) | (injection h with h; omega) | split at h)
theorem sX8_clause {G : hd_G} {σ : hd_M} {P : Int32 → hd_M → Prop} {tp : List Nat} {t : Nat} {K : List (Nat → Nat)} {cd : List Nat} {ts : List Tk} (ht : tok tp) (hT : rTape σ tp) (hR : RT σ tp t K cd ts) (hF : ∀ f p σ', pClause K cd ts = .inl (f, p) → agX t σ σ' → rFl σ' f p → P (nI f) σ') (hK : ∀ ts' c cd' σ', pClause K cd ts = .inr (ts', c, cd') → agX t σ σ' → RT σ' tp t (K ++ [c]) cd' ts' → P 0 σ') : EVi G mX8_clause SH [.ref 94] σ P := by
  obtain ⟨kS, cC, z18, z21, tT, kL, lL⟩ := hR
  have t4 := cC.2.1
  have h12 := cC.1
  obtain ⟨k, us', eu⟩ := rTs_ne tT
  subst eu
  rw [List.length_cons] at lL
  have hk := rTs_hd tT
  refine wX8_clause (fun X hX => sX8_sortOf hk (fun v3 e3 => ?_))
  unfold srtI at e3
  cases hs : srt k.1 with
  | none =>
    rw [hs] at e3
    have e3 : v3 = -1 := e3
    rw [e3]
    refine b_le' (by decide) (hF 1 k.2.2 σ ?_ agX_rf ⟨by decide, by decide, hk.1⟩)
    show (match srt k.1 with | none => _ | some s => _) = _
    rw [hs]
  | some s =>
    rw [hs] at e3
    have e3 : v3 = nI s := e3
    subst e3
    obtain ⟨s7, k0⟩ := srt_lt hs
    have c97 : (σ.1 94 12).toNatClampNeg = 730 * t := by rw [h12]; exact nI_clamp (by omega)
    have hv12 : vp_in (σ.1 94 12) 2920 := by rw [h12]; exact hd_vn (by omega) (by decide)
    have clr : ¬ ((3 ≤ s ∧ s ≤ 5) ∧ K.any (isRule (s + 3)) = true) → pClause K cd (k :: us') = (if 24 ≤ K.length then .inl (6, k.2.2)
      else if s = 0 then bN 5 us' (fun p ts1 => if K.any (isRule p) = true then .inl (4, plc us') else pRule 0 p p cd ts1)
      else if 3 ≤ s ∧ s ≤ 5 then pRule s (s + 3) 0 cd us'
      else if s = 1 then bN 5 us' (fun x ts => bT 4 ts (fun ts => bN 2 ts (fun y ts => pTail cd [1, x, y] ts)))
      else if s = 2 then bN 2 us' (fun x ts => pTail cd [2, x] ts)
      else bN 14 us' (fun x ts => bT 3 ts (fun ts => .inr (ts, mkC [6, x], cd)))) := by
      intro hn
      show (match srt k.1 with | none => _ | some s => _) = _
      rw [hs]
      show (if (3 ≤ s ∧ s ≤ 5) ∧ K.any (isRule (s + 3)) = true then _ else _) = _
      rw [if_neg hn]
    generalize hb : 730 * t + 1 + 5 * K.length = b
    have J70 : ∀ s1 : hd_M, K.length < 24 → ¬ ((3 ≤ s ∧ s ≤ 5) ∧ K.any (isRule (s + 3)) = true) → (∀ j, j ≠ 21 → s1.1 94 j = σ.1 94 j) → (∀ k, k ≠ 94 → s1.1 k = σ.1 k) → s1.2 = σ.2 → (∀ c : Nat → Nat, c 0 = s → s1.1 94 21 = nI (ob (K ++ [c]))) → hd_J G mX8_clause X SH (0, 0) 70 [(0, .ref 94), (1, .int (nI s)), (2, .int (nI K.length))] [] s1 := by
      intro s1 k24 hn j1 r1 l1 z1
      have ep := clr hn
      rw [if_neg (by omega)] at ep
      refine wX8_clause_70 hX _ _ (fun s2 e2 => ?_)
      have j2 : ∀ j, j ≠ 20 → j ≠ 21 → s2.1 94 j = σ.1 94 j := fun j a c => by rw [e2, wI_eq, if_neg a, j1 j c]
      have r2 : ∀ k, k ≠ 94 → s2.1 k = σ.1 k := fun k hk => by rw [e2, wI_ne hk, r1 k hk]
      have l2 : s2.2 = σ.2 := by rw [e2]; exact l1
      have a2 : agX t σ s2 := ⟨fun k x _ _ => ⟨r2 k x, by rw [l2]⟩, fun j hj => j2 j (by omega) (by omega), fun j _ => by rw [r2 97 (by decide)]⟩
      refine sX8_nextT ht (rTape_T hT a2) (rTs_cg tT (fun j _ h2 => j2 j (by omega) (by omega)) (by rw [l2])) k0 (fun s3 a3 t3 v3 e3 => ?_)
      have A3 : agX t σ s3 := agX_tr a2 (agX_L (b := b) (by omega) (agL_K a3))
      have g12 : s3.1 94 12 = nI (730 * t) := by rw [a3.2 12 (by omega), j2 12 (by decide) (by decide)]; exact h12
      have e3 : v3 = nI b := by
        rw [e3, g12, show (5 : Int32) = nI 5 from rfl, pk_mul, nI_1, nI_add, ← hb]
      subst e3
      have hb4 : b + 4 < 730 * t + 125 := by omega
      have r97 : s3.1 97 = σ.1 97 := by rw [(a3.1 97 (by decide)).1, r2 97 (by decide)]
      have L3 : LSt s3 s3 tp t b cd [] us' := ⟨agL_rf, rC_cg cC (by rw [g12, h12]) (by rw [a3.2 14 (by omega), j2 14 (by decide) (by decide)]) r97, by rw [a3.2 18 (by omega), j2 18 (by decide) (by decide)]; exact z18, t3, FL_nil⟩
      have g20 : s3.1 94 20 = nI s := by rw [a3.2 20 (by omega), e2, wI_eq, if_pos rfl]
      have g21 : ∀ c : Nat → Nat, c 0 = s → s3.1 94 21 = nI (ob (K ++ [c])) := fun c hc => by rw [a3.2 21 (by omega), e2, wI_eq, if_neg (by decide)]; exact z1 c hc
      have K3 : rKs s3 t K := rKs_lo kS (fun j _ => by rw [r97])
      have T3 := rTape_T hT A3
      have fin : ∀ (s6 : hd_M) (c : Nat → Nat) (cd' : List Nat) (k' : Tk) (ts' : List Tk), pClause K cd (k :: us') = (if k'.1 = 3 then .inr (ts', c, cd') else .inl (1, k'.2.2)) → agL t b s3 s6 → rC s6 t cd' → s6.1 94 18 = 0 → rTs s6 tp (k' :: ts') → cd'.length + (k' :: ts').length ≤ 301 → (∀ j, 1 ≤ j → j < 5 → us s j = true → s6.1 97 (b + j) = nI (c j) ∧ c j < 20000) → c 0 = s → vp_in (nI b) 2920 ∧ (∀ s9, s9 = hd_wI s6 97 (nI b).toNatClampNeg (nI s) → vp_in (s9.1 94 12) 2920 ∧ (vp_in (s9.1 94 12) 2920 ∧ (∀ s10, s10 = hd_wI s9 97 ((s9.1 94 12).toNatClampNeg) ((s9.1 97 ((s9.1 94 12).toNatClampNeg)) + 1) → (s10.1 94 9 = 59 → EVv G mX8_nextToken SH [.ref 94] s10 (fun s11 => P 0 s11)) ∧ (¬ s10.1 94 9 = 59 → P 1 s10)))) := by
        intro s6 c cd' k' ts' epc a6 c6 q18 t6 len6 cel c0
        refine ⟨hd_vn (by omega) (by decide), fun s9 e9 => ?_⟩
        rw [nI_clamp (by omega)] at e9
        have f9 : s9.1 94 = s6.1 94 := by rw [e9, wI_ne (by decide)]
        rw [f9, c6.1, nI_clamp (show 730 * t < 2 ^ 31 by omega)]
        refine ⟨hd_vn (by omega) (by decide), hd_vn (by omega) (by decide), fun s10 e10 => ?_⟩
        have g9 : s9.1 97 (730 * t) = nI K.length := by
          rw [e9, wI_eq, if_neg (by omega), a6.2.2 (730 * t) (by omega)]
          exact K3.1
        rw [g9, nI_1] at e10
        have f10 : s10.1 94 = s6.1 94 := by rw [e10, wI_ne (by decide), f9]
        have l10 : s10.2 94 = s6.2 94 := by rw [e10, e9]; rfl
        have v97 : ∀ j, s10.1 97 j = if j = 730 * t then nI (K.length + 1) else if j = b then nI s else s6.1 97 j := fun j => by rw [e10, wI_eq, e9, wI_eq]
        have A10 : agX t σ s10 := by
          rw [e10, e9]
          exact agX_97 (agX_97 (agX_tr A3 (agX_L (by omega) a6)) (by omega)) (by omega)
        have t10 : rTs s10 tp (k' :: ts') := rTs_cg t6 (fun j _ _ => by rw [f10]) l10
        have C10 : rC s10 t cd' := ⟨by rw [f10]; exact c6.1, c6.2.1, by rw [f10]; exact c6.2.2.1, fun i hi => by
          rw [v97, v97, if_neg (by omega), if_neg (by omega), if_neg (by omega), if_neg (by omega)]
          exact c6.2.2.2 i hi⟩
        have K10 : rKs s10 t (K ++ [c]) := by
          refine ⟨by rw [v97, if_pos rfl, List.length_append]; rfl, fun i hi j hj hu => ?_⟩
          rw [List.length_append, List.length_singleton] at hi
          by_cases zi : i = K.length
          · subst zi
            have ek : kg (K ++ [c]) K.length = c := getD_app2
            rw [ek] at hu ⊢
            rw [c0] at hu
            rw [show 730 * t + 1 + 5 * K.length + j = b + j by omega, v97, if_neg (by omega)]
            by_cases zj : j = 0
            · rw [if_pos (by omega), zj, c0]
              exact ⟨rfl, by omega⟩
            · rw [if_neg (by omega)]
              exact cel j (by omega) hj hu
          · have ek : kg (K ++ [c]) i = kg K i := getD_app1 (by omega)
            rw [ek] at hu ⊢
            rw [v97, if_neg (by omega), if_neg (by omega), a6.2.2 _ (by omega)]
            exact K3.2 i (by omega) j hj hu
        refine c_sg (rTs_hd t10) 3 (by decide) (fun z => ?_) (fun z => ?_)
        · rw [if_pos z] at epc
          refine sX8_nextT ht (rTape_T hT A10) t10 (by omega) (fun s11 a11 t11 => hK ts' c cd' s11 epc (agX_tr A10 (agX_L (b := b) (by omega) (agL_K a11))) ⟨rKs_lo K10 (fun j _ => by rw [(a11.1 97 (by decide)).1]), rC_K C10 a11, by rw [a11.2 18 (by omega), f10]; exact q18, ?_, t11, by rw [List.length_append, List.length_singleton]; omega, by rw [List.length_cons] at len6; omega⟩)
          rw [a11.2 21 (by omega), f10, a6.2.1 21 (by omega)]
          exact g21 c c0
        · rw [if_neg z] at epc
          exact hF 1 k'.2.2 s10 epc A10 ⟨by decide, by decide, (rTs_hd t10).1⟩
      refine sX8_isAsking s7 ⟨fun y => ?_, fun y => ?_⟩
      · rw [cl_bit_z] at y
        have y : ¬ (s = 0 ∨ (3 ≤ s ∧ s ≤ 5)) := by simpa using y
        have hs3 : s = 1 ∨ s = 2 ∨ s = 6 := by omega
        have epl : pClause K cd (k :: us') = LINE s us' (fun l ts => bT 3 ts (fun ts => .inr (ts, mkC (s :: l), cd))) := by
          rw [ep]
          rcases hs3 with rfl | rfl | rfl
          · rfl
          · rfl
          · rfl
        refine sX8_line ht T3 hb4 hs3 L3 (fun f p s6 e a fl v8 e8 => ?_) (fun l ts' s6 e le ok L6 v8 e8 => b_eq e8 ?_)
        · rw [e8]
          exact b_eq' (f_nz fl.1 (by have := fl.2.1; omega)) (hF f p s6 (epl.trans (e _)) (agX_tr A3 (agX_L (by omega) a)) fl)
        · obtain ⟨k', ts'', eq⟩ := rTs_ne L6.2.2.2.1
          subst eq
          refine fin s6 (mkC (s :: l)) cd k' ts'' (epl.trans ((e _).trans bT_hd)) L6.1 L6.2.1 L6.2.2.1 L6.2.2.2.1 (by omega) (fun j j1' j5 hu => ?_) rfl
          have ec : mkC (s :: l) j = l.getD (j - 1) 0 := by
            unfold mkC
            rw [show j = (j - 1) + 1 by omega]
            rfl
          have hlen : j - 1 < l.length ∧ l.getD (j - 1) 0 < 20000 := by
            have hj : j = 1 ∨ j = 2 ∨ j = 3 ∨ j = 4 := by omega
            rcases ok with ⟨rfl, x, y, z, w, rfl, _⟩ | ⟨rfl, x, z, w, rfl, _⟩ | ⟨rfl, x, rfl, _⟩
            · rcases hj with rfl | rfl | rfl | rfl <;> simp <;> omega
            · rcases hj with rfl | rfl | rfl | rfl
              · simp; omega
              · simp; omega
              · simp; omega
              · exact absurd hu (by decide)
            · rcases hj with rfl | rfl | rfl | rfl
              · simp; omega
              · exact absurd hu (by decide)
              · exact absurd hu (by decide)
              · exact absurd hu (by decide)
          rw [ec]
          have := L6.2.2.2.2 (j - 1) hlen.1
          rw [show b + 1 + (j - 1) = b + j by omega] at this
          exact ⟨this, hlen.2⟩
      · rw [cl_bit_z] at y
        have y : s = 0 ∨ (3 ≤ s ∧ s ≤ 5) := by simp at y; omega
        have epa : pClause K cd (k :: us') = ASK s K cd us' := by
          rw [ep]
          unfold ASK
          by_cases h0 : s = 0
          · rw [if_pos h0, if_pos h0]
          · rw [if_neg h0, if_neg h0, if_pos (by omega)]
        subst hb
        refine sX8_asked ht T3 rfl k24 y L3 g20 K3 (by omega) (fun f p s6 e a fl v8 e8 => ?_) (fun x cd' k' ts' s6 e a E q1 q2 q3 q4 v8 e8 => b_eq e8 ?_)
        · rw [e8]
          exact b_eq' (f_nz fl.1 (by have := fl.2.1; omega)) (hF f p s6 (epa.trans e) (agX_tr A3 (agX_L (by omega) a)) fl)
        · have l6 := E.2.2.2
          refine fin s6 (mkC [s, x, cd.length, cd'.length]) cd' k' ts' (epa.trans e) a E.1 E.2.1 E.2.2.1 (by omega) (fun j j1' j5 hu => ?_) rfl
          have hj : j = 1 ∨ j = 2 ∨ j = 3 ∨ j = 4 := by omega
          rcases hj with rfl | rfl | rfl | rfl
          · rcases y with y | y
            · have := q1 y
              exact ⟨this.2, by show x < 20000; omega⟩
            · exfalso
              unfold us at hu
              simp at hu
              omega
          · exact ⟨q2, by show cd.length < 20000; omega⟩
          · exact ⟨q3, by show cd'.length < 20000; omega⟩
          · exfalso
            unfold us at hu
            simp at hu
            omega
    refine b_le (nI_le (a := 0) (Nat.zero_le _) (by omega)) (sX8_isOnce s7 ⟨fun y => ?_, fun y => ?_⟩)
    · rw [cl_bit_z] at y
      have y : ¬ (3 ≤ s ∧ s ≤ 5) := by simpa using y
      have hn : ¬ ((3 ≤ s ∧ s ≤ 5) ∧ K.any (isRule (s + 3)) = true) := fun w => y w.1
      rw [c97, kS.1]
      refine ⟨hv12, fun v6 e6 => ?_⟩
      subst e6
      refine c_ne (K.length : Int) 24 rfl rfl (fun z => sX8_isOnce s7 ?_) (fun z => ?_)
      · rw [decide_eq_false y]
        exact b_eq rfl (J70 σ (by omega) hn (fun _ _ => rfl) (fun _ _ => rfl) rfl (fun c hc => by rw [ob_same (by omega)]; exact z21))
      · refine hF 6 k.2.2 σ ?_ agX_rf ⟨by decide, by decide, hk.1⟩
        rw [clr hn, if_pos (by omega)]
    · rw [cl_bit_z] at y
      have y : 3 ≤ s ∧ s ≤ 5 := by simpa using y
      rw [z21]
      refine ⟨fun hbit => ?_, fun hbit => ?_⟩
      · rw [ob_has y] at hbit
        have hn : ¬ ((3 ≤ s ∧ s ≤ 5) ∧ K.any (isRule (s + 3)) = true) := fun w => hbit w.2
        rw [c97, kS.1]
        refine ⟨hv12, fun v6 e6 => ?_⟩
        subst e6
        refine c_ne (K.length : Int) 24 rfl rfl (fun z => sX8_isOnce s7 ?_) (fun z => ?_)
        · rw [decide_eq_true y]
          refine b_eq' (by decide) (fun s9 e9 => ?_)
          rw [z21] at e9
          refine J70 s9 (by omega) hn (fun j hj => by rw [e9, wI_eq, if_neg hj]) (fun k hk => by rw [e9, wI_ne hk]) (by rw [e9]; rfl) (fun c hc => ?_)
          rw [e9, wI_eq, if_pos rfl]
          exact ob_more y hc
        · refine hF 6 k.2.2 σ ?_ agX_rf ⟨by decide, by decide, hk.1⟩
          rw [clr hn, if_pos (by omega)]
      · rw [ob_has y] at hbit
        refine hF 4 k.2.2 σ ?_ agX_rf ⟨by decide, by decide, hk.1⟩
        show (match srt k.1 with | none => _ | some s => _) = _
        rw [hs]
        show (if (3 ≤ s ∧ s ≤ 5) ∧ K.any (isRule (s + 3)) = true then _ else _) = _
        rw [if_pos ⟨y, hbit⟩]
