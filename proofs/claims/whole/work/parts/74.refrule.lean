theorem pStep_settled {r : Nat} {k : Tk} {p cd : List Nat} {D : Option Nat × Nat × Bool × Bool} (hb : brk p = 0) (hk : ¬ (31 ≤ k.1 ∧ k.1 ≤ 34)) : pStep r k ((p, D), false, cd) = pStep r k (([], D), false, cd ++ em p) := by
  have b0 : brk ([] : List Nat) = 0 := rfl
  unfold pStep
  rw [if_neg (show ¬ (false = true) by decide), if_neg (show ¬ (false = true) by decide), if_neg hk, if_neg hk]
  simp only [hb, b0, wO, wR, em, List.map_append, List.map_nil, List.append_assoc, List.nil_append, List.append_nil, Nat.lt_irrefl, and_false, if_false]
theorem pStep_sum {r : Nat} {k : Tk} {S S' : PS} (hc : (S.2.1 = true ∧ ¬ (k.1 = 24 ∧ r ≠ 6 ∧ S.1.1 = [] ∧ S.1.2.1 = none)) ∨ (S.2.1 = false ∧ onG k.1 S.1.1 = true)) (h : pStep r k S = .inr (.inl S')) : S'.1.2 = S.1.2 ∧ (S'.2.1 = true → S'.1.1 ≠ []) := by
  unfold pStep at h
  rcases hc with ⟨hw, hn⟩ | ⟨hw, hg⟩
  · rw [if_pos hw, if_neg hn] at h
    split at h
    · split at h
      · injection h with h; injection h with h; subst h
        exact ⟨rfl, fun z => absurd z Bool.false_ne_true⟩
      · cases h
    · split at h
      · split at h
        · injection h with h; injection h with h; subst h
          exact ⟨rfl, fun z => absurd z Bool.false_ne_true⟩
        · cases h
      · split at h
        · split at h
          · cases h
          · injection h with h; injection h with h; subst h
            exact ⟨rfl, fun _ => by simp⟩
        · split at h
          · split at h
            · cases h
            · injection h with h; injection h with h; subst h
              exact ⟨rfl, fun _ => by simp⟩
          · cases h
  · have hg' : (31 ≤ k.1 ∧ k.1 ≤ 34) ∨ (k.1 = 37 ∧ 0 < brk S.1.1) := by
      unfold onG at hg
      simp at hg
      exact hg
    rw [if_neg (by rw [hw]; decide)] at h
    by_cases hb : 31 ≤ k.1 ∧ k.1 ≤ 34
    · rw [if_pos hb] at h
      injection h with h; injection h with h; subst h
      exact ⟨rfl, fun _ => by simp⟩
    · rw [if_neg hb, if_neg (by omega), if_neg (by omega), if_neg (by omega), if_pos (by omega)] at h
      injection h with h; injection h with h; subst h
      exact ⟨rfl, fun z => absurd z Bool.false_ne_true⟩
def rM0 (σ : hd_M) (tp : List Nat) (t r : Nat) (S : PS) (ts : List Tk) : Prop := rC σ t S.2.2 ∧ σ.1 94 18 = nI (nst (wO S.1)) ∧ σ.1 94 20 = nI (soR r) ∧ rTs σ tp ts ∧ rTape σ tp ∧ sOK r S ∧ (wO S.1).length + S.2.2.length + ts.length ≤ 300
theorem rM_0 {σ : hd_M} {tp : List Nat} {t r : Nat} {S : PS} {ts : List Tk} (h : rM σ tp t r S ts) : rM0 σ tp t r S ts := ⟨h.1, h.2.2.1, h.2.2.2.2.1, h.2.2.2.2.2.1, h.2.2.2.2.2.2.1, h.2.2.2.2.2.2.2.1, h.2.2.2.2.2.2.2.2⟩
theorem pRun_s {r : Nat} {k : Tk} {ts : List Tk} {S S' : PS} (h : pStep r k S = .inr (.inl S')) : pRun r (k :: ts) S = pRun r ts S' := by
  show (match pStep r k S with | .inl f => _ | .inr (.inl S') => _ | .inr (.inr cd) => _) = _
  rw [h]
theorem pRun_f {r f : Nat} {k : Tk} {ts : List Tk} {S : PS} (h : pStep r k S = .inl f) : pRun r (k :: ts) S = .inl (f, k.2.2) := by
  show (match pStep r k S with | .inl f => _ | .inr (.inl S') => _ | .inr (.inr cd) => _) = _
  rw [h]
theorem pRun_d {r : Nat} {k : Tk} {ts : List Tk} {S : PS} {cd : List Nat} (h : pStep r k S = .inr (.inr cd)) : pRun r (k :: ts) S = .inr (ts, cd) := by
  show (match pStep r k S with | .inl f => _ | .inr (.inl S') => _ | .inr (.inr cd) => _) = _
  rw [h]
/-- a sum, as far as it goes -/
theorem sX8_summed {G : hd_G} {σ : hd_M} {P : Int32 → hd_M → Prop} {tp : List Nat} {t r : Nat} {D : Option Nat × Nat × Bool × Bool} {cd : List Nat} {ts : List Tk} (ht : tok tp) (hr : r < 9) (hM : rM0 σ tp t r (([], D), true, cd) ts) (hn : ∀ k ts', ts = k :: ts' → ¬ (k.1 = 24 ∧ r ≠ 6 ∧ D.1 = none)) (hF : ∀ f p σ', pRun r ts (([], D), true, cd) = .inl (f, p) → agG t σ σ' → 1 ≤ f → f < 7 → σ'.1 94 8 = nI p → P (nI f) σ') (hD : ∀ cd' k ts' σ', pRun r ts (([], D), true, cd) = pRun r (k :: ts') (([], D), false, cd') → agG t σ σ' → rM0 σ' tp t r (([], D), false, cd') (k :: ts') → ¬ (31 ≤ k.1 ∧ k.1 ≤ 34) → (k :: ts').length < ts.length → P 0 σ') : EVi G mX8_summed SH [.ref 94] σ P := by
  refine wX8_summed (fun X hX s1 e1 => ⟨Or.inl rfl, fun s2 e2 => ?_⟩)
  obtain ⟨mC, m18, m20, mT, mTp, mS, mL⟩ := hM
  have j2 : ∀ j, j ≠ 17 → j ≠ 19 → s2.1 94 j = σ.1 94 j := fun j a b => by rw [e2, wI_eq, if_neg b, e1, wI_eq, if_neg a]
  have r2 : ∀ k, k ≠ 94 → s2.1 k = σ.1 k := fun k hk => by rw [e2, wI_ne hk, e1, wI_ne hk]
  have a2 : agG t σ s2 := by rw [e2, e1]; exact agG_94 (agG_94 agG_rf (by decide)) (by decide)
  have M2 : rM s2 tp t r (([], D), true, cd) ts := by
    refine ⟨rC_cg mC (j2 12 (by decide) (by decide)) (j2 14 (by decide) (by decide)) (r2 97 (by decide)), ⟨?_, fun j hj => absurd hj (by simp)⟩, by rw [j2 18 (by decide) (by decide)]; exact m18, ?_, by rw [j2 20 (by decide) (by decide)]; exact m20, rTs_cg mT (fun j _ h2 => j2 j (by omega) (by omega)) (by rw [e2, e1]; rfl), rTape_G mTp a2, mS, mL⟩
    · rw [e2, wI_eq, if_neg (by decide), e1, wI_eq, if_pos rfl]; rfl
    · rw [e2, wI_eq, if_pos rfl]; rfl
  have main : ∀ (n : Nat) (us : List Tk) (S : PS) (s : hd_M), us.length ≤ n → agG t σ s → rM s tp t r S us → S.1.2 = D → (∀ k us', us = k :: us' → S.2.1 = true → ¬ (k.1 = 24 ∧ r ≠ 6 ∧ S.1.1 = [] ∧ S.1.2.1 = none)) → pRun r ts (([], D), true, cd) = pRun r us S → us.length ≤ ts.length → (S.2.1 = false → us.length < ts.length) → hd_J G mX8_summed X SH (0, 0) 10 [(0, .ref 94)] [] s := by
    intro n
    induction n with
    | zero =>
      intro us S s hl a M
      obtain ⟨k, us', e⟩ := rTs_ne M.2.2.2.2.2.1
      rw [e] at hl
      simp at hl
    | succ n ih =>
      intro us S s hl a M eD hn2 er l1 l2
      obtain ⟨k, us', e⟩ := rTs_ne M.2.2.2.2.2.1
      subst e
      rw [List.length_cons] at hl
      have h19 := M.2.2.2.1
      have next : ∀ S' σ', ((S.2.1 = true ∧ ¬ (k.1 = 24 ∧ r ≠ 6 ∧ S.1.1 = [] ∧ S.1.2.1 = none)) ∨ (S.2.1 = false ∧ onG k.1 S.1.1 = true)) → pStep r k S = .inr (.inl S') → agG t s σ' → rM σ' tp t r S' us' → hd_J G mX8_summed X SH (0, 0) 10 [(0, .ref 94)] [] σ' := by
        intro S' σ' hc e a' M'
        have q := pStep_sum hc e
        rw [List.length_cons] at l1
        exact ih us' S' σ' (by omega) (agG_tr a a') M' (q.1.trans eD) (fun _ _ _ z w => q.2 z w.2.2.1) (er.trans (pRun_s e)) (by omega) (fun _ => by omega)
      refine wX8_summed_10 hX ?_
      by_cases hw : S.2.1 = true
      · have z19 : s.1 94 19 = 0 := by rw [h19, hw]; rfl
        have hn3 := hn2 k us' rfl hw
        refine b_eq z19 (b_eq z19 (sX8_beginOne ht hr M hw hn3 (fun f σ' e a' p' v3 e3 => ?_) (fun S' σ' e a' M' v3 e3 => ?_)))
        · have hf := pStep_f e
          rw [e3]
          exact b_eq' (f_nz hf.1 (by omega)) (hF f k.2.2 σ' (er.trans (pRun_f e)) (agG_tr a a') hf.1 hf.2 p')
        · exact b_eq e3 (next S' σ' (Or.inl ⟨hw, hn3⟩) e a' M')
      · have hw' : S.2.1 = false := by simpa using hw
        have z19 : s.1 94 19 = 1 := by rw [h19, hw']; rfl
        have nz : ¬ s.1 94 19 = 0 := by rw [z19]; decide
        have mS := M.2.2.2.2.2.2.2.1
        have pl : S.1.1.length ≤ 26 := pOK_26 mS.1 (by have := mS.2.2.2.2; rw [nst_wO] at this; omega)
        have hk := rTs_hd M.2.2.2.2.2.1
        refine b_eq' nz (sX8_goesOn M.2.1 (by omega) mS.1 hk ⟨fun y => ?_, fun y => ?_⟩)
        · rw [cl_bit_z] at y
          have ny : ¬ (31 ≤ k.1 ∧ k.1 ≤ 34) ∧ ¬ (k.1 = 37 ∧ 0 < brk S.1.1) := by
            unfold onG at y
            simp at y
            omega
          have wl := wO_len S.1
          have ml := M.2.2.2.2.2.2.2.2
          refine sX8_settle (x := 3) (s := 1) (Or.inl ⟨rfl, Or.inr rfl⟩) M.1 M.2.1 (by rw [List.length_cons] at ml; omega) (by omega) mS.1 (mS.2.1 hw') (fun s3 a3 j3 l3 c3 p3 n3 => ?_)
          by_cases hb : brk S.1.1 = 0
          · have e5 : rel 1 S.1.1 S.2.2 = ([], S.2.2 ++ em S.1.1) := by
              have := rel_all (s := 1) (w := S.1.1) (u := []) (cd := S.2.2) (p_stg mS hb (by decide))
              rw [List.append_nil] at this
              rw [this]
              rfl
            rw [e5] at c3 p3 n3
            have n3 : 0 = nst S.1.1 := n3
            rw [p3.1]
            refine b_le (show nI 0 ≤ (0 : Int32) by decide) (hD (S.2.2 ++ em S.1.1) k us' s3 ?_ (agG_tr a a3) ⟨c3, ?_, ?_, ?_, ?_, ?_, ?_⟩ ny.1 (l2 hw'))
            · rw [er]
              have : S = ((S.1.1, D), false, S.2.2) := by
                rw [← eD, ← hw']
              have e6 : pStep r k S = pStep r k (([], D), false, S.2.2 ++ em S.1.1) := by
                conv => lhs; rw [this]
                exact pStep_settled hb ny.1
              show (match pStep r k S with | .inl f => _ | .inr (.inl S') => _ | .inr (.inr cd) => _) = (match pStep r k (([], D), false, S.2.2 ++ em S.1.1) with | .inl f => _ | .inr (.inl S') => _ | .inr (.inr cd) => _)
              rw [e6]
            · rw [j3 18 (by decide) (by decide), M.2.2.1, nst_wO, ← n3, Nat.zero_add]
              show nI (nst (wR S.1)) = nI (nst (wR ([], D)))
              rw [← eD]
              rfl
            · rw [j3 20 (by decide) (by decide)]; exact M.2.2.2.2.1
            · exact rTs_cg M.2.2.2.2.2.1 (fun j _ h2 => j3 j (by omega) (by omega)) l3
            · exact rTape_G M.2.2.2.2.2.2.1 a3
            · have o5 := mS.2.2.2.2
              rw [nst_wO] at o5
              refine ⟨trivial, fun _ => by simp, ?_, ?_, ?_⟩
              · have := mS.2.2.1
                rw [eD] at this
                exact this
              · have := mS.2.2.2.1
                rw [eD] at this
                exact this
              · show nst (wR ([], D)) ≤ 8
                have : nst (wR S.1) = nst (wR ([], D)) := by rw [← eD]; rfl
                omega
            · show (wR ([], D)).length + (S.2.2 ++ em S.1.1).length + (k :: us').length ≤ 300
              have : (wR S.1).length = (wR ([], D)).length := by rw [← eD]; rfl
              rw [List.length_append, em_len]
              omega
          · obtain ⟨tl, g1, g2, g3⟩ := rel1_b S.1.1 [] S.2.2 (by omega)
            have e1 : (rel 1 S.1.1 S.2.2).1 = 36 :: tl := by rw [g1]
            rw [e1] at p3
            have hl3 := (rel_len (s := 1) (w := S.1.1) (cd := S.2.2)).2
            rw [e1, List.length_cons] at hl3
            have h17 : s3.1 94 17 = nI (tl.length + 1) := p3.1
            rw [h17]
            have ep : pStep r k S = .inl 1 := by
              show (if S.2.1 = true then _ else _) = _
              rw [if_neg hw, if_neg ny.1, if_neg (fun w => hb w.2.2.2.1), if_neg (fun w => hb w.2.2.1), if_neg (fun w => hb w.2.2.1), if_neg ny.2, if_neg (fun w => hb w.2.1)]
            exact b_le' (nI_lt (a := 0) (by omega) (by omega)) (hF 1 k.2.2 s3 (er.trans (pRun_f ep)) (agG_tr a a3) (by decide) (by decide) (by rw [j3 8 (by decide) (by decide)]; exact hk.1))
        · rw [cl_bit_z] at y
          have y : onG k.1 S.1.1 = true := by simpa using y
          exact b_eq' nz (sX8_behindOne ht M hw' y (fun S' σ' e a' M' v6 e6 => b_eq e6 (next S' σ' (Or.inr ⟨hw', y⟩) e a' M')))
  exact main ts.length ts _ s2 (Nat.le_refl _) a2 M2 rfl (fun k us' e _ w => hn k us' e ⟨w.1, w.2.1, w.2.2.2⟩) rfl (Nat.le_refl _) (fun z => absurd z.symm Bool.false_ne_true)
theorem sX8_compareOf {G : hd_G} {σ : hd_M} {P : Int32 → hd_M → Prop} {k : Tk} (hk : rTok σ k) (h : P (if 25 ≤ k.1 ∧ k.1 ≤ 30 then nI (k.1 - 15) else -1) σ) : EVi G mX8_compareOf SH [.ref 94] σ P := by
  have go : ∀ m, 25 ≤ m ∧ m ≤ 30 → k.1 = m → P (nI (m - 15)) σ := fun m hm e => by
    rw [if_pos (by omega), e] at h
    exact h
  refine wX8_compareOf (c_sgn hk 25 (by decide) (fun n1 => c_sgn hk 26 (by decide) (fun n2 => c_sgn hk 27 (by decide) (fun n3 => c_sgn hk 28 (by decide) (fun n4 => c_sgn hk 29 (by decide) (fun n5 => c_sgn hk 30 (by decide) (fun n6 => ?_) (go 30 (by decide))) (go 29 (by decide))) (go 28 (by decide))) (go 27 (by decide))) (go 26 (by decide))) (go 25 (by decide)))
  rw [if_neg (by omega)] at h
  exact h
