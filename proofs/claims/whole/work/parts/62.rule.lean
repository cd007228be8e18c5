/-! the class takes one token of a rule -/
def tkOK (t : Tk) : Prop := t.1 ≤ 37 ∧ t.2.1 ≤ 10000 ∧ t.2.2 ≤ 300
theorem sX3_isNameOf {G : hd_G} {σ : hd_M} {P : Int32 → hd_M → Prop} {sh : hd_S} {r k : Nat} (hr : r < 9) (hk : 12 ≤ k ∧ k ≤ 21) (h : P (zI (cl_bit (al r (k - 12)))) σ) : EVi G mX3_isNameOf sh [.int (nI r), .int (nI k)] σ P := by
  have ck : ∀ (m : Nat) (A B : Prop), m < 1000 → (k = m → A) → (k ≠ m → B) → (nI k = nI m → A) ∧ (¬ nI k = nI m → B) := fun m A B hm f g => c_eq (k : Int) (m : Int) rfl rfl (fun z => f (by omega)) (fun z => g (by omega))
  refine wX3_isNameOf _ _ (ck 19 _ _ (by decide) (fun z => ?_) (fun z1 => ck 20 _ _ (by decide) (fun z => ?_) (fun z2 => ck 21 _ _ (by decide) (fun z => ?_) (fun z3 => ?_))))
  · refine c_lt (6 : Int) (r : Int) rfl rfl (fun w => ⟨Or.inl rfl, ?_⟩) (fun w => ⟨Or.inr rfl, ?_⟩)
    · have e : al r (k - 12) = false := by
        rw [z]; unfold al; simp; omega
      rw [e] at h
      exact h
    · have e : al r (k - 12) = true := by
        rw [z]; unfold al; simp; omega
      rw [e] at h
      exact h
  · refine c_ne (r : Int) 6 rfl rfl (fun w => ⟨Or.inl rfl, ?_⟩) (fun w => ⟨Or.inr rfl, ?_⟩)
    · have e : al r (k - 12) = false := by
        rw [z]; unfold al; simp; omega
      rw [e] at h
      exact h
    · have e : al r (k - 12) = true := by
        rw [z]; unfold al; simp; omega
      rw [e] at h
      exact h
  · refine c_ne (r : Int) 8 rfl rfl (fun w => ⟨Or.inl rfl, ?_⟩) (fun w => ⟨Or.inr rfl, ?_⟩)
    · have e : al r (k - 12) = false := by
        rw [z]; unfold al; simp; omega
      rw [e] at h
      exact h
    · have e : al r (k - 12) = true := by
        rw [z]; unfold al; simp; omega
      rw [e] at h
      exact h
  · have e : al r (k - 12) = true := by
      unfold al; simp; omega
    rw [e] at h
    exact ⟨Or.inr rfl, h⟩
theorem wO_rep (j : Nat) (p : List Nat) (D : PD) : wO (List.replicate j 35 ++ p, D.2) = List.replicate j 35 ++ wO (p, D.2) := by
  show (List.replicate j 35 ++ p) ++ _ = _
  rw [List.append_assoc]
  rfl
theorem sX3_takeOne {G : hd_G} {σ : hd_M} {P : hd_M → Prop} {q r m : Nat} {S : PS} {t : Tk} (hq : hd_law q) (hr : r < 9) (hM : cM σ q r m S) (hw : S.2.1 = true) (hm : m < 300) (ht : tkOK t) (h8 : σ.1 63 8 = nI t.1) (h9 : σ.1 63 9 = nI t.2.1) (h10 : σ.1 63 10 = nI t.2.2) (hF : ∀ f σ', pStep r t S = .inl f → agV q σ σ' → σ'.1 62 2 = nI f → σ'.1 62 3 = nI t.2.2 → P σ') (hN : ∀ S' σ', pStep r t S = .inr (.inl S') → agV q σ σ' → cM σ' q r (m + 1) S' → σ'.1 62 3 = σ.1 62 3 → P σ') : EVv G mX3_takeOne SH [.ref 62, .int (nI r)] σ P := by
  have l6 := law_62 hq
  obtain ⟨hk, hv, hp⟩ := ht
  have c5 : σ.1 62 2 = 0 := by obtain ⟨_, _, _, _, _, _, c5, _⟩ := hM; exact c5
  have c7 : σ.1 62 9 = zI (cl_bit (S.2.1 && decide (r ≠ 6) && S.1.1.isEmpty && S.1.2.1.isNone)) := by obtain ⟨_, _, _, _, _, _, _, _, c7, _⟩ := hM; exact c7
  have ck : ∀ (m : Nat) (A B : Prop), m < 1000 → (t.1 = m → A) → (t.1 ≠ m → B) → (nI t.1 = nI m → A) ∧ (¬ nI t.1 = nI m → B) := fun m A B hm f g => c_eq (t.1 : Int) (m : Int) rfl rfl (fun z => f (by omega)) (fun z => g (by omega))
  have ckn : ∀ (m : Nat) (A B : Prop), m < 1000 → (t.1 ≠ m → A) → (t.1 = m → B) → (¬ nI t.1 = nI m → A) ∧ (nI t.1 = nI m → B) := fun m A B hm f g => c_ne (t.1 : Int) (m : Int) rfl rfl (fun z => f (by omega)) (fun z => g (by omega))
  refine wX3_takeOne _ (fun X hX v1 e1 => ?_)
  rw [h8] at e1
  subst e1
  have fin : ∀ s : hd_M, (∀ x, x = (if s.1 62 9 = 0 then 0 else if t.1 = 24 then (1 : Int32) else 0) → P (hd_wI s 62 9 x)) → hd_J G mX3_takeOne X SH (0, 0) 149 [(0, .ref 62), (2, .int (nI t.1))] [] s := by
    intro s hp
    refine wX3_takeOne_149 hX _ ⟨fun z => ⟨Or.inl rfl, fun s1 e1 => ?_⟩, fun z => ckn 24 _ _ (by decide) (fun z2 => ⟨Or.inl rfl, fun s1 e1 => ?_⟩) (fun z2 => ⟨Or.inr rfl, fun s1 e1 => ?_⟩)⟩
    · rw [e1]; exact hp 0 (by rw [if_pos z])
    · rw [e1]; exact hp 0 (by rw [if_neg z, if_neg z2])
    · rw [e1]; exact hp 1 (by rw [if_neg z, if_pos z2])
  have flt : ∀ (f : Nat) (s : hd_M), pStep r t S = .inl f → agV q σ s → s.1 62 2 = nI f → s.1 62 3 = nI t.2.2 → hd_J G mX3_takeOne X SH (0, 0) 149 [(0, .ref 62), (2, .int (nI t.1))] [] s := fun f s e a b c => fin s (fun x _ => hF f _ e (agV_62 hq a (by decide)) (by rw [wI_eq, if_neg (by decide)]; exact b) (by rw [wI_eq, if_neg (by decide)]; exact c))
  have one : ∀ (x : Nat) (s : hd_M), t.1 ≠ 24 → pStep r t S = .inr (.inl (pOne S.1 S.2.2 x)) → agV q σ s → (∀ j, j ≠ 8 → s.1 62 j = σ.1 62 j) → s.1 62 8 = 0 → cW s q (wO S.1) (S.2.2 ++ [x]) → hd_J G mX3_takeOne X SH (0, 0) 149 [(0, .ref 62), (2, .int (nI t.1))] [] s := by
    intro x s z24 e a j8 e8 cw
    refine fin s (fun y ey => hN _ _ e (agV_62 hq a (by decide)) ?_ (by rw [wI_eq, if_neg (by decide), j8 3 (by decide)]))
    have ey : y = 0 := by rw [ey]; split <;> rfl
    subst ey
    obtain ⟨lag, cdc, d1, d2, d3, d4, d5, d6, d7, d8, d9⟩ := hM
    have hlag := d3 hw
    subst hlag
    have e1 : S.2.2 = cdc := by rw [d2]; simp
    obtain ⟨j, g1, g2, g3⟩ := rel7 S.1.1 (S.2.2 ++ [x])
    have ew : wO S.1 = List.replicate j 35 ++ wO ((rel 7 S.1.1 (S.2.2 ++ [x])).1, S.1.2) := by
      rw [← wO_rep, ← g1]
    refine ⟨j, S.2.2 ++ [x], ?_, ?_, ?_, ?_, ?_, ?_, ?_, ?_, ?_⟩
    · show cW _ q (List.replicate j 35 ++ wO ((rel 7 S.1.1 (S.2.2 ++ [x])).1, S.1.2)) _
      rw [← ew]
      exact cW_62 hq cw (by decide)
    · exact g2
    · intro z; exact absurd z Bool.false_ne_true
    · have : (wO S.1).length = j + (wO ((rel 7 S.1.1 (S.2.2 ++ [x])).1, S.1.2)).length := by rw [ew]; simp
      show j + (wO ((rel 7 S.1.1 (S.2.2 ++ [x])).1, S.1.2)).length + (S.2.2 ++ [x]).length ≤ m + 1
      rw [List.length_append, List.length_singleton, e1]
      rw [e1] at this
      omega
    · rw [wI_eq, if_neg (by decide), j8 2 (by decide)]; exact d5
    · rw [wI_eq, if_neg (by decide)]; exact e8
    · rw [wI_eq, if_pos rfl]; rfl
    · rw [wI_eq, if_neg (by decide), j8 10 (by decide)]; exact d8
    · rw [wI_eq, if_neg (by decide), j8 11 (by decide)]; exact d9
  have nest : ∀ (k : Nat) (S' : PS) (s : hd_M), pStep r t S = .inr (.inl S') → k :: wO S.1 = wO S'.1 → S'.2 = (true, S.2.2) → S'.1.2.1 = S.1.2.1 → agV q σ s → (∀ j, j ≠ 5 → j ≠ 6 → j ≠ 7 → s.1 62 j = σ.1 62 j) → cW s q (k :: wO S.1) S.2.2 → (if σ.1 62 9 = 0 then 0 else if t.1 = 24 then (1 : Int32) else 0) = zI (cl_bit (decide (r ≠ 6) && S'.1.1.isEmpty && S'.1.2.1.isNone)) → hd_J G mX3_takeOne X SH (0, 0) 149 [(0, .ref 62), (2, .int (nI t.1))] [] s := by
    intro k S' s e ew e2 e3 a j8 cw e9
    refine fin s (fun y ey => hN _ _ e (agV_62 hq a (by decide)) ?_ (by rw [wI_eq, if_neg (by decide), j8 3 (by decide) (by decide) (by decide)]))
    rw [j8 9 (by decide) (by decide) (by decide), e9] at ey
    obtain ⟨lag, cdc, d1, d2, d3, d4, d5, d6, d7, d8, d9⟩ := hM
    have hlag := d3 hw
    subst hlag
    have e1 : S.2.2 = cdc := by rw [d2]; simp
    refine ⟨0, S.2.2, ?_, ?_, fun _ => rfl, ?_, ?_, ?_, ?_, ?_, ?_⟩
    · show cW _ q (wO S'.1) _
      rw [← ew]
      exact cW_62 hq cw (by decide)
    · rw [e2]; simp
    · rw [← ew, List.length_cons, e1]
      omega
    · rw [wI_eq, if_neg (by decide), j8 2 (by decide) (by decide) (by decide)]; exact d5
    · rw [wI_eq, if_neg (by decide), j8 8 (by decide) (by decide) (by decide), d6, hw, e2]
    · rw [wI_eq, if_pos rfl, ey, e2]; rfl
    · rw [wI_eq, if_neg (by decide), j8 10 (by decide) (by decide) (by decide), e3]; exact d8
    · rw [wI_eq, if_neg (by decide), j8 11 (by decide) (by decide) (by decide)]; exact d9
  have b144 : pStep r t S = .inl 1 → hd_J G mX3_takeOne X SH (0, 0) 144 [(0, .ref 62), (2, .int (nI t.1))] [] σ := by
    intro e
    refine wX3_takeOne_144 hX _ (sX3_blame (f := 1) c5 h10 (fun s3 e3 => flt 1 s3 e ?_ ?_ ?_))
    · rw [e3]; exact agV_62 hq (agV_62 hq agV_rf (by decide)) (by decide)
    · rw [e3, wI_eq, if_neg (by decide), wI_eq, if_pos rfl]
    · rw [e3, wI_eq, if_pos rfl]
  have stp : ∀ y, y = pStep r t S → pStep r t S = y := fun y h => h.symm
  have tail : (¬ t.1 = 2) → ¬ (12 ≤ t.1 ∧ t.1 ≤ 21) → hd_J G mX3_takeOne X SH (0, 0) 82 [(0, .ref 62), (2, .int (nI t.1))] [] σ := by
    intro n2 n12
    have ep : pStep r t S = (if t.1 = 36 then (if 8 ≤ nst (wO S.1) then .inl 3 else .inr (.inl ((36 :: S.1.1, S.1.2), true, S.2.2)))
    else if t.1 = 32 then (if 8 ≤ nst (wO S.1) then .inl 3 else .inr (.inl ((35 :: S.1.1, S.1.2), true, S.2.2)))
    else if t.1 = 24 ∧ r ≠ 6 ∧ S.1.1 = [] ∧ S.1.2.1 = none then (if 8 ≤ nst (wO S.1) then .inl 3 else .inr (.inl ((S.1.1, S.1.2.1, S.1.2.2.1 + 1, S.1.2.2.2), true, S.2.2)))
    else .inl 1) := by
      show (if S.2.1 = true then _ else _) = _
      rw [if_pos hw, if_neg n2, if_neg n12]
    refine wX3_takeOne_82 hX _ (ckn 36 _ _ (by decide) (fun z36 => ckn 32 _ _ (by decide) (fun z32 => ckn 24 _ _ (by decide) (fun z24 => ?_) (fun z24 => ⟨fun z9 => ?_, fun z9 => ?_⟩)) (fun z32 => ?_)) (fun z36 => ?_))
    · rw [if_neg z36, if_neg z32, if_neg (by omega)] at ep
      exact b144 ep
    · rw [c7, cl_bit_z, hw] at z9
      rw [if_neg z36, if_neg z32, if_neg ?_] at ep
      · exact b144 ep
      · intro w
        rw [w.2.2.1, w.2.2.2] at z9
        simp [w.2.1] at z9
    · have z9' := z9
      rw [c7, cl_bit_z, hw] at z9'
      have w : r ≠ 6 ∧ S.1.1 = [] ∧ S.1.2.1 = none := by
        simpa [List.isEmpty_iff] using z9'
      rw [if_neg z36, if_neg z32, if_pos ⟨z24, w⟩] at ep
      refine sX3_nestIn (k := 24) hq hM hw hm rfl h10 (fun n8 s1 a1 f1 f2 => flt 3 s1 ?_ a1 f1 f2) (fun n8 s1 a1 j1 cw => ?_)
      · rw [ep, if_pos n8]
      · rw [if_neg n8] at ep
        have ew : 24 :: wO S.1 = wO (S.1.1, S.1.2.1, S.1.2.2.1 + 1, S.1.2.2.2) := by
          unfold wO wR
          rw [w.2.1, w.2.2]
          rfl
        have f7 : s1.1 62 7 = nI (brk (24 :: wO S.1)) := by
          rw [j1 7 (by decide) (by decide)]
          obtain ⟨lag, cdc, d1, d2, d3, d4, d5, d6, d7, d8, d9⟩ := hM
          have hlag := d3 hw
          subst hlag
          have := d1.2.2.2.2.1
          rw [this]
          show nI (brk (wO S.1)) = nI (0 + brk (wO S.1))
          rw [Nat.zero_add]
        refine nest 24 _ s1 ep ew rfl rfl a1 (fun j a b c => j1 j a b) ?_ ?_
        · have es : ∀ j, (hd_wI s1 62 7 (nI (brk (24 :: wO S.1)))).1 62 j = s1.1 62 j := fun j => by
            rw [wI_eq]
            split
            · rename_i z; rw [z, f7]
            · rfl
          have er : ∀ k, k ≠ 62 → (hd_wI s1 62 7 (nI (brk (24 :: wO S.1)))).1 k = s1.1 k := fun k hk => wI_ne hk
          unfold cW at cw ⊢
          simp only [es, er 77 (by decide), er q l6.1, er (q + 1) l6.2.2.1] at cw
          exact cw
        · rw [if_neg z9, if_pos z24]
          show (1 : Int32) = zI (cl_bit (decide (r ≠ 6) && S.1.1.isEmpty && S.1.2.1.isNone))
          rw [w.2.1, w.2.2, decide_eq_true w.1]
          rfl
    · rw [if_neg z36, if_pos z32] at ep
      refine sX3_nestIn (k := 35) hq hM hw hm rfl h10 (fun n8 s1 a1 f1 f2 => flt 3 s1 ?_ a1 f1 f2) (fun n8 s1 a1 j1 cw => ?_)
      · rw [ep, if_pos n8]
      · rw [if_neg n8] at ep
        have f7 : s1.1 62 7 = nI (brk (35 :: wO S.1)) := by
          rw [j1 7 (by decide) (by decide)]
          obtain ⟨lag, cdc, d1, d2, d3, d4, d5, d6, d7, d8, d9⟩ := hM
          have hlag := d3 hw
          subst hlag
          have := d1.2.2.2.2.1
          rw [this]
          show nI (brk (wO S.1)) = nI (0 + brk (wO S.1))
          rw [Nat.zero_add]
        refine nest 35 _ s1 ep rfl rfl rfl a1 (fun j a b c => j1 j a b) ?_ ?_
        · have es : ∀ j, (hd_wI s1 62 7 (nI (brk (35 :: wO S.1)))).1 62 j = s1.1 62 j := fun j => by
            rw [wI_eq]
            split
            · rename_i z; rw [z, f7]
            · rfl
          have er : ∀ k, k ≠ 62 → (hd_wI s1 62 7 (nI (brk (35 :: wO S.1)))).1 k = s1.1 k := fun k hk => wI_ne hk
          unfold cW at cw ⊢
          simp only [es, er 77 (by decide), er q l6.1, er (q + 1) l6.2.2.1] at cw
          exact cw
        · rw [show (if t.1 = 24 then (1 : Int32) else 0) = 0 by rw [if_neg (by omega)]]
          show _ = zI (cl_bit (decide (r ≠ 6) && false && _))
          simp [cl_bit, zI_0]
    · rw [if_pos z36] at ep
      refine sX3_nestIn (k := 36) hq hM hw hm rfl h10 (fun n8 s1 a1 f1 f2 s4 e4 => flt 3 s4 ?_ ?_ ?_ ?_) (fun n8 s1 a1 j1 cw s4 e4 => ?_)
      · rw [ep, if_pos n8]
      · rw [e4]; exact agV_62 hq a1 (by decide)
      · rw [e4, wI_eq, if_neg (by decide)]; exact f1
      · rw [e4, wI_eq, if_neg (by decide)]; exact f2
      · rw [if_neg n8] at ep
        have f7 : s1.1 62 7 + 1 = nI (brk (36 :: wO S.1)) := by
          rw [j1 7 (by decide) (by decide)]
          obtain ⟨lag, cdc, d1, d2, d3, d4, d5, d6, d7, d8, d9⟩ := hM
          have hlag := d3 hw
          subst hlag
          have := d1.2.2.2.2.1
          rw [this, nI_1]
          show nI (brk (wO S.1) + 1) = nI (1 + brk (wO S.1))
          rw [Nat.add_comm]
        rw [f7] at e4
        refine nest 36 _ s4 ep rfl rfl rfl (by rw [e4]; exact agV_62 hq a1 (by decide)) (fun j a b c => by rw [e4, wI_eq, if_neg c]; exact j1 j a b) (by rw [e4]; exact cw) ?_
        rw [show (if t.1 = 24 then (1 : Int32) else 0) = 0 by rw [if_neg (by omega)]]
        show _ = zI (cl_bit (decide (r ≠ 6) && false && _))
        simp [cl_bit, zI_0]
  refine ckn 2 _ _ (by decide) (fun n2 => c_lt (t.1 : Int) 12 rfl rfl (fun z => tail n2 (by omega)) (fun z12 => c_lt (21 : Int) (t.1 : Int) rfl rfl (fun z => tail n2 (by omega)) (fun z21 => ?_))) (fun n2 => ?_)
  · have hb : 12 ≤ t.1 ∧ t.1 ≤ 21 := by omega
    have ep : pStep r t S = (if al r (t.1 - 12) = true then .inr (.inl (pOne S.1 S.2.2 (10000 + t.1))) else .inl 5) := by
      show (if S.2.1 = true then _ else _) = _
      rw [if_pos hw, if_neg n2, if_pos hb]
    refine sX3_isNameOf hr hb ⟨fun y => ?_, fun y => ?_⟩
    · rw [cl_bit_z] at y
      rw [if_neg (by rw [y]; decide)] at ep
      rw [show (10000 : Int32) + nI t.1 = nI (10000 + t.1) from nI_add 10000 t.1]
      exact sX3_addOne (f := 5) hq hM hw hm (by omega) (by decide) h10 (fun _ s1 a1 f1 f2 => flt 5 s1 ep a1 f1 f2) (fun z => absurd z (by decide))
    · rw [cl_bit_z] at y
      rw [if_pos (by simpa using y)] at ep
      rw [show (10000 : Int32) + nI t.1 = nI (10000 + t.1) from nI_add 10000 t.1]
      exact sX3_addOne (f := 0) hq hM hw hm (by omega) (by decide) h10 (fun z => absurd rfl z) (fun _ s1 a1 j1 f1 cw => one _ s1 (by omega) ep a1 j1 f1 cw)
  · have ep : pStep r t S = (if t.2.1 ≤ 9999 then .inr (.inl (pOne S.1 S.2.2 t.2.1)) else .inl 2) := by
      show (if S.2.1 = true then _ else _) = _
      rw [if_pos hw, if_pos n2]
    rw [h9]
    refine c_lt (9999 : Int) (t.2.1 : Int) rfl rfl (fun z => ?_) (fun z => ?_)
    · rw [if_neg (by omega)] at ep
      exact sX3_addOne (f := 2) hq hM hw hm (by omega) (by decide) h10 (fun _ s1 a1 f1 f2 => flt 2 s1 ep a1 f1 f2) (fun z => absurd z (by decide))
    · rw [if_pos (by omega)] at ep
      exact sX3_addOne (f := 0) hq hM hw hm (by omega) (by decide) h10 (fun z => absurd rfl z) (fun _ s1 a1 j1 f1 cw => one _ s1 (by omega) ep a1 j1 f1 cw)
