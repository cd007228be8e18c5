theorem setTailF {G : hd_G} {s : hd_M} {P : hd_M → Prop} {c : Int32} (hz : ¬ s.1 62 2 = 0) (hp : P s) : EVv G mX3_takeToken SH [.ref 62, .int 5] s (fun s6 => EVi G mX3_takeNumber SH [.ref 62, .int 5] s6 (fun y8 s7 => ∀ v9 : Int32, v9 = y8 → EVv G mX3_takeToken SH [.ref 62, .int 4] s7 (fun s10 => EVi G mX3_takeNumber SH [.ref 62, .int 2] s10 (fun y12 s11 => ∀ v13 : Int32, v13 = y12 → EVv G mX3_takeToken SH [.ref 62, .int 3] s11 (fun s14 => (¬ s14.1 62 2 = 0 → P s14) ∧ (s14.1 62 2 = 0 → ¬ (s14.1 62 1).toNatClampNeg = 0 ∧ (hd_k SH ((s14.1 62 1).toNatClampNeg) 12 (fun _ => EVv G mX2_addSet SH [.ref ((s14.1 62 1).toNatClampNeg), .int c, .int v9, .int v13] s14 (fun s15 => P s15))))))))) :=
  sX3_takeTokenF hz (sX3_takeNumberF hz (fun _ _ => sX3_takeTokenF hz (sX3_takeNumberF hz (fun _ _ => sX3_takeTokenF hz (b_ne hz hp)))))
theorem sX3_readRuleF {G : hd_G} {σ : hd_M} {P : hd_M → Prop} {x : Int32} (hz : ¬ σ.1 62 2 = 0) (hp : P σ) : EVv G mX3_readRule SH [.ref 62, .int x] σ P := wX3_readRule _ (fun _ _ => b_ne hz hp)
def pSet (cd : List Nat) (s : Nat) (ts : List Tk) : CR := if s = 1 then bN 5 ts (fun x ts => bT 4 ts (fun ts => bN 2 ts (fun y ts => pTail cd [1, x, y] ts))) else bN 2 ts (fun x ts => pTail cd [2, x] ts)
theorem bT_inv {k : Nat} {ts : List Tk} {g : List Tk → CR} {v : List Tk × (Nat → Nat) × List Nat} (h : bT k ts g = .inr v) : ∃ ts1, pT k ts = .inr ts1 ∧ g ts1 = .inr v := by
  unfold bT at h
  cases e : pT k ts with
  | inl f => rw [e] at h; cases h
  | inr ts1 => rw [e] at h; exact ⟨ts1, rfl, h⟩
theorem pN_le {m x : Nat} {ts ts1 : List Tk} (h : pN m ts = .inr (x, ts1)) : x ≤ m := by
  cases ts with
  | nil => cases h
  | cons t ts =>
    have h : (if t.1 = 2 then (if t.2.1 ≤ m then .inr (t.2.1, ts) else .inl (2, t.2.2)) else .inl (1, t.2.2) : FP ⊕ (Nat × List Tk)) = .inr (x, ts1) := h
    split at h
    · split at h
      · injection h with h; injection h with h1 h2
        rw [← h1]; assumption
      · cases h
    · cases h
theorem bN_inv {m : Nat} {ts : List Tk} {g : Nat → List Tk → CR} {v : List Tk × (Nat → Nat) × List Nat} (h : bN m ts g = .inr v) : ∃ x ts1, pN m ts = .inr (x, ts1) ∧ x ≤ m ∧ g x ts1 = .inr v := by
  unfold bN at h
  cases e : pN m ts with
  | inl f => rw [e] at h; cases h
  | inr y =>
    obtain ⟨x, ts1⟩ := y
    rw [e] at h
    exact ⟨x, ts1, rfl, pN_le e, h⟩
theorem pTail_inv {cd l cd' : List Nat} {ts ts' : List Tk} {c : Nat → Nat} (h : pTail cd l ts = .inr (ts', c, cd')) : ∃ x y, x ≤ 5 ∧ y ≤ 2 ∧ c = mkC (l ++ [x, y]) ∧ cd' = cd := by
  unfold pTail at h
  obtain ⟨_, _, h⟩ := bT_inv h
  obtain ⟨x, _, _, hx, h⟩ := bN_inv h
  obtain ⟨_, _, h⟩ := bT_inv h
  obtain ⟨y, _, _, hy, h⟩ := bN_inv h
  obtain ⟨_, _, h⟩ := bT_inv h
  injection h with h
  injection h with h1 h2
  injection h2 with h2 h3
  exact ⟨x, y, hx, hy, h2.symm, h3.symm⟩
theorem pSet_inv {cd cd' : List Nat} {s : Nat} {ts ts' : List Tk} {c : Nat → Nat} (h : pSet cd s ts = .inr (ts', c, cd')) : cd' = cd ∧ ((∃ x y a b, x ≤ 5 ∧ y ≤ 2 ∧ a ≤ 5 ∧ b ≤ 2 ∧ c = mkC [1, x, y, a, b]) ∨ ∃ x a b, x ≤ 2 ∧ a ≤ 5 ∧ b ≤ 2 ∧ c = mkC [2, x, a, b]) ∧ (c 0 = 1 ∨ c 0 = 2) := by
  unfold pSet at h
  split at h
  · obtain ⟨x, _, _, hx, h⟩ := bN_inv h
    obtain ⟨_, _, h⟩ := bT_inv h
    obtain ⟨y, _, _, hy, h⟩ := bN_inv h
    obtain ⟨a, b, ha, hb, hc, hd⟩ := pTail_inv h
    exact ⟨hd, Or.inl ⟨x, y, a, b, hx, hy, ha, hb, hc⟩, Or.inl (by rw [hc]; rfl)⟩
  · obtain ⟨x, _, _, hx, h⟩ := bN_inv h
    obtain ⟨a, b, ha, hb, hc, hd⟩ := pTail_inv h
    exact ⟨hd, Or.inr ⟨x, a, b, hx, ha, hb, hc⟩, Or.inr (by rw [hc]; rfl)⟩
theorem sX3_readSet {G : hd_G} {σ s : hd_M} {P : hd_M → Prop} {q i k0 : Nat} {ts : List Tk} {K : List (Nat → Nat)} {cd : List Nat} (hq : hd_law q) (hT : tsOK ts) (hi : i < ts.length) (hN : tkN s ts i) (h1 : s.1 62 1 = nI q) (h2 : s.1 62 2 = 0) (a : ag (lqs q) σ s) (hL : lK s q K cd) (hK : K.length < 24) (hk : k0 = 7 ∨ k0 = 18) (hF : ∀ f p σ', pSet cd (if k0 = 7 then 1 else 2) (ts.drop i) = .inl (f, p) → cFl q ts σ σ' f p → P σ') (hD : ∀ k c σ', pSet cd (if k0 = 7 then 1 else 2) (ts.drop i) = .inr (ts.drop k, c, cd) → i < k → k < ts.length → ag (lqs q) σ σ' → σ'.1 62 1 = nI q → σ'.1 62 2 = 0 → tkN σ' ts k → lK σ' q (K ++ [c]) cd → σ'.1 62 3 = s.1 62 3 → P σ') : EVv G mX3_readSet SH [.ref 62, .int (nI k0)] s P := by
  have on1 : ∀ {s s' : hd_M} {j : Nat}, ag [63] s s' → s'.1 62 j = s.1 62 j := fun {s s' j} h => by rw [(h 62 (by decide)).1]
  refine wX3_readSet _ (c_ne (k0 : Int) 7 rfl rfl (fun z => ?_) (fun z => ?_))
  · rw [if_neg (by omega)] at hF hD
    refine sX3_takeNumber (m := 2) hT hi hN h2 (by decide) (fun f s1 e1 f1 => ?_) (fun x s1 e1 x1 i1 a1 n1 _ => ?_)
    · have fl := cFl_a a f1
      exact wX7_causeOfTilt _ (fun v5 _ => setTailF (fl_z fl) (hF _ _ s1 (bN_f e1) fl))
    · have A1 : ag (lqs q) σ s1 := ag_tr a (agQ_63 a1 (by simp))
      refine wX7_causeOfTilt _ (fun v5 e5 => ?_)
      rw [show (18 : Int32) + nI x = nI (18 + x) from nI_add 18 x] at e5
      rw [e5]
      exact setTail (cs := 18 + x) (l := [2, x]) hq hT i1 n1 (by rw [on1 a1]; exact h1) (by rw [on1 a1]; exact h2) A1 (lK_63 hq a1 (by simp) hL) hK (fun _ _ => rfl) (fun f p s2 e2 fl => hF f p s2 ((bN_k e1).trans e2) fl) (fun k c s2 e2 k1 k2 a2 q1 q2 q3 q4 q5 => hD k c s2 ((bN_k e1).trans e2) (by omega) k2 a2 q1 q2 q3 q4 (by rw [q5, on1 a1]))
  · rw [if_pos (by omega)] at hF hD
    refine sX3_takeNumber (m := 5) hT hi hN h2 (by decide) (fun f s1 e1 f1 v18 _ => ?_) (fun x s1 e1 x1 i1 a1 n1 _ v18 e18 => ?_)
    · have fl := cFl_a a f1
      have hz := fl_z fl
      exact sX3_takeTokenF hz (sX3_takeNumberF hz (wX7_causeOfPush _ _ (fun v24 _ => setTailF hz (hF _ _ s1 (bN_f e1) fl))))
    have A1 : ag (lqs q) σ s1 := ag_tr a (agQ_63 a1 (by simp))
    refine sX3_takeToken (k := 4) hT i1 n1 (by rw [on1 a1]; exact h2) (by decide) (fun s2 e2 f2 => ?_) (fun s2 e2 i2 a2 n2 _ _ => ?_)
    · have fl := cFl_a A1 f2
      have hz := fl_z fl
      exact sX3_takeNumberF hz (wX7_causeOfPush _ _ (fun v24 _ => setTailF hz (hF _ _ s2 ((bN_k e1).trans (bT_f e2)) fl)))
    have i2 := i2 (by decide)
    have A2 : ag (lqs q) σ s2 := ag_tr A1 (agQ_63 a2 (by simp))
    refine sX3_takeNumber (m := 2) hT i2 n2 (by rw [on1 a2, on1 a1]; exact h2) (by decide) (fun f s3 e3 f3 => ?_) (fun y s3 e3 y3 i3 a3 n3 _ => ?_)
    · have fl := cFl_a A2 f3
      exact wX7_causeOfPush _ _ (fun v24 _ => setTailF (fl_z fl) (hF _ _ s3 ((bN_k e1).trans ((bT_k e2).trans (bN_f e3))) fl))
    · have A3 : ag (lqs q) σ s3 := ag_tr A2 (agQ_63 a3 (by simp))
      refine wX7_causeOfPush _ _ (fun v24 e24 => ?_)
      rw [e18, show nI x * (3 : Int32) = nI (x * 3) from (by show zI x * zI 3 = zI ((x * 3 : Nat) : Int); rw [zI_mul, Int.natCast_mul]; rfl), nI_add] at e24
      rw [e24]
      exact setTail (cs := x * 3 + y) (l := [1, x, y]) hq hT i3 n3 (by rw [on1 a3, on1 a2, on1 a1]; exact h1) (by rw [on1 a3, on1 a2, on1 a1]; exact h2) A3 (lK_63 hq a3 (by simp) (lK_63 hq a2 (by simp) (lK_63 hq a1 (by simp) hL))) hK (fun _ _ => rfl) (fun f p s4 e4 fl => hF f p s4 ((bN_k e1).trans ((bT_k e2).trans ((bN_k e3).trans e4))) fl) (fun k c s4 e4 k1 k2 a4 q1 q2 q3 q4 q5 => hD k c s4 ((bN_k e1).trans ((bT_k e2).trans ((bN_k e3).trans e4))) (by omega) k2 a4 q1 q2 q3 q4 (by rw [q5, on1 a3, on1 a2, on1 a1]))
theorem KC_app {K : List (Nat → Nat)} {cd cd' : List Nat} {c : Nat → Nat} (h : KC K cd) (hK : K.length < 24) (h3 : cd'.length ≤ 300) (hl : cd.length ≤ cd'.length) (hc : isAs (c 0) = true → c 2 ≤ c 3 ∧ c 3 ≤ cd'.length) : KC (K ++ [c]) cd' := by
  refine ⟨h3, by rw [List.length_append, List.length_singleton]; omega, fun d hd => ?_⟩
  rcases List.mem_append.mp hd with z | z
  · intro ha
    have := h.2.2 d z ha
    omega
  · rw [List.mem_singleton.mp z]
    exact hc
theorem rule_when {p r' a b : Nat} (hp : p < 6) (hr : r' < 9) : isRule r' (mkC [0, p, a, b]) = true ↔ r' = p := by
  unfold isRule
  split
  · simp [mkC]; omega
  · simp [mkC]; omega
theorem rule_one {s r' a b : Nat} (hs : 3 ≤ s ∧ s ≤ 5) (hr : r' < 9) : isRule r' (mkC [s, 0, a, b]) = true ↔ r' = s + 3 := by
  unfold isRule
  split
  · simp [mkC]; omega
  · simp [mkC]; omega
theorem pRule_f {s r x : Nat} {cd : List Nat} {ts : List Tk} {f : FP} (h : pRun r ts (S0 cd) = .inl f) : pRule s r x cd ts = .inl f := by unfold pRule; rw [h]
theorem pRule_k {s r x : Nat} {cd cd' : List Nat} {ts ts' : List Tk} (h : pRun r ts (S0 cd) = .inr (ts', cd')) : pRule s r x cd ts = .inr (ts', mkC [s, x, cd.length, cd'.length], cd') := by unfold pRule; rw [h]
theorem pRun_pre {r : Nat} {cd cd' : List Nat} {ts ts' : List Tk} (h : pRun r ts (S0 cd) = .inr (ts', cd')) : cd.length ≤ cd'.length := by
  obtain ⟨_, _, u, e⟩ := pRun_ok (S0_ok r cd) h
  rw [e, List.length_append]
  show cd.length ≤ cd.length + u.length
  omega
theorem sX3_readClause {G : hd_G} {σ : hd_M} {P : hd_M → Prop} {q i : Nat} {ts : List Tk} {K : List (Nat → Nat)} {cd : List Nat} (hq : hd_law q) (hT : tsOK ts) (hi : i < ts.length) (h0 : (ts.getD i (0, 0, 0)).1 ≠ 0) (hN : tkN σ ts (i + 1)) (h8 : σ.1 63 8 = nI (ts.getD i (0, 0, 0)).1) (h10 : σ.1 63 10 = nI (ts.getD i (0, 0, 0)).2.2) (h1 : σ.1 62 1 = nI q) (h2 : σ.1 62 2 = 0) (hL : lK σ q K cd) (hC : KC K cd) (hl : cd.length ≤ i) (hF : ∀ f p σ', pClause K cd (ts.drop i) = .inl (f, p) → cFl q ts σ σ' f p → P σ') (hD : ∀ k c cd' σ', pClause K cd (ts.drop i) = .inr (ts.drop k, c, cd') → i < k → k < ts.length → ag (lqs q) σ σ' → σ'.1 62 1 = nI q → σ'.1 62 2 = 0 → tkN σ' ts k → lK σ' q (K ++ [c]) cd' → KC (K ++ [c]) cd' → cd'.length ≤ k → σ'.1 62 3 = σ.1 62 3 → P σ') : EVv G mX3_readClause SH [.ref 62, .int (nI K.length)] σ P := by
  have l6 := law_62 hq
  have on1 : ∀ {s s' : hd_M} {j : Nat}, ag [63] s s' → s'.1 62 j = s.1 62 j := fun {s s' j} h => by rw [(h 62 (by decide)).1]
  have hi1 := ts_on hT hi h0
  have ht := ts_mem hT hi
  have ed := ts_drop hi
  have hTl := hT.2.1
  rw [ed] at hF hD
  generalize ts.getD i (0, 0, 0) = t at *
  have e62 : (σ.1 62 1).toNatClampNeg = q := by rw [h1]; exact nI_clamp (by omega)
  have hK24 := hC.2.1
  have hk := ht.1
  have ck : ∀ (m : Nat) (A B : Prop), m < 1000 → (t.1 = m → A) → (t.1 ≠ m → B) → (nI t.1 = nI m → A) ∧ (¬ nI t.1 = nI m → B) := fun m A B hm f g => c_eq (t.1 : Int) (m : Int) rfl rfl (fun z => f (by omega)) (fun z => g (by omega))
  have ckn : ∀ (m : Nat) (A B : Prop), m < 1000 → (t.1 ≠ m → A) → (t.1 = m → B) → (¬ nI t.1 = nI m → A) ∧ (nI t.1 = nI m → B) := fun m A B hm f g => c_ne (t.1 : Int) (m : Int) rfl rfl (fun z => f (by omega)) (fun z => g (by omega))
  refine wX3_readClause _ (fun X hX v1 e1 => ?_)
  rw [h8] at e1
  subst e1
  have flt : ∀ (f : Nat), 1 ≤ f ∧ f < 7 → pClause K cd (t :: ts.drop (i + 1)) = .inl (f, t.2.2) → EVv G mX3_blame SH [.ref 62, .int (nI f)] σ (fun s13 => hd_J G mX3_readClause X SH (0, 0) 183 [] [] s13) := by
    intro f hf e
    refine sX3_blame h2 h10 (fun s2 e2 => wX3_readClause_183 hX (hF f t.2.2 s2 e (cFl_a ag_rf (aFl_b ag_rf hN (by omega) hf e2))))
  have clr : ∀ {s : Nat}, srt t.1 = some s → ¬ ((3 ≤ s ∧ s ≤ 5) ∧ K.any (isRule (s + 3)) = true) → pClause K cd (t :: ts.drop (i + 1)) = (if 24 ≤ K.length then .inl (6, t.2.2)
      else if s = 0 then bN 5 (ts.drop (i + 1)) (fun p ts1 => if K.any (isRule p) = true then .inl (4, plc (ts.drop (i + 1))) else pRule 0 p p cd ts1)
      else if 3 ≤ s ∧ s ≤ 5 then pRule s (s + 3) 0 cd (ts.drop (i + 1))
      else if s = 1 then bN 5 (ts.drop (i + 1)) (fun x ts => bT 4 ts (fun ts => bN 2 ts (fun y ts => pTail cd [1, x, y] ts)))
      else if s = 2 then bN 2 (ts.drop (i + 1)) (fun x ts => pTail cd [2, x] ts)
      else bN 14 (ts.drop (i + 1)) (fun x ts => bT 3 ts (fun ts => .inr (ts, mkC [6, x], cd)))) := by
    intro s es hn
    show (match srt t.1 with | none => _ | some s => _) = _
    rw [es]
    show (if (3 ≤ s ∧ s ≤ 5) ∧ K.any (isRule (s + 3)) = true then _ else _) = _
    rw [if_neg hn]
  -- a rule, read to its end
  have rul : ∀ (s1 : hd_M) (j r s x : Nat), r < 9 → i < j → j < ts.length → ag [63] σ s1 → tkN s1 ts j → K.length < 24 → K.any (isRule r) = false → s = 0 ∨ (3 ≤ s ∧ s ≤ 5) → (∀ a b r', r' < 9 → (isRule r' (mkC [s, x, a, b]) = true ↔ r' = r)) → pClause K cd (t :: ts.drop (i + 1)) = pRule s r x cd (ts.drop j) → EVv G mX3_readRule SH [.ref 62, .int (nI r)] s1 (fun s11 => hd_J G mX3_readClause X SH (0, 0) 183 [] [] s11) := by
    intro s1 j r s x hr ij jl a1 n1 hK hn hs hi2 ep
    have L1 := lK_63 hq a1 (by simp) hL
    refine sX3_readRule hq hr hT jl n1 (by rw [on1 a1]; exact h1) (by rw [on1 a1]; exact h2) L1.1 (by omega) (fun f p s2 e2 a2 f1 f2 g1 g2 g3 => wX3_readClause_183 hX (hF f p s2 (ep.trans (pRule_f e2)) ⟨ag_tr (agQ_63 a1 (by simp)) (agQ_R a2), f1, f2, g1, g2, g3⟩)) (fun k cd' s2 e2 k1 k2 a2 g1 n2 c2 cl q2 q3 g3 => wX3_readClause_183 hX (hD k _ cd' s2 (ep.trans (pRule_k e2)) (by omega) k2 (ag_tr (agQ_63 a1 (by simp)) (agQ_R a2)) (by rw [a2.2.2.2, on1 a1]; exact h1) g1 n2 (lK_rule hq L1 a2 c2 q2 q3 rfl rfl (hi2 _ _) hn ?_ ?_) (KC_app hC hK (by omega) (pRun_pre e2) (fun _ => ⟨pRun_pre e2, Nat.le_refl _⟩)) (by omega) (by rw [g3, on1 a1])))
    · unfold setOf
      have : mkC [s, x, cd.length, cd'.length] 0 = s := rfl
      rw [this, if_neg (by omega), if_neg (by omega)]
    · show s ≠ 6
      omega
  have J85 : ∀ (x3 x4 : Int32), (x3 = 1 ∧ (t.1 = 8 ∨ t.1 = 9 ∨ t.1 = 10) ∧ x4 = nI (t.1 - 2)) ∨ (x3 = 0 ∧ (t.1 = 6 ∨ t.1 = 7 ∨ t.1 = 18 ∨ t.1 = 11) ∧ x4 = -1) → hd_J G mX3_readClause X SH (0, 0) 85 [(0, .ref 62), (1, .int (nI K.length)), (2, .int (nI t.1)), (3, .int x3), (4, .int x4)] [] σ := by
    intro x3 x4 hx
    refine wX3_readClause_85 hX _ _ _ _ ?_
    rw [e62]
    refine ⟨by omega, law_k hq ?_⟩
    rcases hx with ⟨rfl, hw, rfl⟩ | ⟨rfl, hw, rfl⟩
    · have es : srt t.1 = some (t.1 - 5) := by
        rcases hw with z | z | z <;> rw [z] <;> rfl
      have er : t.1 - 5 + 3 = t.1 - 2 := by omega
      refine sX2_hasK (r := t.1 - 2) hq (by omega) hL hC ⟨fun y => ?_, fun y => ?_⟩
      · rw [cl_bit_z] at y
        have ep := clr es (by rw [er, y]; simp)
        refine c_lt (K.length : Int) 24 rfl rfl (fun z => b_eq' (by decide) ?_) (fun z => ?_)
        · rw [if_neg (by omega), if_neg (by omega), if_pos (by omega), er] at ep
          exact rul σ (i + 1) (t.1 - 2) (t.1 - 5) 0 (by omega) (by omega) hi1 ag_rf hN (by omega) y (by omega) (fun a b r' hr' => by rw [rule_one (by omega) hr', er]) ep
        · rw [if_pos (by omega)] at ep
          exact flt 6 (by decide) ep
      · rw [cl_bit_z] at y
        refine flt 4 (by decide) ?_
        show (match srt t.1 with | none => _ | some s => _) = _
        rw [es]
        show (if (3 ≤ t.1 - 5 ∧ t.1 - 5 ≤ 5) ∧ K.any (isRule (t.1 - 5 + 3)) = true then _ else _) = _
        rw [er, if_pos ⟨by omega, by simpa using y⟩]
    · refine sX2_has0 hq (b_eq rfl (c_lt (K.length : Int) 24 rfl rfl (fun z => b_eq rfl ?_) (fun z => ?_)))
      · refine ckn 6 _ _ (by decide) (fun n6 => ckn 11 _ _ (by decide) (fun n11 => ?_) (fun n11 => ?_)) (fun n6 => ?_)
        · have hw2 : t.1 = 7 ∨ t.1 = 18 := by omega
          have ep : pClause K cd (t :: ts.drop (i + 1)) = pSet cd (if t.1 = 7 then 1 else 2) (ts.drop (i + 1)) := by
            rcases hw2 with z7 | z7
            · rw [clr (s := 1) (by rw [z7]; rfl) (by simp), if_neg (by omega), if_neg (by decide), if_neg (by decide), if_pos rfl, if_pos z7]
              rfl
            · rw [clr (s := 2) (by rw [z7]; rfl) (by simp), if_neg (by omega), if_neg (by decide), if_neg (by decide), if_neg (by decide), if_pos rfl, if_neg (by omega)]
              rfl
          refine sX3_readSet hq hT hi1 hN h1 h2 ag_rf hL (by omega) hw2 (fun f p s2 e2 fl => wX3_readClause_183 hX (hF f p s2 (ep.trans e2) fl)) (fun k c s2 e2 k1 k2 a2 q1 q2 q3 q4 q5 => wX3_readClause_183 hX (hD k c cd s2 (ep.trans e2) (by omega) k2 a2 q1 q2 q3 q4 ?_ (by omega) q5))
          refine KC_app hC (by omega) hC.1 (Nat.le_refl _) (fun ha => ?_)
          have hc0 : c 0 = 1 ∨ c 0 = 2 := (pSet_inv e2).2.2
          unfold isAs at ha
          simp at ha
          omega
        · have ep := clr (s := 6) (by rw [n11]; rfl) (by simp)
          rw [if_neg (by omega), if_neg (by decide), if_neg (by decide), if_neg (by decide), if_neg (by decide)] at ep
          rw [e62]
          refine ⟨by omega, sX3_takeNumber (m := 14) hT hi1 hN h2 (by decide) (fun f s1 e1 f1 => law_k hq ?_) (fun x s1 e1 x1 i1 a1 n1 _ => law_k hq ?_)⟩
          · have fl := cFl_a (q := q) ag_rf f1
            refine sX2_addDoK (x := 0) hq (lK_63 hq f1.1 (by simp) hL) (by omega) (fun s2 a2 fr _ => ?_)
            have f7 := law_63 hq 7 (by decide)
            have f8 := law_63 hq 8 (by decide)
            have f0 := law_63 hq 0 (by decide)
            have e62' : ∀ k, k = 62 ∨ k = 63 ∨ k = 64 ∨ k = 65 ∨ k = 66 → s2.1 k = s1.1 k := fun k hk => fr k (by omega) (by omega) (by omega)
            obtain ⟨g1, g2, g3, g4, g5, i', g6, g7⟩ := fl
            have fl2 : cFl q ts σ s2 f (plc (ts.drop (i + 1))) := ⟨ag_tr g1 a2, g2, g3, by rw [e62' 62 (by omega)]; exact g4, by rw [e62' 62 (by omega)]; exact g5, i', g6, by rw [e62' 63 (by omega)]; exact g7.1, tkC_cg g7.2 (by rw [e62' 63 (by omega)]) (e62' 64 (by omega)) (e62' 65 (by omega)) (e62' 66 (by omega))⟩
            exact sX3_takeTokenF (fl_z fl2) (wX3_readClause_183 hX (hF _ _ s2 (ep.trans (bN_f e1)) fl2))
          · refine sX2_addDoK (x := x) hq (lK_63 hq a1 (by simp) hL) (by omega) (fun s2 a2 fr L2 => ?_)
            have f7 := law_63 hq 7 (by decide)
            have f8 := law_63 hq 8 (by decide)
            have f0 := law_63 hq 0 (by decide)
            have e62' : ∀ k, k = 62 ∨ k = 63 ∨ k = 64 ∨ k = 65 ∨ k = 66 → s2.1 k = s1.1 k := fun k hk => fr k (by omega) (by omega) (by omega)
            have n2 : tkN s2 ts (i + 1 + 1) := ⟨by rw [e62' 63 (by omega)]; exact n1.1, tkC_cg n1.2 (by rw [e62' 63 (by omega)]) (e62' 64 (by omega)) (e62' 65 (by omega)) (e62' 66 (by omega))⟩
            have A2 : ag (lqs q) σ s2 := ag_tr (agQ_63 a1 (by simp)) a2
            refine sX3_takeToken (k := 3) hT i1 n2 (by rw [e62' 62 (by omega), on1 a1]; exact h2) (by decide) (fun s3 e3 f3 => ?_) (fun s3 e3 i3 a3 n3 _ _ => ?_)
            · have fl := cFl_a A2 f3
              exact wX3_readClause_183 hX (hF _ _ s3 (ep.trans ((bN_k e1).trans (bT_f e3))) fl)
            · refine wX3_readClause_183 hX (hD (i + 1 + 1 + 1) _ cd s3 (ep.trans ((bN_k e1).trans (bT_k e3))) (by omega) (i3 (by decide)) (ag_tr A2 (agQ_63 a3 (by simp))) (by rw [on1 a3, e62' 62 (by omega), on1 a1]; exact h1) (by rw [on1 a3, e62' 62 (by omega), on1 a1]; exact h2) n3 (lK_63 hq a3 (by simp) L2) (KC_app hC (by omega) hC.1 (Nat.le_refl _) (fun ha => absurd ha (show ¬ (isAs 6 = true) by decide))) (by omega) (by rw [on1 a3, e62' 62 (by omega), on1 a1]))
        · have ep := clr (s := 0) (by rw [n6]; rfl) (by simp)
          rw [if_neg (by omega), if_pos rfl] at ep
          refine wX3_takeWhenPart (sX3_takeNumber (m := 5) hT hi1 hN h2 (by decide) (fun f s1 e1 f1 v3 _ => ?_) (fun x s1 e1 x1 i1 a1 n1 g10 v3 ev3 => ?_))
          · have fl := cFl_a (q := q) ag_rf f1
            have hz := fl_z fl
            exact b_ne hz (sX3_readRuleF hz (wX3_readClause_183 hX (hF _ _ s1 (ep.trans (bN_f e1)) fl)))
          · have z1 : s1.1 62 1 = nI q := by rw [on1 a1]; exact h1
            have z2 : s1.1 62 2 = 0 := by rw [on1 a1]; exact h2
            rw [z1, nI_clamp (by omega), ev3]
            have ep := ep.trans (bN_k e1)
            refine b_ne' z2 ⟨by omega, law_k hq (sX2_hasK (r := x) hq (by omega) (lK_63 hq a1 (by simp) hL) hC ⟨fun y => ?_, fun y => ?_⟩)⟩
            · rw [cl_bit_z] at y
              rw [if_neg (by rw [y]; decide)] at ep
              exact rul s1 (i + 1 + 1) x 0 x (by omega) (by omega) i1 a1 n1 (by omega) y (Or.inl rfl) (fun a b r' hr' => rule_when (by omega) hr') ep
            · rw [cl_bit_z] at y
              rw [if_pos (by simpa using y)] at ep
              refine sX3_blame (f := 4) z2 g10 (fun s2 e2 => ?_)
              have fl := cFl_a (q := q) ag_rf (aFl_b a1 n1 (by omega) (by decide) e2)
              exact sX3_readRuleF (fl_z fl) (wX3_readClause_183 hX (hF _ _ s2 ep fl))
      · refine flt 6 (by decide) ?_
        rcases hw with q1 | q1 | q1 | q1
        · rw [clr (s := 0) (by rw [q1]; rfl) (by simp), if_pos (by omega)]
        · rw [clr (s := 1) (by rw [q1]; rfl) (by simp), if_pos (by omega)]
        · rw [clr (s := 2) (by rw [q1]; rfl) (by simp), if_pos (by omega)]
        · rw [clr (s := 6) (by rw [q1]; rfl) (by simp), if_pos (by omega)]
  have J26 : t.1 = 8 ∨ t.1 = 9 ∨ t.1 = 10 → hd_J G mX3_readClause X SH (0, 0) 26 [(0, .ref 62), (1, .int (nI K.length)), (2, .int (nI t.1))] [] σ := by
    intro hw
    refine wX3_readClause_26 hX _ _ (fun v1 e1 => b_eq' (by rw [e1]; decide) (fun v4 e4 => b_ne (by rw [e1]; decide) (J85 v1 v4 (Or.inl ⟨e1, hw, ?_⟩))))
    rw [e4, show (6 : Int32) + nI t.1 = nI (6 + t.1) from nI_add 6 t.1, show nI (6 + t.1) - 8 = nI (6 + t.1 - 8) from pk_sub (b := 8) (by omega)]
    congr 1
    omega
  refine ck 8 _ _ (by decide) (fun z => J26 (Or.inl z)) (fun n8 => ck 9 _ _ (by decide) (fun z => J26 (Or.inr (Or.inl z))) (fun n9 => ckn 10 _ _ (by decide) (fun n10 v2 e2 => b_eq e2 (fun v3 e3 => b_ne' e2 ?_)) (fun z => J26 (Or.inr (Or.inr z)))))
  refine ck 6 _ _ (by decide) (fun z => J85 v2 v3 (Or.inr ⟨e2, by omega, e3⟩)) (fun n6 => ck 7 _ _ (by decide) (fun z => J85 v2 v3 (Or.inr ⟨e2, by omega, e3⟩)) (fun n7 => ck 18 _ _ (by decide) (fun z => J85 v2 v3 (Or.inr ⟨e2, by omega, e3⟩)) (fun n18 => ck 11 _ _ (by decide) (fun z => J85 v2 v3 (Or.inr ⟨e2, by omega, e3⟩)) (fun n11 => flt 1 (by decide) ?_))))
  have : srt t.1 = none := by
    unfold srt
    rw [if_neg n6, if_neg n7, if_neg n18, if_neg n8, if_neg n9, if_neg n10, if_neg n11]
  show (match srt t.1 with | none => _ | some s => _) = _
  rw [this]
