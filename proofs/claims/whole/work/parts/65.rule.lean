theorem law_2 {q : Nat} (hq : hd_law q) {f : Nat → Prop} (h : f 9) : hd_k SH (q + 2) 0 f := by
  rcases hq with rfl | rfl | rfl | rfl | rfl | rfl <;> exact h
theorem law_3 {q : Nat} (hq : hd_law q) {f : Nat → Prop} (h : f 9) : hd_k SH (q + 3) 0 f := by
  rcases hq with rfl | rfl | rfl | rfl | rfl | rfl <;> exact h
theorem law_63 {q : Nat} (hq : hd_law q) : ∀ j, j ≤ 8 → q + j ≠ 62 ∧ q + j ≠ 63 ∧ q + j ≠ 64 ∧ q + j ≠ 65 ∧ q + j ≠ 66 ∧ q + j ≠ 77 := by
  intro j hj
  rcases hq with rfl | rfl | rfl | rfl | rfl | rfl <;> omega
/-- the tape's tokens -/
def tsOK (ts : List Tk) : Prop := 0 < ts.length ∧ ts.length ≤ 301 ∧ (∀ t ∈ ts, tkOK t) ∧ (ts.getD (ts.length - 1) (0, 0, 0)).1 = 0
theorem ts_drop {ts : List Tk} {i : Nat} (h : i < ts.length) : ts.drop i = ts.getD i (0, 0, 0) :: ts.drop (i + 1) := by
  rw [List.drop_eq_getElem_cons h, List.getD_eq_getElem?_getD, List.getElem?_eq_getElem h]
  rfl
theorem ts_mem {ts : List Tk} (hT : tsOK ts) {i : Nat} (h : i < ts.length) : tkOK (ts.getD i (0, 0, 0)) := by
  rw [List.getD_eq_getElem?_getD, List.getElem?_eq_getElem h]
  exact hT.2.2.1 _ (List.getElem_mem h)
theorem ts_on {ts : List Tk} (hT : tsOK ts) {i : Nat} (h : i < ts.length) (hk : (ts.getD i (0, 0, 0)).1 ≠ 0) : i + 1 < ts.length := by
  rcases Nat.lt_or_ge (i + 1) ts.length with z | z
  · exact z
  · have : i = ts.length - 1 := by omega
    rw [this] at hk
    exact absurd hT.2.2.2 hk
def agU (q : Nat) (σ σ' : hd_M) : Prop := (∀ k, k ≠ 62 → k ≠ 63 → k ≠ 77 → k ≠ q → k ≠ q + 1 → σ'.1 k = σ.1 k ∧ σ'.2 k = σ.2 k) ∧ (∀ j, j ≠ 1 → σ'.1 q j = σ.1 q j) ∧ σ'.1 62 1 = σ.1 62 1
theorem agU_rf {q : Nat} {σ : hd_M} : agU q σ σ := ⟨fun _ _ _ _ _ _ => ⟨rfl, rfl⟩, fun _ _ => rfl, rfl⟩
theorem agU_tr {q : Nat} {σ σ' σ'' : hd_M} (h : agU q σ σ') (h' : agU q σ' σ'') : agU q σ σ'' := ⟨fun k a b c d e => ⟨(h'.1 k a b c d e).1.trans (h.1 k a b c d e).1, (h'.1 k a b c d e).2.trans (h.1 k a b c d e).2⟩, fun j hj => (h'.2.1 j hj).trans (h.2.1 j hj), h'.2.2.trans h.2.2⟩
theorem agU_V {q : Nat} {σ σ' : hd_M} (h : agV q σ σ') : agU q σ σ' := ⟨fun k a _ c d e => h.1 k a c d e, h.2.1, h.2.2⟩
theorem agU_63 {q : Nat} (hq : hd_law q) {σ σ' : hd_M} (h : ag [63] σ σ') : agU q σ σ' := ⟨fun k _ b _ _ _ => h k (by simpa using b), fun j _ => by rw [(h q (by have := law_63 hq 0 (by decide); simp; omega)).1], by rw [(h 62 (by decide)).1]⟩
theorem tkN_V {q : Nat} (hq : hd_law q) {σ σ' : hd_M} {ts : List Tk} {i : Nat} (hN : tkN σ ts i) (h : agV q σ σ') : tkN σ' ts i := by
  have f0 := law_63 hq 0 (by decide)
  have f1 := law_63 hq 1 (by decide)
  have e : ∀ k, k = 63 ∨ k = 64 ∨ k = 65 ∨ k = 66 → σ'.1 k = σ.1 k := fun k hk => (h.1 k (by omega) (by omega) (by omega) (by omega)).1
  exact ⟨by rw [e 63 (by omega)]; exact hN.1, tkC_cg hN.2 (by rw [e 63 (by omega)]) (e 64 (by omega)) (e 65 (by omega)) (e 66 (by omega))⟩
theorem cW_ag {q : Nat} (hq : hd_law q) {σ σ' : hd_M} {w cd : List Nat} (h : ag [63] σ σ') (hc : cW σ q w cd) : cW σ' q w cd := by
  have e : ∀ k, k ≠ 63 → σ'.1 k = σ.1 k := fun k hk => (h k (by simpa using hk)).1
  have f0 := law_63 hq 0 (by decide)
  have f1 := law_63 hq 1 (by decide)
  unfold cW
  rw [e 62 (by decide), e 77 (by decide), e q f0.2.1, e (q + 1) f1.2.1]
  exact hc
theorem cM_ag {q : Nat} (hq : hd_law q) {σ σ' : hd_M} {r m : Nat} {S : PS} (h : ag [63] σ σ') (hc : cM σ q r m S) : cM σ' q r m S := by
  obtain ⟨lag, cdc, c1, c2, c3, c4, c5, c6, c7, c8, c9⟩ := hc
  have e : σ'.1 62 = σ.1 62 := (h 62 (by decide)).1
  exact ⟨lag, cdc, cW_ag hq h c1, c2, c3, c4, by rw [e]; exact c5, by rw [e]; exact c6, by rw [e]; exact c7, by rw [e]; exact c8, by rw [e]; exact c9⟩
/-- the code that stands in a law -/
def lC (σ : hd_M) (q : Nat) (cd : List Nat) : Prop := σ.1 q 1 = nI cd.length ∧ (∀ j, j < cd.length → σ.1 (q + 1) j = nI (cd.getD j 0))
def S0 (cd : List Nat) : PS := (([], none, 0, false, false), true, cd)
theorem S0_ok (r : Nat) (cd : List Nat) : sOK r (S0 cd) := ⟨trivial, fun z => absurd z (by simp [S0]), fun c z => absurd z (by simp [S0]), fun _ => rfl, by show nst [] ≤ 8; decide⟩
theorem f_nz {f : Nat} (h : 1 ≤ f) (h2 : f < 100) : ¬ nI f = 0 := fun z => by
  have := (nI_eq (b := 0) (by omega) (by decide)).mp z
  omega
theorem pStep_f {r : Nat} {t : Tk} {S : PS} {f : Nat} (h : pStep r t S = .inl f) : 1 ≤ f ∧ f < 7 := by
  unfold pStep at h
  repeat' (first | (injection h with h; omega) | (cases h; done) | split at h)
theorem loopR {G : hd_G} {P : hd_M → Prop} {q r : Nat} {ts : List Tk} {X : hd_X} (hX : hd_CX G mX3_readRule X (hd_Zv P) SH (0, 0)) (hq : hd_law q) (hr : r < 9) (hT : tsOK ts) : ∀ (n i v : Nat) (S : PS) (s : hd_M), ts.length - i ≤ n → i < ts.length → v < i → tkN s ts i → s.1 62 1 = nI q → cM s q r (i - 1) S → sOK r S → (∀ f p σ', pRun r (ts.drop i) S = .inl (f, p) → agU q s σ' → 1 ≤ f → f < 7 → σ'.1 62 2 = nI f → σ'.1 62 3 = nI p → (∃ i', i' ≤ ts.length ∧ tkN σ' ts i') → P (hd_wI σ' (q + 3) r (σ'.1 q 1))) → (∀ k cd σ', pRun r (ts.drop i) S = .inr (ts.drop k, cd) → i < k → k < ts.length → agU q s σ' → σ'.1 62 2 = 0 → tkN σ' ts k → lC σ' q cd → cd.length < k → σ'.1 62 3 = s.1 62 3 → P (hd_wI σ' (q + 3) r (σ'.1 q 1))) → hd_J G mX3_readRule X SH (0, 0) 81 [(0, .ref 62), (1, .int (nI r)), (2, .int (nI v))] [] s := by
  have l6 := law_62 hq
  have ex : ∀ (v : Nat) (s : hd_M), v ≤ 300 → (¬ s.1 62 2 = 0 ∨ (s.1 62 2 = 0 ∧ ¬ s.1 62 11 = 0)) → s.1 62 1 = nI q → P (hd_wI s (q + 3) r (s.1 q 1)) → hd_J G mX3_readRule X SH (0, 0) 81 [(0, .ref 62), (1, .int (nI r)), (2, .int (nI v))] [] s := by
    intro v s hv hc h1 hp
    have e62 : (s.1 62 1).toNatClampNeg = q := by rw [h1]; exact nI_clamp (by omega)
    refine wX3_readRule_81 hX _ _ (b_lt' (nI_le (b := 300) hv (by decide)) ⟨fun z => ?_, fun z => ⟨fun z2 => ?_, fun z2 => ?_⟩⟩)
    · rw [e62]
      refine ⟨by omega, law_kr hq ⟨show ¬ q + 3 = 0 by omega, by omega, law_kr hq (law_3 hq ⟨hd_vn hr (by decide), fun s3 e3 => ?_⟩)⟩⟩
      rw [e3, nI_clamp (by omega)]
      exact hp
    · rw [e62]
      refine ⟨by omega, law_kr hq ⟨show ¬ q + 3 = 0 by omega, by omega, law_kr hq (law_3 hq ⟨hd_vn hr (by decide), fun s3 e3 => ?_⟩)⟩⟩
      rw [e3, nI_clamp (by omega)]
      exact hp
    · rcases hc with q1 | q1
      · exact absurd z q1
      · exact absurd z2 q1.2
  intro n
  induction n with
  | zero =>
    intro i v S s h1 h2
    omega
  | succ n ih =>
    intro i v S s hn hi hv hN h1 hM hS hF hD
    have hl := hT.2.1
    have c5 : s.1 62 2 = 0 := by obtain ⟨_, _, _, _, _, _, c5, _⟩ := hM; exact c5
    have c11 : s.1 62 11 = 0 := by obtain ⟨_, _, _, _, _, _, _, _, _, _, c⟩ := hM; exact c
    have c8 : s.1 62 8 = zI (cl_bit S.2.1) := by obtain ⟨_, _, _, _, _, _, _, c, _⟩ := hM; exact c
    refine wX3_readRule_81 hX _ _ (b_lt' (nI_le (b := 300) (by omega) (by decide)) (b_ne' c5 (b_ne' c11 (sX6_advance hN hi hl (fun s1 a1 n1 g8 g9 g10 => ?_)))))
    have ht := ts_mem hT hi
    have hM1 := cM_ag hq a1 hM
    have ed := ts_drop hi
    generalize het : ts.getD i (0, 0, 0) = t at *
    have e8 : s1.1 62 8 = zI (cl_bit S.2.1) := by rw [(a1 62 (by decide)).1]; exact c8
    have u1 : agU q s s1 := agU_63 hq a1
    have m1 : s1.1 62 1 = nI q := by rw [u1.2.2]; exact h1
    have tF : ∀ f σ', pStep r t S = .inl f → agV q s1 σ' → σ'.1 62 2 = nI f → σ'.1 62 3 = nI t.2.2 → ∀ v12 : Int32, v12 = nI v + 1 → hd_J G mX3_readRule X SH (0, 0) 81 [(0, .ref 62), (1, .int (nI r)), (2, .int v12)] [] σ' := by
      intro f σ' e a b c v12 e12
      have hf := pStep_f e
      rw [e12, nI_1]
      refine ex (v + 1) σ' (by omega) (Or.inl (by rw [b]; exact f_nz hf.1 (by omega))) (by rw [a.2.2]; exact m1) (hF f t.2.2 σ' ?_ (agU_tr u1 (agU_V a)) hf.1 hf.2 b c ⟨i + 1, by omega, tkN_V hq n1 a⟩)
      rw [ed]
      unfold pRun
      rw [e]
    have tN : ∀ S' σ', pStep r t S = .inr (.inl S') → agV q s1 σ' → cM σ' q r (i - 1 + 1) S' → σ'.1 62 3 = s1.1 62 3 → ∀ v12 : Int32, v12 = nI v + 1 → hd_J G mX3_readRule X SH (0, 0) 81 [(0, .ref 62), (1, .int (nI r)), (2, .int v12)] [] σ' := by
      intro S' σ' e a b b3 v12 e12
      have hk : t.1 ≠ 0 := fun z => by rw [pStep_0 z] at e; cases e
      have hi1 : i + 1 < ts.length := ts_on hT hi (by rw [het]; exact hk)
      rw [e12, nI_1]
      have er : pRun r (ts.drop i) S = pRun r (ts.drop (i + 1)) S' := by
        rw [ed]
        show (match pStep r t S with | .inl f => _ | .inr (.inl S') => _ | .inr (.inr cd) => _) = _
        rw [e]
      have u2 := agU_tr u1 (agU_V a)
      refine ih (i + 1) (v + 1) S' σ' (by omega) hi1 (by omega) (tkN_V hq n1 a) (by rw [a.2.2]; exact m1) (by rw [show i + 1 - 1 = i - 1 + 1 by omega]; exact b) (pStep_ok hS e).1 (fun f p s2 e2 a2 => hF f p s2 (by rw [er]; exact e2) (agU_tr u2 a2)) (fun k cd s2 e2 h2 h3 a2 q1 q2 q3 q4 q5 => hD k cd s2 (by rw [er]; exact e2) (by omega) h3 (agU_tr u2 a2) q1 q2 q3 q4 (by rw [q5, b3, (a1 62 (by decide)).1]))
    refine ⟨fun z => ?_, fun z => ?_⟩
    · rw [e8, cl_bit_z] at z
      refine sX3_takeOperator hq hr hM1 hS z (by omega) ht g8 g10 tF tN (fun cd σ' e a b c d d3 v12 e12 => ?_)
      have hk : t.1 ≠ 0 := fun z => by rw [pStep_0 z] at e; cases e
      have hi1 : i + 1 < ts.length := ts_on hT hi (by rw [het]; exact hk)
      rw [e12, nI_1]
      have er : pRun r (ts.drop i) S = .inr (ts.drop (i + 1), cd) := by
        rw [ed]
        show (match pStep r t S with | .inl f => _ | .inr (.inl S') => _ | .inr (.inr cd) => _) = _
        rw [e]
      refine ex (v + 1) σ' (by omega) (Or.inr ⟨c, by rw [d]; decide⟩) (by rw [a.2.2]; exact m1) (hD (i + 1) cd σ' er (by omega) hi1 (agU_tr u1 (agU_V a)) c (tkN_V hq n1 a) ⟨b.2.2.2.2.2.1, b.2.2.2.2.2.2.1⟩ ?_ (by rw [d3, (a1 62 (by decide)).1]))
      obtain ⟨lag, cdc, k1, k2, k3⟩ := cM_cW hM1
      obtain ⟨_, _, q3, _⟩ := pStep_dn e
      rw [q3, List.length_append, em_len]
      omega
    · rw [e8, cl_bit_z] at z
      exact sX3_takeOne hq hr hM1 (by simpa using z) (by omega) ht g8 g9 g10 tF tN
/-- the frame of a whole rule -/
def agR3 (q r : Nat) (σ σ' : hd_M) : Prop := (∀ k, k ≠ 62 → k ≠ 63 → k ≠ 77 → k ≠ q → k ≠ q + 1 → k ≠ q + 2 → k ≠ q + 3 → σ'.1 k = σ.1 k ∧ σ'.2 k = σ.2 k) ∧ (∀ j, j ≠ 1 → σ'.1 q j = σ.1 q j) ∧ (∀ j, j ≠ r → σ'.1 (q + 2) j = σ.1 (q + 2) j ∧ σ'.1 (q + 3) j = σ.1 (q + 3) j) ∧ σ'.1 62 1 = σ.1 62 1
theorem sX3_readRule {G : hd_G} {σ : hd_M} {P : hd_M → Prop} {q r i : Nat} {ts : List Tk} {cd : List Nat} (hq : hd_law q) (hr : r < 9) (hT : tsOK ts) (hi : i < ts.length) (hN : tkN σ ts i) (h1 : σ.1 62 1 = nI q) (h2 : σ.1 62 2 = 0) (hC : lC σ q cd) (hl : cd.length < i) (hF : ∀ f p σ', pRun r (ts.drop i) (S0 cd) = .inl (f, p) → agR3 q r σ σ' → 1 ≤ f → f < 7 → σ'.1 62 2 = nI f → σ'.1 62 3 = nI p → (∃ i', i' ≤ ts.length ∧ tkN σ' ts i') → P σ') (hD : ∀ k cd' σ', pRun r (ts.drop i) (S0 cd) = .inr (ts.drop k, cd') → i < k → k < ts.length → agR3 q r σ σ' → σ'.1 62 2 = 0 → tkN σ' ts k → lC σ' q cd' → cd'.length < k → σ'.1 (q + 2) r = nI cd.length → σ'.1 (q + 3) r = nI cd'.length → σ'.1 62 3 = σ.1 62 3 → P σ') : EVv G mX3_readRule SH [.ref 62, .int (nI r)] σ P := by
  have l6 := law_62 hq
  have f0 := law_63 hq 0 (by decide)
  have f1 := law_63 hq 1 (by decide)
  have f2 := law_63 hq 2 (by decide)
  have f3 := law_63 hq 3 (by decide)
  have e62 : (σ.1 62 1).toNatClampNeg = q := by rw [h1]; exact nI_clamp (by omega)
  have hTl := hT.2.1
  refine wX3_readRule _ (fun X hX => b_ne' h2 (b_lt' (nI_le (a := 0) (Nat.zero_le _) (by omega)) (b_lt (nI_lt (b := 9) hr (by decide)) ?_)))
  rw [e62]
  refine ⟨by omega, law_kr hq ⟨show ¬ q + 2 = 0 by omega, by omega, law_kr hq (law_2 hq ⟨hd_vn hr (by decide), fun s3 e3 s4 e4 s5 e5 s6 e6 => ⟨Or.inr rfl, fun s7 e7 => ?_⟩⟩)⟩⟩
  rw [nI_clamp (by omega), hC.1] at e3
  have e3 : s3 = hd_wI σ (q + 2) r (nI cd.length) := e3
  have fr : ∀ s : hd_M, (∀ k, k ≠ 62 → s.1 k = s3.1 k ∧ s.2 k = s3.2 k) → (∀ j, j < 5 → s.1 62 j = s3.1 62 j) → s.1 62 5 = 0 → s.1 62 6 = 0 → s.1 62 7 = 0 → s.1 62 8 = 1 → s.1 62 9 = zI (cl_bit (decide (r ≠ 6))) → s.1 62 10 = 0 → s.1 62 11 = 0 → ∀ v : Int32, v = 0 → hd_J G mX3_readRule X SH (0, 0) 81 [(0, .ref 62), (1, .int (nI r)), (2, .int v)] [] s := by
    intro s b1 b2 b5 b6 b7 b8 b9 b10 b11 v ev
    rw [ev]
    have r3 : ∀ k, k ≠ q + 2 → s3.1 k = σ.1 k := fun k hk => by rw [e3, wI_ne hk]
    have rs : ∀ k, k ≠ 62 → k ≠ q + 2 → s.1 k = σ.1 k := fun k a b => (b1 k a).1.trans (r3 k b)
    have j1 : s.1 62 1 = nI q := by rw [b2 1 (by decide), r3 62 (by omega)]; exact h1
    have nN : tkN s ts i := ⟨by rw [rs 63 (by decide) (by omega)]; exact hN.1, tkC_cg hN.2 (by rw [rs 63 (by decide) (by omega)]) (rs 64 (by decide) (by omega)) (rs 65 (by decide) (by omega)) (rs 66 (by decide) (by omega))⟩
    have fin : ∀ σ', agU q s σ' → agR3 q r σ (hd_wI σ' (q + 3) r (σ'.1 q 1)) := by
      intro σ' a
      refine ⟨fun k k1 k2 k3 k4 k5 k6 k7 => ⟨?_, ?_⟩, fun j hj => ?_, fun j hj => ⟨?_, ?_⟩, ?_⟩
      · rw [wI_ne k7, (a.1 k k1 k2 k3 k4 k5).1]; exact rs k k1 k6
      · show σ'.2 k = _
        rw [(a.1 k k1 k2 k3 k4 k5).2, (b1 k k1).2, e3]
        rfl
      · rw [wI_ne (by omega), a.2.1 j hj, rs q (by omega) (by omega)]
      · rw [wI_ne (by omega), (a.1 (q + 2) f2.1 f2.2.1 f2.2.2.2.2.2 (by omega) (by omega)).1, (b1 (q + 2) f2.1).1, e3, wI_eq, if_neg hj]
      · rw [wI_eq, if_neg hj, (a.1 (q + 3) f3.1 f3.2.1 f3.2.2.2.2.2 (by omega) (by omega)).1, rs (q + 3) f3.1 (by omega)]
      · rw [wI_ne (by omega), a.2.2, j1, h1]
    have wk : ∀ (σ' : hd_M) (j : Nat), (hd_wI σ' (q + 3) r (σ'.1 q 1)).1 62 j = σ'.1 62 j := fun σ' j => by rw [wI_ne (by omega)]
    have wt : ∀ (σ' : hd_M) (k : Nat), tkN σ' ts k → tkN (hd_wI σ' (q + 3) r (σ'.1 q 1)) ts k := fun σ' k h => ⟨by rw [wI_ne (by omega)]; exact h.1, tkC_cg h.2 (by rw [wI_ne (by omega)]) (wI_ne (by omega)) (wI_ne (by omega)) (wI_ne (by omega))⟩
    refine loopR hX hq hr hT (ts.length - i) i 0 (S0 cd) s (Nat.le_refl _) hi (by omega) nN j1 ?_ (S0_ok r cd) (fun f p σ' e a g1 g2 g3 g4 g5 => ?_) (fun k cd' σ' e k1 k2 a g1 g2 g3 g4 g5 => ?_)
    · refine ⟨0, cd, ⟨j1, b5, fun j hj => absurd hj (by simp [wO, wR, S0]), b6, b7, ?_, fun j hj => ?_, fun k hk => absurd hk (by simp [wO, wR, S0]), ?_⟩, by simp [S0], fun _ => rfl, ?_, ?_, b8, ?_, b10, b11⟩
      · rw [rs q (by omega) (by omega)]; exact hC.1
      · rw [rs (q + 1) f1.1 (by omega)]; exact hC.2 j hj
      · simp [wO, wR, S0]; omega
      · simp [wO, wR, S0]; omega
      · rw [b2 2 (by decide), r3 62 (by omega)]; exact h2
      · rw [b9]; simp [S0]
    · obtain ⟨i', g5, g6⟩ := g5
      exact hF f p _ e (fin σ' a) g1 g2 (by rw [wk]; exact g3) (by rw [wk]; exact g4) ⟨i', g5, wt σ' i' g6⟩
    · refine hD k cd' _ e k1 k2 (fin σ' a) (by rw [wk]; exact g1) (wt σ' k g2) ⟨?_, fun j hj => ?_⟩ g4 ?_ ?_ (by rw [wk, g5, b2 3 (by decide), r3 62 (by omega)])
      · rw [wI_ne (by omega)]; exact g3.1
      · rw [wI_ne (by omega)]; exact g3.2 j hj
      · rw [wI_ne (by omega), (a.1 (q + 2) f2.1 f2.2.1 f2.2.2.2.2.2 (by omega) (by omega)).1, (b1 (q + 2) f2.1).1, e3, wI_eq, if_pos rfl]
      · rw [wI_eq, if_pos rfl]; exact g3.1
  refine c_eq (r : Int) 6 rfl rfl (fun z => ⟨Or.inl rfl, fun s8 e8 => ⟨Or.inl rfl, fun s9 e9 => ⟨Or.inl rfl, fun s10 e10 v ev => ?_⟩⟩⟩) (fun z => ⟨Or.inr rfl, fun s8 e8 => ⟨Or.inl rfl, fun s9 e9 => ⟨Or.inl rfl, fun s10 e10 v ev => ?_⟩⟩⟩)
  · refine fr s10 (fun k hk => ⟨by rw [e10, wI_ne hk, e9, wI_ne hk, e8, wI_ne hk, e7, wI_ne hk, e6, wI_ne hk, e5, wI_ne hk, e4, wI_ne hk], by rw [e10, e9, e8, e7, e6, e5, e4]; rfl⟩) (fun j hj => ?_) ?_ ?_ ?_ ?_ ?_ ?_ ?_ v ev
    · rw [e10, wI_eq, if_neg (by omega), e9, wI_eq, if_neg (by omega), e8, wI_eq, if_neg (by omega), e7, wI_eq, if_neg (by omega), e6, wI_eq, if_neg (by omega), e5, wI_eq, if_neg (by omega), e4, wI_eq, if_neg (by omega)]
    · rw [e10, wI_eq, if_neg (by decide), e9, wI_eq, if_neg (by decide), e8, wI_eq, if_neg (by decide), e7, wI_eq, if_neg (by decide), e6, wI_eq, if_neg (by decide), e5, wI_eq, if_neg (by decide), e4, wI_eq, if_pos rfl]
    · rw [e10, wI_eq, if_neg (by decide), e9, wI_eq, if_neg (by decide), e8, wI_eq, if_neg (by decide), e7, wI_eq, if_neg (by decide), e6, wI_eq, if_neg (by decide), e5, wI_eq, if_pos rfl]
    · rw [e10, wI_eq, if_neg (by decide), e9, wI_eq, if_neg (by decide), e8, wI_eq, if_neg (by decide), e7, wI_eq, if_neg (by decide), e6, wI_eq, if_pos rfl]
    · rw [e10, wI_eq, if_neg (by decide), e9, wI_eq, if_neg (by decide), e8, wI_eq, if_neg (by decide), e7, wI_eq, if_pos rfl]
    · rw [e10, wI_eq, if_neg (by decide), e9, wI_eq, if_neg (by decide), e8, wI_eq, if_pos rfl, decide_eq_false (show ¬ r ≠ 6 by omega)]; rfl
    · rw [e10, wI_eq, if_neg (by decide), e9, wI_eq, if_pos rfl]
    · rw [e10, wI_eq, if_pos rfl]
  · refine fr s10 (fun k hk => ⟨by rw [e10, wI_ne hk, e9, wI_ne hk, e8, wI_ne hk, e7, wI_ne hk, e6, wI_ne hk, e5, wI_ne hk, e4, wI_ne hk], by rw [e10, e9, e8, e7, e6, e5, e4]; rfl⟩) (fun j hj => ?_) ?_ ?_ ?_ ?_ ?_ ?_ ?_ v ev
    · rw [e10, wI_eq, if_neg (by omega), e9, wI_eq, if_neg (by omega), e8, wI_eq, if_neg (by omega), e7, wI_eq, if_neg (by omega), e6, wI_eq, if_neg (by omega), e5, wI_eq, if_neg (by omega), e4, wI_eq, if_neg (by omega)]
    · rw [e10, wI_eq, if_neg (by decide), e9, wI_eq, if_neg (by decide), e8, wI_eq, if_neg (by decide), e7, wI_eq, if_neg (by decide), e6, wI_eq, if_neg (by decide), e5, wI_eq, if_neg (by decide), e4, wI_eq, if_pos rfl]
    · rw [e10, wI_eq, if_neg (by decide), e9, wI_eq, if_neg (by decide), e8, wI_eq, if_neg (by decide), e7, wI_eq, if_neg (by decide), e6, wI_eq, if_neg (by decide), e5, wI_eq, if_pos rfl]
    · rw [e10, wI_eq, if_neg (by decide), e9, wI_eq, if_neg (by decide), e8, wI_eq, if_neg (by decide), e7, wI_eq, if_neg (by decide), e6, wI_eq, if_pos rfl]
    · rw [e10, wI_eq, if_neg (by decide), e9, wI_eq, if_neg (by decide), e8, wI_eq, if_neg (by decide), e7, wI_eq, if_pos rfl]
    · rw [e10, wI_eq, if_neg (by decide), e9, wI_eq, if_neg (by decide), e8, wI_eq, if_pos rfl, decide_eq_true (show r ≠ 6 by omega)]; rfl
    · rw [e10, wI_eq, if_neg (by decide), e9, wI_eq, if_pos rfl]
    · rw [e10, wI_eq, if_pos rfl]
