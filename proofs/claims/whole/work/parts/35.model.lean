/-! the same in standings -/
theorem en_cg {f g : Nat → Nat} (h : ∀ k, k < 7 → f k = g k) (a b c : Int) : en f a b c = en g a b c := by
  funext k
  unfold en
  split
  · rw [h k (by assumption)]
  · rfl
theorem mvd_cg {f g g' : Nat → Nat} {n : Nat} (h : ∀ k, k < n → g k = g' k) : mvd f g n = mvd f g' n := by
  induction n with
  | zero => rfl
  | succ n ih =>
    unfold mvd
    rw [ih (fun k hk => h k (by omega)), h n (by omega)]
theorem hrM_cg {L : LW} {f g g' : Nat → Nat} {act : Nat} (h : ∀ k, k < 7 → g k = g' k) : hrM L f g act = hrM L f g' act := by
  unfold hrM
  rw [en_cg h, mvd_cg (fun k hk => h k (by omega))]
theorem mvM_o7 {L : LW} {sz f : Nat → Nat} {act : Nat} (hL : LWok L) (hs : ∀ p, p < 6 → sz p ≤ 3) (hf : o7 f) (ha : act < 15) (hc : canM L sz f act = true) : o7 (mvM L sz f act) := by
  by_cases h12 : 12 ≤ act
  · rw [mvM_t h12]
    exact setF_o7 hL.2.2.1 (up_o7 hf (by omega))
  · rw [mvM_p (by omega)]
    refine setF_o7 hL.2.2.1 (up_o7 hf ?_)
    rw [canM_p (by omega)] at hc
    have := hs (act / 2) (by omega)
    simp [isP] at hc
    omega
def haM (L : LW) (sz : Nat → Nat) (v act : Nat) : Int32 := match afM L sz v act with
  | none => -1
  | some w => nI (hrM L (dg v) (dg w) act)
theorem SR_sz {σ : hd_M} {n : Nat} {sz : Nat → Nat} (hS : SR σ n sz) : ∀ p, p < 6 → sz p ≤ 3 := by
  intro p hp
  by_cases h : p < n
  · exact (hS.2.2.1 p h).2
  · rw [hS.2.2.2 p (by omega)]
    omega
theorem sX8_doesV {G : hd_G} {σ : hd_M} {P : Int32 → hd_M → Prop} {x : Int32} {act n v : Nat} {sz : Nat → Nat} {K : List (Nat → Nat)} {cd : List Nat} (hT : TX σ x K cd) (hL : LWok (LWof K cd)) (hW : KW K) (hS : SR σ n sz) (hv : v < 2187) (hR : RS σ (dg v)) (ha : act < 15) (h : ∀ σ', agR σ σ' → RS σ' (dg ((afM (LWof K cd) sz v act).getD v)) → P (haM (LWof K cd) sz v act) σ') : EVi G mX8_does SH [.ref 94, .int x, .int (nI act)] σ P := by
  refine sX8_does hT hL hW hS hR ha (fun σ' a r => ?_)
  have h := h σ' a
  unfold doM at r
  unfold doH
  unfold haM at h
  cases hc : canM (LWof K cd) sz (dg v) act with
  | false =>
    rw [afM_n hc] at h
    rw [hc] at r
    exact h r
  | true =>
    rw [afM_s hc] at h
    rw [hc, if_pos rfl] at r
    have o := mvM_o7 hL (SR_sz hS) (dg_o7 hv) ha hc
    have h := h (RS_f r (fun k hk => (dg_nm o k hk).symm))
    rw [if_pos rfl]
    have h : P (nI (hrM (LWof K cd) (dg v) (dg (nm (mvM (LWof K cd) sz (dg v) act))) act)) σ' := h
    rwa [hrM_cg (fun k hk => dg_nm o k hk)] at h
theorem canM_af {L : LW} {sz : Nat → Nat} {v act : Nat} : canM L sz (dg v) act = (afM L sz v act).isSome := by
  cases hc : canM L sz (dg v) act with
  | false => rw [afM_n hc]; rfl
  | true => rw [afM_s hc]; rfl
theorem sX8_isInG {G : hd_G} {σ : hd_M} {P : Int32 → hd_M → Prop} {sh : hd_S} (v a b : Int32) (h : P (zI (cl_bit (decide (a ≤ v ∧ v ≤ b)))) σ) : EVi G mX8_isIn sh [.int v, .int a, .int b] σ P := by
  refine wX8_isIn _ _ _ ⟨fun h1 => ?_, fun h1 => ⟨fun h2 => ?_, fun h2 => ?_⟩⟩
  · rw [decide_eq_false (fun z => absurd h1 (Int32.not_lt.mpr z.1))] at h
    exact ⟨Or.inl rfl, h⟩
  · rw [decide_eq_false (fun z => absurd h2 (Int32.not_lt.mpr z.2))] at h
    exact ⟨Or.inl rfl, h⟩
  · rw [decide_eq_true ⟨h1, h2⟩] at h
    exact ⟨Or.inr rfl, h⟩
/-! THE MODEL: PARTS, sizes, standing, ball, TEXTS, THE TEXT, STEPS, TRIED, HOLLOWS -/
abbrev MD : Type := Nat × (Nat → Nat) × Nat × Int × Nat × Int × List (Nat × Int) × List (Nat × Int) × List Nat
def d_n (D : MD) : Nat := D.1
def d_sz (D : MD) : Nat → Nat := D.2.1
def d_v (D : MD) : Nat := D.2.2.1
def d_b (D : MD) : Int := D.2.2.2.1
def d_T (D : MD) : Nat := D.2.2.2.2.1
def d_r (D : MD) : Int := D.2.2.2.2.2.1
def d_st (D : MD) : List (Nat × Int) := D.2.2.2.2.2.2.1
def d_tr (D : MD) : List (Nat × Int) := D.2.2.2.2.2.2.2.1
def d_ho (D : MD) : List Nat := D.2.2.2.2.2.2.2.2
def okSt (n : Nat) (s : Nat × Int) : Prop := s.1 < 2187 ∧ (0 ≤ s.2 ∧ s.2 ≤ 9) ∧ ∀ p, n ≤ p → p < 6 → dg s.1 p = 0
def dok (D : MD) : Prop := d_n D ≤ 6 ∧ (∀ p, p < d_n D → 2 ≤ d_sz D p ∧ d_sz D p ≤ 3) ∧ (∀ p, d_n D ≤ p → d_sz D p = 0) ∧ okSt (d_n D) (d_v D, d_b D) ∧ d_T D ≤ 4 ∧ (-1 ≤ d_r D ∧ d_r D < d_T D) ∧ (d_st D).length ≤ 30 ∧ (∀ s ∈ d_st D, okSt (d_n D) s) ∧ (d_tr D).length ≤ 12 ∧ (∀ t ∈ d_tr D, t.1 < 15 ∧ -1 ≤ t.2 ∧ t.2 ≤ 9) ∧ (d_ho D).length ≤ 10 ∧ ∀ h ∈ d_ho D, 1 ≤ h ∧ h ≤ 99
/-- the class's desk at the cell q -/
def cDesk (σ : hd_M) (q : Nat) (D : MD) : Prop := σ.1 q 1 = nI (d_n D) ∧ (∀ p, p < 6 → σ.1 (q + 1) p = nI (d_sz D p)) ∧ σ.1 q 2 = nI (d_v D) ∧ σ.1 q 3 = zI (d_b D) ∧ σ.1 q 4 = nI (d_T D) ∧ σ.1 q 5 = zI (d_r D) ∧ σ.1 q 8 = nI (d_st D).length ∧ (∀ j, j < (d_st D).length → σ.1 (q + 2) j = nI ((d_st D).getD j (0, 0)).1 ∧ σ.1 (q + 3) j = zI ((d_st D).getD j (0, 0)).2) ∧ σ.1 q 11 = nI (d_tr D).length ∧ (∀ j, j < (d_tr D).length → σ.1 (q + 4) j = nI ((d_tr D).getD j (0, 0)).1 ∧ σ.1 (q + 5) j = zI ((d_tr D).getD j (0, 0)).2) ∧ σ.1 q 13 = nI (d_ho D).length ∧ ∀ j, j < (d_ho D).length → σ.1 (q + 6) j = nI ((d_ho D).getD j 0)
/-- a STEP in the reference -/
def rStep (σ : hd_M) (q x n : Nat) (s : Nat × Int) : Prop := ∃ m, m ≤ n ∧ σ.1 q x = nI m ∧ (∀ k, k < m → σ.1 q (x + 1 + k) = nI (dg s.1 k)) ∧ (∀ k, m ≤ k → k < 6 → dg s.1 k = 0) ∧ σ.1 q (x + 7) = nI (dg s.1 6) ∧ σ.1 q (x + 8) = zI s.2
def rDesk (σ : hd_M) (q : Nat) (D : MD) : Prop := σ.1 q 0 = nI (d_n D) ∧ (∀ p, p < d_n D → σ.1 q (10 + p) = nI (d_sz D p)) ∧ (∀ p, p < d_n D → σ.1 q (20 + p) = nI (dg (d_v D) p)) ∧ σ.1 q 26 = nI (dg (d_v D) 6) ∧ σ.1 q 27 = zI (d_b D) ∧ σ.1 q 1 = nI (d_T D) ∧ σ.1 q 2 = zI (d_r D) ∧ σ.1 q 3 = nI (d_st D).length ∧ (∀ j, j < (d_st D).length → rStep σ q (64 + 9 * j) (d_n D) ((d_st D).getD j (0, 0))) ∧ σ.1 q 4 = nI (d_tr D).length ∧ (∀ j, j < (d_tr D).length → σ.1 q (30 + 2 * j) = nI ((d_tr D).getD j (0, 0)).1 ∧ σ.1 q (30 + 2 * j + 1) = zI ((d_tr D).getD j (0, 0)).2) ∧ σ.1 q 5 = nI (d_ho D).length ∧ ∀ j, j < (d_ho D).length → σ.1 q (54 + j) = nI ((d_ho D).getD j 0)
theorem cDesk_cg {σ σ' : hd_M} {q : Nat} {D : MD} (h : cDesk σ q D) (hc : ∀ k, q ≤ k → k ≤ q + 6 → σ'.1 k = σ.1 k) : cDesk σ' q D := by
  unfold cDesk
  rw [hc q (by omega) (by omega), hc (q + 1) (by omega) (by omega), hc (q + 2) (by omega) (by omega), hc (q + 3) (by omega) (by omega), hc (q + 4) (by omega) (by omega), hc (q + 5) (by omega) (by omega), hc (q + 6) (by omega) (by omega)]
  exact h
theorem rDesk_cg {σ σ' : hd_M} {q : Nat} {D : MD} (h : rDesk σ q D) (hc : σ'.1 q = σ.1 q) : rDesk σ' q D := by
  unfold rDesk rStep
  rw [hc]
  exact h
theorem rDesk_SR {σ : hd_M} {D : MD} (h : rDesk σ 95 D) (hd : dok D) : SR σ (d_n D) (d_sz D) := ⟨h.1, hd.1, fun p hp => ⟨h.2.1 p hp, (hd.2.1 p hp).2⟩, hd.2.2.1⟩
theorem rDesk_PL {σ : hd_M} {D : MD} (h : rDesk σ 95 D) (hd : dok D) : PL σ (d_n D) (d_v D) := ⟨hd.2.2.2.1.1, h.2.2.1, hd.2.2.2.1.2.2, h.2.2.2.1⟩
/-- no law -/
def L0 : LW := (fun _ => none, [], [])
theorem L0_ok : LWok L0 := ⟨fun r cs _ h => (by cases h), by decide, fun s hs => (by cases hs), by decide, fun s hs => (by cases hs)⟩
theorem LWof_nil (cd : List Nat) : LWof [] cd = L0 := rfl
/-- the law that rules -/
def ruM (r : Int) (laws : Nat → LW) : LW := if 0 ≤ r then laws r.toNat else L0
/-- the reference's TEXTS -/
def rTexts (σ : hd_M) (T : Nat) (laws : Nat → LW) : Prop := ∀ t, t < T → LWok (laws t) ∧ ∃ K cd, tq σ t K cd ∧ KW K ∧ LWof K cd = laws t
theorem rTexts_cg {σ σ' : hd_M} {T : Nat} {laws : Nat → LW} (h : rTexts σ T laws) (hc : σ'.1 97 = σ.1 97) : rTexts σ' T laws := by
  intro t ht
  obtain ⟨h1, K, cd, h2, h3⟩ := h t ht
  exact ⟨h1, K, cd, tq_cg h2 hc, h3⟩
theorem TX_t {σ : hd_M} {T t : Nat} {laws : Nat → LW} (h : rTexts σ T laws) (ht : t < T) : ∃ K cd, TX σ (nI t) K cd ∧ KW K ∧ LWof K cd = laws t ∧ LWok (LWof K cd) := by
  obtain ⟨h1, K, cd, h2, h3, h4⟩ := h t ht
  exact ⟨K, cd, Or.inr ⟨t, rfl, h2⟩, h3, h4, by rw [h4]; exact h1⟩
theorem TX_r {σ : hd_M} {T : Nat} {r : Int} {laws : Nat → LW} (h : rTexts σ T laws) (hr : -1 ≤ r ∧ r < T) : ∃ K cd, TX σ (zI r) K cd ∧ KW K ∧ LWof K cd = ruM r laws ∧ LWok (LWof K cd) := by
  unfold ruM
  by_cases h0 : 0 ≤ r
  · obtain ⟨K, cd, h1, h2, h3, h4⟩ := TX_t h (t := r.toNat) (by omega)
    rw [if_pos h0]
    refine ⟨K, cd, ?_, h2, h3, h4⟩
    have : zI r = nI r.toNat := by rw [nI_z]; congr 1; omega
    rw [this]
    exact h1
  · rw [if_neg h0]
    exact ⟨[], [], Or.inl ⟨by rw [show r = -1 by omega]; rfl, rfl⟩, fun c hc => (by cases hc), rfl, L0_ok⟩
def okL (T : Nat) (laws : Nat → LW) : Prop := ∀ t, t < T → LWok (laws t)
theorem ruM_ok {T : Nat} {r : Int} {laws : Nat → LW} (h : okL T laws) (hr : -1 ≤ r ∧ r < T) : LWok (ruM r laws) := by
  unfold ruM
  split
  · exact h _ (by omega)
  · exact L0_ok
/-! the tape -/
def sb (b : Nat) : Int := if b < 128 then (b : Int) else (b : Int) - 256
def cTape (σ : hd_M) (tp : List Nat) : Prop := σ.1 0 1 = nI tp.length ∧ ∀ j, j < tp.length → σ.1 1 j = zI (sb (tp.getD j 0))
def rTape (σ : hd_M) (tp : List Nat) : Prop := σ.1 94 4 = nI tp.length ∧ ∀ j, j < tp.length → σ.1 98 j = nI (tp.getD j 0)
def tok (tp : List Nat) : Prop := tp.length ≤ 300 ∧ ∀ b ∈ tp, b < 256
/-- tape, FAULT, desk, image, laws -/
abbrev MM : Type := List Nat × (Int32 × Int32) × MD × MD × (Nat → LW)
def mok (M : MM) : Prop := tok M.1 ∧ dok M.2.2.1 ∧ dok M.2.2.2.1 ∧ d_T M.2.2.2.1 ≤ d_T M.2.2.1 ∧ okL (d_T M.2.2.1) M.2.2.2.2
/-- the reference's cells hold the model -/
def RREL (σ : hd_M) (M : MM) : Prop := rTape σ M.1 ∧ (σ.1 94 5 = M.2.1.1 ∧ σ.1 94 6 = M.2.1.2) ∧ rDesk σ 95 M.2.2.1 ∧ rDesk σ 96 M.2.2.2.1 ∧ rTexts σ (d_T M.2.2.1) M.2.2.2.2
/-- a method of the class leaves the reference's cells; one of the reference the class's -/
def fC (σ σ' : hd_M) : Prop := ∀ k, 94 ≤ k → σ'.1 k = σ.1 k ∧ σ'.2 k = σ.2 k
def fR (σ σ' : hd_M) : Prop := ∀ k, k < 94 → σ'.1 k = σ.1 k ∧ σ'.2 k = σ.2 k
theorem fC_rf {σ : hd_M} : fC σ σ := fun _ _ => ⟨rfl, rfl⟩
theorem fR_rf {σ : hd_M} : fR σ σ := fun _ _ => ⟨rfl, rfl⟩
theorem fC_tr {σ σ' σ'' : hd_M} (h : fC σ σ') (h' : fC σ' σ'') : fC σ σ'' := fun k hk => ⟨(h' k hk).1.trans (h k hk).1, (h' k hk).2.trans (h k hk).2⟩
theorem fR_tr {σ σ' σ'' : hd_M} (h : fR σ σ') (h' : fR σ' σ'') : fR σ σ'' := fun k hk => ⟨(h' k hk).1.trans (h k hk).1, (h' k hk).2.trans (h k hk).2⟩
theorem fC_w {σ σ' : hd_M} {q i : Nat} {x : Int32} (h : fC σ σ') (hq : q < 94) : fC σ (hd_wI σ' q i x) := fun k hk => ⟨(wI_ne (by omega)).trans (h k hk).1, (h k hk).2⟩
theorem fR_w {σ σ' : hd_M} {q i : Nat} {x : Int32} (h : fR σ σ') (hq : 94 ≤ q) : fR σ (hd_wI σ' q i x) := fun k hk => ⟨(wI_ne (by omega)).trans (h k hk).1, (h k hk).2⟩
theorem fC_ag {σ σ' : hd_M} {l : List Nat} (h : ag l σ σ') (hl : ∀ k ∈ l, k < 94) : fC σ σ' := fun k hk => h k (fun z => by have := hl k z; omega)
theorem fR_ag {σ σ' : hd_M} {l : List Nat} (h : ag l σ σ') (hl : ∀ k ∈ l, 94 ≤ k) : fR σ σ' := fun k hk => h k (fun z => by have := hl k z; omega)
theorem fR_R {σ σ' : hd_M} (h : agR σ σ') : fR σ σ' := fR_ag h.1 (by decide)
theorem RREL_R {σ σ' : hd_M} {M : MM} (h : RREL σ M) (ha : agR σ σ') : RREL σ' M := by
  obtain ⟨h1, h2, h3, h4, h5⟩ := h
  refine ⟨?_, ?_, rDesk_cg h3 (agR_c ha (by decide)), rDesk_cg h4 (agR_c ha (by decide)), rTexts_cg h5 (agR_c ha (by decide))⟩
  · unfold rTape
    rw [ha.2 4 (by decide), agR_c ha (k := 98) (by decide)]
    exact h1
  · rw [ha.2 5 (by decide), ha.2 6 (by decide)]
    exact h2
