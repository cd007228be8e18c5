/-! the search, as a row of entries (first, second, came from, by) and how it ended (none: it goes on; true: the last is OPEN; false: SPENT) -/
abbrev BE : Type := Nat × Nat × Nat × Nat
abbrev BS : Type := List BE × Option Bool
def bHas (es : List BE) (x y : Nat) : Bool := es.any (fun e => decide (e.1 = x) && decide (e.2.1 = y))
def bReach (L1 L2 : LW) (most : Nat) (S : BS) (x y i act : Nat) : BS := if bHas S.1 x y = true then S else if S.1.length = most then (S.1, some false) else (S.1 ++ [(x, y, i, act)], if (opM L1 (dg x) && opM L2 (dg y)) = true then some true else none)
def mkM (L : LW) (sz : Nat → Nat) (v act : Nat) : Nat := (afM L sz v act).getD v
def bStep (L1 L2 : LW) (sz : Nat → Nat) (most : Nat) (S : BS) (j : Nat) : BS := if S.2.isSome = true then S else if S.1.length ≤ j / 15 then S else bReach L1 L2 most S (mkM L1 sz (S.1.getD (j / 15) (0, 0, 0, 0)).1 (j % 15)) (mkM L2 sz (S.1.getD (j / 15) (0, 0, 0, 0)).2.1 (j % 15)) (j / 15) (j % 15)
def bInit (L1 L2 : LW) (v : Nat) : BS := ([(v, v, 0, 0)], if (opM L1 (dg v) && opM L2 (dg v)) = true then some true else none)
def bRun (L1 L2 : LW) (sz : Nat → Nat) (most v : Nat) : Nat → BS
  | 0 => bInit L1 L2 v
  | j + 1 => bStep L1 L2 sz most (bRun L1 L2 sz most v j) j
def bEnd (L1 L2 : LW) (sz : Nat → Nat) (most v : Nat) : BS := bRun L1 L2 sz most v (15 * most)
theorem mkM_lt {L : LW} {sz : Nat → Nat} {v act : Nat} (hL : LWok L) (hs : ∀ p, p < 6 → sz p ≤ 3) (hv : v < 2187) (ha : act < 15) : mkM L sz v act < 2187 := by
  unfold mkM
  cases h : afM L sz v act with
  | none => exact hv
  | some w => exact afM_lt hL hs hv ha h
/-- what every state of the search keeps -/
def bOk (most : Nat) (S : BS) : Prop := 0 < S.1.length ∧ S.1.length ≤ most ∧ ∀ k, k < S.1.length → (S.1.getD k (0, 0, 0, 0)).1 < 2187 ∧ (S.1.getD k (0, 0, 0, 0)).2.1 < 2187 ∧ (0 < k → (S.1.getD k (0, 0, 0, 0)).2.2.1 < k) ∧ (S.1.getD k (0, 0, 0, 0)).2.2.2 < 15
theorem getD_app1 {α : Type} {l : List α} {a d : α} {k : Nat} (h : k < l.length) : (l ++ [a]).getD k d = l.getD k d := by
  simp only [List.getD_eq_getElem?_getD, List.getElem?_append_left h]
theorem getD_app2 {α : Type} {l : List α} {a d : α} : (l ++ [a]).getD l.length d = a := by simp
theorem bReach_ok {L1 L2 : LW} {most : Nat} {S : BS} {x y i act : Nat} (h : bOk most S) (hx : x < 2187) (hy : y < 2187) (hi : i < S.1.length) (ha : act < 15) : bOk most (bReach L1 L2 most S x y i act) := by
  unfold bReach
  split
  · exact h
  · split
    · exact h
    · rename_i h1 h2
      obtain ⟨a1, a2, a3⟩ := h
      refine ⟨by simp, by simp; omega, fun k hk => ?_⟩
      simp only [List.length_append, List.length_singleton] at hk
      by_cases hk2 : k < S.1.length
      · show ((S.1 ++ [(x, y, i, act)]).getD k (0, 0, 0, 0)).1 < 2187 ∧ ((S.1 ++ [(x, y, i, act)]).getD k (0, 0, 0, 0)).2.1 < 2187 ∧ (0 < k → ((S.1 ++ [(x, y, i, act)]).getD k (0, 0, 0, 0)).2.2.1 < k) ∧ ((S.1 ++ [(x, y, i, act)]).getD k (0, 0, 0, 0)).2.2.2 < 15
        rw [getD_app1 hk2]
        exact a3 k hk2
      · have : k = S.1.length := by omega
        subst this
        show ((S.1 ++ [(x, y, i, act)]).getD S.1.length (0, 0, 0, 0)).1 < 2187 ∧ ((S.1 ++ [(x, y, i, act)]).getD S.1.length (0, 0, 0, 0)).2.1 < 2187 ∧ (0 < S.1.length → ((S.1 ++ [(x, y, i, act)]).getD S.1.length (0, 0, 0, 0)).2.2.1 < S.1.length) ∧ ((S.1 ++ [(x, y, i, act)]).getD S.1.length (0, 0, 0, 0)).2.2.2 < 15
        rw [getD_app2]
        exact ⟨hx, hy, fun _ => hi, ha⟩
theorem bRun_ok {L1 L2 : LW} {sz : Nat → Nat} {most v : Nat} (h1 : LWok L1) (h2 : LWok L2) (hs : ∀ p, p < 6 → sz p ≤ 3) (hm : 0 < most) (hv : v < 2187) : ∀ j, bOk most (bRun L1 L2 sz most v j)
  | 0 => ⟨by simp [bRun, bInit], by simp [bRun, bInit]; omega, fun k hk => by
      simp [bRun, bInit] at hk
      subst hk
      exact ⟨hv, hv, fun z => absurd z (by omega), (by decide : 0 < 15)⟩⟩
  | j + 1 => by
    have ih := bRun_ok h1 h2 hs hm hv j
    show bOk most (bStep L1 L2 sz most (bRun L1 L2 sz most v j) j)
    unfold bStep
    split
    · exact ih
    · split
      · exact ih
      · rename_i a b
        have hk := ih.2.2 (j / 15) (by omega)
        exact bReach_ok ih (mkM_lt h1 hs hk.1 (Nat.mod_lt _ (by decide))) (mkM_lt h2 hs hk.2.1 (Nat.mod_lt _ (by decide))) (by omega) (Nat.mod_lt _ (by decide))
theorem bRun_stay {L1 L2 : LW} {sz : Nat → Nat} {most v j : Nat} (h : (bRun L1 L2 sz most v j).2.isSome = true ∨ (bRun L1 L2 sz most v j).1.length ≤ j / 15) : ∀ i, bRun L1 L2 sz most v (j + i) = bRun L1 L2 sz most v j
  | 0 => rfl
  | i + 1 => by
    have ih := bRun_stay h i
    show bStep L1 L2 sz most (bRun L1 L2 sz most v (j + i)) (j + i) = _
    rw [ih]
    unfold bStep
    rcases h with h | h
    · rw [if_pos h]
    · split
      · rfl
      · rw [if_pos (Nat.le_trans h (Nat.div_le_div_right (by omega)))]
theorem bEnd_of {L1 L2 : LW} {sz : Nat → Nat} {most v j : Nat} (hj : j ≤ 15 * most) (h : (bRun L1 L2 sz most v j).2.isSome = true ∨ (bRun L1 L2 sz most v j).1.length ≤ j / 15) : bEnd L1 L2 sz most v = bRun L1 L2 sz most v j := by
  have := bRun_stay h (15 * most - j)
  unfold bEnd
  rwa [show j + (15 * most - j) = 15 * most by omega] at this
/-- the acts up to an entry, and the entry t acts ahead of it -/
def bFr (es : List BE) (k : Nat) : Nat := (es.getD k (0, 0, 0, 0)).2.2.1
def bDp (es : List BE) : Nat → Nat → Nat
  | 0, _ => 0
  | f + 1, k => if k = 0 then 0 else 1 + bDp es f (bFr es k)
def bBk (es : List BE) : Nat → Nat → Nat
  | 0, k => k
  | t + 1, k => bBk es t (bFr es k)
def bDepth (es : List BE) (k : Nat) : Nat := bDp es k k
theorem bDp_st {es : List BE} (hf : ∀ k, 0 < k → k < es.length → bFr es k < k) : ∀ (f g k : Nat), k ≤ f → k ≤ g → k < es.length → bDp es f k = bDp es g k
  | 0, g, k, h1, _, _ => by
    have : k = 0 := by omega
    subst this
    cases g <;> simp [bDp]
  | f + 1, 0, k, _, h2, _ => by
    have : k = 0 := by omega
    subst this
    simp [bDp]
  | f + 1, g + 1, k, h1, h2, hk => by
    unfold bDp
    by_cases k0 : k = 0
    · rw [if_pos k0, if_pos k0]
    · rw [if_neg k0, if_neg k0]
      have := hf k (by omega) hk
      rw [bDp_st hf f g (bFr es k) (by omega) (by omega) (by omega)]
theorem bDepth_s {es : List BE} (hf : ∀ k, 0 < k → k < es.length → bFr es k < k) {k : Nat} (h0 : 0 < k) (hk : k < es.length) : bDepth es k = 1 + bDepth es (bFr es k) := by
  obtain ⟨j, rfl⟩ : ∃ j, k = j + 1 := ⟨k - 1, by omega⟩
  have := hf (j + 1) h0 hk
  show (if j + 1 = 0 then 0 else 1 + bDp es j (bFr es (j + 1))) = _
  rw [if_neg (by omega)]
  unfold bDepth
  rw [bDp_st hf j (bFr es (j + 1)) (bFr es (j + 1)) (by omega) (Nat.le_refl _) (by omega)]
theorem bDepth_le {es : List BE} (hf : ∀ k, 0 < k → k < es.length → bFr es k < k) : ∀ (n k : Nat), k ≤ n → k < es.length → bDepth es k ≤ k
  | 0, k, h, _ => by
    have : k = 0 := by omega
    subst this
    exact Nat.le_refl _
  | n + 1, k, h, hk => by
    by_cases k0 : k = 0
    · subst k0
      exact Nat.le_refl _
    · have := hf k (by omega) hk
      rw [bDepth_s hf (by omega) hk]
      have := bDepth_le hf n (bFr es k) (by omega) (by omega)
      omega
theorem bDepth_0 (es : List BE) : bDepth es 0 = 0 := rfl
/-- what is asked of an ended search -/
def bAns (S : BS) (i : Int32) : Int32 := match S.2 with
  | none => -1
  | some false => -2
  | some true => if i = -1 then nI (bDepth S.1 (S.1.length - 1)) else if nI (bDepth S.1 (S.1.length - 1)) ≤ i then -1 else nI (S.1.getD (bBk S.1 (bDepth S.1 (S.1.length - 1) - 1 - i.toNatClampNeg) (S.1.length - 1)) (0, 0, 0, 0)).2.2.2
def bOut (S : BS) : Int32 := match S.2 with
  | none => -1
  | some false => -2
  | some true => nI (bDepth S.1 (S.1.length - 1))
theorem bOk_fr {most : Nat} {S : BS} (h : bOk most S) : ∀ k, 0 < k → k < S.1.length → bFr S.1 k < k := fun k h0 hk => (h.2.2 k hk).2.2.1 h0
theorem bOk_mono {m m' : Nat} {S : BS} (h : bOk m S) (hm : m ≤ m') : bOk m' S := ⟨h.1, Nat.le_trans h.2.1 hm, h.2.2⟩
/-- the class's search holds an ended search -/
def cSO (σ : hd_M) (S : BS) : Prop := bOk 3000 S ∧ σ.1 81 6 = nI S.1.length ∧ σ.1 81 10 = bOut S ∧ ∀ k, k < S.1.length → (0 < k → σ.1 84 k = nI (bFr S.1 k) ∧ σ.1 85 k = nI (S.1.getD k (0, 0, 0, 0)).2.2.2)
/-- which laws a set of TEXTS names -/
def lowM (m : Nat) : Nat := if m % 2 = 1 then 0 else if m / 2 % 2 = 1 then 1 else if m / 4 % 2 = 1 then 2 else 3
def highM (m : Nat) : Nat := if m / 8 % 2 = 1 then 3 else if m / 4 % 2 = 1 then 2 else if m / 2 % 2 = 1 then 1 else 0
def bitsM (m : Nat) : Nat := m % 2 + m / 2 % 2 + m / 4 % 2 + m / 8 % 2
def nowB (D : MD) (laws : Nat → LW) : BS := bEnd (ruM (d_r D) laws) (ruM (d_r D) laws) (d_sz D) 1000 (d_v D)
def whB (D : MD) (laws : Nat → LW) (m : Nat) : BS := bEnd (laws (lowM m)) (laws (highM m)) (d_sz D) 3000 0
/-- what the class keeps of its latest search -/
def cSch (σ : hd_M) (D : MD) (laws : Nat → LW) : Prop := σ.1 0 13 = -1 ∨ (σ.1 0 13 = 0 ∧ cSO σ (nowB D laws)) ∨ ∃ m, 0 < m ∧ m < 2 ^ d_T D ∧ bitsM m ≤ 2 ∧ σ.1 0 13 = nI m ∧ cSO σ (whB D laws m)
/-- the class's cells hold the model -/
def cLaws (σ : hd_M) (T : Nat) (laws : Nat → LW) : Prop := ∀ t, t < T → lq σ (17 + 9 * t) (laws t)
def CREL (σ : hd_M) (M : MM) : Prop := cTape σ M.1 ∧ (σ.1 0 2 = M.2.1.1 ∧ σ.1 0 3 = M.2.1.2) ∧ cDesk σ 2 M.2.2.1 ∧ cDesk σ 9 M.2.2.2.1 ∧ cLaws σ (d_T M.2.2.1) M.2.2.2.2 ∧ lq σ 53 L0 ∧ NV σ ∧ cSch σ M.2.2.1 M.2.2.2.2
def REL (σ : hd_M) (M : MM) : Prop := CREL σ M ∧ RREL σ M ∧ mok M
theorem law_t {t : Nat} (h : t < 4) : hd_law (17 + 9 * t) := by
  rcases (by omega : t = 0 ∨ t = 1 ∨ t = 2 ∨ t = 3) with rfl | rfl | rfl | rfl
  · exact Or.inl rfl
  · exact Or.inr (Or.inl rfl)
  · exact Or.inr (Or.inr (Or.inl rfl))
  · exact Or.inr (Or.inr (Or.inr (Or.inl rfl)))
theorem lawRef {t : Nat} (h : t < 4) : ([17, 26, 35, 44] : List Nat).getD t 0 = 17 + 9 * t := by
  rcases (by omega : t = 0 ∨ t = 1 ∨ t = 2 ∨ t = 3) with rfl | rfl | rfl | rfl <;> rfl
theorem cTape_cg {σ σ' : hd_M} {tp : List Nat} (h : cTape σ tp) (h0 : σ'.1 0 1 = σ.1 0 1) (h1 : σ'.1 1 = σ.1 1) : cTape σ' tp := by
  unfold cTape
  rw [h0, h1]
  exact h
theorem cLaws_cg {σ σ' : hd_M} {T : Nat} {laws : Nat → LW} (h : cLaws σ T laws) (hT : T ≤ 4) (hc : ∀ k, 17 ≤ k → k < 53 → σ'.1 k = σ.1 k) : cLaws σ' T laws := fun t ht => lq_cg (h t ht) (fun k h1 h2 => hc k (by omega) (by omega))
theorem NV_cg {σ σ' : hd_M} (h : NV σ) (h1 : σ'.1 78 2 = σ.1 78 2) (h2 : σ'.1 79 = σ.1 79) : NV σ' := by
  unfold NV NI
  rw [h1, h2]
  exact h
theorem cSO_cg {σ σ' : hd_M} {S : BS} (h : cSO σ S) (h1 : σ'.1 81 = σ.1 81) (h2 : σ'.1 84 = σ.1 84) (h3 : σ'.1 85 = σ.1 85) : cSO σ' S := by
  unfold cSO
  rw [h1, h2, h3]
  exact h
theorem cSch_cg {σ σ' : hd_M} {D : MD} {laws : Nat → LW} (h : cSch σ D laws) (h0 : σ'.1 0 13 = σ.1 0 13) (h1 : σ'.1 81 = σ.1 81) (h2 : σ'.1 84 = σ.1 84) (h3 : σ'.1 85 = σ.1 85) : cSch σ' D laws := by
  unfold cSch
  rw [h0]
  rcases h with h | ⟨h, h'⟩ | ⟨m, a, b, c, d, e⟩
  · exact Or.inl h
  · exact Or.inr (Or.inl ⟨h, cSO_cg h' h1 h2 h3⟩)
  · exact Or.inr (Or.inr ⟨m, a, b, c, d, cSO_cg e h1 h2 h3⟩)
theorem CREL_R {σ σ' : hd_M} {M : MM} (h : CREL σ M) (hm : mok M) (ha : ag [78, 79, 80] σ σ') (hn : NV σ') : CREL σ' M := by
  obtain ⟨h1, h2, h3, h4, h5, h6, h7, h8⟩ := h
  have c : ∀ k, k ∉ [78, 79, 80] → σ'.1 k = σ.1 k := fun k hk => (ha k hk).1
  refine ⟨cTape_cg h1 (by rw [c 0 (by decide)]) (c 1 (by decide)), by rw [c 0 (by decide)]; exact h2, cDesk_cg h3 (fun k a b => c k (by simp; omega)), cDesk_cg h4 (fun k a b => c k (by simp; omega)), cLaws_cg h5 hm.2.1.2.2.2.2.1 (fun k a b => c k (by simp; omega)), lq_cg h6 (fun k a b => c k (by simp; omega)), hn, cSch_cg h8 (by rw [c 0 (by decide)]) (c 81 (by decide)) (c 84 (by decide)) (c 85 (by decide))⟩
theorem CREL_fR {σ σ' : hd_M} {M : MM} (h : CREL σ M) (hm : mok M) (hf : fR σ σ') : CREL σ' M := by
  obtain ⟨h1, h2, h3, h4, h5, h6, h7, h8⟩ := h
  have c : ∀ k, k < 94 → σ'.1 k = σ.1 k := fun k hk => (hf k hk).1
  refine ⟨cTape_cg h1 (by rw [c 0 (by decide)]) (c 1 (by decide)), by rw [c 0 (by decide)]; exact h2, cDesk_cg h3 (fun k a b => c k (by omega)), cDesk_cg h4 (fun k a b => c k (by omega)), cLaws_cg h5 hm.2.1.2.2.2.2.1 (fun k a b => c k (by omega)), lq_cg h6 (fun k a b => c k (by omega)), NV_cg h7 (by rw [c 78 (by decide)]) (c 79 (by decide)), cSch_cg h8 (by rw [c 0 (by decide)]) (c 81 (by decide)) (c 84 (by decide)) (c 85 (by decide))⟩
theorem RREL_fC {σ σ' : hd_M} {M : MM} (h : RREL σ M) (hf : fC σ σ') : RREL σ' M := by
  obtain ⟨h1, h2, h3, h4, h5⟩ := h
  have c : ∀ k, 94 ≤ k → σ'.1 k = σ.1 k := fun k hk => (hf k hk).1
  refine ⟨?_, by rw [c 94 (by decide)]; exact h2, rDesk_cg h3 (c 95 (by decide)), rDesk_cg h4 (c 96 (by decide)), rTexts_cg h5 (c 97 (by decide))⟩
  unfold rTape
  rw [c 94 (by decide), c 98 (by decide)]
  exact h1
