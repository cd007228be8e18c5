def lqs (q : Nat) : List Nat := [62, 63, 77, q, q + 1, q + 2, q + 3, q + 4, q + 5, q + 6, q + 7, q + 8]
theorem lqs_lt {q j : Nat} (h : j ≤ 8) : q + j ∈ lqs q := by
  unfold lqs
  have : j = 0 ∨ j = 1 ∨ j = 2 ∨ j = 3 ∨ j = 4 ∨ j = 5 ∨ j = 6 ∨ j = 7 ∨ j = 8 := by omega
  rcases this with rfl | rfl | rfl | rfl | rfl | rfl | rfl | rfl | rfl <;> simp
theorem agQ_63 {q : Nat} {l : List Nat} {σ σ' : hd_M} (h : ag l σ σ') (hl : ∀ k ∈ l, k = 62 ∨ k = 63 ∨ k = 77) : ag (lqs q) σ σ' := ag_mono h (fun k hk => by
  unfold lqs
  rcases hl k hk with rfl | rfl | rfl <;> simp)
theorem agQ_R {q r : Nat} {σ σ' : hd_M} (h : agR3 q r σ σ') : ag (lqs q) σ σ' := fun k hk => by
  unfold lqs at hk
  simp only [List.mem_cons, List.not_mem_nil, or_false, not_or] at hk
  exact h.1 k hk.1 hk.2.1 hk.2.2.1 hk.2.2.2.1 hk.2.2.2.2.1 hk.2.2.2.2.2.1 hk.2.2.2.2.2.2.1
theorem lK_63 {q : Nat} (hq : hd_law q) {l : List Nat} {σ σ' : hd_M} {K : List (Nat → Nat)} {cd : List Nat} (h : ag l σ σ') (hl : ∀ k ∈ l, k = 62 ∨ k = 63 ∨ k = 77) (hL : lK σ q K cd) : lK σ' q K cd := lK_cg hL (fun k h1 h2 => (h k (fun z => by
  have := law_63 hq (k - q) (by omega)
  rw [show q + (k - q) = k by omega] at this
  rcases hl k z with rfl | rfl | rfl <;> omega)).1)
theorem lK_rule {σ σ' : hd_M} {q r : Nat} {K : List (Nat → Nat)} {cd cd' : List Nat} {c : Nat → Nat} (hq : hd_law q) (hL : lK σ q K cd) (a : agR3 q r σ σ') (hC : lC σ' q cd') (h2 : σ'.1 (q + 2) r = nI cd.length) (h3 : σ'.1 (q + 3) r = nI cd'.length) (c2 : c 2 = cd.length) (c3 : c 3 = cd'.length) (hi : ∀ r', r' < 9 → (isRule r' c = true ↔ r' = r)) (hn : K.any (isRule r) = false) (hs : setOf c = none) (h6 : c 0 ≠ 6) : lK σ' q (K ++ [c]) cd' := by
  obtain ⟨l1, l2, l3, l4⟩ := hL
  have e : ∀ j, 4 ≤ j → j ≤ 8 → σ'.1 (q + j) = σ.1 (q + j) := fun j a1 a2 => by
    have := law_63 hq j a2
    exact (a.1 (q + j) this.1 this.2.1 this.2.2.2.2.2 (by omega) (by omega) (by omega) (by omega)).1
  have eq7 : σ'.1 q 7 = σ.1 q 7 := a.2.1 7 (by decide)
  have eq10 : σ'.1 q 10 = σ.1 q 10 := a.2.1 10 (by decide)
  refine ⟨hC, fun r' hr' => ?_, ?_, ?_⟩
  · by_cases z : r' = r
    · subst z
      rw [find_app hn, if_pos ((hi r' hr').mpr rfl)]
      refine ⟨fun z => (by cases z), fun c' z => ?_⟩
      injection z with z
      rw [← z, c2, c3]
      exact ⟨h2, h3⟩
    · have : isRule r' c = false := by
        cases hb : isRule r' c with
        | false => rfl
        | true => exact absurd ((hi r' hr').mp hb) z
      rw [find_app' this, (a.2.2.1 r' z).1, (a.2.2.1 r' z).2]
      exact l2 r' hr'
  · rw [List.filterMap_append, show List.filterMap setOf [c] = [] by simp [hs], List.append_nil, eq7, e 4 (by omega) (by omega), e 5 (by omega) (by omega), e 6 (by omega) (by omega)]
    exact l3
  · rw [dosOf_app, if_neg h6, List.append_nil, eq10, e 7 (by omega) (by omega), e 8 (by omega) (by omega)]
    exact l4
theorem fm_len (K : List (Nat → Nat)) : (K.filterMap setOf).length ≤ K.length := List.length_filterMap_le _ _
theorem sX2_addSetK {G : hd_G} {σ : hd_M} {P : hd_M → Prop} {q x y z : Nat} {K : List (Nat → Nat)} {cd : List Nat} {c : Nat → Nat} (hq : hd_law q) (hL : lK σ q K cd) (hK : K.length < 24) (hs : setOf c = some (x, y, z)) (h : ∀ σ', ag (lqs q) σ σ' → (∀ k, k ≠ q → k ≠ q + 4 → k ≠ q + 5 → k ≠ q + 6 → σ'.1 k = σ.1 k) → lK σ' q (K ++ [c]) cd → P σ') : EVv G mX2_addSet SH [.ref q, .int (nI x), .int (nI y), .int (nI z)] σ P := by
  obtain ⟨l1, l2, ⟨l3, l3'⟩, l4⟩ := hL
  have fl := fm_len K
  generalize hF : K.filterMap setOf = F at *
  have c0 : c 0 = 1 ∨ c 0 = 2 := by
    unfold setOf at hs
    split at hs
    · exact Or.inl (by assumption)
    · split at hs
      · exact Or.inr (by assumption)
      · cases hs
  refine wX2_addSet hq _ _ _ ?_
  rw [l3]
  refine b_le' (nI_lt (b := 24) (by omega) (by decide)) ⟨hd_vn (by omega) (by decide), fun s1 e1 => ?_⟩
  rw [nI_clamp (by omega)] at e1
  have q1 : s1.1 q 7 = nI F.length := by rw [e1, wI_ne (by omega)]; exact l3
  rw [q1]
  refine ⟨hd_vn (by omega) (by decide), fun s2 e2 => ?_⟩
  rw [nI_clamp (by omega)] at e2
  have q2 : s2.1 q 7 = nI F.length := by rw [e2, wI_ne (by omega)]; exact q1
  rw [q2]
  refine ⟨hd_vn (by omega) (by decide), fun s3 e3 s4 e4 => ?_⟩
  rw [nI_clamp (by omega)] at e3
  have q3 : s3.1 q 7 = nI F.length := by rw [e3, wI_ne (by omega)]; exact q2
  rw [q3, nI_1] at e4
  have fr : ∀ k, k ≠ q → k ≠ q + 4 → k ≠ q + 5 → k ≠ q + 6 → s4.1 k = σ.1 k := fun k a b c d => by rw [e4, wI_ne a, e3, wI_ne d, e2, wI_ne c, e1, wI_ne b]
  have qj : ∀ j, j ≠ 7 → s4.1 q j = σ.1 q j := fun j hj => by rw [e4, wI_eq, if_neg hj, e3, wI_ne (by omega), e2, wI_ne (by omega), e1, wI_ne (by omega)]
  have nr : ∀ r, isRule r c = false := fun r => by
    unfold isRule
    split
    · simp; omega
    · simp; omega
  refine h s4 ?_ fr ⟨⟨?_, fun j hj => ?_⟩, fun r hr => ?_, ⟨?_, fun j hj => ?_⟩, ?_⟩
  · rw [e4, e3, e2, e1]
    exact ag_wI (ag_wI (ag_wI (ag_wI ag_rf (lqs_lt (j := 4) (by decide))) (lqs_lt (j := 5) (by decide))) (lqs_lt (j := 6) (by decide))) (lqs_lt (j := 0) (by decide))
  · rw [qj 1 (by decide)]; exact l1.1
  · rw [fr (q + 1) (by omega) (by omega) (by omega) (by omega)]; exact l1.2 j hj
  · rw [find_app' (nr r), fr (q + 2) (by omega) (by omega) (by omega) (by omega), fr (q + 3) (by omega) (by omega) (by omega) (by omega)]
    exact l2 r hr
  · rw [e4, wI_eq, if_pos rfl, List.filterMap_append, hF, show List.filterMap setOf [c] = [(x, y, z)] by simp [hs], List.length_append]
    rfl
  · rw [List.filterMap_append, hF, show List.filterMap setOf [c] = [(x, y, z)] by simp [hs]] at hj ⊢
    rw [List.length_append, List.length_singleton] at hj
    have g4 : s4.1 (q + 4) j = if j = F.length then nI x else σ.1 (q + 4) j := by rw [e4, wI_ne (by omega), e3, wI_ne (by omega), e2, wI_ne (by omega), e1, wI_eq]
    have g5 : s4.1 (q + 5) j = if j = F.length then nI y else σ.1 (q + 5) j := by rw [e4, wI_ne (by omega), e3, wI_ne (by omega), e2, wI_eq, e1, wI_ne (by omega)]
    have g6 : s4.1 (q + 6) j = if j = F.length then nI z else σ.1 (q + 6) j := by rw [e4, wI_ne (by omega), e3, wI_eq, e2, wI_ne (by omega), e1, wI_ne (by omega)]
    rw [g4, g5, g6]
    by_cases zj : j = F.length
    · rw [if_pos zj, if_pos zj, if_pos zj, zj, getD_app2]
      exact ⟨rfl, rfl, rfl⟩
    · rw [if_neg zj, if_neg zj, if_neg zj, getD_app1 (by omega)]
      exact l3' j (by omega)
  · rw [dosOf_app, if_neg (by omega), List.append_nil, qj 10 (by decide), fr (q + 7) (by omega) (by omega) (by omega) (by omega), fr (q + 8) (by omega) (by omega) (by omega) (by omega)]
    exact l4
theorem sX2_addDoK {G : hd_G} {σ : hd_M} {P : hd_M → Prop} {q x : Nat} {K : List (Nat → Nat)} {cd : List Nat} (hq : hd_law q) (hL : lK σ q K cd) (hK : K.length < 24) (h : ∀ σ', ag (lqs q) σ σ' → (∀ k, k ≠ q → k ≠ q + 7 → k ≠ q + 8 → σ'.1 k = σ.1 k) → lK σ' q (K ++ [mkC [6, x]]) cd → P σ') : EVv G mX2_addDo SH [.ref q, .int (nI x), .int (nI K.length)] σ P := by
  obtain ⟨l1, l2, l3, ⟨l4, l4'⟩⟩ := hL
  have fl := dosOf_len K 0
  have ea : dosOf 0 (K ++ [mkC [6, x]]) = dosOf 0 K ++ [(x, K.length)] := by
    rw [dosOf_app, if_pos (show mkC [6, x] 0 = 6 from rfl), Nat.zero_add]
    rfl
  generalize hF : dosOf 0 K = F at *
  refine wX2_addDo hq _ _ ?_
  rw [l4]
  refine b_le' (nI_lt (b := 24) (by omega) (by decide)) ⟨hd_vn (by omega) (by decide), fun s1 e1 => ?_⟩
  rw [nI_clamp (by omega)] at e1
  have q1 : s1.1 q 10 = nI F.length := by rw [e1, wI_ne (by omega)]; exact l4
  rw [q1]
  refine ⟨hd_vn (by omega) (by decide), fun s2 e2 s4 e4 => ?_⟩
  rw [nI_clamp (by omega)] at e2
  have q2 : s2.1 q 10 = nI F.length := by rw [e2, wI_ne (by omega)]; exact q1
  rw [q2, nI_1] at e4
  have fr : ∀ k, k ≠ q → k ≠ q + 7 → k ≠ q + 8 → s4.1 k = σ.1 k := fun k a b c => by rw [e4, wI_ne a, e2, wI_ne c, e1, wI_ne b]
  have qj : ∀ j, j ≠ 10 → s4.1 q j = σ.1 q j := fun j hj => by rw [e4, wI_eq, if_neg hj, e2, wI_ne (by omega), e1, wI_ne (by omega)]
  have nr : ∀ r, r < 9 → isRule r (mkC [6, x]) = false := fun r hr => by
    unfold isRule
    split
    · simp [mkC]
    · simp [mkC]; omega
  refine h s4 ?_ fr ⟨⟨?_, fun j hj => ?_⟩, fun r hr => ?_, ?_, ⟨?_, fun j hj => ?_⟩⟩
  · rw [e4, e2, e1]
    exact ag_wI (ag_wI (ag_wI ag_rf (lqs_lt (j := 7) (by decide))) (lqs_lt (j := 8) (by decide))) (lqs_lt (j := 0) (by decide))
  · rw [qj 1 (by decide)]; exact l1.1
  · rw [fr (q + 1) (by omega) (by omega) (by omega)]; exact l1.2 j hj
  · rw [find_app' (nr r hr), fr (q + 2) (by omega) (by omega) (by omega), fr (q + 3) (by omega) (by omega) (by omega)]
    exact l2 r hr
  · rw [List.filterMap_append, show List.filterMap setOf [mkC [6, x]] = [] from rfl, List.append_nil, qj 7 (by decide), fr (q + 4) (by omega) (by omega) (by omega), fr (q + 5) (by omega) (by omega) (by omega), fr (q + 6) (by omega) (by omega) (by omega)]
    exact l3
  · rw [e4, wI_eq, if_pos rfl, ea, List.length_append]
    rfl
  · rw [ea] at hj ⊢
    rw [List.length_append, List.length_singleton] at hj
    have g7 : s4.1 (q + 7) j = if j = F.length then nI x else σ.1 (q + 7) j := by rw [e4, wI_ne (by omega), e2, wI_ne (by omega), e1, wI_eq]
    have g8 : s4.1 (q + 8) j = if j = F.length then nI K.length else σ.1 (q + 8) j := by rw [e4, wI_ne (by omega), e2, wI_eq, e1, wI_ne (by omega)]
    rw [g7, g8]
    by_cases zj : j = F.length
    · rw [if_pos zj, if_pos zj, zj, getD_app2]
      exact ⟨rfl, rfl⟩
    · rw [if_neg zj, if_neg zj, getD_app1 (by omega)]
      exact l4' j (by omega)
/-- a fault inside a clause -/
def cFl (q : Nat) (ts : List Tk) (σ σ' : hd_M) (f p : Nat) : Prop := ag (lqs q) σ σ' ∧ 1 ≤ f ∧ f < 7 ∧ σ'.1 62 2 = nI f ∧ σ'.1 62 3 = nI p ∧ ∃ i', i' ≤ ts.length ∧ tkN σ' ts i'
theorem cFl_a {q : Nat} {ts : List Tk} {σ s s' : hd_M} {f p : Nat} (h : ag (lqs q) σ s) (h2 : aFl ts s s' f p) : cFl q ts σ s' f p := ⟨ag_tr h (agQ_63 h2.1 (by simp)), h2.2⟩
theorem bT_f {k : Nat} {ts : List Tk} {g : List Tk → CR} {f : FP} (h : pT k ts = .inl f) : bT k ts g = .inl f := by unfold bT; rw [h]
theorem bT_k {k : Nat} {ts ts1 : List Tk} {g : List Tk → CR} (h : pT k ts = .inr ts1) : bT k ts g = g ts1 := by unfold bT; rw [h]
theorem bN_f {k : Nat} {ts : List Tk} {g : Nat → List Tk → CR} {f : FP} (h : pN k ts = .inl f) : bN k ts g = .inl f := by unfold bN; rw [h]
theorem bN_k {k x : Nat} {ts ts1 : List Tk} {g : Nat → List Tk → CR} (h : pN k ts = .inr (x, ts1)) : bN k ts g = g x ts1 := by unfold bN; rw [h]
theorem fl_z {q f p : Nat} {ts : List Tk} {σ σ' : hd_M} (h : cFl q ts σ σ' f p) : ¬ σ'.1 62 2 = 0 := by rw [h.2.2.2.1]; exact f_nz h.2.1 (by have := h.2.2.1; omega)
/-- set PART to PLACE ; -/
theorem setTail {G : hd_G} {σ s : hd_M} {P : hd_M → Prop} {q i cs : Nat} {ts : List Tk} {K : List (Nat → Nat)} {cd : List Nat} {l : List Nat} (hq : hd_law q) (hT : tsOK ts) (hi : i < ts.length) (hN : tkN s ts i) (h1 : s.1 62 1 = nI q) (h2 : s.1 62 2 = 0) (a : ag (lqs q) σ s) (hL : lK s q K cd) (hK : K.length < 24) (hcs : ∀ x y, setOf (mkC (l ++ [x, y])) = some (cs, x, y)) (hF : ∀ f p σ', pTail cd l (ts.drop i) = .inl (f, p) → cFl q ts σ σ' f p → P σ') (hD : ∀ k c σ', pTail cd l (ts.drop i) = .inr (ts.drop k, c, cd) → i < k → k < ts.length → ag (lqs q) σ σ' → σ'.1 62 1 = nI q → σ'.1 62 2 = 0 → tkN σ' ts k → lK σ' q (K ++ [c]) cd → σ'.1 62 3 = s.1 62 3 → P σ') : EVv G mX3_takeToken SH [.ref 62, .int 5] s (fun s6 => EVi G mX3_takeNumber SH [.ref 62, .int 5] s6 (fun y8 s7 => ∀ v9 : Int32, v9 = y8 → EVv G mX3_takeToken SH [.ref 62, .int 4] s7 (fun s10 => EVi G mX3_takeNumber SH [.ref 62, .int 2] s10 (fun y12 s11 => ∀ v13 : Int32, v13 = y12 → EVv G mX3_takeToken SH [.ref 62, .int 3] s11 (fun s14 => (¬ s14.1 62 2 = 0 → P s14) ∧ (s14.1 62 2 = 0 → ¬ (s14.1 62 1).toNatClampNeg = 0 ∧ (hd_k SH ((s14.1 62 1).toNatClampNeg) 12 (fun _ => EVv G mX2_addSet SH [.ref ((s14.1 62 1).toNatClampNeg), .int (nI cs), .int v9, .int v13] s14 (fun s15 => P s15))))))))) := by
  have l6 := law_62 hq
  have on1 : ∀ {s s' : hd_M} {j : Nat}, ag [63] s s' → s'.1 62 j = s.1 62 j := fun {s s' j} h => by rw [(h 62 (by decide)).1]
  have fz : ∀ {s' : hd_M} {f p : Nat}, cFl q ts σ s' f p → P s' → ∀ {X : Prop}, (¬ s'.1 62 2 = 0 → P s') ∧ (s'.1 62 2 = 0 → X) := fun {s' f p} h hp {X} => b_ne (fl_z h) hp
  refine sX3_takeToken (k := 5) hT hi hN h2 (by decide) (fun s1 e1 f1 => ?_) (fun s1 e1 i1 a1 n1 _ _ => ?_)
  · have fl := cFl_a a f1
    have hz := fl_z fl
    have hp := hF _ _ s1 (bT_f e1) fl
    exact sX3_takeNumberF hz (fun v9 _ => sX3_takeTokenF hz (sX3_takeNumberF hz (fun v13 _ => sX3_takeTokenF hz (b_ne hz hp))))
  have i1 := i1 (by decide)
  have A1 : ag (lqs q) σ s1 := ag_tr a (agQ_63 a1 (by simp))
  refine sX3_takeNumber (m := 5) hT i1 n1 (by rw [on1 a1]; exact h2) (by decide) (fun f s2 e2 f2 v9 _ => ?_) (fun x s2 e2 x2 i2 a2 n2 _ v9 ev9 => ?_)
  · have fl := cFl_a A1 f2
    have hz := fl_z fl
    have hp := hF _ _ s2 ((bT_k e1).trans (bN_f e2)) fl
    exact sX3_takeTokenF hz (sX3_takeNumberF hz (fun v13 _ => sX3_takeTokenF hz (b_ne hz hp)))
  have A2 : ag (lqs q) σ s2 := ag_tr A1 (agQ_63 a2 (by simp))
  refine sX3_takeToken (k := 4) hT i2 n2 (by rw [on1 a2, on1 a1]; exact h2) (by decide) (fun s3 e3 f3 => ?_) (fun s3 e3 i3 a3 n3 _ _ => ?_)
  · have fl := cFl_a A2 f3
    have hz := fl_z fl
    have hp := hF _ _ s3 ((bT_k e1).trans ((bN_k e2).trans (bT_f e3))) fl
    exact sX3_takeNumberF hz (fun v13 _ => sX3_takeTokenF hz (b_ne hz hp))
  have i3 := i3 (by decide)
  have A3 : ag (lqs q) σ s3 := ag_tr A2 (agQ_63 a3 (by simp))
  refine sX3_takeNumber (m := 2) hT i3 n3 (by rw [on1 a3, on1 a2, on1 a1]; exact h2) (by decide) (fun f s4 e4 f4 v13 _ => ?_) (fun y s4 e4 y4 i4 a4 n4 _ v13 ev13 => ?_)
  · have fl := cFl_a A3 f4
    have hz := fl_z fl
    have hp := hF _ _ s4 ((bT_k e1).trans ((bN_k e2).trans ((bT_k e3).trans (bN_f e4)))) fl
    exact sX3_takeTokenF hz (b_ne hz hp)
  have A4 : ag (lqs q) σ s4 := ag_tr A3 (agQ_63 a4 (by simp))
  refine sX3_takeToken (k := 3) hT i4 n4 (by rw [on1 a4, on1 a3, on1 a2, on1 a1]; exact h2) (by decide) (fun s5 e5 f5 => ?_) (fun s5 e5 i5 a5 n5 _ _ => ?_)
  · have fl := cFl_a A4 f5
    exact b_ne (fl_z fl) (hF _ _ s5 ((bT_k e1).trans ((bN_k e2).trans ((bT_k e3).trans ((bN_k e4).trans (bT_f e5))))) fl)
  have i5 := i5 (by decide)
  have A5 : ag (lqs q) σ s5 := ag_tr A4 (agQ_63 a5 (by simp))
  have z2 : s5.1 62 2 = 0 := by rw [on1 a5, on1 a4, on1 a3, on1 a2, on1 a1]; exact h2
  have z1 : s5.1 62 1 = nI q := by rw [on1 a5, on1 a4, on1 a3, on1 a2, on1 a1]; exact h1
  have L5 : lK s5 q K cd := lK_63 hq a5 (by simp) (lK_63 hq a4 (by simp) (lK_63 hq a3 (by simp) (lK_63 hq a2 (by simp) (lK_63 hq a1 (by simp) hL))))
  rw [z1, nI_clamp (by omega), ev9, ev13]
  refine b_ne' z2 ⟨by omega, law_k hq (sX2_addSetK hq L5 hK (hcs x y) (fun s6 a6 fr L6 => ?_))⟩
  have f4 := law_63 hq 4 (by decide)
  have f5 := law_63 hq 5 (by decide)
  have f6 := law_63 hq 6 (by decide)
  have f0 := law_63 hq 0 (by decide)
  have e62 : ∀ k, k = 62 ∨ k = 63 ∨ k = 64 ∨ k = 65 ∨ k = 66 → s6.1 k = s5.1 k := fun k hk => fr k (by omega) (by omega) (by omega) (by omega)
  refine hD (i + 5) (mkC (l ++ [x, y])) s6 ((bT_k e1).trans ((bN_k e2).trans ((bT_k e3).trans ((bN_k e4).trans (bT_k e5))))) (by omega) i5 (ag_tr A5 a6) (by rw [e62 62 (by omega)]; exact z1) (by rw [e62 62 (by omega)]; exact z2) ?_ L6 (by rw [e62 62 (by omega), on1 a5, on1 a4, on1 a3, on1 a2, on1 a1])
  exact ⟨by rw [e62 63 (by omega)]; exact n5.1, tkC_cg n5.2 (by rw [e62 63 (by omega)]) (e62 64 (by omega)) (e62 65 (by omega)) (e62 66 (by omega))⟩
