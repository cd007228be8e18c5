/-! the class's search: open addressing -/
abbrev be (es : List BE) (k : Nat) : BE := es.getD k (0, 0, 0, 0)
theorem bHas_iff {es : List BE} {x y : Nat} : bHas es x y = true ↔ ∃ k, k < es.length ∧ (be es k).1 = x ∧ (be es k).2.1 = y := by
  unfold bHas
  rw [List.any_eq_true]
  constructor
  · rintro ⟨e, he, h⟩
    obtain ⟨k, hk, rfl⟩ := List.mem_iff_getElem.mp he
    simp only [Bool.and_eq_true, decide_eq_true_eq] at h
    refine ⟨k, hk, ?_⟩
    unfold be
    rw [List.getD_eq_getElem?_getD, List.getElem?_eq_getElem hk]
    exact h
  · rintro ⟨k, hk, h⟩
    unfold be at h
    rw [List.getD_eq_getElem?_getD, List.getElem?_eq_getElem hk] at h
    exact ⟨es[k], List.getElem_mem hk, by simp only [Bool.and_eq_true, decide_eq_true_eq]; exact h⟩
theorem bHas_no {es : List BE} {x y : Nat} (h : ¬ ∃ k, k < es.length ∧ (be es k).1 = x ∧ (be es k).2.1 = y) : bHas es x y = false := by
  cases hb : bHas es x y with
  | false => rfl
  | true => exact absurd (bHas_iff.mp hb) h
def hhM (x y : Nat) : Nat := ((nI x * 2187 + nI y) * (-1640531535)).toBitVec.toNat / 2 ^ 19
theorem hhM_lt (x y : Nat) : hhM x y < 8192 := by
  unfold hhM
  have := ((nI x * 2187 + nI y) * (-1640531535 : Int32)).toBitVec.isLt
  omega
theorem hhM_e (x y : Nat) : ((((nI x * 2187) + nI y) * (-1640531535)).toUInt32 >>> ((19 : Int32).toUInt32 &&& Int32.toUInt32 31)).toInt32 = nI (hhM x y) := by
  have h := pk_ushr ((nI x * 2187 + nI y) * (-1640531535)) 19 19 rfl
  have l := hhM_lt x y
  refine Int32.toBitVec_inj.mp (BitVec.eq_of_toNat_eq ?_)
  rw [pk_tn (show hhM x y < 2 ^ 32 by omega)]
  exact h
def cntN (T : Nat → Nat) : Nat → Nat
  | 0 => 0
  | n + 1 => cntN T n + (if T n = 0 then 0 else 1)
theorem cntN_up (T : Nat → Nat) (s v : Nat) : ∀ n, cntN (up T s v) n ≤ cntN T n + (if s < n then 1 else 0)
  | 0 => by simp [cntN]
  | n + 1 => by
    have ih := cntN_up T s v n
    unfold cntN
    have hu : up T s v n = if n = s then v else T n := rfl
    rw [hu]
    by_cases h1 : n = s
    · rw [if_pos h1]
      rw [if_neg (show ¬ s < n by omega)] at ih
      rw [if_pos (show s < n + 1 by omega)]
      split <;> split <;> omega
    · rw [if_neg h1]
      by_cases h2 : s < n
      · rw [if_pos h2] at ih
        rw [if_pos (show s < n + 1 by omega)]
        omega
      · rw [if_neg h2] at ih
        rw [if_neg (show ¬ s < n + 1 by omega)]
        omega
theorem cntN_full {T : Nat → Nat} : ∀ {n : Nat}, (∀ i, i < n → T i ≠ 0) → cntN T n = n
  | 0, _ => rfl
  | n + 1, h => by
    unfold cntN
    rw [cntN_full (fun i hi => h i (by omega)), if_neg (h n (by omega))]
theorem cntN_0 {n : Nat} : cntN (fun _ => 0) n = 0 := by
  induction n with
  | zero => rfl
  | succ n ih => unfold cntN; rw [ih]; rfl
def cHash (es : List BE) (T : Nat → Nat) : Prop := cntN T 8192 ≤ es.length ∧ (∀ i, i < 8192 → T i ≤ es.length) ∧ ∀ k, k < es.length → ∃ d, d < 8192 ∧ T ((hhM (be es k).1 (be es k).2.1 + d) % 8192) = k + 1 ∧ ∀ d', d' < d → T ((hhM (be es k).1 (be es k).2.1 + d') % 8192) ≠ 0
def cB (σ : hd_M) (q1 q2 most : Nat) (S : BS) : Prop := σ.1 81 6 = nI S.1.length ∧ σ.1 81 7 = nI q1 ∧ σ.1 81 8 = nI q2 ∧ σ.1 81 9 = nI most ∧ σ.1 81 10 = bOut S ∧ (∀ k, k < S.1.length → σ.1 82 k = nI (be S.1 k).1 ∧ σ.1 83 k = nI (be S.1 k).2.1 ∧ (0 < k → σ.1 84 k = nI (be S.1 k).2.2.1 ∧ σ.1 85 k = nI (be S.1 k).2.2.2)) ∧ ∃ T, (∀ i, i < 8192 → σ.1 86 i = nI (T i)) ∧ cHash S.1 T
theorem cB_cg {σ σ' : hd_M} {q1 q2 most : Nat} {S : BS} (h : cB σ q1 q2 most S) (hc : ∀ k, 81 ≤ k → k ≤ 86 → σ'.1 k = σ.1 k) : cB σ' q1 q2 most S := by
  unfold cB
  rw [hc 81 (by decide) (by decide), hc 82 (by decide) (by decide), hc 83 (by decide) (by decide), hc 84 (by decide) (by decide), hc 85 (by decide) (by decide), hc 86 (by decide) (by decide)]
  exact h
theorem sX5_slotOf {G : hd_G} {σ : hd_M} {P : Int32 → hd_M → Prop} {es : List BE} {T : Nat → Nat} {x y : Nat} (hl : es.length ≤ 3000) (he : ∀ k, k < es.length → (be es k).1 < 2187 ∧ (be es k).2.1 < 2187) (h2 : ∀ k, k < es.length → σ.1 82 k = nI (be es k).1 ∧ σ.1 83 k = nI (be es k).2.1) (hT : ∀ i, i < 8192 → σ.1 86 i = nI (T i)) (hh : cHash es T) (hx : x < 2187) (hy : y < 2187) (h : ∀ s, s < 8192 → (bHas es x y = true → T s ≠ 0) → (bHas es x y = false → T s = 0 ∧ ∃ d, d < 8192 ∧ s = (hhM x y + d) % 8192 ∧ ∀ d', d' < d → T ((hhM x y + d') % 8192) ≠ 0) → P (nI s) σ) : EVi G mX5_slotOf SH [.ref 81, .int (nI x), .int (nI y)] σ P := by
  have hlt := hhM_lt x y
  refine wX5_slotOf _ _ (fun X hX v1 e1 v2 e2 => ?_)
  rw [e1, e2, hhM_e]
  have key : ∀ i, i ≤ 8192 → (∀ d', d' < i → T ((hhM x y + d') % 8192) ≠ 0 ∧ ¬ ((be es (T ((hhM x y + d') % 8192) - 1)).1 = x ∧ (be es (T ((hhM x y + d') % 8192) - 1)).2.1 = y)) → hd_J G mX5_slotOf X SH (0, 0) 17 [(0, .ref 81), (1, .int (nI x)), (2, .int (nI y)), (3, .int (nI ((hhM x y + i) % 8192))), (4, .int (nI i))] [] σ := by
    refine hd_upto (n := 8192) (fun i => (∀ d', d' < i → T ((hhM x y + d') % 8192) ≠ 0 ∧ ¬ ((be es (T ((hhM x y + d') % 8192) - 1)).1 = x ∧ (be es (T ((hhM x y + d') % 8192) - 1)).2.1 = y)) → hd_J G mX5_slotOf X SH (0, 0) 17 [(0, .ref 81), (1, .int (nI x)), (2, .int (nI y)), (3, .int (nI ((hhM x y + i) % 8192))), (4, .int (nI i))] [] σ) (fun i hi ih inv => ?_)
    have hs : (hhM x y + i) % 8192 < 8192 := Nat.mod_lt _ (by decide)
    refine wX5_slotOf_17 hX _ _ _ _ (c_le 8192 (i : Int) rfl rfl (fun h8 => ?_) (fun h8 => ⟨hd_vn hs (by decide), fun v1 e1 => ?_⟩))
    · have all : ∀ j, j < 8192 → T j ≠ 0 := by
        intro j hj
        have := (inv ((j + 8192 - hhM x y) % 8192) (by have := Nat.mod_lt (j + 8192 - hhM x y) (show 0 < 8192 by decide); omega)).1
        rwa [show (hhM x y + (j + 8192 - hhM x y) % 8192) % 8192 = j by omega] at this
      have c := cntN_full (n := 8192) all
      have := hh.1
      omega
    · rw [nI_clamp (by omega), hT _ hs] at e1
      by_cases h0 : T ((hhM x y + i) % 8192) = 0
      · have e1 : v1 = -1 := by rw [e1, h0]; rfl
        rw [e1]
        refine b_lt (by decide) (h _ hs (fun hb => ?_) (fun _ => ⟨h0, i, by omega, rfl, fun d' hd' => (inv d' hd').1⟩))
        obtain ⟨k, hk, hk1, hk2⟩ := bHas_iff.mp hb
        obtain ⟨d, hd, hd1, hd2⟩ := hh.2.2 k hk
        rw [hk1, hk2] at hd1 hd2
        exfalso
        rcases Nat.lt_trichotomy d i with z | z | z
        · refine (inv d z).2 ?_
          rw [hd1]
          exact ⟨hk1, hk2⟩
        · rw [z, h0] at hd1
          omega
        · exact hd2 i z h0
      · have hle := hh.2.1 _ hs
        rw [nI_sub1 (by omega)] at e1
        rw [e1, nI_clamp (show T ((hhM x y + i) % 8192) - 1 < 2 ^ 31 by omega)]
        have hk : T ((hhM x y + i) % 8192) - 1 < es.length := by omega
        have e2 := h2 _ hk
        have b2 := he _ hk
        refine b_lt' (nI_pos' (by omega)) ⟨hd_vn (by omega) (by decide), ?_⟩
        rw [e2.1, e2.2]
        have nx : ¬ ((be es (T ((hhM x y + i) % 8192) - 1)).1 = x ∧ (be es (T ((hhM x y + i) % 8192) - 1)).2.1 = y) → ∀ v2 : Int32, v2 = (nI ((hhM x y + i) % 8192) + 1) - (nI ((hhM x y + i) % 8192) + 1) / 8192 * 8192 → ∀ v3 : Int32, v3 = nI i + 1 → hd_J G mX5_slotOf X SH (0, 0) 17 [(0, .ref 81), (1, .int (nI x)), (2, .int (nI y)), (3, .int v2), (4, .int v3)] [] σ := by
          intro hne v2 e2 v3 e3
          rw [e2, e3, nI_1, nI_1, show nI ((hhM x y + i) % 8192 + 1) - nI ((hhM x y + i) % 8192 + 1) / 8192 * 8192 = nI (((hhM x y + i) % 8192 + 1) % 8192) from pk_rem (d := 8192) (by omega) (by decide) (by decide), Nat.mod_add_mod]
          refine ih (by omega) (fun d' hd' => ?_)
          by_cases hd2 : d' = i
          · rw [hd2]
            exact ⟨h0, hne⟩
          · exact inv d' (by omega)
        refine c_ne ((be es (T ((hhM x y + i) % 8192) - 1)).1 : Int) (x : Int) rfl rfl (fun z => ⟨by decide, fun v2 e2 v3 e3 => nx (fun q => z (by rw [q.1])) v2 e2 v3 e3⟩) (fun z => ⟨hd_vn (by omega) (by decide), c_ne ((be es (T ((hhM x y + i) % 8192) - 1)).2.1 : Int) (y : Int) rfl rfl (fun z2 => ⟨by decide, fun v2 e2 v3 e3 => nx (fun q => z2 (by rw [q.2])) v2 e2 v3 e3⟩) (fun z2 => h _ hs (fun _ => h0) (fun hb => ?_))⟩)
        rw [bHas_iff.mpr ⟨_, hk, by omega, by omega⟩] at hb
        cases hb
  have k0 := key 0 (by omega) (fun d' hd' => absurd hd' (by omega))
  rw [Nat.add_zero, Nat.mod_eq_of_lt hlt] at k0
  exact k0
theorem sX5_actsUntil {G : hd_G} {σ : hd_M} {P : Int32 → hd_M → Prop} {es : List BE} {k : Nat} (hl : es.length ≤ 3000) (hf : ∀ k, 0 < k → k < es.length → bFr es k < k) (h4 : ∀ k, 0 < k → k < es.length → σ.1 84 k = nI (be es k).2.2.1) (hk : k < es.length) (h : P (nI (bDepth es k)) σ) : EVi G mX5_actsUntil SH [.ref 81, .int (nI k)] σ P := by
  refine wX5_actsUntil _ (fun X hX v1 e1 v2 e2 => ?_)
  have hD := bDepth_le hf k k (Nat.le_refl _) hk
  have key : ∀ (n j a : Nat), j ≤ n → j < es.length → a + bDepth es j = bDepth es k → hd_J G mX5_actsUntil X SH (0, 0) 4 [(0, .ref 81), (2, .int (nI a)), (3, .int (nI j))] [] σ := by
    intro n
    induction n with
    | zero =>
      intro j a hj hj2 ha
      have : j = 0 := by omega
      subst this
      rw [bDepth_0] at ha
      refine wX5_actsUntil_4 hX _ _ (b_le (by decide) ?_)
      rw [show a = bDepth es k by omega]
      exact h
    | succ n ih =>
      intro j a hj hj2 ha
      refine wX5_actsUntil_4 hX _ _ (c_le (j : Int) 0 rfl rfl (fun z => ?_) (fun z => ?_))
      · have : j = 0 := by omega
        subst this
        rw [bDepth_0] at ha
        rw [show a = bDepth es k by omega]
        exact h
      · have j0 : 0 < j := by omega
        have hfj := hf j j0 hj2
        rw [bDepth_s hf j0 hj2] at ha
        refine b_le' (nI_lt (b := 3000) (by omega) (by decide)) (fun v1 e1 => ⟨hd_vn (by omega) (by decide), fun v2 e2 => ?_⟩)
        rw [e1, e2, nI_1, nI_clamp (by omega), h4 j j0 hj2]
        exact ih (bFr es j) (a + 1) (by omega) (by omega) (by omega)
  rw [e1, e2]
  exact key k k 0 (Nat.le_refl _) hk (by omega)
theorem bReach_has {L1 L2 : LW} {most : Nat} {S : BS} {x y i act : Nat} (h : bHas S.1 x y = true) : bReach L1 L2 most S x y i act = S := if_pos h
theorem bReach_full {L1 L2 : LW} {most : Nat} {S : BS} {x y i act : Nat} (h : bHas S.1 x y = false) (hm : S.1.length = most) : bReach L1 L2 most S x y i act = (S.1, some false) := by
  unfold bReach
  rw [if_neg (by rw [h]; decide), if_pos hm]
theorem bReach_new {L1 L2 : LW} {most : Nat} {S : BS} {x y i act : Nat} (h : bHas S.1 x y = false) (hm : ¬ S.1.length = most) : bReach L1 L2 most S x y i act = (S.1 ++ [(x, y, i, act)], if (opM L1 (dg x) && opM L2 (dg y)) = true then some true else none) := by
  unfold bReach
  rw [if_neg (by rw [h]; decide), if_neg hm]
def sw : List Nat := [78, 79, 80, 81, 82, 83, 84, 85, 86]
theorem lq_sw {σ σ' : hd_M} {q : Nat} {L : LW} (h : lq σ q L) (hq : hd_law q) (ha : ag sw σ σ') : lq σ' q L := lq_cg h (fun k h1 h2 => (ha k (by have := law_no hq h1 h2; simp [sw]; omega)).1)
theorem law_lt {q : Nat} (hq : hd_law q) : 0 < q ∧ q < 77 := by
  rcases hq with rfl | rfl | rfl | rfl | rfl | rfl <;> decide
theorem ag_sw {σ σ' : hd_M} (h : ag [78, 79, 80] σ σ') : ag sw σ σ' := ag_mo h (fun k hk => by simp [sw] at hk ⊢; omega)
theorem sX5_reach {G : hd_G} {σ : hd_M} {P : hd_M → Prop} {q1 q2 most : Nat} {L1 L2 : LW} {S : BS} {x y i act : Nat} {x3 x4 : Int32} (hq1 : hd_law q1) (hq2 : hd_law q2) (hl1 : lq σ q1 L1) (hl2 : lq σ q2 L2) (hL1 : LWok L1) (hL2 : LWok L2) (hN : NV σ) (hm : most ≤ 3000) (hs : q1 = q2 → L1 = L2 ∧ x = y) (hB : cB σ q1 q2 most S) (hn : S.2 = none) (hle : S.1.length ≤ most) (hok : bOk most (bReach L1 L2 most S x y i act)) (he : ∀ k, k < S.1.length → (be S.1 k).1 < 2187 ∧ (be S.1 k).2.1 < 2187) (hx : x < 2187) (hy : y < 2187) (h3 : 0 < S.1.length → x3 = nI i ∧ x4 = nI act) (h : ∀ σ', ag sw σ σ' → NV σ' → cB σ' q1 q2 most (bReach L1 L2 most S x y i act) → P σ') : EVv G mX5_reach SH [.ref 81, .int (nI x), .int (nI y), .int x3, .int x4] σ P := by
  obtain ⟨b1, b2, b3, b4, b5, b6, T, hT, hh⟩ := hB
  have l1 := law_lt hq1
  have l2 := law_lt hq2
  refine wX5_reach _ _ _ _ (sX5_slotOf (T := T) (by omega) he (fun k hk => ⟨(b6 k hk).1, (b6 k hk).2.1⟩) hT hh hx hy (fun s hs8 hA hBn v3 e3 => ?_))
  rw [e3]
  refine ⟨hd_vn hs8 (by decide), ?_⟩
  rw [nI_clamp (by omega), hT s hs8]
  have hTs := hh.2.1 s hs8
  cases hb : bHas S.1 x y with
  | true =>
    rw [bReach_has hb] at h
    exact b_eq' (nI_ne0 (by have := hA hb; omega) (by omega)) (h σ ag_rf hN ⟨b1, b2, b3, b4, b5, b6, T, hT, hh⟩)
  | false =>
    obtain ⟨hT0, d, hd, hsd, hdd⟩ := hBn hb
    rw [hT0]
    refine b_eq rfl ?_
    rw [b1, b4]
    refine c_lt (S.1.length : Int) (most : Int) rfl rfl (fun hlt => ?_) (fun hge => fun s20 e20 => ?_)
    · have hlt : S.1.length < most := by omega
      rw [bReach_new hb (by omega)] at h hok
      generalize hes : S.1 ++ [(x, y, i, act)] = es' at h hok
      have hlen : es'.length = S.1.length + 1 := by rw [← hes]; simp
      have old : ∀ k, k < S.1.length → be es' k = be S.1 k := fun k hk => by rw [← hes]; exact getD_app1 hk
      have new : be es' S.1.length = (x, y, i, act) := by rw [← hes]; exact getD_app2
      have cl : (nI S.1.length).toNatClampNeg = S.1.length := nI_clamp (by omega)
      rw [cl]
      refine ⟨hd_vn (by omega) (by decide), fun s4 e4 => ?_⟩
      have f4 : s4.1 81 6 = nI S.1.length := by rw [e4, wI_ne (by decide), b1]
      rw [f4, cl]
      refine ⟨hd_vn (by omega) (by decide), fun s5 e5 => ?_⟩
      have f5 : s5.1 81 6 = nI S.1.length := by rw [e5, wI_ne (by decide), f4]
      rw [f5, cl]
      refine ⟨hd_vn (by omega) (by decide), fun s6 e6 => ?_⟩
      have f6 : s6.1 81 6 = nI S.1.length := by rw [e6, wI_ne (by decide), f5]
      rw [f6, cl]
      refine ⟨hd_vn (by omega) (by decide), fun s7 e7 s8 e8 => ⟨hd_vn hs8 (by decide), fun s9 e9 => ?_⟩⟩
      have f7 : s7.1 81 6 = nI S.1.length := by rw [e7, wI_ne (by decide), f6]
      rw [f7, nI_1] at e8
      have f8 : s8.1 81 6 = nI (S.1.length + 1) := by rw [e8, wI_eq, if_pos rfl]
      rw [f8] at e9
      have a9 : ag sw σ s9 := by
        rw [e9, e8, e7, e6, e5, e4]
        exact ag_wI (ag_wI (ag_wI (ag_wI (ag_wI (ag_wI ag_rf (by decide)) (by decide)) (by decide)) (by decide)) (by decide)) (by decide)
      have n81 : ∀ j, j ≠ 6 → s9.1 81 j = σ.1 81 j := fun j hj => by rw [e9, wI_ne (by decide), e8, wI_eq, if_neg hj, e7, wI_ne (by decide), e6, wI_ne (by decide), e5, wI_ne (by decide), e4, wI_ne (by decide)]
      have B9 : cB s9 q1 q2 most (es', none) := by
        refine ⟨?_, ?_, ?_, ?_, ?_, fun k hk => ?_, up T s (S.1.length + 1), fun j hj => ?_, ?_, fun j hj => ?_, fun k hk => ?_⟩
        · rw [e9, wI_ne (by decide), f8, hlen]
        · rw [n81 7 (by decide), b2]
        · rw [n81 8 (by decide), b3]
        · rw [n81 9 (by decide), b4]
        · rw [n81 10 (by decide), b5]
          unfold bOut
          rw [hn]
        · have hk : k < es'.length := hk
          have w2 : s9.1 82 k = if k = S.1.length then nI x else σ.1 82 k := by rw [e9, wI_ne (by decide), e8, wI_ne (by decide), e7, wI_ne (by decide), e6, wI_ne (by decide), e5, wI_ne (by decide), e4, wI_eq]
          have w3 : s9.1 83 k = if k = S.1.length then nI y else σ.1 83 k := by rw [e9, wI_ne (by decide), e8, wI_ne (by decide), e7, wI_ne (by decide), e6, wI_ne (by decide), e5, wI_eq, e4, wI_ne (by decide)]
          have w4 : s9.1 84 k = if k = S.1.length then x3 else σ.1 84 k := by rw [e9, wI_ne (by decide), e8, wI_ne (by decide), e7, wI_ne (by decide), e6, wI_eq, e5, wI_ne (by decide), e4, wI_ne (by decide)]
          have w5 : s9.1 85 k = if k = S.1.length then x4 else σ.1 85 k := by rw [e9, wI_ne (by decide), e8, wI_ne (by decide), e7, wI_eq, e6, wI_ne (by decide), e5, wI_ne (by decide), e4, wI_ne (by decide)]
          rw [w2, w3, w4, w5]
          by_cases hk2 : k = S.1.length
          · rw [if_pos hk2, if_pos hk2, if_pos hk2, if_pos hk2, hk2]
            show nI x = nI (be es' S.1.length).1 ∧ nI y = nI (be es' S.1.length).2.1 ∧ (0 < S.1.length → x3 = nI (be es' S.1.length).2.2.1 ∧ x4 = nI (be es' S.1.length).2.2.2)
            rw [new]
            exact ⟨rfl, rfl, h3⟩
          · rw [if_neg hk2, if_neg hk2, if_neg hk2, if_neg hk2]
            show σ.1 82 k = nI (be es' k).1 ∧ σ.1 83 k = nI (be es' k).2.1 ∧ (0 < k → σ.1 84 k = nI (be es' k).2.2.1 ∧ σ.1 85 k = nI (be es' k).2.2.2)
            rw [old k (by omega)]
            exact b6 k (by omega)
        · rw [e9, wI_eq, e8, wI_ne (by decide), e7, wI_ne (by decide), e6, wI_ne (by decide), e5, wI_ne (by decide), e4, wI_ne (by decide)]
          unfold up
          by_cases hj2 : j = s
          · rw [if_pos hj2, if_pos hj2]
          · rw [if_neg hj2, if_neg hj2]
            exact hT j hj
        · have := cntN_up T s (S.1.length + 1) 8192
          rw [if_pos hs8] at this
          have := hh.1
          show cntN (up T s (S.1.length + 1)) 8192 ≤ es'.length
          omega
        · show up T s (S.1.length + 1) j ≤ es'.length
          unfold up
          have := hh.2.1 j hj
          split <;> omega
        · have hk : k < es'.length := hk
          have hup : ∀ j, T j ≠ 0 → up T s (S.1.length + 1) j ≠ 0 := fun j hj => by
            unfold up
            split
            · omega
            · exact hj
          by_cases hk2 : k = S.1.length
          · subst hk2
            show ∃ d, d < 8192 ∧ up T s (S.1.length + 1) ((hhM (be es' S.1.length).1 (be es' S.1.length).2.1 + d) % 8192) = S.1.length + 1 ∧ ∀ d', d' < d → up T s (S.1.length + 1) ((hhM (be es' S.1.length).1 (be es' S.1.length).2.1 + d') % 8192) ≠ 0
            rw [new]
            refine ⟨d, hd, ?_, fun d' hd' => hup _ (hdd d' hd')⟩
            unfold up
            rw [if_pos hsd.symm]
          · show ∃ d, d < 8192 ∧ up T s (S.1.length + 1) ((hhM (be es' k).1 (be es' k).2.1 + d) % 8192) = k + 1 ∧ ∀ d', d' < d → up T s (S.1.length + 1) ((hhM (be es' k).1 (be es' k).2.1 + d') % 8192) ≠ 0
            rw [old k (by omega)]
            obtain ⟨dk, hdk, hdk1, hdk2⟩ := hh.2.2 k (by omega)
            refine ⟨dk, hdk, ?_, fun d' hd' => hup _ (hdk2 d' hd')⟩
            unfold up
            rw [if_neg (fun z => by rw [z, hT0] at hdk1; omega)]
            exact hdk1
      have N9 : NV s9 := NV_cg hN (by rw [e9, wI_ne (by decide), e8, wI_ne (by decide), e7, wI_ne (by decide), e6, wI_ne (by decide), e5, wI_ne (by decide), e4, wI_ne (by decide)]) (by rw [e9, wI_ne (by decide), e8, wI_ne (by decide), e7, wI_ne (by decide), e6, wI_ne (by decide), e5, wI_ne (by decide), e4, wI_ne (by decide)])
      have hfr := bOk_fr hok
      have p7 : ∀ s : hd_M, ag [78, 79, 80] s9 s → (s.1 81 7).toNatClampNeg = q1 ∧ (s.1 81 8).toNatClampNeg = q2 ∧ s.1 81 6 = nI (S.1.length + 1) := fun s a => by
        rw [(a 81 (by decide)).1, B9.2.1, B9.2.2.1, B9.1, nI_clamp (by omega), nI_clamp (by omega)]
        exact ⟨rfl, rfl, congrArg nI hlen⟩
      have fin : ∀ s : hd_M, ag [78, 79, 80] s9 s → NV s → opM L1 (dg x) = true → opM L2 (dg y) = true → EVi G mX5_actsUntil SH [.ref 81, .int ((s.1 81 6) - 1)] s (fun y13 s12 => ∀ s14, s14 = hd_wI s12 81 10 y13 → P s14) := by
        intro s a n o1 o2
        rw [(p7 s a).2.2, nI_pred]
        have B := cB_cg B9 (σ' := s) (fun k h1 h2 => (a k (by simp; omega)).1)
        refine sX5_actsUntil (es := es') (by omega) hfr (fun k h0 hk => ((B.2.2.2.2.2.1 k hk).2.2 h0).1) (by omega) (fun s14 e14 => ?_)
        rw [o1, o2] at h
        refine h s14 (by rw [e14]; exact ag_wI (ag_tr a9 (ag_sw a)) (by decide)) (NV_cg n (by rw [e14, wI_ne (by decide)]) (by rw [e14, wI_ne (by decide)])) ?_
        obtain ⟨g1, g2, g3, g4, g5, g6, g7⟩ := B
        have r : ∀ k, k ≠ 81 → s14.1 k = s.1 k := fun k hk => by rw [e14, wI_ne hk]
        have r1 : ∀ j, j ≠ 10 → s14.1 81 j = s.1 81 j := fun j hj => by rw [e14, wI_eq, if_neg hj]
        unfold cB
        rw [r 82 (by decide), r 83 (by decide), r 84 (by decide), r 85 (by decide), r 86 (by decide), r1 6 (by decide), r1 7 (by decide), r1 8 (by decide), r1 9 (by decide)]
        refine ⟨g1, g2, g3, g4, ?_, g6, g7⟩
        rw [e14, wI_eq, if_pos rfl]
        show _ = nI (bDepth es' (es'.length - 1))
        rw [hlen, Nat.add_sub_cancel]
      have p9 := p7 s9 ag_rf
      rw [p9.1]
      refine ⟨by omega, sX4_isOpen hq1 (lq_sw hl1 hq1 a9) hL1 N9 hx (fun s10 a10 n10 => ?_)⟩
      have p10 := p7 s10 a10
      rw [p10.1, p10.2.1]
      have B10 := cB_cg B9 (σ' := s10) (fun k h1 h2 => (a10 k (by simp; omega)).1)
      cases o1 : opM L1 (dg x) with
      | false =>
        rw [o1] at h
        exact b_eq rfl (h s10 (ag_tr a9 (ag_sw a10)) n10 B10)
      | true =>
        refine b_eq' (by decide) ⟨by omega, by omega, ⟨by omega, by omega⟩, fun hqq => ?_, fun hqq => ?_⟩
        · obtain ⟨hLL, hxy⟩ := hs hqq
          exact fin s10 a10 n10 o1 (by rw [← hLL, ← hxy]; exact o1)
        · refine ⟨by omega, sX4_isOpen hq2 (lq_sw hl2 hq2 (ag_tr a9 (ag_sw a10))) hL2 n10 hy (fun s15 a15 n15 => ?_)⟩
          have a05 := ag_tr a10 a15
          cases o2 : opM L2 (dg y) with
          | false =>
            rw [o1, o2] at h
            exact b_eq rfl (h s15 (ag_tr a9 (ag_sw a05)) n15 (cB_cg B9 (fun k h1 h2 => (a05 k (by simp; omega)).1)))
          | true => exact b_eq' (by decide) (fin s15 a05 n15 o1 o2)
    · rw [bReach_full hb (by omega)] at h
      refine h s20 (by rw [e20]; exact ag_wI ag_rf (by decide)) (NV_cg hN (by rw [e20, wI_ne (by decide)]) (by rw [e20, wI_ne (by decide)])) ?_
      have r : ∀ k, k ≠ 81 → s20.1 k = σ.1 k := fun k hk => by rw [e20, wI_ne hk]
      have r1 : ∀ j, j ≠ 10 → s20.1 81 j = σ.1 81 j := fun j hj => by rw [e20, wI_eq, if_neg hj]
      unfold cB
      rw [r 82 (by decide), r 83 (by decide), r 84 (by decide), r 85 (by decide), r 86 (by decide), r1 6 (by decide), r1 7 (by decide), r1 8 (by decide), r1 9 (by decide)]
      exact ⟨b1, b2, b3, b4, by rw [e20, wI_eq, if_pos rfl]; rfl, b6, T, hT, hh⟩
