/-! measure -/
theorem bit_g {m t : Nat} (hm : m < 2 ^ 31) (ht : t < 10) : (nI m >>> (nI t &&& 31)) &&& 1 = nI (m / 2 ^ t % 2) := by
  have hs : ∀ t, t < 10 → ((nI t &&& 31 : Int32).toBitVec.smod 32).toNat = t := by decide +kernel
  rw [pk_shrN hm _ t (hs t ht)]
  exact pk_andN (by have := Nat.div_le_self m (2 ^ t); omega) 1 rfl
theorem shl_g : ∀ t, t < 11 → (1 : Int32) <<< (nI t &&& 31) = nI (2 ^ t) := by decide +kernel
def smM (ho : List Nat) (m : Nat) : Nat → Nat
  | 0 => 0
  | k + 1 => smM ho m k + m / 2 ^ k % 2 * ho.getD k 0
theorem smM_le {ho : List Nat} {m : Nat} (h : ∀ x ∈ ho, x ≤ 99) : ∀ k, smM ho m k ≤ 99 * k
  | 0 => Nat.le_refl _
  | k + 1 => by
    have ih := smM_le (m := m) h k
    have hg : ho.getD k 0 ≤ 99 := by
      rw [List.getD_eq_getElem?_getD]
      by_cases hk : k < ho.length
      · rw [List.getElem?_eq_getElem hk]
        exact h _ (List.getElem_mem hk)
      · rw [List.getElem?_eq_none (by omega)]
        exact Nat.zero_le _
    unfold smM
    rcases (by omega : m / 2 ^ k % 2 = 0 ∨ m / 2 ^ k % 2 = 1) with z | z <;> rw [z] <;> omega
theorem smM_0 (ho : List Nat) : ∀ k, smM ho 0 k = 0
  | 0 => rfl
  | k + 1 => by
    unfold smM
    rw [smM_0 ho k, Nat.zero_div]
    simp
def msM (ho : List Nat) (all : Nat) (i : Int32) : Nat → Nat → Nat → Int32
  | 0, _, c => if i = -1 then nI c else -1
  | n + 1, s, c => if smM ho s ho.length = all then (if nI c = i then nI s else msM ho all i n (s + 1) (c + 1)) else msM ho all i n (s + 1) c
theorem sX1_sizeOfHollows {G : hd_G} {σ : hd_M} {P : Int32 → hd_M → Prop} {D : MD} {m : Nat} (hD : cDesk σ 2 D) (hd : dok D) (hm : m < 1024) (h : P (nI (smM (d_ho D) m (d_ho D).length)) σ) : EVi G mX1_sizeOfHollows SH [.ref 2, .int (nI m)] σ P := by
  have h10 := hd.2.2.2.2.2.2.2.2.2.2.1
  have h99 := hd.2.2.2.2.2.2.2.2.2.2.2
  refine wX1_sizeOfHollows (Or.inl rfl) _ (fun X hX v1 e1 v2 e2 => ?_)
  have key : ∀ k, k ≤ (d_ho D).length → hd_J G mX1_sizeOfHollows X SH (0, 0) 4 [(0, .ref 2), (1, .int (nI m)), (2, .int (nI (smM (d_ho D) m k))), (3, .int (nI k))] [] σ := by
    refine hd_upto (n := (d_ho D).length) (fun k => hd_J G mX1_sizeOfHollows X SH (0, 0) 4 [(0, .ref 2), (1, .int (nI m)), (2, .int (nI (smM (d_ho D) m k))), (3, .int (nI k))] [] σ) (fun k hk ih => ?_)
    refine wX1_sizeOfHollows_4 (Or.inl rfl) hX _ _ _ ?_
    rw [hD.2.2.2.2.2.2.2.2.2.2.1]
    refine c_le ((d_ho D).length : Int) (k : Int) rfl rfl (fun z => ?_) (fun z => b_le' (nI_lt (b := 10) (by omega) (by decide)) ⟨hd_vn (by omega) (by decide), fun v1 e1 v2 e2 => ?_⟩)
    · rw [show k = (d_ho D).length by omega]
      exact h
    · have ih := ih (by omega)
      have hk : k < (d_ho D).length := by omega
      rw [e1, e2, bit_g (by omega) (by omega), nI_clamp (by omega), show σ.1 (2 + 6) k = nI ((d_ho D).getD k 0) from hD.2.2.2.2.2.2.2.2.2.2.2 k hk, pk_mul, nI_add, nI_1]
      exact ih
  rw [e1, e2]
  exact key 0 (Nat.zero_le _)
theorem sX7_measure {G : hd_G} {σ : hd_M} {P : Int32 → hd_M → Prop} {D : MD} {a : Nat} (hD : cDesk σ 2 D) (hd : dok D) (ha : 1 ≤ a ∧ a ≤ 999) (i : Int32) (hi : (-1) ≤ i) (h : P (msM (d_ho D) a i (2 ^ (d_ho D).length - 1) 1 0) σ) : EVi G mX7_measure SH [.ref 0, .int (nI a), .int i] σ P := by
  have h10 := hd.2.2.2.2.2.2.2.2.2.2.1
  have h99 := hd.2.2.2.2.2.2.2.2.2.2.2
  have h2 : 2 ^ (d_ho D).length ≤ 1024 := (Nat.pow_le_pow_right (n := 2) (by decide) h10 : 2 ^ (d_ho D).length ≤ 2 ^ 10)
  have h1 : 1 ≤ 2 ^ (d_ho D).length := Nat.one_le_two_pow
  refine wX7_measure _ _ (fun X hX => b_lt' (nI_le (a := 1) ha.1 (by omega)) (b_lt' (nI_le (b := 999) ha.2 (by decide)) (b_le hi (fun v1 e1 v2 e2 => ?_))))
  have key : ∀ (n s c : Nat), s + n = 2 ^ (d_ho D).length → c ≤ s → P (msM (d_ho D) a i n s c) σ → hd_J G mX7_measure X SH (0, 0) 24 [(0, .ref 0), (1, .int (nI a)), (2, .int i), (3, .int (nI c)), (4, .int (nI s))] [] σ := by
    intro n
    induction n with
    | zero =>
      intro s c hs hc h
      refine wX7_measure_24 hX _ _ _ _ ?_
      rw [hD.2.2.2.2.2.2.2.2.2.2.1, shl_g _ (by omega)]
      refine b_le (nI_le (by omega) (by omega)) ?_
      unfold msM at h
      refine ⟨fun z => ?_, fun z => ?_⟩
      · rwa [if_neg z] at h
      · rwa [if_pos z] at h
    | succ n ih =>
      intro s c hs hc h
      refine wX7_measure_24 hX _ _ _ _ ?_
      rw [hD.2.2.2.2.2.2.2.2.2.2.1, shl_g _ (by omega)]
      refine b_le' (nI_lt (by omega) (by omega)) (sX1_sizeOfHollows hD hd (by omega) ?_)
      have hle := smM_le (ho := d_ho D) (m := s) (fun x hx => (h99 x hx).2) (d_ho D).length
      unfold msM at h
      refine c_ne (smM (d_ho D) s (d_ho D).length : Int) (a : Int) rfl rfl (fun z => fun v3 e3 => ?_) (fun z => ⟨fun z2 => fun v4 e4 v5 e5 => ?_, fun z2 => ?_⟩)
      · rw [if_neg (by omega)] at h
        rw [e3, nI_1]
        exact ih (s + 1) c (by omega) (by omega) h
      · rw [if_pos (by omega), if_neg z2] at h
        rw [e4, e5, nI_1, nI_1]
        exact ih (s + 1) (c + 1) (by omega) (by omega) h
      · rwa [if_pos (by omega), if_pos z2] at h
  rw [e1, e2]
  exact key _ 1 0 (by omega) (by omega) h
theorem sX8_measure {G : hd_G} {σ : hd_M} {P : Int32 → hd_M → Prop} {D : MD} {a : Nat} (hD : rDesk σ 95 D) (hd : dok D) (ha : 1 ≤ a ∧ a ≤ 999) (i : Int32) (hi : (-1) ≤ i) (h : P (msM (d_ho D) a i (2 ^ (d_ho D).length) 0 0) σ) : EVi G mX8_measure SH [.ref 94, .int (nI a), .int i] σ P := by
  have h10 := hd.2.2.2.2.2.2.2.2.2.2.1
  have h99 := hd.2.2.2.2.2.2.2.2.2.2.2
  have h2 : 2 ^ (d_ho D).length ≤ 1024 := (Nat.pow_le_pow_right (n := 2) (by decide) h10 : 2 ^ (d_ho D).length ≤ 2 ^ 10)
  have q5 : σ.1 95 5 = nI (d_ho D).length := hD.2.2.2.2.2.2.2.2.2.2.2.1
  refine wX8_measure _ _ (fun X hX => sX8_isInG _ _ _ ?_)
  rw [decide_eq_true ⟨nI_le (a := 1) ha.1 (by omega), nI_le (b := 999) ha.2 (by decide)⟩]
  refine b_eq' (by decide) (b_le hi (fun v1 e1 v2 e2 => ?_))
  have key : ∀ (n s c : Nat), s + n = 2 ^ (d_ho D).length → c ≤ s → P (msM (d_ho D) a i n s c) σ → hd_J G mX8_measure X SH (0, 0) 23 [(0, .ref 94), (1, .int (nI a)), (2, .int i), (3, .int (nI c)), (4, .int (nI s))] [] σ := by
    intro n
    induction n with
    | zero =>
      intro s c hs hc h
      refine wX8_measure_23 hX _ _ _ _ ⟨pk_in 5 334 (by decide), ?_⟩
      rw [show (5 : Int32).toNatClampNeg = 5 from rfl, q5, shl_g _ (by omega)]
      refine b_le (nI_le (by omega) (by omega)) ?_
      unfold msM at h
      refine ⟨fun z => ?_, fun z => ?_⟩
      · rwa [if_neg z] at h
      · rwa [if_pos z] at h
    | succ n ih =>
      intro s c hs hc h
      refine wX8_measure_23 hX _ _ _ _ ⟨pk_in 5 334 (by decide), ?_⟩
      rw [show (5 : Int32).toNatClampNeg = 5 from rfl, q5, shl_g _ (by omega)]
      refine b_le' (nI_lt (by omega) (by omega)) (fun v1 e1 v2 e2 => ?_)
      have hle := smM_le (ho := d_ho D) (m := s) (fun x hx => (h99 x hx).2) (d_ho D).length
      have inn : ∀ k, k ≤ (d_ho D).length → hd_J G mX8_measure X SH (0, 0) 42 [(0, .ref 94), (1, .int (nI a)), (2, .int i), (3, .int (nI c)), (4, .int (nI s)), (5, .int (nI (smM (d_ho D) s k))), (6, .int (nI k))] [] σ := by
        refine hd_upto (n := (d_ho D).length) (fun k => hd_J G mX8_measure X SH (0, 0) 42 [(0, .ref 94), (1, .int (nI a)), (2, .int i), (3, .int (nI c)), (4, .int (nI s)), (5, .int (nI (smM (d_ho D) s k))), (6, .int (nI k))] [] σ) (fun k hk ihk => ?_)
        refine wX8_measure_42 hX _ _ _ _ _ _ ⟨pk_in 5 334 (by decide), ?_⟩
        rw [show (5 : Int32).toNatClampNeg = 5 from rfl, q5]
        refine c_le ((d_ho D).length : Int) (k : Int) rfl rfl (fun z => ?_) (fun z => wX8_has _ _ ?_)
        · have ek : k = (d_ho D).length := by omega
          subst ek
          unfold msM at h
          refine c_eq (smM (d_ho D) s (d_ho D).length : Int) (a : Int) rfl rfl (fun z => ⟨fun z2 => fun v4 e4 v5 e5 => ?_, fun z2 => ?_⟩) (fun z => fun v3 e3 => ?_)
          · rw [if_pos (by omega), if_neg z2] at h
            rw [e4, e5, nI_1, nI_1]
            exact ih (s + 1) (c + 1) (by omega) (by omega) h
          · rwa [if_pos (by omega), if_pos z2] at h
          · rw [if_neg (by omega)] at h
            rw [e3, nI_1]
            exact ih (s + 1) c (by omega) (by omega) h
        · have hk : k < (d_ho D).length := by omega
          have ihk := ihk hk
          have es : smM (d_ho D) s (k + 1) = smM (d_ho D) s k + s / 2 ^ k % 2 * (d_ho D).getD k 0 := rfl
          rw [bit_g (by omega) (by omega)]
          refine c_ne ((s / 2 ^ k % 2 : Nat) : Int) 1 rfl rfl (fun zb => ⟨Or.inl rfl, b_eq rfl (fun v6 e6 v7 e7 => ?_)⟩) (fun zb => ⟨Or.inr rfl, b_eq' (by decide) ?_⟩) (by omega) (by omega)
          · rw [es, show s / 2 ^ k % 2 = 0 by omega, Nat.zero_mul, Nat.add_zero] at ihk
            rw [e6, e7, nI_1, show nI (smM (d_ho D) s k) + 0 = nI (smM (d_ho D) s k) from nI_add _ 0]
            exact ihk
          · rw [es, show s / 2 ^ k % 2 = 1 by omega, Nat.one_mul] at ihk
            rw [show (54 : Int32) + nI k = nI (54 + k) from nI_add 54 k, nI_clamp (by omega), hD.2.2.2.2.2.2.2.2.2.2.2.2 k hk]
            refine ⟨hd_vn (by omega) (by decide), fun v8 e8 v9 e9 => ?_⟩
            rw [e8, e9, nI_1, nI_add]
            exact ihk
      rw [e1, e2]
      exact inn 0 (Nat.zero_le _)
  rw [e1, e2]
  exact key _ 0 0 (by omega) (by omega) h
theorem jMeasure {G : hd_G} {σ : hd_M} {M : MM} {Q : Int32 → Int32 → hd_M → Prop} (hR : REL σ M) (x y : Int32) (h : ∀ y s M', REL s M' → Q y y s) : EVi G mX7_measure SH [.ref 0, .int x, .int y] σ (fun y1 s1 => EVi G mX8_measure SH [.ref 94, .int x, .int y] s1 (fun y' s2 => Q y1 y' s2)) := by
  have hd := hR.2.2.2.1
  have hcd := hR.1.2.2.1
  have hrd := hR.2.1.2.2.1
  by_cases hy : (-1) ≤ y
  · by_cases hx : (1 : Int32) ≤ x ∧ x ≤ 999
    · obtain ⟨a, a1, a2, rfl⟩ := i_rng (x := x) 1 999 hx.1 hx.2
      refine sX7_measure hcd hd ⟨a1, a2⟩ y hy (sX8_measure hrd hd ⟨a1, a2⟩ y hy ?_)
      have h1 : 1 ≤ 2 ^ (d_ho M.2.2.1).length := Nat.one_le_two_pow
      generalize hn : 2 ^ (d_ho M.2.2.1).length - 1 = n
      rw [show 2 ^ (d_ho M.2.2.1).length = n + 1 by omega]
      have e : msM (d_ho M.2.2.1) a y (n + 1) 0 0 = msM (d_ho M.2.2.1) a y n 1 0 := by
        show (if smM (d_ho M.2.2.1) 0 (d_ho M.2.2.1).length = a then _ else _) = _
        rw [smM_0, if_neg (by omega)]
      rw [e]
      exact h _ _ _ hR
    · have no : EVi G mX8_measure SH [.ref 94, .int x, .int y] σ (fun y' s2 => Q (-1) y' s2) := by
        refine wX8_measure _ _ (fun X hX => sX8_isInG _ _ _ ?_)
        rw [decide_eq_false hx]
        exact b_eq (by decide) (h _ _ _ hR)
      exact wX7_measure _ _ (fun X hX => ⟨fun _ => no, fun h1 => ⟨fun _ => no, fun h2 => absurd ⟨h1, h2⟩ hx⟩⟩)
  · have hy := Int32.not_le.mp hy
    have no : EVi G mX8_measure SH [.ref 94, .int x, .int y] σ (fun y' s2 => Q (-1) y' s2) :=
      wX8_measure _ _ (fun X hX => sX8_isInG _ _ _ ⟨fun _ => h _ _ _ hR, fun _ => b_le' hy (h _ _ _ hR)⟩)
    exact wX7_measure _ _ (fun X hX => ⟨fun _ => no, fun h1 => ⟨fun _ => no, fun h2 => b_le' hy no⟩⟩)
/-! what was tried -/
def bhM (L : LW) (sz : Nat → Nat) : List (Nat × Int) → Nat → Option Nat
  | [], v => some v
  | t :: r, v => if haM L sz v t.1 = zI t.2 then bhM L sz r (mkM L sz v t.1) else none
theorem bhM_lt {L : LW} {sz : Nat → Nat} (hL : LWok L) (hs : ∀ p, p < 6 → sz p ≤ 3) : ∀ {l : List (Nat × Int)} {v w : Nat}, (∀ t ∈ l, t.1 < 15) → v < 2187 → bhM L sz l v = some w → w < 2187
  | [], v, w, _, hv, h => by
    cases h
    exact hv
  | t :: r, v, w, hl, hv, h => by
    unfold bhM at h
    split at h
    · exact bhM_lt hL hs (fun t ht => hl t (List.mem_cons_of_mem _ ht)) (mkM_lt hL hs hv (hl t List.mem_cons_self)) h
    · cases h
theorem sX7_answerTo {G : hd_G} {σ : hd_M} {P : Int32 → hd_M → Prop} {q act v : Nat} {L : LW} {sz : Nat → Nat} (hq : hd_law q) (hl : lq σ q L) (hL : LWok L) (hS : SZ σ sz) (hN : NV σ) (hv : v < 2187) (ha : act < 15) (h : ∀ σ', ag [78, 79, 80] σ σ' → NV σ' → P (haM L sz v act) σ') : EVi G mX7_answerTo SH [.ref 0, .ref q, .int (nI act), .int (nI v)] σ P := by
  refine wX7_answerTo _ _ _ (sX4_standingAfter hq hl hL hS hN hv ha (fun s1 a1 n1 v3 e3 => ?_))
  rw [e3]
  unfold haM at h
  cases hc : afM L sz v act with
  | none =>
    rw [hc] at h
    exact b_ne' rfl (h s1 a1 n1)
  | some w =>
    rw [hc] at h
    have hw := afM_lt hL (fun p hp => (hS p hp).2) hv ha hc
    refine c_ne (w : Int) (-1) rfl rfl (fun _ => ?_) (fun z => by omega)
    exact sX4_heardOf hq (lq_ag hl hq a1) hL n1 hv hw ha (fun s2 a2 n2 => h s2 (ag_tr a1 a2) n2)
theorem lq_law {σ : hd_M} {T t : Nat} {laws : Nat → LW} (h : cLaws σ T laws) (ht : t < T) : lq σ (17 + 9 * t) (laws t) := h t ht
theorem cDesk_R {σ σ' : hd_M} {D : MD} (h : cDesk σ 2 D) (ha : ag [78, 79, 80] σ σ') : cDesk σ' 2 D := cDesk_cg h (fun k a b => (ha k (by simp; omega)).1)
theorem sX7_behind {G : hd_G} {σ : hd_M} {P : Int32 → hd_M → Prop} {t : Nat} {D : MD} {laws : Nat → LW} (hD : cDesk σ 2 D) (hd : dok D) (hl : cLaws σ (d_T D) laws) (hL : okL (d_T D) laws) (hN : NV σ) (ht : t < 4) (h : ∀ σ', ag [78, 79, 80] σ σ' → NV σ' → P (oI (if t < d_T D then bhM (laws t) (d_sz D) (d_tr D) 0 else none)) σ') : EVi G mX7_standingBehindTrials SH [.ref 0, .int (nI t)] σ P := by
  have hT4 := hd.2.2.2.2.1
  have h12 := hd.2.2.2.2.2.2.2.2.1
  have h15 := hd.2.2.2.2.2.2.2.2.2.1
  refine wX7_standingBehindTrials _ (fun X hX => sX7_isText hD.2.2.2.2.1 hT4 _ ?_)
  by_cases htT : t < d_T D
  · rw [decide_eq_true ⟨nI_pos' (by omega), nI_lt htT (by omega)⟩]
    rw [if_pos htT] at h
    refine b_ne (by decide) (fun v3 e3 v4 e4 => ?_)
    have key : ∀ (l : List (Nat × Int)) (i v : Nat) (s : hd_M), (d_tr D).drop i = l → i ≤ (d_tr D).length → v < 2187 → ag [78, 79, 80] σ s → NV s → (∀ σ', ag [78, 79, 80] σ σ' → NV σ' → P (oI (bhM (laws t) (d_sz D) l v)) σ') → hd_J G mX7_standingBehindTrials X SH (0, 0) 14 [(0, .ref 0), (1, .int (nI t)), (2, .int (nI v)), (3, .int (nI i))] [] s := by
      intro l
      induction l with
      | nil =>
        intro i v s hi hle hv a n h
        have hi2 : (d_tr D).length ≤ i := List.drop_eq_nil_iff.mp hi
        have Ds := cDesk_R hD a
        refine wX7_standingBehindTrials_14 hX _ _ _ ?_
        rw [Ds.2.2.2.2.2.2.2.2.1]
        exact b_le (nI_le hi2 (by omega)) (h s a n)
      | cons d r ih =>
        intro i v s hi hle hv a n h
        have hi2 : i < (d_tr D).length := by
          rcases Nat.lt_or_ge i (d_tr D).length with z | z
          · exact z
          · rw [List.drop_eq_nil_iff.mpr z] at hi
            cases hi
        have hdr : (d_tr D).getD i (0, 0) = d ∧ (d_tr D).drop (i + 1) = r := by
          rw [List.drop_eq_getElem_cons hi2] at hi
          cases hi
          exact ⟨by simp [hi2], rfl⟩
        have hdm : d ∈ d_tr D := by rw [← hdr.1]; exact getD_mem hi2
        have hd15 := h15 d hdm
        have Ds := cDesk_R hD a
        have e6 := Ds.2.2.2.2.2.2.2.2.2.1 i hi2
        rw [hdr.1] at e6
        refine wX7_standingBehindTrials_14 hX _ _ _ ?_
        rw [Ds.2.2.2.2.2.2.2.2.1]
        refine b_le' (nI_lt hi2 (by omega)) (b_le' (nI_lt (b := 12) (by omega) (by decide)) ⟨hd_vn (by omega) (by decide), fun v1 e1 => ?_⟩)
        rw [nI_clamp (show i < 2 ^ 31 by omega), show s.1 6 i = nI d.1 from e6.1] at e1
        rw [e1, nI_clamp (show t < 2 ^ 31 by omega), nI_clamp (show i < 2 ^ 31 by omega), lawRef ht]
        refine ⟨hd_vn ht (by decide), by omega, ?_⟩
        have ls : lq s (17 + 9 * t) (laws t) := lq_ag (hl t htT) (law_t ht) a
        refine sX7_answerTo (law_t ht) ls (hL t htT) (SZ_ag (cDesk_SZ hD hd) a) n hv hd15.1 (fun s2 a2 n2 => ⟨hd_vn (by omega) (by decide), ?_⟩)
        have a02 := ag_tr a a2
        have D2 := cDesk_R hD a02
        have e7 := (D2.2.2.2.2.2.2.2.2.2.1 i hi2).2
        rw [hdr.1] at e7
        rw [show s2.1 7 i = zI d.2 from e7]
        unfold bhM at h
        refine ⟨fun z => ⟨hd_vn ht (by decide), by omega, ?_⟩, fun z => ?_⟩
        · rw [if_pos z] at h
          refine sX4_standingOrSame (law_t ht) (lq_ag (hl t htT) (law_t ht) a02) (hL t htT) (SZ_ag (cDesk_SZ hD hd) a02) n2 hv hd15.1 (fun s4 a4 n4 v6 e6 v7 e7 => ?_)
          rw [e6, e7, nI_1]
          exact ih (i + 1) _ s4 hdr.2 (by omega) (mkM_lt (hL t htT) (dok_sz hd) hv hd15.1) (ag_tr a02 a4) n4 h
        · rw [if_neg z] at h
          exact h s2 a02 n2
    rw [e3, e4]
    exact key _ 0 0 σ rfl (Nat.zero_le _) (by decide) ag_rf hN h
  · rw [decide_eq_false (fun z => htT ((nI_ltI (by omega) (by omega)).mp z.2))]
    rw [if_neg htT] at h
    exact b_ne' (by decide) (h σ ag_rf hN)
theorem sX8_isFit {G : hd_G} {σ : hd_M} {P : Int32 → hd_M → Prop} {t : Nat} {D : MD} {laws : Nat → LW} (hD : rDesk σ 95 D) (hd : dok D) (hT : TL σ (nI t) (laws t)) (h : ∀ σ', agR σ σ' → (∀ v, bhM (laws t) (d_sz D) (d_tr D) 0 = some v → RS σ' (dg v)) → P (zI (cl_bit (bhM (laws t) (d_sz D) (d_tr D) 0).isSome)) σ') : EVi G mX8_isFit SH [.ref 94, .int (nI t)] σ P := by
  have h12 := hd.2.2.2.2.2.2.2.2.1
  have h15 := hd.2.2.2.2.2.2.2.2.2.1
  refine wX8_isFit _ (fun X hX => sX8_standFirst (fun s1 a1 r1 v2 e2 => ?_))
  obtain ⟨K, cd, t1, t2, t3, t4⟩ := hT
  rw [← t3] at t4
  have key : ∀ (l : List (Nat × Int)) (i v : Nat) (s : hd_M), (d_tr D).drop i = l → i ≤ (d_tr D).length → v < 2187 → agR σ s → RS s (dg v) → (∀ σ', agR σ σ' → (∀ w, bhM (laws t) (d_sz D) l v = some w → RS σ' (dg w)) → P (zI (cl_bit (bhM (laws t) (d_sz D) l v).isSome)) σ') → hd_J G mX8_isFit X SH (0, 0) 6 [(0, .ref 94), (1, .int (nI t)), (2, .int (nI i))] [] s := by
    intro l
    induction l with
    | nil =>
      intro i v s hi hle hv a r h
      have hi2 : (d_tr D).length ≤ i := List.drop_eq_nil_iff.mp hi
      have Ds := rDesk_cg hD (agR_c a (by decide))
      refine wX8_isFit_6 hX _ _ ⟨pk_in 4 334 (by decide), ?_⟩
      rw [show (4 : Int32).toNatClampNeg = 4 from rfl, Ds.2.2.2.2.2.2.2.2.2.1]
      exact b_le (nI_le hi2 (by omega)) ⟨Or.inr rfl, h s a (fun w hw => by cases hw; exact r)⟩
    | cons d r0 ih =>
      intro i v s hi hle hv a r h
      have hi2 : i < (d_tr D).length := by
        rcases Nat.lt_or_ge i (d_tr D).length with z | z
        · exact z
        · rw [List.drop_eq_nil_iff.mpr z] at hi
          cases hi
      have hdr : (d_tr D).getD i (0, 0) = d ∧ (d_tr D).drop (i + 1) = r0 := by
        rw [List.drop_eq_getElem_cons hi2] at hi
        cases hi
        exact ⟨by simp [hi2], rfl⟩
      have hdm : d ∈ d_tr D := by rw [← hdr.1]; exact getD_mem hi2
      have hd15 := h15 d hdm
      have Ds := rDesk_cg hD (agR_c a (by decide))
      have e6 := Ds.2.2.2.2.2.2.2.2.2.2.1 i hi2
      rw [hdr.1] at e6
      refine wX8_isFit_6 hX _ _ ⟨pk_in 4 334 (by decide), ?_⟩
      rw [show (4 : Int32).toNatClampNeg = 4 from rfl, Ds.2.2.2.2.2.2.2.2.2.1, show (30 : Int32) + 2 * nI i = nI (30 + 2 * i) by rw [show (30 : Int32) = nI 30 from rfl, show (2 : Int32) = nI 2 from rfl, pk_mul, nI_add], nI_1, nI_clamp (show 30 + 2 * i < 2 ^ 31 by omega), nI_clamp (show 30 + 2 * i + 1 < 2 ^ 31 by omega), e6.1]
      refine b_le' (nI_lt hi2 (by omega)) ⟨hd_vn (by omega) (by decide), ?_⟩
      refine sX8_doesV (TX_R t1 a) t4 t2 (rDesk_SR Ds hd) hv r hd15.1 (fun s2 a2 r2 => ⟨hd_vn (by omega) (by decide), ?_⟩)
      rw [t3] at r2 ⊢
      have D2 := rDesk_cg Ds (agR_c a2 (by decide))
      have e7 := (D2.2.2.2.2.2.2.2.2.2.2.1 i hi2).2
      rw [hdr.1] at e7
      rw [e7]
      unfold bhM at h
      refine ⟨fun z => fun v3 e3 => ?_, fun z => ⟨Or.inl rfl, ?_⟩⟩
      · rw [if_pos z] at h
        rw [e3, nI_1]
        exact ih (i + 1) _ s2 hdr.2 (by omega) (mkM_lt (by rw [← t3]; exact t4) (dok_sz hd) hv hd15.1) (agR_tr a a2) r2 h
      · rw [if_neg z] at h
        exact h s2 (agR_tr a a2) (fun w hw => by cases hw)
  rw [e2]
  exact key _ 0 0 s1 rfl (Nat.zero_le _) (by decide) a1 r1 h
/-- which texts fit -/
def ftM (D : MD) (laws : Nat → LW) (t : Nat) : Option Nat := if t < d_T D then bhM (laws t) (d_sz D) (d_tr D) 0 else none
def fmM (f : Nat → Bool) : Nat → Nat
  | 0 => 0
  | t + 1 => fmM f t + (if f t = true then 2 ^ t else 0)
theorem fmM_lt (f : Nat → Bool) : ∀ t, fmM f t < 2 ^ t
  | 0 => by show 0 < 2 ^ 0; decide
  | t + 1 => by
    have := fmM_lt f t
    unfold fmM
    rw [Nat.pow_succ]
    split <;> omega
theorem or_i : ∀ t, t < 4 → ∀ x, x < 2 ^ t → nI x ||| ((1 : Int32) <<< (nI t &&& 31)) = nI (x + 2 ^ t) := by decide +kernel
theorem fmM_T {f : Nat → Bool} {T : Nat} (h : ∀ t, T ≤ t → f t = false) : ∀ k, fmM f (T + k) = fmM f T
  | 0 => rfl
  | k + 1 => by
    show fmM f (T + k) + (if f (T + k) = true then 2 ^ (T + k) else 0) = fmM f T
    rw [fmM_T h k, h (T + k) (by omega)]
    rfl
theorem ftM_ge {D : MD} {laws : Nat → LW} {t : Nat} (h : d_T D ≤ t) : ftM D laws t = none := if_neg (by omega)
theorem oI_n (o : Option Nat) (h : ∀ w, o = some w → w < 2187) : oI o = -1 ↔ o = none := by
  cases o with
  | none => exact ⟨fun _ => rfl, fun _ => rfl⟩
  | some w =>
    refine ⟨fun z => ?_, fun z => by cases z⟩
    have z : nI w = -1 := z
    have z2 := congrArg Int32.toInt z
    rw [nI_toInt (by have := h w rfl; omega)] at z2
    have e1 : (-1 : Int32).toInt = -1 := rfl
    omega
theorem ftM_lt {D : MD} {laws : Nat → LW} (hd : dok D) (hL : okL (d_T D) laws) (t w : Nat) (h : ftM D laws t = some w) : w < 2187 := by
  unfold ftM at h
  split at h
  · exact bhM_lt (hL t (by assumption)) (dok_sz hd) (fun x hx => (hd.2.2.2.2.2.2.2.2.2.1 x hx).1) (by decide) h
  · cases h
def ffM (D : MD) (laws : Nat → LW) (t : Nat) : Bool := (ftM D laws t).isSome
theorem ffM_T {D : MD} {laws : Nat → LW} (h4 : d_T D ≤ 4) : fmM (ffM D laws) 4 = fmM (ffM D laws) (d_T D) := by
  have := fmM_T (f := ffM D laws) (T := d_T D) (fun t ht => by unfold ffM; rw [ftM_ge ht]; rfl) (4 - d_T D)
  rwa [show d_T D + (4 - d_T D) = 4 by omega] at this
theorem sX7_fits {G : hd_G} {σ : hd_M} {P : Int32 → hd_M → Prop} {D : MD} {laws : Nat → LW} (hD : cDesk σ 2 D) (hd : dok D) (hl : cLaws σ (d_T D) laws) (hL : okL (d_T D) laws) (hN : NV σ) (h : ∀ σ', ag [78, 79, 80] σ σ' → NV σ' → P (nI (fmM (ffM D laws) 4)) σ') : EVi G mX7_fits SH [.ref 0] σ P := by
  have hT4 := hd.2.2.2.2.1
  refine wX7_fits (fun X hX v1 e1 v2 e2 => ?_)
  have key : ∀ t, t ≤ 4 → ∀ s, ag [78, 79, 80] σ s → NV s → hd_J G mX7_fits X SH (0, 0) 4 [(0, .ref 0), (1, .int (nI (fmM (ffM D laws) t))), (2, .int (nI t))] [] s := by
    refine hd_upto (n := 4) (fun t => ∀ s, ag [78, 79, 80] σ s → NV s → hd_J G mX7_fits X SH (0, 0) 4 [(0, .ref 0), (1, .int (nI (fmM (ffM D laws) t))), (2, .int (nI t))] [] s) (fun t ht ih s a n => ?_)
    refine wX7_fits_4 hX _ _ (c_le 4 (t : Int) rfl rfl (fun z => ?_) (fun z => ?_))
    · have : t = 4 := by omega
      subst this
      exact h s a n
    · have ht4 : t < 4 := by omega
      have lw : cLaws s (d_T D) laws := cLaws_cg hl hT4 (fun k h1 h2 => (a k (by simp; omega)).1)
      refine sX7_behind (cDesk_R hD a) hd lw hL n ht4 (fun s1 a1 n1 => ?_)
      have ih := ih ht4 s1 (ag_tr a a1) n1
      have eo := oI_n (ftM D laws t) (ftM_lt hd hL t)
      have ef : fmM (ffM D laws) (t + 1) = fmM (ffM D laws) t + (if ffM D laws t = true then 2 ^ t else 0) := rfl
      refine ⟨fun z => fun v3 e3 => ?_, fun z => fun v4 e4 v5 e5 => ?_⟩
      · have z := eo.mp z
        rw [ef, show ffM D laws t = false by unfold ffM; rw [z]; rfl] at ih
        rw [e3, nI_1]
        exact ih
      · rw [ef, show ffM D laws t = true by
          unfold ffM
          cases hf : ftM D laws t with
          | none => exact absurd (eo.mpr hf) z
          | some w => rfl] at ih
        rw [e4, e5, nI_1, or_i t ht4 _ (fmM_lt _ t)]
        exact ih
  rw [e1, e2]
  exact key 0 (by omega) σ ag_rf hN
theorem TL_t {σ : hd_M} {T t : Nat} {laws : Nat → LW} (h : rTexts σ T laws) (ht : t < T) : TL σ (nI t) (laws t) := by
  obtain ⟨K, cd, a, b, c, d⟩ := TX_t h ht
  exact ⟨K, cd, a, b, c, by rw [← c]; exact d⟩
theorem sX8_fits {G : hd_G} {σ : hd_M} {P : Int32 → hd_M → Prop} {D : MD} {laws : Nat → LW} (hD : rDesk σ 95 D) (hd : dok D) (hl : rTexts σ (d_T D) laws) (h : ∀ σ', agR σ σ' → P (nI (fmM (ffM D laws) (d_T D))) σ') : EVi G mX8_fits SH [.ref 94] σ P := by
  have hT4 := hd.2.2.2.2.1
  refine wX8_fits (fun X hX v1 e1 v2 e2 => ?_)
  have key : ∀ t, t ≤ d_T D → ∀ s, agR σ s → hd_J G mX8_fits X SH (0, 0) 4 [(0, .ref 94), (1, .int (nI (fmM (ffM D laws) t))), (2, .int (nI t))] [] s := by
    refine hd_upto (n := d_T D) (fun t => ∀ s, agR σ s → hd_J G mX8_fits X SH (0, 0) 4 [(0, .ref 94), (1, .int (nI (fmM (ffM D laws) t))), (2, .int (nI t))] [] s) (fun t ht ih s a => ?_)
    have Ds := rDesk_cg hD (agR_c a (by decide))
    refine wX8_fits_4 hX _ _ ⟨pk_in 1 334 (by decide), ?_⟩
    rw [show (1 : Int32).toNatClampNeg = 1 from rfl, Ds.2.2.2.2.2.1]
    refine c_le (d_T D : Int) (t : Int) rfl rfl (fun z => ?_) (fun z => ?_)
    · have : t = d_T D := by omega
      subst this
      exact h s a
    · have htT : t < d_T D := by omega
      refine sX8_isFit Ds hd (TL_t (rTexts_cg hl (agR_c a (by decide))) htT) (fun s1 a1 r1 => ?_)
      have ih := ih htT s1 (agR_tr a a1)
      have ef : fmM (ffM D laws) (t + 1) = fmM (ffM D laws) t + (if ffM D laws t = true then 2 ^ t else 0) := rfl
      have eb : ffM D laws t = (bhM (laws t) (d_sz D) (d_tr D) 0).isSome := by unfold ffM ftM; rw [if_pos htT]
      rw [← eb]
      cases hf : ffM D laws t with
      | false =>
        rw [ef, hf] at ih
        refine b_eq rfl (fun v3 e3 v4 e4 => ?_)
        rw [e3, e4, nI_1, show ∀ x : Int32, x ||| 0 = x from fun x => by simp]
        exact ih
      | true =>
        rw [ef, hf] at ih
        refine b_eq' (by decide) (fun v3 e3 v4 e4 => ?_)
        rw [e3, e4, nI_1, or_i t (by omega) _ (fmM_lt _ t)]
        exact ih
  rw [e1, e2]
  exact key 0 (by omega) σ agR_rf
theorem jFits {G : hd_G} {σ : hd_M} {M : MM} {Q : Int32 → Int32 → hd_M → Prop} (hR : REL σ M) (h : ∀ y s M', REL s M' → Q y y s) : EVi G mX7_fits SH [.ref 0] σ (fun y1 s1 => EVi G mX8_fits SH [.ref 94] s1 (fun y' s2 => Q y1 y' s2)) := by
  have hm := hR.2.2
  have hd := hm.2.1
  refine sX7_fits hR.1.2.2.1 hd hR.1.2.2.2.2.1 hm.2.2.2.2 hR.1.2.2.2.2.2.2.1 (fun s1 a1 n1 => ?_)
  have R1 := RREL_fC hR.2.1 (fC_ag a1 (by decide))
  refine sX8_fits R1.2.2.1 hd R1.2.2.2.2 (fun s2 a2 => ?_)
  rw [ffM_T hd.2.2.2.2.1]
  exact h _ _ M ⟨CREL_fR (CREL_R hR.1 hm a1 n1) hm (fR_R a2), RREL_R R1 a2, hm⟩
