theorem kwF_le (w : List Nat) : ∀ (l : List (List Nat × Nat)), (∀ q ∈ l, q.2 ≤ 37) → kwF w l ≤ 37
  | [], _ => by show 1 ≤ 37; omega
  | q :: l, h => by
    show (if w = q.1 then q.2 else kwF w l) ≤ 37
    split
    · exact h q List.mem_cons_self
    · exact kwF_le w l (fun x hx => h x (List.mem_cons_of_mem _ hx))
theorem wdK_le (w : List Nat) : wdK w ≤ 37 := by
  unfold wdK
  split
  · unfold ltK
    split <;> omega
  · exact kwF_le w kwT (by decide)
theorem sgK_le (b : Nat) : sgK b ≤ 37 := by
  unfold sgK
  repeat' (first | omega | split)
theorem numV_le {tp : List Nat} : ∀ (f a v : Nat), v ≤ 10000 → numV tp f a v ≤ 10000
  | 0, _, _, h => h
  | f + 1, a, v, h => by
    show (if a < tp.length ∧ isD (bt tp a) = true then numV tp f (a + 1) (min 10000 (v * 10 + (bt tp a - 48))) else v) ≤ 10000
    split
    · exact numV_le f _ _ (Nat.min_le_left _ _)
    · exact h
theorem tokE_ok {tp : List Nat} {b : Nat} : (tokE tp b).1 ≤ 37 ∧ (tokE tp b).2.1 ≤ 10000 := by
  unfold tokE
  split
  · exact ⟨wdK_le _, by show 0 ≤ 10000; omega⟩
  · split
    · rename_i h
      refine ⟨by show 2 ≤ 37; omega, numV_le _ _ _ ?_⟩
      unfold isD at h
      simp at h
      omega
    · split
      · refine ⟨?_, by show 0 ≤ 10000; omega⟩
        show (if bt tp b = 60 then 26 else 28) ≤ 37
        split <;> omega
      · exact ⟨sgK_le _, by show 0 ≤ 10000; omega⟩
theorem tkF_ok {tp : List Nat} (hl : tp.length ≤ 300) : ∀ (f a : Nat), (∀ t ∈ tkF tp f a, tkOK t) ∧ ∃ pre, tkF tp f a = pre ++ [(0, 0, tp.length)]
  | 0, a => ⟨fun t ht => by
      have : t = (0, 0, tp.length) := List.mem_singleton.mp ht
      rw [this]
      exact ⟨by show 0 ≤ 37; omega, by show 0 ≤ 10000; omega, hl⟩, [], rfl⟩
  | f + 1, a => by
    have h0 : tkOK (0, 0, tp.length) := ⟨by show 0 ≤ 37; omega, by show 0 ≤ 10000; omega, hl⟩
    by_cases h : a < tp.length
    · by_cases hB : isB (bt tp a) = true
      · rw [tkF_b h hB]
        exact tkF_ok hl f (a + 1)
      · rw [tkF_t h (by simpa using hB)]
        obtain ⟨h1, pre, h2⟩ := tkF_ok hl f (tokE tp a).2.2
        refine ⟨fun t ht => ?_, _ :: pre, by rw [h2]; rfl⟩
        rcases List.mem_cons.mp ht with z | z
        · rw [z]
          exact ⟨tokE_ok.1, tokE_ok.2, by show a ≤ 300; omega⟩
        · exact h1 t z
    · rw [tkF_e h]
      refine ⟨fun t ht => ?_, [], rfl⟩
      rw [List.mem_singleton.mp ht]
      exact h0
theorem tkF_ts {tp : List Nat} (ht : tok tp) (hl : (tkF tp 301 0).length ≤ 301) : tsOK (tkF tp 301 0) := by
  obtain ⟨h1, pre, h2⟩ := tkF_ok (tp := tp) ht.1 301 0
  refine ⟨by rw [h2]; simp, hl, h1, ?_⟩
  rw [h2, List.length_append, List.length_singleton, Nat.add_sub_cancel, getD_app2]
theorem hd_al_law2 {q : Nat} (hq : hd_law q) {f : Nat → Prop} (h : f 9) : hd_al SH (q + 2) f := by
  rcases hq with rfl | rfl | rfl | rfl | rfl | rfl <;> exact h
theorem sJ7_fill2 {G : hd_G} {σ : hd_M} {P : hd_M → Prop} {q : Nat} (hq : hd_law q) (h : ∀ σ', ag [q + 2] σ σ' → (∀ j, j < 9 → σ'.1 (q + 2) j = -1) → P σ') : EVv G mJ7_fill_53178 SH [.ref (q + 2), .int (-1)] σ P := by
  refine wJ7_fill_53178 _ _ (fun X hX v1 e1 => hd_al_law2 hq (fun v3 e3 => ?_))
  rw [e1, e3]
  have main : ∀ (n k : Nat) (s : hd_M), k + n = 9 → ag [q + 2] σ s → (∀ j, j < k → s.1 (q + 2) j = -1) → hd_J G mJ7_fill_53178 X SH (0, 0) 5 [(0, .ref (q + 2)), (1, .int (-1)), (2, .int (nI k)), (3, .int (nI 9))] [] s := by
    intro n
    induction n with
    | zero =>
      intro k s hk a hj
      have : k = 9 := by omega
      subst this
      exact wJ7_fill_53178_5 hX _ _ _ _ (b_le (nI_le (Nat.le_refl _) (by decide)) (h s a hj))
    | succ n ih =>
      intro k s hk a hj
      refine wJ7_fill_53178_5 hX _ _ _ _ (b_le' (nI_lt (by omega) (by decide)) (law_2 hq ⟨hd_vn (by omega) (by decide), fun s1 e1 v2 e2 => ?_⟩))
      rw [nI_clamp (by omega)] at e1
      rw [e2, nI_1]
      refine ih (k + 1) s1 (by omega) (by rw [e1]; exact ag_wI a (by simp)) (fun j hj2 => ?_)
      rw [e1, wI_eq]
      split
      · rfl
      · exact hj j (by omega)
  exact main 9 0 σ rfl ag_rf (fun j hj => absurd hj (by omega))
theorem sX2_clear {G : hd_G} {σ : hd_M} {P : hd_M → Prop} {q : Nat} (hq : hd_law q) (h : ∀ σ', ag (lqs q) σ σ' → (∀ k, k ≠ q → k ≠ q + 2 → σ'.1 k = σ.1 k) → lK σ' q [] [] → P σ') : EVv G mX2_clear SH [.ref q] σ P := by
  refine wX2_clear hq (sJ7_fill2 hq (fun s1 a1 h1 s2 e2 s3 e3 s4 e4 => ?_))
  have r4 : ∀ k, k ≠ q → s4.1 k = s1.1 k := fun k hk => by rw [e4, wI_ne hk, e3, wI_ne hk, e2, wI_ne hk]
  refine h s4 ?_ (fun k k1 k2 => (r4 k k1).trans (a1 k (by simpa using k2)).1) ⟨⟨?_, fun j hj => absurd hj (by simp)⟩, fun r hr => ⟨fun _ => ?_, fun c z => by cases z⟩, ⟨?_, fun j hj => absurd hj (by simp)⟩, ⟨?_, fun j hj => absurd hj (by simp [dosOf])⟩⟩
  · rw [e4, e3, e2]
    exact ag_wI (ag_wI (ag_wI (ag_mono a1 (fun k hk => by rw [List.mem_singleton.mp hk]; exact lqs_lt (by decide))) (lqs_lt (j := 0) (by decide))) (lqs_lt (j := 0) (by decide))) (lqs_lt (j := 0) (by decide))
  · rw [e4, wI_eq, if_neg (by decide), e3, wI_eq, if_neg (by decide), e2, wI_eq, if_pos rfl]
    rfl
  · rw [r4 (q + 2) (by omega)]
    exact h1 r hr
  · rw [e4, wI_eq, if_neg (by decide), e3, wI_eq, if_pos rfl]
    rfl
  · rw [e4, wI_eq, if_pos rfl]
    rfl
theorem loopT {G : hd_G} {σ : hd_M} {P : Int32 → hd_M → Prop} {q : Nat} {ts : List Tk} {X : hd_X} (hX : hd_CX G mX3_read X (hd_Zi P) SH (0, 0)) (hq : hd_law q) (hT : tsOK ts) : ∀ (n i : Nat) (K : List (Nat → Nat)) (cd : List Nat) (s : hd_M), K.length + n = 25 → i < ts.length → tkN s ts (i + 1) → s.1 63 8 = nI (ts.getD i (0, 0, 0)).1 → s.1 63 10 = nI (ts.getD i (0, 0, 0)).2.2 → s.1 62 1 = nI q → s.1 62 2 = 0 → s.1 62 3 = -1 → ag (lqs q) σ s → lK s q K cd → KC K cd → cd.length ≤ i → (∀ f p σ', pText n K cd (ts.drop i) = .inl (f, p) → ag (lqs q) σ σ' → 1 ≤ f → f < 7 → σ'.1 62 3 = nI p → P (nI f) σ') → (∀ K' cd' σ', pText n K cd (ts.drop i) = .inr (K', cd') → ag (lqs q) σ σ' → lK σ' q K' cd' → KC K' cd' → σ'.1 62 3 = -1 → P 0 σ') → hd_J G mX3_read X SH (0, 0) 41 [(0, .ref 62), (4, .int (nI K.length))] [] s := by
  intro n
  induction n with
  | zero =>
    intro i K cd s hn _ _ _ _ _ _ _ _ _ hC
    have := hC.2.1
    omega
  | succ n ih =>
    intro i K cd s hn hi hN h8 h10 h1 h2 h3 a hL hC hl hF hD
    have hK := hC.2.1
    have ed := ts_drop hi
    have ht := ts_mem hT hi
    refine wX3_read_41 hX _ (b_lt' (nI_le (b := 24) hK (by decide)) (b_ne' h2 ?_))
    by_cases h0 : (ts.getD i (0, 0, 0)).1 = 0
    · refine b_eq (by rw [h8, h0]; rfl) ?_
      rw [h2]
      refine hD K cd s ?_ a hL hC h3
      rw [ed]
      show (if (ts.getD i (0, 0, 0)).1 = 0 then _ else _) = _
      rw [if_pos h0]
    · have hz : ¬ s.1 63 8 = 0 := by rw [h8]; exact f_nz (by omega) (by have := ht.1; omega)
      have ep : ∀ {v : CR}, pClause K cd (ts.drop i) = v → pText (n + 1) K cd (ts.drop i) = (match v with | .inl e => .inl e | .inr (ts', c, cd') => pText n (K ++ [c]) cd' ts') := by
        intro v e
        rw [ed] at e ⊢
        show (if (ts.getD i (0, 0, 0)).1 = 0 then _ else _) = _
        rw [if_neg h0, e]
        cases v with
        | inl e => rfl
        | inr x => obtain ⟨x1, x2, x3⟩ := x; rfl
      refine b_eq' hz (sX3_readClause hq hT hi h0 hN h8 h10 h1 h2 hL hC hl (fun f p s1 e1 fl => ?_) (fun k c cd' s1 e1 k1 k2 a1 g1 g2 g3 g4 g5 g6 g7 => ?_))
      · obtain ⟨f1, f2, f3, f4, f5, i', f6, f7⟩ := fl
        refine sX6_advanceX f7 hT.1 f6 hT.2.1 (fun s2 a2 v3 e3 => ?_)
        have e62 : s2.1 62 = s1.1 62 := (a2 62 (by decide)).1
        have hp : P (s2.1 62 2) s2 := by
          rw [e62, f4]
          exact hF f p s2 (ep e1) (ag_tr a (ag_tr f1 (agQ_63 a2 (by simp)))) f2 f3 (by rw [e62]; exact f5)
        have hz2 : ¬ s2.1 62 2 = 0 := by rw [e62, f4]; exact f_nz f2 (by omega)
        exact wX3_read_41 hX _ ⟨fun _ => hp, fun _ => b_ne hz2 hp⟩
      · refine sX6_advance g3 k2 hT.2.1 (fun s2 a2 n2 q8 q9 q10 v3 e3 => ?_)
        have e62 : s2.1 62 = s1.1 62 := (a2 62 (by decide)).1
        have ek : v3 = nI (K ++ [c]).length := by rw [e3, nI_1, List.length_append, List.length_singleton]
        rw [ek]
        exact ih k (K ++ [c]) cd' s2 (by rw [List.length_append, List.length_singleton]; omega) k2 n2 q8 q10 (by rw [e62]; exact g1) (by rw [e62]; exact g2) (by rw [e62, g7]; exact h3) (ag_tr a (ag_tr a1 (agQ_63 a2 (by simp)))) (lK_63 hq a2 (by simp) g4) g5 g6 (fun f p s3 e3 => hF f p s3 ((ep e1).trans e3)) (fun K' cd'' s3 e3 => hD K' cd'' s3 ((ep e1).trans e3))
def lqt (q : Nat) : List Nat := 64 :: 65 :: 66 :: lqs q
theorem sX3_read {G : hd_G} {σ : hd_M} {P : Int32 → hd_M → Prop} {q : Nat} {tp : List Nat} (hq : hd_law q) (ht : tok tp) (hTp : ∀ j, j < tp.length → σ.1 1 j = zI (sb (bt tp j))) (hF : ∀ f p σ', pText 25 [] [] (tkF tp 301 0) = .inl (f, p) → ag (lqt q) σ σ' → 1 ≤ f → f < 7 → σ'.1 62 3 = nI p → P (nI f) σ') (hD : ∀ K cd σ', pText 25 [] [] (tkF tp 301 0) = .inr (K, cd) → ag (lqt q) σ σ' → lK σ' q K cd → KC K cd → σ'.1 62 3 = -1 → P 0 σ') : EVi G mX3_read SH [.ref 62, .ref 1, .int (nI tp.length), .ref q] σ P := by
  have l6 := law_62 hq
  have f0 := law_63 hq 0 (by decide)
  have f2 := law_63 hq 2 (by decide)
  refine wX3_read _ _ (fun X hX => ⟨⟨by omega, by omega⟩, fun s1 e1 => ?_⟩)
  have e1 : s1 = hd_wI σ 62 1 (nI q) := e1
  have g1 : s1.1 62 1 = nI q := by rw [e1, wI_eq, if_pos rfl]
  rw [g1, nI_clamp (by omega)]
  refine ⟨by omega, law_k hq (sX2_clear hq (fun s2 a2 r2 L2 s3 e3 s4 e4 => ?_))⟩
  have a4 : ag (lqs q) σ s4 := by
    rw [e4, e3]
    refine ag_wI (ag_wI (ag_tr ?_ a2) (by unfold lqs; simp)) (by unfold lqs; simp)
    rw [e1]
    exact ag_wI ag_rf (by unfold lqs; simp)
  have q1ne : q ≠ 1 := by rcases hq with rfl | rfl | rfl | rfl | rfl | rfl <;> decide
  have q2ne : q + 2 ≠ 1 := by omega
  refine sX6_find (tp := tp) ht (fun j hj => ?_) (fun s5 ts a5 ets hl t5 z5 => ?_)
  · rw [e4, wI_ne (by decide), e3, wI_ne (by decide), r2 1 (fun z => q1ne z.symm) (fun z => q2ne z.symm), e1, wI_ne (by decide)]
    exact hTp j hj
  subst ets
  have hT := tkF_ts ht hl
  refine sX6_advance (i := 0) ⟨z5, t5⟩ hT.1 hl (fun s6 a6 n6 q8 q9 q10 v7 e7 => ?_)
  rw [e7]
  have tw2 : ∀ k, k ∈ tw → k ∈ lqt q := fun k hk => by
    unfold tw at hk
    unfold lqt lqs
    simp at hk ⊢
    omega
  have A6 : ag (lqt q) σ s6 := ag_tr (ag_tr (ag_mono a4 (fun k hk => by unfold lqt; simp [hk])) (ag_mono a5 tw2)) (ag_mono a6 (fun k hk => by rw [List.mem_singleton.mp hk]; unfold lqt lqs; simp))
  have up : ∀ {s : hd_M}, ag (lqs q) s6 s → ag (lqt q) σ s := fun {s} h => ag_tr A6 (ag_mono h (fun k hk => by unfold lqt; simp [hk]))
  have e62 : s6.1 62 = s4.1 62 := by rw [(a6 62 (by decide)).1, (a5 62 (by decide)).1]
  have ntw : ∀ k, q ≤ k → k ≤ q + 8 → k ∉ tw := fun k h1 h2 hk => by
    have := law_63 hq (k - q) (by omega)
    rw [show q + (k - q) = k by omega] at this
    unfold tw at hk
    simp at hk
    omega
  have L6 : lK s6 q [] [] := lK_cg L2 (fun k h1 h2 => by
    have := law_63 hq (k - q) (by omega)
    rw [show q + (k - q) = k by omega] at this
    rw [(a6 k (by simpa using this.2.1)).1, (a5 k (ntw k h1 h2)).1, e4, wI_ne this.1, e3, wI_ne this.1])
  refine loopT (σ := s6) hX hq hT 25 0 [] [] s6 rfl hT.1 n6 q8 q10 ?_ ?_ ?_ ag_rf L6 ⟨by simp, by simp, fun c hc => by cases hc⟩ (Nat.le_refl _) (fun f p s7 e a h1 h2 h3 => hF f p s7 e (up a) h1 h2 h3) (fun K cd s7 e a h1 h2 h3 => hD K cd s7 e (up a) h1 h2 h3)
  · rw [e62, e4, wI_eq, if_neg (by decide), e3, wI_eq, if_neg (by decide), r2 62 (fun z => f0.1 z.symm) (fun z => f2.1 z.symm)]
    exact g1
  · rw [e62, e4, wI_eq, if_neg (by decide), e3, wI_eq, if_pos rfl]
  · rw [e62, e4, wI_eq, if_pos rfl]
/-- what has been read is a law -/
theorem lq_of {σ : hd_M} {q : Nat} {K : List (Nat → Nat)} {cd : List Nat} (h : lK σ q K cd) (hC : KC K cd) : lq σ q (LWof K cd) := by
  obtain ⟨l1, l2, l3, l4⟩ := h
  refine ⟨fun r hr => ?_, l3.1, l3.2, l4.1, l4.2⟩
  have e : (LWof K cd).1 r = (K.find? (isRule r)).map (sl cd) := rfl
  rw [e]
  cases hf : K.find? (isRule r) with
  | none => exact (l2 r hr).1 hf
  | some c =>
    have hc := (l2 r hr).2 c hf
    have hb := hC.2.2 c (List.mem_of_find?_eq_some hf) (isRule_As hr (List.find?_some hf))
    have h3 := hC.1
    have hlen : (sl cd c).length = c 3 - c 2 := by
      unfold sl
      rw [List.length_take, List.length_drop]
      omega
    refine ⟨c 2, hc.1, ?_, by rw [hlen]; omega, fun j hj => ?_⟩
    · rw [hlen, show c 2 + (c 3 - c 2) = c 3 by omega]
      exact hc.2
    · rw [hlen] at hj
      rw [l1.2 (c 2 + j) (by omega)]
      congr 1
      unfold sl
      simp only [List.getD_eq_getElem?_getD]
      rw [List.getElem?_take_of_lt hj, List.getElem?_drop]
