def RA (σ : hd_M) (f : Nat → Nat) : Prop := ∀ k, k < 6 → σ.1 104 k = nI (f k)
theorem hrM_n {L : LW} {f g : Nat → Nat} {act : Nat} (h : L.1 6 = none) : hrM L f g act = mvd f g 6 := by
  unfold hrM
  rw [h]
theorem hrM_s {L : LW} {f g : Nat → Nat} {act : Nat} {cs : List Nat} (h : L.1 6 = some cs) : hrM L f g act = clamp9 (cl_z (en g (if act < 12 then (act % 2 : Nat) else 0) (if act < 12 then (act / 2 : Nat) else -1) 0) cs) := by
  unfold hrM
  rw [h]
theorem mvd_sy (f g : Nat → Nat) (n : Nat) : mvd f g n = mvd g f n := by
  induction n with
  | zero => rfl
  | succ n ih =>
    unfold mvd
    rw [ih]
    congr 1
    by_cases h : f n = g n
    · rw [if_neg (by simp [h]), if_neg (by simp [h])]
    · rw [if_pos h, if_pos (fun z => h z.symm)]
theorem mvd_le (f g : Nat → Nat) (n : Nat) : mvd f g n ≤ n := by
  induction n with
  | zero => exact Nat.le_refl _
  | succ n ih =>
    unfold mvd
    split <;> omega
theorem clamp9_le (z : Int) : clamp9 z ≤ 9 := by
  unfold clamp9
  split
  · omega
  · split <;> omega
theorem hrM_le (L : LW) (f g : Nat → Nat) (act : Nat) : hrM L f g act ≤ 9 := by
  unfold hrM
  split
  · have := mvd_le f g 6
    omega
  · exact clamp9_le _
theorem sX8_heard {G : hd_G} {σ : hd_M} {P : Int32 → hd_M → Prop} {x : Int32} {act : Nat} {f g : Nat → Nat} {K : List (Nat → Nat)} {cd : List Nat} (hT : TX σ x K cd) (hL : LWok (LWof K cd)) (hR : RS σ g) (hA : RA σ f) (hf : o7 f) (ha : act < 15) (h : ∀ σ', ag [100, 101, 102] σ σ' → P (nI (hrM (LWof K cd) f g act)) σ') : EVi G mX8_heard SH [.ref 94, .int x, .int (nI act)] σ P := by
  have h24 : K.length ≤ 24 := by
    rcases hT with ⟨rfl, rfl⟩ | ⟨t, rfl, hq⟩
    · decide
    · exact hq.2.2.1
  refine wX8_heard _ _ (fun X hX => ?_)
  have core : ∀ (on part : Int), cl_m on → cl_m part → on = (if act < 12 then ((act % 2 : Nat) : Int) else 0) → part = (if act < 12 then ((act / 2 : Nat) : Int) else -1) → EVv G mX8_name SH [.ref 94, .int (zI on), .int (zI part), .int 0] σ (fun s1 => ∀ v2 : Int32, v2 = 0 → hd_J G mX8_heard X SH (0, 0) 33 [(0, .ref 94), (1, .int x), (3, .int v2)] [] s1) := by
    intro on part m1 m2 o1 o2
    refine sX8_name (at' := 0) hR m1 m2 ⟨by decide, by decide⟩ (fun s1 a1 n1 v2 e2 => ?_)
    have a1' : agR σ s1 := agR_ag (ag_mo a1 (fun k hk => by simp at hk ⊢; omega))
    have t1 := TX_R hT a1'
    have a1m : ag [100, 101, 102] σ s1 := ag_mo a1 (fun k hk => by simp at hk ⊢; omega)
    have key : ∀ (l : List (Nat → Nat)) (i : Nat), i + l.length = K.length → (∀ j, j < l.length → kg K (i + j) = kg l j) → l.find? (isRule 6) = K.find? (isRule 6) → hd_J G mX8_heard X SH (0, 0) 33 [(0, .ref 94), (1, .int x), (3, .int (nI i))] [] s1 := by
      intro l
      induction l with
      | nil =>
        intro i hi hj hf'
        have hn : (LWof K cd).1 6 = none := by
          show (K.find? (isRule 6)).map (sl cd) = none
          rw [← hf']
          rfl
        refine wX8_heard_33 hX _ _ (sX8_clausesOf t1 (b_le (nI_le (by simp at hi; omega) (by omega)) (fun v3 e3 v4 e4 => ?_)))
        have kk : ∀ k, k ≤ 6 → hd_J G mX8_heard X SH (0, 0) 114 [(0, .ref 94), (3, .int (nI (mvd g f k))), (4, .int (nI k))] [] s1 := by
          refine hd_upto (n := 6) (fun k => hd_J G mX8_heard X SH (0, 0) 114 [(0, .ref 94), (3, .int (nI (mvd g f k))), (4, .int (nI k))] [] s1) (fun k hk ih => ?_)
          refine wX8_heard_114 hX _ _ (c_le 6 (k : Int) rfl rfl (fun h6 => ?_) (fun h6 => ⟨hd_vn (by omega) (by decide), hd_vn (by omega) (by decide), ?_⟩))
          · have hk6 : k = 6 := by omega
            subst hk6
            have := h s1 a1m
            rwa [hrM_n hn, mvd_sy] at this
          · have ih := ih (by omega)
            have b1 := hR.2.2 k (by omega)
            have b2 := hf k (by omega)
            rw [nI_clamp (by omega), (a1 103 (by decide)).1, (a1 104 (by decide)).1, hR.1 k (by omega), hA k (by omega)]
            have hs : mvd g f (k + 1) = mvd g f k + (if g k ≠ f k then 1 else 0) := rfl
            rw [hs] at ih
            refine c_eq (g k : Int) (f k : Int) rfl rfl (fun he v1 e1 v2 e2 => ?_) (fun he v1 e1 v2 e2 => ?_)
            · rw [if_neg (by omega)] at ih
              rw [e1, e2, nI_1, show (0 : Int32) = nI 0 from rfl, nI_add]
              exact ih
            · rw [if_pos (by omega)] at ih
              rw [e1, e2, nI_1, nI_1]
              exact ih
        rw [e3, e4]
        exact kk 0 (by decide)
      | cons c l ih =>
        intro i hi hj hf'
        rw [List.length_cons] at hi
        have hc : kg K i = c := by
          have := hj 0 (by simp)
          simpa [kg] using this
        refine wX8_heard_33 hX _ _ (sX8_clausesOf t1 (b_le' (nI_lt (by omega) (by omega)) (sX8_told (j := 0) t1 (by omega) (by decide) (us_0 _) (fun hb0 => ?_))))
        rw [hc] at hb0 ⊢
        refine c_eq (c 0 : Int) 3 rfl rfl (fun he => ?_) (fun hne v8 e8 => ?_)
        · have hy : isRule 6 c = true := by unfold isRule; simp; omega
          rw [List.find?_cons, hy] at hf'
          have hl : (LWof K cd).1 6 = some (sl cd c) := by
            show (K.find? (isRule 6)).map (sl cd) = _
            rw [← hf']
            rfl
          obtain ⟨ga, gb⟩ := (hL.1 6 _ (by decide) hl).2.2 rfl
          obtain ⟨z, hz⟩ := gb _ (fun k hk => (n1 k hk).2)
          refine sX8_work t1 (k := i) (by omega) (by rw [hc]; unfold isAs; simp; omega) n1 (by rw [hc]; exact hz) (by rw [hc]; exact ga.2 _ (fun k hk => (n1 k hk).2)) (fun σ' f1 f2 => ?_)
          have mz : cl_m z := cl_run_m (fun k hk => (n1 k hk).2) ga.1 (fun z hz => by cases hz) hz z (by simp)
          have h0 : σ'.2 101 0 = zL z := f2.1 0 (by show 0 < 1; decide)
          have rz := zr_R (cl_m_r mz)
          have hv : P (nI (clamp9 z)) σ' := by
            have := h σ' (ag_tr a1m (ag_mo (ag_wk f1) (fun k hk => by simp at hk ⊢; omega)))
            rw [hrM_s hl, ← o1, ← o2] at this
            rwa [show cl_z (en g on part 0) (sl cd c) = z by unfold cl_z; rw [hz]] at this
          rw [show (0 : Int32).toNatClampNeg = 0 from rfl, h0]
          simp only [lg_cmp_le, lg_cmp_ge, lg_cmp_lt, lg_cmp_gt]
          have e0 : (0 : Int64) = zL 0 := rfl
          have e9 : (9 : Int64) = zL 9 := rfl
          have r0 : zR 0 := ⟨by decide, by decide⟩
          have r9 : zR 9 := ⟨by decide, by decide⟩
          unfold clamp9 at hv
          refine ⟨pk_in 0 330 (by decide), fun q => ⟨pk_in 0 330 (by decide), fun q2 => ⟨pk_in 0 330 (by decide), ?_⟩, fun q2 => ?_⟩, fun q => ?_⟩
          · rw [e0] at q
            rw [e9] at q2
            have q := (zL_le r0 rz).mp q
            have q2 := (zL_le rz r9).mp q2
            rw [if_neg (by omega), if_neg (by omega)] at hv
            rw [zL_32]
            rw [nI_z, show ((z.toNat : Nat) : Int) = z by omega] at hv
            exact hv
          · rw [e0] at q
            rw [e9] at q2
            have q := (zL_le r0 rz).mp q
            have q2 := (zL_lt r9 rz).mp q2
            rw [if_neg (by omega), if_pos (by omega)] at hv
            exact hv
          · rw [e0] at q
            have q := (zL_lt rz r0).mp q
            rw [if_pos q] at hv
            exact hv
        · rw [e8, nI_1]
          refine ih (i + 1) (by omega) (fun j h1 => ?_) ?_
          · have := hj (j + 1) (by rw [List.length_cons]; omega)
            rw [show i + 1 + j = i + (j + 1) by omega, this]
            simp [kg]
          · have hy : isRule 6 c = false := by unfold isRule; simp; omega
            rw [← hf', List.find?_cons, hy]
    rw [e2]
    exact key K 0 (by simp) (fun j _ => by rw [Nat.zero_add]) rfl
  refine c_le 12 (act : Int) rfl rfl (fun h12 => ⟨fun _ => ?_, fun q => ?_⟩) (fun h12 => ⟨by decide, fun q => ?_, fun q => ⟨by decide, ?_⟩⟩)
  · exact core 0 (-1) ⟨by decide, by decide⟩ ⟨by decide, by decide⟩ (by rw [if_neg (by omega)]) (by rw [if_neg (by omega)])
  · exact absurd ((nI_ltI (b := 12) (by omega) (by decide)).mp q) (by omega)
  · exact absurd ((nI_leI (a := 12) (by decide) (by omega)).mp q) (by omega)
  · rw [show nI act - nI act / 2 * 2 = nI (act % 2) from pk_rem (d := 2) (by omega) (by decide) (by decide), show nI act / 2 = nI (act / 2) from pk_div (d := 2) (by omega) (by decide) (by decide)]
    exact core ((act % 2 : Nat) : Int) ((act / 2 : Nat) : Int) ⟨by omega, by omega⟩ ⟨by omega, by omega⟩ (by rw [if_pos (by omega)]) (by rw [if_pos (by omega)])
/-- the sets of the clauses from some on -/
theorem setOf_1 {c : Nat → Nat} (h : c 0 = 1) : setOf c = some (c 1 * 3 + c 2, c 3, c 4) := if_pos h
theorem setOf_2 {c : Nat → Nat} (h : c 0 = 2) : setOf c = some (18 + c 1, c 2, c 3) := by
  unfold setOf
  rw [if_neg (by omega), if_pos h]
theorem setOf_n {c : Nat → Nat} (h : c 0 ≠ 1) (h2 : c 0 ≠ 2) : setOf c = none := by
  unfold setOf
  rw [if_neg h, if_neg h2]
def doM (L : LW) (sz f : Nat → Nat) (act : Nat) : Nat → Nat := if canM L sz f act = true then mvM L sz f act else f
def doH (L : LW) (sz f : Nat → Nat) (act : Nat) : Int32 := if canM L sz f act = true then nI (hrM L f (mvM L sz f act) act) else -1
set_option maxHeartbeats 1000000 in
theorem sX8_does {G : hd_G} {σ : hd_M} {P : Int32 → hd_M → Prop} {x : Int32} {act n : Nat} {f sz : Nat → Nat} {K : List (Nat → Nat)} {cd : List Nat} (hT : TX σ x K cd) (hL : LWok (LWof K cd)) (hW : KW K) (hS : SR σ n sz) (hR : RS σ f) (ha : act < 15) (h : ∀ σ', agR σ σ' → RS σ' (doM (LWof K cd) sz f act) → P (doH (LWof K cd) sz f act) σ') : EVi G mX8_does SH [.ref 94, .int x, .int (nI act)] σ P := by
  have h24 : K.length ≤ 24 := by
    rcases hT with ⟨rfl, rfl⟩ | ⟨t, rfl, hq⟩
    · decide
    · exact hq.2.2.1
  refine wX8_does _ _ (fun X hX => sX8_canBe hT hL hS hR ha (fun s1 a1 r1 => ?_))
  unfold doM doH at h
  cases hc : canM (LWof K cd) sz f act with
  | false =>
    rw [hc] at h
    exact b_ne' (by decide) (h s1 a1 r1)
  | true =>
    rw [hc, if_pos rfl, if_pos rfl] at h
    refine b_ne (by decide) (fun v3 e3 => ?_)
    have t1 := TX_R hT a1
    have S1 := SR_R hS a1
    -- the clauses
    have cl : ∀ (p to : Int32) (c : Nat), (act < 12 → p = nI (act / 2) ∧ ∃ t : Nat, t < 3 ∧ to = nI t ∧ c = act / 2 * 3 + t) → (12 ≤ act → c = 18 + (act - 12)) → ∀ (l : List (Nat → Nat)) (i : Nat) (g : Nat → Nat) (s2 : hd_M), i + l.length = K.length → (∀ j, j < l.length → kg K (i + j) = kg l j) → (∀ c ∈ l, c ∈ K) → agR s1 s2 → RA s2 f → RS s2 g → (12 ≤ act → g 6 = act - 12) → setF sz c (l.filterMap setOf) g = mvM (LWof K cd) sz f act → hd_J G mX8_does X SH (0, 0) 100 [(0, .ref 94), (1, .int x), (2, .int (nI act)), (3, .int p), (4, .int to), (5, .int (nI i))] [] s2 := by
      intro p to cs hlo hhi l
      induction l with
      | nil =>
        intro i g s2 hi hj hm a2 ra2 r2 g6 hfin
        refine wX8_does_100 hX _ _ _ _ _ (sX8_clausesOf (TX_R t1 a2) (b_le (nI_le (by simp at hi; omega) (by omega)) ?_))
        have hg : g = mvM (LWof K cd) sz f act := hfin
        rw [hg] at r2
        refine sX8_heard (TX_R t1 a2) hL r2 ra2 hR.2.2 ha (fun s3 a3 => ?_)
        exact h s3 (agR_tr a1 (agR_tr a2 (agR_ag (ag_mo a3 (fun k hk => by simp at hk ⊢; omega))))) (RS_ag r2 (ag_mo a3 (fun k hk => by simp at hk ⊢; omega)))
      | cons c l ih =>
        intro i g s2 hi hj hm a2 ra2 r2 g6 hfin
        rw [List.length_cons] at hi
        have hc : kg K i = c := by
          have := hj 0 (by simp)
          simpa [kg] using this
        have hcK : c ∈ K := hm c List.mem_cons_self
        have wc := hW c hcK
        have t2 := TX_R t1 a2
        have S2 := SR_R S1 a2
        have nx : ∀ (g' : Nat → Nat) (s3 : hd_M), ag [103] s2 s3 → RS s3 g' → (12 ≤ act → g' 6 = act - 12) → setF sz cs (l.filterMap setOf) g' = mvM (LWof K cd) sz f act → hd_J G mX8_does X SH (0, 0) 224 [(0, .ref 94), (1, .int x), (2, .int (nI act)), (3, .int p), (4, .int to), (5, .int (nI i))] [] s3 := by
          intro g' s3 a3 r3 g6' hf'
          refine wX8_does_224 hX _ _ _ _ _ (fun v1 e1 => ?_)
          rw [e1, nI_1]
          refine ih (i + 1) g' s3 (by omega) (fun j h1 => ?_) (fun d hd => hm d (List.mem_cons_of_mem _ hd)) (agR_tr a2 (agR_ag (ag_mo a3 (fun k hk => by simp at hk ⊢; omega)))) (fun k hk => by rw [(a3 104 (by decide)).1]; exact ra2 k hk) r3 g6' hf'
          have := hj (j + 1) (by rw [List.length_cons]; omega)
          rw [show i + 1 + j = i + (j + 1) by omega, this]
          simp [kg]
        have skip : (∀ s, setOf c = some s → s.1 ≠ cs) → setF sz cs (l.filterMap setOf) g = mvM (LWof K cd) sz f act := by
          intro hn
          rw [List.filterMap_cons] at hfin
          cases hs : setOf c with
          | none => rw [hs] at hfin; exact hfin
          | some s =>
            rw [hs] at hfin
            have hfin : setF sz cs (l.filterMap setOf) (if s.1 = cs ∧ s.2.2 < sz s.2.1 then up g s.2.1 s.2.2 else g) = _ := hfin
            rwa [if_neg (fun z => hn s hs z.1)] at hfin
        have take : ∀ s, setOf c = some s → s.1 = cs → setF sz cs (l.filterMap setOf) (if s.2.2 < sz s.2.1 then up g s.2.1 s.2.2 else g) = mvM (LWof K cd) sz f act := by
          intro s hs he
          rw [List.filterMap_cons, hs] at hfin
          have hfin : setF sz cs (l.filterMap setOf) (if s.1 = cs ∧ s.2.2 < sz s.2.1 then up g s.2.1 s.2.2 else g) = _ := hfin
          by_cases hl : s.2.2 < sz s.2.1
          · rw [if_pos ⟨he, hl⟩] at hfin
            rw [if_pos hl]
            exact hfin
          · rw [if_neg (fun z => hl z.2)] at hfin
            rw [if_neg hl]
            exact hfin
        have rd : ∀ j, j < 5 → us (c 0) j = true → ∀ (Q : Int32 → hd_M → Prop), (c j < 20000 → Q (nI (c j)) s2) → EVi G mX8_told SH [.ref 94, .int x, .int (nI i), .int (nI j)] s2 Q := by
          intro j hj5 hu Q hQ
          refine sX8_told t2 (by omega) hj5 (by rw [hc]; exact hu) (fun hb => ?_)
          rw [hc] at hb ⊢
          exact hQ hb
        refine wX8_does_100 hX _ _ _ _ _ (sX8_clausesOf t2 (b_le' (nI_lt (by omega) (by omega)) (rd 0 (by decide) (us_0 _) _ (fun hb0 v7 e7 => ?_))))
        rw [e7]
        by_cases h12 : act < 12
        · obtain ⟨hp, t, ht, hto, hcs⟩ := hlo h12
          have f177 : ∀ (g' : Nat → Nat) (s3 : hd_M), ag [103] s2 s3 → RS s3 g' → setF sz cs (l.filterMap setOf) g' = mvM (LWof K cd) sz f act → hd_J G mX8_does X SH (0, 0) 177 [(0, .ref 94), (1, .int x), (2, .int (nI act)), (3, .int p), (4, .int to), (5, .int (nI i)), (6, .int (nI (c 0)))] [] s3 := by
            intro g' s3 a3 r3 hf'
            exact wX8_does_177 hX _ _ _ _ _ _ (b_lt (nI_lt (b := 12) h12 (by decide)) (nx g' s3 a3 r3 (fun z => by omega) hf'))
          refine b_le' (nI_lt (b := 12) h12 (by decide)) (c_ne (c 0 : Int) 1 rfl rfl (fun hne => f177 g s2 ag_rf r2 (skip (fun s hs => ?_))) (fun he => ?_))
          · by_cases h2 : c 0 = 2
            · rw [setOf_2 h2] at hs
              cases hs
              show 18 + c 1 ≠ cs
              omega
            · rw [setOf_n (by omega) h2] at hs
              cases hs
          · have he : c 0 = 1 := by omega
            obtain ⟨w1, w2, w3, w4⟩ := wc.2.1 he
            refine rd 1 (by decide) (by rw [he]; rfl) _ (fun _ => ?_)
            rw [hp]
            rw [hp] at f177
            refine c_ne (c 1 : Int) ((act / 2 : Nat) : Int) rfl rfl (fun hne => f177 g s2 ag_rf r2 (skip (fun s hs => ?_))) (fun he1 => ?_)
            · rw [setOf_1 he] at hs
              cases hs
              show c 1 * 3 + c 2 ≠ cs
              omega
            · refine rd 2 (by decide) (by rw [he]; rfl) _ (fun _ => ?_)
              rw [hto]
              rw [hto] at f177
              refine c_ne (c 2 : Int) (t : Int) rfl rfl (fun hne => f177 g s2 ag_rf r2 (skip (fun s hs => ?_))) (fun he2 => ?_)
              · rw [setOf_1 he] at hs
                cases hs
                show c 1 * 3 + c 2 ≠ cs
                omega
              · refine rd 3 (by decide) (by rw [he]; rfl) _ (fun _ => rd 4 (by decide) (by rw [he]; rfl) _ (fun _ => ?_))
                refine sX8_sets S2 r2 w3 w4 (fun s3 a3 r3 => f177 _ s3 a3 r3 ?_)
                exact take _ (setOf_1 he) (by show c 1 * 3 + c 2 = cs; omega)
        · have hcs := hhi (by omega)
          refine b_le (nI_le (a := 12) (by omega) (by omega)) (wX8_does_177 hX _ _ _ _ _ _ (b_lt' (nI_le (a := 12) (by omega) (by omega)) (c_ne (c 0 : Int) 2 rfl rfl (fun hne => nx g s2 ag_rf r2 g6 (skip (fun s hs => ?_))) (fun he => ?_))))
          · by_cases h2 : c 0 = 1
            · have wc1 := wc.2.1 h2
              rw [setOf_1 h2] at hs
              cases hs
              show c 1 * 3 + c 2 ≠ cs
              omega
            · rw [setOf_n h2 (by omega)] at hs
              cases hs
          · have he : c 0 = 2 := by omega
            obtain ⟨w1, w2, w3⟩ := wc.2.2.1 he
            refine rd 1 (by decide) (by rw [he]; rfl) _ (fun _ => ?_)
            rw [r2.2.1, g6 (by omega)]
            refine c_ne (c 1 : Int) ((act - 12 : Nat) : Int) rfl rfl (fun hne => nx g s2 ag_rf r2 g6 (skip (fun s hs => ?_))) (fun he1 => ?_)
            · rw [setOf_2 he] at hs
              cases hs
              show 18 + c 1 ≠ cs
              omega
            · refine rd 2 (by decide) (by rw [he]; rfl) _ (fun _ => rd 3 (by decide) (by rw [he]; rfl) _ (fun _ => ?_))
              refine sX8_sets S2 r2 w2 w3 (fun s3 a3 r3 => nx _ s3 a3 r3 (fun z => ?_) ?_)
              · have := g6 z
                split
                · unfold up
                  rw [if_neg (by omega)]
                  exact this
                · exact this
              · exact take _ (setOf_2 he) (by show 18 + c 1 = cs; omega)
    -- ahead
    have ahd : ∀ k, k ≤ 6 → ∀ s2 : hd_M, ag [104] s1 s2 → (∀ j, j < k → s2.1 104 j = nI (f j)) → hd_J G mX8_does X SH (0, 0) 13 [(0, .ref 94), (1, .int x), (2, .int (nI act)), (3, .int (nI k))] [] s2 := by
      refine hd_upto (n := 6) (fun k => ∀ s2 : hd_M, ag [104] s1 s2 → (∀ j, j < k → s2.1 104 j = nI (f j)) → hd_J G mX8_does X SH (0, 0) 13 [(0, .ref 94), (1, .int x), (2, .int (nI act)), (3, .int (nI k))] [] s2) (fun k hk ih s2 a2 b2 => ?_)
      have r2 : RS s2 f := RS_ag r1 (ag_mo a2 (fun k hk => by simp at hk ⊢; omega))
      have a2' : agR s1 s2 := agR_ag (ag_mo a2 (fun k hk => by simp at hk ⊢; omega))
      refine wX8_does_13 hX _ _ _ (c_le 6 (k : Int) rfl rfl (fun h6 => ⟨by decide, fun v1 e1 => ?_⟩) (fun h6 => ?_))
      · have hk6 : k = 6 := by omega
        subst hk6
        have ra2 : RA s2 f := fun j hj => b2 j hj
        rw [show nI act / 2 = nI (act / 2) from pk_div (d := 2) (by omega) (by decide) (by decide)] at e1
        rw [e1, show nI act - nI act / 2 * 2 = nI (act % 2) from pk_rem (d := 2) (by omega) (by decide) (by decide)]
        refine c_lt (act : Int) 12 rfl rfl (fun h12 => ?_) (fun h12 s12 e12 => ?_)
        · have hp : act / 2 < 6 := by omega
          have f3 := hR.2.2 (act / 2) (by omega)
          rw [nI_clamp (by omega), r2.1 _ hp]
          rw [canM_p (by omega)] at hc
          have hi2 : 0 ≤ toP f act ∧ toP f act < sz (act / 2) := by
            have := (Bool.and_eq_true_iff.mp hc).1
            simpa [isP] using this
          have hs3 : sz (act / 2) ≤ 3 := by
            by_cases hpn : act / 2 < n
            · exact (hS.2.2.1 _ hpn).2
            · rw [hS.2.2.2 _ (by omega)]
              omega
          have go : ∀ (v : Int32) (s3 : hd_M), v = zI (toP f act) → s3 = hd_wI s2 103 (act / 2) v → (12 ≤ nI act → ∀ v3 : Int32, v3 = 0 → ∀ v4 : Int32, v4 = 0 → hd_J G mX8_does X SH (0, 0) 100 [(0, .ref 94), (1, .int x), (2, .int (nI act)), (3, .int (nI (act / 2))), (4, .int v3), (5, .int v4)] [] s3) ∧ (nI act < 12 → vp_in (nI (act / 2)) 6 ∧ (∀ v5 : Int32, v5 = s3.1 103 (act / 2) → ∀ v6 : Int32, v6 = 0 → hd_J G mX8_does X SH (0, 0) 100 [(0, .ref 94), (1, .int x), (2, .int (nI act)), (3, .int (nI (act / 2))), (4, .int v5), (5, .int v6)] [] s3)) := by
            intro v s3 ev e3
            have hto : zI (toP f act) = nI (toP f act).toNat := by rw [nI_z]; congr 1; omega
            rw [ev, hto] at e3
            refine b_le' (nI_lt (b := 12) (by omega) (by decide)) ⟨hd_vn hp (by decide), fun v5 e5 v6 e6 => ?_⟩
            rw [e3, wI_eq, if_pos rfl] at e5
            rw [e5, e6, e3]
            refine cl _ _ (act / 2 * 3 + (toP f act).toNat) (fun _ => ⟨rfl, (toP f act).toNat, by omega, rfl, rfl⟩) (fun z => by omega) K 0 (up f (act / 2) (toP f act).toNat) _ (by simp) (fun j _ => by rw [Nat.zero_add]) (fun c hc => hc) (agR_w a2' (by decide)) (fun j hj => by rw [wI_ne (by decide)]; exact b2 j hj) (RS_set r2 hp (by omega)) (fun z => by omega) ?_
            rw [mvM_p (by omega)]
            rfl
          refine ⟨hd_vn hp (by decide), by decide, c_ne ((act % 2 : Nat) : Int) 1 rfl rfl (fun hne => ⟨hd_vn hp (by decide), fun s3 e3 => go _ s3 ?_ e3⟩) (fun heq => ⟨hd_vn hp (by decide), fun s3 e3 => go _ s3 ?_ e3⟩)⟩
          · rw [nI_z, show (-1 : Int32) = zI (-1) from rfl, zI_add]
            unfold toP
            rw [if_neg (by omega)]
          · rw [nI_z, show (1 : Int32) = zI 1 from rfl, zI_add]
            unfold toP
            rw [if_pos (by omega)]
        · rw [show nI act - 12 = nI (act - 12) from pk_sub (b := 12) (by omega)] at e12
          refine b_le (nI_le (a := 12) (by omega) (by omega)) (fun v13 e13 v14 e14 => ?_)
          rw [e13, e14, e12]
          refine cl _ _ (18 + (act - 12)) (fun z => by omega) (fun _ => rfl) K 0 (up f 6 (act - 12)) _ (by simp) (fun j _ => by rw [Nat.zero_add]) (fun c hc => hc) (agR_27 a2') (fun j hj => by rw [wI_ne (by decide)]; exact b2 j hj) (RS_tilt r2 (by omega)) (fun z => by unfold up; rw [if_pos rfl]) ?_
          rw [mvM_t (by omega)]
          rfl
      · refine ⟨hd_vn (by omega) (by decide), hd_vn (by omega) (by decide), fun s17 e17 v18 e18 => ?_⟩
        rw [nI_clamp (by omega), r2.1 k (by omega)] at e17
        rw [e17, e18, nI_1]
        refine ih (by omega) _ (ag_wI a2 (by decide)) (fun j hj => ?_)
        rw [wI_eq]
        split
        · rename_i e; rw [e]
        · exact b2 j (by omega)
    rw [e3]
    exact ahd 0 (by decide) s1 ag_rf (fun j hj => by omega)
