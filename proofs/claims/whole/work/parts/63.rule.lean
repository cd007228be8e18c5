theorem rel_lag {s lag : Nat} {w cd : List Nat} (hs : s ≤ 7) : rel s (List.replicate lag 35 ++ w) cd = rel s w (cd ++ List.replicate lag 10035) := by
  rw [rel_all (fun k hk => by rw [List.eq_of_mem_replicate hk]; exact hs), em_rep]
theorem cM_cW {σ : hd_M} {q r m : Nat} {S : PS} (h : cM σ q r m S) : ∃ lag cdc, cW σ q (List.replicate lag 35 ++ wO S.1) cdc ∧ S.2.2 = cdc ++ List.replicate lag 10035 ∧ (wO S.1).length + S.2.2.length ≤ m := by
  obtain ⟨lag, cdc, c1, c2, c3, c4, _⟩ := h
  refine ⟨lag, cdc, c1, c2, ?_⟩
  rw [c2, List.length_append, List.length_replicate]
  omega
theorem sX3_join {G : hd_G} {σ : hd_M} {P : hd_M → Prop} {q r m k : Nat} {S : PS} (hq : hd_law q) (hM : cM σ q r m S) (hm : m < 300) (hk : 22 ≤ k ∧ k ≤ 34 ∧ k ≠ 24) (h : ∀ σ', agV q σ σ' → (∀ j, 8 < j ∨ j < 5 → σ'.1 62 j = σ.1 62 j) → σ'.1 62 8 = 1 → cW σ' q (k :: (rel (stg k) (wO S.1) S.2.2).1) (rel (stg k) (wO S.1) S.2.2).2 → P σ') : EVv G mX3_join SH [.ref 62, .int (nI k)] σ P := by
  obtain ⟨lag, cdc, c1, c2, c3⟩ := cM_cW hM
  have s7 := stg_le k
  have s1 : 1 ≤ stg k := by
    unfold stg
    repeat' (first | omega | split)
  refine wX3_join _ (sX3_strengthOf (by omega) (sX3_release hq ⟨s1, s7⟩ c1 (fun s3 a3 d3 => ?_)))
  rw [rel_lag s7, ← c2] at d3
  have hl := rel_len (s := stg k) (w := wO S.1) (cd := S.2.2)
  obtain ⟨w1, w2, w3, w4, w5, w6, w7, w8, w9⟩ := d3
  have nk : isN k = false := by unfold isN; simp; omega
  refine sX3_putToWait hq (by omega) (by omega) w1 w2 w3 ?_ ?_ w6 w7 w8 (fun s4 a4 j4 d4 => ⟨Or.inr rfl, fun s5 e5 => ?_⟩)
  · rw [w4]
    show _ = nI ((if isN k = true then 1 else 0) + _)
    rw [nk, if_neg (by decide), Nat.zero_add]
  · rw [w5]
    show _ = nI ((if k = 36 then 1 else 0) + _)
    rw [if_neg (by omega), Nat.zero_add]
  · refine h s5 (by rw [e5]; exact agV_62 hq (agV_tr (agV_W a3) a4) (by decide)) (fun j hj => ?_) (by rw [e5, wI_eq, if_pos rfl]) (by rw [e5]; exact cW_62 hq d4 (by decide))
    rw [e5, wI_eq, if_neg (by omega), j4 j (by omega), a3.2.2 j (by omega)]
theorem brk_wO' {r : Nat} {S : PS} (hS : sOK r S) : brk (wO S.1) = brk S.1.1 := brk_wO hS.2.2.1
theorem wR_hd {D : PD} (hc : ∀ c, D.2.1 = some c → 25 ≤ c ∧ c ≤ 30) {s : Nat} (hs : 5 ≤ s) : ∀ k l, wR D = k :: l → stg k < s := by
  intro k l e
  have := stg_r (wR_mem hc k (by rw [e]; exact List.mem_cons_self))
  omega
theorem rel_bin {r k : Nat} {S : PS} (hS : sOK r S) (hk : 31 ≤ k ∧ k ≤ 34) : k :: (rel (stg k) (wO S.1) S.2.2).1 = wO (k :: (rel (stg k) S.1.1 S.2.2).1, S.1.2) ∧ (rel (stg k) (wO S.1) S.2.2).2 = (rel (stg k) S.1.1 S.2.2).2 := by
  have e : rel (stg k) (wO S.1) S.2.2 = _ := rel_app (u := wR S.1) (wR_hd hS.2.2.1 (stg_p ⟨hk.1, by omega⟩ (by omega)))
  rw [e]
  exact ⟨rfl, rfl⟩
theorem p_stg {r : Nat} {S : PS} (hS : sOK r S) (hb : brk S.1.1 = 0) {s : Nat} (hs : s ≤ 5) : ∀ k ∈ S.1.1, s ≤ stg k := fun k hk => by
  have := stg_p (pOK_mem hS.1 k hk) (brk_0 hb k hk)
  omega
theorem rel_cmp {r k : Nat} {S : PS} (hS : sOK r S) (hk : 25 ≤ k ∧ k ≤ 30) (hb : brk S.1.1 = 0) (hc : S.1.2.1 = none) : k :: (rel (stg k) (wO S.1) S.2.2).1 = wO ([], some k, S.1.2.2) ∧ (rel (stg k) (wO S.1) S.2.2).2 = S.2.2 ++ em S.1.1 := by
  have s4 : stg k = 4 := by
    unfold stg
    repeat' (first | omega | split)
  have e : rel (stg k) (wO S.1) S.2.2 = (wR S.1, S.2.2 ++ em S.1.1) := by
    rw [s4]
    show rel 4 (S.1.1 ++ wR S.1) _ = _
    rw [rel_all (p_stg hS hb (by decide))]
    cases h : wR S.1 with
    | nil => rfl
    | cons x l =>
      refine rel_stop ?_
      have hm : x ∈ wR S.1 := by rw [h]; exact List.mem_cons_self
      unfold wR at hm
      rw [hc] at hm
      have : x = 24 ∨ x = 23 ∨ x = 22 := by
        rcases List.mem_append.mp hm with q | q
        · cases q
        · rcases List.mem_append.mp q with q | q
          · exact Or.inl (List.eq_of_mem_replicate q)
          · rcases List.mem_append.mp q with q | q
            · split at q
              · exact Or.inr (Or.inl (List.mem_singleton.mp q))
              · cases q
            · split at q
              · exact Or.inr (Or.inr (List.mem_singleton.mp q))
              · cases q
      rcases this with rfl | rfl | rfl <;> decide
  rw [e]
  refine ⟨?_, rfl⟩
  unfold wO wR
  rw [hc]
  rfl
theorem rel_and {r : Nat} {S : PS} (hS : sOK r S) (hb : brk S.1.1 = 0) : 23 :: (rel (stg 23) (wO S.1) S.2.2).1 = wO ([], none, 0, true, S.1.2.2.2.2) ∧ (rel (stg 23) (wO S.1) S.2.2).2 = S.2.2 ++ em (S.1.1 ++ (S.1.2.1.toList ++ (List.replicate S.1.2.2.1 24 ++ (if S.1.2.2.2.1 = true then [23] else [])))) := by
  have e : rel (stg 23) (wO S.1) S.2.2 = ((if S.1.2.2.2.2 = true then [22] else []), S.2.2 ++ em (S.1.1 ++ (S.1.2.1.toList ++ (List.replicate S.1.2.2.1 24 ++ (if S.1.2.2.2.1 = true then [23] else []))))) := by
    have e1 : wO S.1 = (S.1.1 ++ (S.1.2.1.toList ++ (List.replicate S.1.2.2.1 24 ++ (if S.1.2.2.2.1 = true then [23] else [])))) ++ (if S.1.2.2.2.2 = true then [22] else []) := by
      unfold wO wR
      simp only [List.append_assoc]
    rw [e1, show stg 23 = 2 from rfl, rel_all ?_]
    · split <;> rfl
    · intro k hk
      rcases List.mem_append.mp hk with q | q
      · exact p_stg hS hb (by decide) k q
      · rcases List.mem_append.mp q with q | q
        · have hk := hS.2.2.1 k (by simpa using q)
          unfold stg
          repeat' (first | omega | split)
        · rcases List.mem_append.mp q with q | q
          · rw [List.eq_of_mem_replicate q]; decide
          · split at q
            · rw [List.mem_singleton.mp q]; decide
            · cases q
  rw [e]
  exact ⟨rfl, rfl⟩
theorem rel_or {r : Nat} {S : PS} (hS : sOK r S) (hb : brk S.1.1 = 0) : rel 1 (wO S.1) S.2.2 = ([], S.2.2 ++ em (wO S.1)) := by
  have := rel_all (s := 1) (w := wO S.1) (u := []) (cd := S.2.2) (fun k hk => by
    rcases List.mem_append.mp hk with q | q
    · exact p_stg hS hb (by decide) k q
    · exact (stg_r (wR_mem hS.2.2.1 k q)).1)
  rw [List.append_nil] at this
  rw [this]
  rfl
theorem sX3_takeOperator {G : hd_G} {σ : hd_M} {P : hd_M → Prop} {q r m : Nat} {S : PS} {t : Tk} (hq : hd_law q) (hr : r < 9) (hM : cM σ q r m S) (hS : sOK r S) (hw : S.2.1 = false) (hm : m < 300) (ht : tkOK t) (h8 : σ.1 63 8 = nI t.1) (h10 : σ.1 63 10 = nI t.2.2) (hF : ∀ f σ', pStep r t S = .inl f → agV q σ σ' → σ'.1 62 2 = nI f → σ'.1 62 3 = nI t.2.2 → P σ') (hN : ∀ S' σ', pStep r t S = .inr (.inl S') → agV q σ σ' → cM σ' q r (m + 1) S' → σ'.1 62 3 = σ.1 62 3 → P σ') (hD : ∀ cd σ', pStep r t S = .inr (.inr cd) → agV q σ σ' → cW σ' q [] cd → σ'.1 62 2 = 0 → σ'.1 62 11 = 1 → σ'.1 62 3 = σ.1 62 3 → P σ') : EVv G mX3_takeOperator SH [.ref 62, .int (nI r)] σ P := by
  have l6 := law_62 hq
  obtain ⟨hk, hv, hp⟩ := ht
  obtain ⟨lag, cdc, c1, c2, c3⟩ := cM_cW hM
  have c5 : σ.1 62 2 = 0 := by obtain ⟨_, _, _, _, _, _, c5, _⟩ := hM; exact c5
  have c9 : σ.1 62 9 = 0 := by
    obtain ⟨_, _, _, _, _, _, _, _, c7, _⟩ := hM
    rw [c7, hw]; rfl
  have c10 : σ.1 62 10 = zI (cl_bit S.1.2.1.isSome) := by obtain ⟨_, _, _, _, _, _, _, _, _, c, _⟩ := hM; exact c
  have c11 : σ.1 62 11 = 0 := by obtain ⟨_, _, _, _, _, _, _, _, _, _, c⟩ := hM; exact c
  have c7 : σ.1 62 7 = nI (brk S.1.1) := by
    have := c1.2.2.2.2.1
    rw [this, brk_app, brk_rep, Nat.zero_add, brk_wO' hS]
  have bl : brk S.1.1 ≤ 300 := by
    have : ∀ w : List Nat, brk w ≤ w.length := by
      intro w
      induction w with
      | nil => exact Nat.le_refl _
      | cons k w ih =>
        rw [List.length_cons]
        show (if k = 36 then 1 else 0) + brk w ≤ _
        split <;> omega
    have h1 := this S.1.1
    have h2 := wO_len S.1
    omega
  have ck : ∀ (m : Nat) (A B : Prop), m < 1000 → (t.1 = m → A) → (t.1 ≠ m → B) → (nI t.1 = nI m → A) ∧ (¬ nI t.1 = nI m → B) := fun m A B hm f g => c_eq (t.1 : Int) (m : Int) rfl rfl (fun z => f (by omega)) (fun z => g (by omega))
  have ckn : ∀ (m : Nat) (A B : Prop), m < 1000 → (t.1 ≠ m → A) → (t.1 = m → B) → (¬ nI t.1 = nI m → A) ∧ (nI t.1 = nI m → B) := fun m A B hm f g => c_ne (t.1 : Int) (m : Int) rfl rfl (fun z => f (by omega)) (fun z => g (by omega))
  have isS : ∀ {o : Option Nat}, o ≠ none → o.isSome = true := fun {o} h => by cases o with
    | none => exact absurd rfl h
    | some _ => rfl
  refine wX3_takeOperator _ (fun X hX v1 e1 => ?_)
  rw [h8] at e1
  subst e1
  -- a join's end
  have joined : ∀ (S' : PS) (s : hd_M), pStep r t S = .inr (.inl S') → agV q σ s → s.1 62 2 = 0 → s.1 62 3 = σ.1 62 3 → s.1 62 8 = 1 → s.1 62 9 = zI (cl_bit (decide (r ≠ 6) && S'.1.1.isEmpty && S'.1.2.1.isNone)) → s.1 62 10 = zI (cl_bit S'.1.2.1.isSome) → s.1 62 11 = 0 → S'.2.1 = true → cW s q (wO S'.1) S'.2.2 → (wO S'.1).length + S'.2.2.length ≤ m + 1 → hd_J G mX3_takeOperator X SH (0, 0) 187 [] [] s := by
    intro S' s e a g2 g3 g8 g9 g10 g11 gw cw gl
    refine wX3_takeOperator_187 hX (hN S' s e a ⟨0, S'.2.2, cw, by simp, fun _ => rfl, by omega, g2, by rw [g8, gw]; rfl, by rw [g9, gw]; rfl, g10, g11⟩ g3)
  have jl : ∀ {k : Nat}, (k :: (rel (stg k) (wO S.1) S.2.2).1).length + (rel (stg k) (wO S.1) S.2.2).2.length ≤ m + 1 := fun {k} => by
    have := rel_len (s := stg k) (w := wO S.1) (cd := S.2.2)
    rw [List.length_cons]
    omega
  have nw : ¬ S.2.1 = true := by rw [hw]; decide
  have b182 : pStep r t S = .inl 1 → hd_J G mX3_takeOperator X SH (0, 0) 182 [(0, .ref 62)] [] σ := by
    intro e
    refine wX3_takeOperator_182 hX (sX3_blame (f := 1) c5 h10 (fun s3 e3 => wX3_takeOperator_187 hX (hF 1 s3 e ?_ ?_ ?_)))
    · rw [e3]; exact agV_62 hq (agV_62 hq agV_rf (by decide)) (by decide)
    · rw [e3, wI_eq, if_neg (by decide), wI_eq, if_pos rfl]
    · rw [e3, wI_eq, if_pos rfl]
  have b144 : pStep r t S = (if t.1 = 3 ∧ brk S.1.1 = 0 ∧ (S.1.2.1 ≠ none ∨ r = 6) then .inr (.inr (S.2.2 ++ em (wO S.1))) else .inl 1) → hd_J G mX3_takeOperator X SH (0, 0) 144 [(0, .ref 62), (1, .int (nI r)), (2, .int (nI t.1))] [] σ := by
    intro ep
    have done : t.1 = 3 → brk S.1.1 = 0 → (S.1.2.1 ≠ none ∨ r = 6) → hd_J G mX3_takeOperator X SH (0, 0) 169 [(0, .ref 62)] [] σ := by
      intro h3 hb ho
      rw [if_pos ⟨h3, hb, ho⟩] at ep
      refine wX3_takeOperator_169 hX (sX3_release (s := 1) hq (by decide) c1 (fun s1 a1 d1 => ⟨Or.inr rfl, fun s2 e2 => wX3_takeOperator_187 hX (hD _ s2 ep ?_ ?_ ?_ ?_ (by rw [e2, wI_eq, if_neg (by decide), a1.2.2 3 (by omega)]))⟩))
      · rw [e2]; exact agV_62 hq (agV_W a1) (by decide)
      · rw [rel_lag (by decide), ← c2, rel_or hS hb] at d1
        rw [e2]
        exact cW_62 hq d1 (by decide)
      · rw [e2, wI_eq, if_neg (by decide), a1.2.2 2 (by omega)]; exact c5
      · rw [e2, wI_eq, if_pos rfl]
    refine wX3_takeOperator_144 hX _ _ (ckn 3 _ _ (by decide) (fun z => ?_) (fun z3 => ?_))
    · rw [if_neg (by omega)] at ep
      exact b182 ep
    · rw [c7, c10]
      refine c_ne (brk S.1.1 : Int) 0 rfl rfl (fun z => ?_) (fun z => ⟨fun zc => ?_, fun zc => c_ne (r : Int) 6 rfl rfl (fun z6 => ?_) (fun z6 => ?_)⟩)
      · rw [if_neg (by omega)] at ep
        exact b182 ep
      · rw [cl_bit_z] at zc
        exact done z3 (by omega) (Or.inl (fun q => zc (by rw [q]; rfl)))
      · rw [cl_bit_z] at zc
        rw [if_neg ?_] at ep
        · exact b182 ep
        · intro w
          rcases w.2.2 with q | q
          · rw [isS q] at zc
            exact absurd zc (by decide)
          · omega
      · exact done z3 (by omega) (Or.inr (by omega))
  have b124 : pStep r t S = (if t.1 = 37 ∧ 0 < brk S.1.1 then .inr (.inl (((rel 7 (rel 1 S.1.1 S.2.2).1.tail (rel 1 S.1.1 S.2.2).2).1, S.1.2), false, (rel 7 (rel 1 S.1.1 S.2.2).1.tail (rel 1 S.1.1 S.2.2).2).2))
    else if t.1 = 3 ∧ brk S.1.1 = 0 ∧ (S.1.2.1 ≠ none ∨ r = 6) then .inr (.inr (S.2.2 ++ em (wO S.1))) else .inl 1) → hd_J G mX3_takeOperator X SH (0, 0) 124 [(0, .ref 62), (1, .int (nI r)), (2, .int (nI t.1))] [] σ := by
    intro ep
    refine wX3_takeOperator_124 hX _ _ (ckn 37 _ _ (by decide) (fun z => ?_) (fun z37 => ?_))
    · rw [if_neg (by omega)] at ep
      exact b144 ep
    · rw [c7]
      refine c_le (brk S.1.1 : Int) 0 rfl rfl (fun z => ?_) (fun z => ?_)
      · rw [if_neg (by omega)] at ep
        exact b144 ep
      · rw [if_pos ⟨z37, by omega⟩] at ep
        obtain ⟨tl, g1, g2, g3⟩ := rel1_b S.1.1 (wR S.1) S.2.2 (by omega)
        refine wX3_closeBracket (sX3_release (s := 1) hq (by decide) c1 (fun s1 a1 d1 s2 e2 s3 e3 s4 e4 => ?_))
        rw [rel_lag (by decide), ← c2, show wO S.1 = S.1.1 ++ wR S.1 from rfl, g2] at d1
        have hl := rel_len (s := 1) (w := wO S.1) (cd := S.2.2)
        rw [show wO S.1 = S.1.1 ++ wR S.1 from rfl, g2] at hl
        have hl1 : (36 :: (tl ++ wR S.1)).length + (rel 1 S.1.1 S.2.2).2.length = (wO S.1).length + S.2.2.length := hl.1
        rw [List.length_cons] at hl1
        generalize hcd : (rel 1 S.1.1 S.2.2).2 = cd1 at *
        rw [g1] at ep
        obtain ⟨w1, w2, w3, w4, w5, w6, w7, w8, w9⟩ := d1
        have nst1 : nst (36 :: (tl ++ wR S.1)) = nst (tl ++ wR S.1) + 1 := by
          show (if isN 36 = true then 1 else 0) + _ = _
          rw [if_pos (show isN 36 = true from rfl)]; omega
        have brk1 : brk (36 :: (tl ++ wR S.1)) = brk (tl ++ wR S.1) + 1 := by
          show (if 36 = 36 then 1 else 0) + _ = _
          rw [if_pos rfl]; omega
        rw [w2, List.length_cons, nI_pred, if_neg (show ¬ nI (tl ++ wR S.1).length < (0 : Int32) from Int32.not_lt.mpr (nI_le (a := 0) (Nat.zero_le _) (by omega)))] at e2
        have f7 : s2.1 62 7 = nI (brk (tl ++ wR S.1) + 1) := by rw [e2, wI_eq, if_neg (by decide), w5, brk1]
        rw [f7, nI_pred] at e3
        have f6 : s3.1 62 6 = nI (nst (tl ++ wR S.1) + 1) := by rw [e3, wI_eq, if_neg (by decide), e2, wI_eq, if_neg (by decide), w4, nst1]
        rw [f6, nI_pred] at e4
        have r4 : ∀ k, k ≠ 62 → s4.1 k = s1.1 k := fun k hk => by rw [e4, wI_ne hk, e3, wI_ne hk, e2, wI_ne hk]
        have j4 : ∀ j, j ≠ 5 → j ≠ 6 → j ≠ 7 → s4.1 62 j = s1.1 62 j := fun j a b c => by rw [e4, wI_eq, if_neg b, e3, wI_eq, if_neg c, e2, wI_eq, if_neg a]
        obtain ⟨j, i1, i2, i3⟩ := rel7 tl cd1
        have ew : tl ++ wR S.1 = List.replicate j 35 ++ wO ((rel 7 tl cd1).1, S.1.2) := by
          show tl ++ wR S.1 = List.replicate j 35 ++ ((rel 7 tl cd1).1 ++ wR S.1)
          rw [← List.append_assoc, ← i1]
        refine wX3_takeOperator_187 hX (hN _ s4 ep ?_ ⟨j, cd1, ?_, i2, fun z => absurd z Bool.false_ne_true, ?_, ?_, ?_, ?_, ?_, ?_⟩ (by rw [j4 3 (by decide) (by decide) (by decide), a1.2.2 3 (by omega)]))
        · rw [e4, e3, e2]
          exact agV_62 hq (agV_62 hq (agV_62 hq (agV_W a1) (by decide)) (by decide)) (by decide)
        · show cW s4 q (List.replicate j 35 ++ wO ((rel 7 tl cd1).1, S.1.2)) cd1
          rw [← ew]
          refine ⟨by rw [j4 1 (by decide) (by decide) (by decide)]; exact w1, ?_, fun i hi => ?_, ?_, ?_, by rw [r4 q l6.1]; exact w6, fun i hi => by rw [r4 (q + 1) l6.2.2.1]; exact w7 i hi, fun x hx => w8 x (List.mem_cons_of_mem _ hx), by rw [List.length_cons] at w9; omega⟩
          · rw [e4, wI_eq, if_neg (by decide), e3, wI_eq, if_neg (by decide), e2, wI_eq, if_pos rfl]
          · rw [r4 77 (by decide), w3 i (by rw [List.length_cons]; omega), wk_getD_lt hi]
          · rw [e4, wI_eq, if_pos rfl]
          · rw [e4, wI_eq, if_neg (by decide), e3, wI_eq, if_pos rfl]
        · show j + (wO ((rel 7 tl cd1).1, S.1.2)).length + cd1.length ≤ m + 1
          have : (tl ++ wR S.1).length = j + (wO ((rel 7 tl cd1).1, S.1.2)).length := by rw [ew, List.length_append, List.length_replicate]
          omega
        · rw [j4 2 (by decide) (by decide) (by decide), a1.2.2 2 (by omega)]; exact c5
        · rw [j4 8 (by decide) (by decide) (by decide), a1.2.2 8 (by omega)]
          obtain ⟨_, _, _, _, _, _, _, c6, _⟩ := hM
          rw [c6, hw]
        · rw [j4 9 (by decide) (by decide) (by decide), a1.2.2 9 (by omega), c9]
          rfl
        · rw [j4 10 (by decide) (by decide) (by decide), a1.2.2 10 (by omega)]; exact c10
        · rw [j4 11 (by decide) (by decide) (by decide), a1.2.2 11 (by omega)]; exact c11
  have main : ∀ x3 : Int32, x3 = zI (cl_bit (decide (r ≠ 6) && decide (brk S.1.1 = 0))) → ¬ (31 ≤ t.1 ∧ t.1 ≤ 34) → hd_J G mX3_takeOperator X SH (0, 0) 47 [(0, .ref 62), (1, .int (nI r)), (2, .int (nI t.1)), (3, .int x3)] [] σ := by
    intro x3 hx n31
    have x30 : x3 = 0 → ¬ (r ≠ 6 ∧ brk S.1.1 = 0) := fun z w => by
      rw [hx, cl_bit_z, decide_eq_true w.1, decide_eq_true w.2] at z
      exact absurd z (by decide)
    have x31 : ¬ x3 = 0 → (r ≠ 6 ∧ brk S.1.1 = 0) := fun z => by
      rw [hx, cl_bit_z] at z
      simpa using z
    have ep : pStep r t S = (if 25 ≤ t.1 ∧ t.1 ≤ 30 ∧ r ≠ 6 ∧ brk S.1.1 = 0 ∧ S.1.2.1 = none then .inr (.inl (([], some t.1, S.1.2.2), true, S.2.2 ++ em S.1.1))
    else if t.1 = 23 ∧ r ≠ 6 ∧ brk S.1.1 = 0 ∧ S.1.2.1 ≠ none then .inr (.inl (([], none, 0, true, S.1.2.2.2.2), true, S.2.2 ++ em (S.1.1 ++ (S.1.2.1.toList ++ (List.replicate S.1.2.2.1 24 ++ (if S.1.2.2.2.1 = true then [23] else []))))))
    else if t.1 = 22 ∧ r ≠ 6 ∧ brk S.1.1 = 0 ∧ S.1.2.1 ≠ none then .inr (.inl (([], none, 0, false, true), true, S.2.2 ++ em (wO S.1)))
    else if t.1 = 37 ∧ 0 < brk S.1.1 then .inr (.inl (((rel 7 (rel 1 S.1.1 S.2.2).1.tail (rel 1 S.1.1 S.2.2).2).1, S.1.2), false, (rel 7 (rel 1 S.1.1 S.2.2).1.tail (rel 1 S.1.1 S.2.2).2).2))
    else if t.1 = 3 ∧ brk S.1.1 = 0 ∧ (S.1.2.1 ≠ none ∨ r = 6) then .inr (.inr (S.2.2 ++ em (wO S.1))) else .inl 1) := by
      show (if S.2.1 = true then _ else _) = _
      rw [if_neg nw, if_neg n31]
    have b83 : ¬ (25 ≤ t.1 ∧ t.1 ≤ 30 ∧ r ≠ 6 ∧ brk S.1.1 = 0 ∧ S.1.2.1 = none) → hd_J G mX3_takeOperator X SH (0, 0) 83 [(0, .ref 62), (1, .int (nI r)), (2, .int (nI t.1)), (3, .int x3)] [] σ := by
      intro nc
      rw [if_neg nc] at ep
      have b95 : (t.1 = 23 ∨ t.1 = 22) → hd_J G mX3_takeOperator X SH (0, 0) 95 [(0, .ref 62), (1, .int (nI r)), (2, .int (nI t.1)), (3, .int x3)] [] σ := by
        intro h2
        refine wX3_takeOperator_95 hX _ _ _ ⟨fun z => ?_, fun z => ?_⟩
        · have := x30 z
          rw [if_neg (fun w => this ⟨w.2.1, w.2.2.1⟩), if_neg (fun w => this ⟨w.2.1, w.2.2.1⟩)] at ep
          exact b124 ep
        · have hx3 := x31 z
          rw [c10]
          refine ⟨fun zc => ?_, fun zc => ?_⟩
          · rw [cl_bit_z] at zc
            have nn : ¬ S.1.2.1 ≠ none := fun q => by rw [isS q] at zc; exact absurd zc (by decide)
            rw [if_neg (fun w => nn w.2.2.2), if_neg (fun w => nn w.2.2.2)] at ep
            exact b124 ep
          · rw [cl_bit_z] at zc
            have nn : S.1.2.1 ≠ none := fun q => zc (by rw [q]; rfl)
            refine sX3_join hq hM hm (by omega) (fun s1 a1 j1 g8 cw => ⟨Or.inl rfl, fun s2 e2 => ⟨Or.inr rfl, fun s3 e3 => ?_⟩⟩)
            have cl := jl (k := t.1)
            have js : ∀ j, j ≠ 9 → j ≠ 10 → s3.1 62 j = s1.1 62 j := fun j a b => by rw [e3, wI_eq, if_neg a, e2, wI_eq, if_neg b]
            have as : agV q σ s3 := by rw [e3, e2]; exact agV_62 hq (agV_62 hq a1 (by decide)) (by decide)
            have cs : cW s3 q (t.1 :: (rel (stg t.1) (wO S.1) S.2.2).1) (rel (stg t.1) (wO S.1) S.2.2).2 := by rw [e3, e2]; exact cW_62 hq (cW_62 hq cw (by decide)) (by decide)
            have g2 : s3.1 62 2 = 0 := by rw [js 2 (by decide) (by decide), j1 2 (by omega)]; exact c5
            have g8' : s3.1 62 8 = 1 := by rw [js 8 (by decide) (by decide)]; exact g8
            have g9 : s3.1 62 9 = 1 := by rw [e3, wI_eq, if_pos rfl]
            have g10 : s3.1 62 10 = 0 := by rw [e3, wI_eq, if_neg (by decide), e2, wI_eq, if_pos rfl]
            have g11 : s3.1 62 11 = 0 := by rw [js 11 (by decide) (by decide), j1 11 (by omega)]; exact c11
            rcases h2 with h2 | h2
            · rw [if_pos ⟨h2, hx3.1, hx3.2, nn⟩] at ep
              have ra := rel_and hS hx3.2
              rw [h2] at cs cl
              rw [ra.1, ra.2] at cs cl
              refine joined _ s3 ep as g2 (by rw [js 3 (by decide) (by decide), j1 3 (by omega)]) g8' ?_ ?_ g11 rfl cs cl
              · rw [g9, decide_eq_true hx3.1]; rfl
              · rw [g10]; rfl
            · rw [if_neg (by omega), if_pos ⟨h2, hx3.1, hx3.2, nn⟩] at ep
              have ra := rel_or hS hx3.2
              rw [h2, show stg 22 = 1 from rfl, ra] at cs cl
              refine joined _ s3 ep as g2 (by rw [js 3 (by decide) (by decide), j1 3 (by omega)]) g8' ?_ ?_ g11 rfl cs cl
              · rw [g9, decide_eq_true hx3.1]; rfl
              · rw [g10]; rfl
      refine wX3_takeOperator_83 hX _ _ _ (ck 23 _ _ (by decide) (fun z => b95 (Or.inl z)) (fun z3 => ckn 22 _ _ (by decide) (fun z2 => ?_) (fun z2 => b95 (Or.inr z2))))
      rw [if_neg (by omega), if_neg (by omega)] at ep
      exact b124 ep
    refine wX3_takeOperator_47 hX _ _ _ (c_lt (t.1 : Int) 25 rfl rfl (fun z => b83 (by omega)) (fun z25 => c_lt (30 : Int) (t.1 : Int) rfl rfl (fun z => b83 (by omega)) (fun z30 => ⟨fun z => b83 (fun w => x30 z ⟨w.2.2.1, w.2.2.2.1⟩), fun z => ?_⟩)))
    have hx3 := x31 z
    rw [c10]
    refine ⟨fun zc => b83 (fun w => ?_), fun zc => ?_⟩
    · rw [cl_bit_z, w.2.2.2.2] at zc
      exact zc rfl
    · rw [cl_bit_z] at zc
      have nn : S.1.2.1 = none := by
        cases h : S.1.2.1 with
        | none => rfl
        | some c => rw [h] at zc; exact absurd zc Bool.noConfusion
      have hb : 25 ≤ t.1 ∧ t.1 ≤ 30 := by omega
      rw [if_pos ⟨hb.1, hb.2, hx3.1, hx3.2, nn⟩] at ep
      refine sX3_join hq hM hm (by omega) (fun s1 a1 j1 g8 cw => ⟨Or.inr rfl, fun s2 e2 => ?_⟩)
      have ra := rel_cmp hS hb hx3.2 nn
      have cl := jl (k := t.1)
      rw [ra.1, ra.2] at cw cl
      have js : ∀ j, j ≠ 10 → s2.1 62 j = s1.1 62 j := fun j b => by rw [e2, wI_eq, if_neg b]
      refine joined _ s2 ep (by rw [e2]; exact agV_62 hq a1 (by decide)) (by rw [js 2 (by decide), j1 2 (by omega)]; exact c5) (by rw [js 3 (by decide), j1 3 (by omega)]) (by rw [js 8 (by decide)]; exact g8) ?_ (by rw [e2, wI_eq, if_pos rfl]; rfl) (by rw [js 11 (by decide), j1 11 (by omega)]; exact c11) rfl (by rw [e2]; exact cW_62 hq cw (by decide)) cl
      rw [js 9 (by decide), j1 9 (by omega), c9]
      simp [cl_bit, zI_0]
  have bins : 31 ≤ t.1 ∧ t.1 ≤ 34 → EVv G mX3_join SH [.ref 62, .int (nI t.1)] σ (fun s3 => hd_J G mX3_takeOperator X SH (0, 0) 187 [] [] s3) := by
    intro hb
    have ep : pStep r t S = .inr (.inl ((t.1 :: (rel (stg t.1) S.1.1 S.2.2).1, S.1.2), true, (rel (stg t.1) S.1.1 S.2.2).2)) := by
      show (if S.2.1 = true then _ else _) = _
      rw [if_neg nw, if_pos hb]
    refine sX3_join hq hM hm (by omega) (fun s1 a1 j1 g8 cw => ?_)
    have ra := rel_bin hS hb
    have cl := jl (k := t.1)
    rw [ra.1, ra.2] at cw cl
    refine joined _ s1 ep a1 (by rw [j1 2 (by omega)]; exact c5) (j1 3 (by omega)) g8 ?_ (by rw [j1 10 (by omega)]; exact c10) (by rw [j1 11 (by omega)]; exact c11) rfl cw cl
    rw [j1 9 (by omega), c9]
    simp [cl_bit, zI_0]
  have go : ∀ x3 : Int32, x3 = zI (cl_bit (decide (r ≠ 6) && decide (brk S.1.1 = 0))) → (nI t.1 < 31 → hd_J G mX3_takeOperator X SH (0, 0) 47 [(0, .ref 62), (1, .int (nI r)), (2, .int (nI t.1)), (3, .int x3)] [] σ) ∧ (31 ≤ nI t.1 → (34 < nI t.1 → hd_J G mX3_takeOperator X SH (0, 0) 47 [(0, .ref 62), (1, .int (nI r)), (2, .int (nI t.1)), (3, .int x3)] [] σ) ∧ (nI t.1 ≤ 34 → EVv G mX3_join SH [.ref 62, .int (nI t.1)] σ (fun s3 => hd_J G mX3_takeOperator X SH (0, 0) 187 [] [] s3))) := by
    intro x3 hx
    exact c_lt (t.1 : Int) 31 rfl rfl (fun z => main x3 hx (by omega)) (fun z31 => c_lt (34 : Int) (t.1 : Int) rfl rfl (fun z => main x3 hx (by omega)) (fun z34 => bins (by omega)))
  refine c_eq (r : Int) 6 rfl rfl (fun z v2 e2 => go v2 ?_) (fun z => ?_)
  · have : r = 6 := by omega
    rw [e2, this]; rfl
  · have hr6 : r ≠ 6 := by omega
    rw [c7]
    refine c_ne (brk S.1.1 : Int) 0 rfl rfl (fun zb v4 e4 => go v4 ?_) (fun zb v4 e4 => go v4 ?_)
    · rw [e4, decide_eq_false (show ¬ brk S.1.1 = 0 by omega), Bool.and_false]; rfl
    · rw [e4, decide_eq_true hr6, decide_eq_true (show brk S.1.1 = 0 by omega)]; rfl
