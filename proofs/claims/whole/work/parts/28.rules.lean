theorem k_6 : (6 : Int32).toNatClampNeg = 6 := rfl
theorem k_7 : (7 : Int32).toNatClampNeg = 7 := rfl
theorem k_8 : (8 : Int32).toNatClampNeg = 8 := rfl
theorem k_9 : (9 : Int32).toNatClampNeg = 9 := rfl
theorem vl_6 : vp_in 6 10 := hd_vn (k := 6) (by decide) (by decide)
theorem vl_7 : vp_in 7 10 := hd_vn (k := 7) (by decide) (by decide)
theorem vl_8 : vp_in 8 10 := hd_vn (k := 8) (by decide) (by decide)
theorem vl_9 : vp_in 9 10 := hd_vn (k := 9) (by decide) (by decide)
theorem sX4_show {G : hd_G} {σ : hd_M} {P : hd_M → Prop} {v : Nat} (hN : NV σ) (hv : v < 2187) (h : ∀ σ', ag [78, 79] σ σ' → NI σ' (dg v) → σ'.1 78 2 = nI v → P σ') : EVv G mX4_show SH [.ref 78, .int (nI v)] σ P := by
  obtain ⟨w, hw, h1, h2⟩ := hN
  refine wX4_show _ (fun X hX => c_ne (v : Int) (w : Int) rfl h1 (fun hne => ?_) (fun he => ?_))
  · intro s1 e1 v2 e2 v3 e3
    rw [e2, e3]
    have key : ∀ k, k ≤ 6 → ∀ σ1 : hd_M, ag [78, 79] σ σ1 → σ1.1 78 2 = nI v → (∀ j, j < k → σ1.1 79 j = nI (dg v j)) → (∀ j, j < 10 → ∃ z : Int, σ1.1 79 j = zI z ∧ cl_m z) → hd_J G mX4_show X SH (0, 0) 18 [(0, .ref 78), (2, .int (nI (v / 3 ^ k))), (3, .int (nI k))] [] σ1 := by
      refine hd_upto (n := 6) (fun k => ∀ σ1 : hd_M, ag [78, 79] σ σ1 → σ1.1 78 2 = nI v → (∀ j, j < k → σ1.1 79 j = nI (dg v j)) → (∀ j, j < 10 → ∃ z : Int, σ1.1 79 j = zI z ∧ cl_m z) → hd_J G mX4_show X SH (0, 0) 18 [(0, .ref 78), (2, .int (nI (v / 3 ^ k))), (3, .int (nI k))] [] σ1) (fun k hk ih σ1 a1 a2 a3 a4 => ?_)
      have hvk : v / 3 ^ k ≤ v := Nat.div_le_self _ _
      refine wX4_show_18 hX _ _ (c_le 6 (k : Int) rfl rfl (fun h6 => ?_) (fun h6 => ?_))
      · have hk6 : k = 6 := by omega
        subst hk6
        refine ⟨vl_6, fun s1 e1 => ?_⟩
        rw [e1, k_6]
        refine h _ (ag_wI a1 (by decide)) ⟨fun j hj => ?_, dg_o7 hv, fun j hj => ?_⟩ (by rw [wI_ne (by decide)]; exact a2)
        · rw [wI_eq]
          by_cases hj6 : j = 6
          · subst hj6
            rw [if_pos rfl]
            rfl
          · rw [if_neg hj6]
            exact a3 j (by omega)
        · rw [wI_eq]
          split
          · exact ⟨((v / 3 ^ 6 : Nat) : Int), rfl, ⟨by omega, by omega⟩⟩
          · exact a4 j hj
      · refine ⟨by decide, hd_vn (by omega) (by decide), fun s2 e2 => ⟨by decide, fun v3 e3 v4 e4 => ?_⟩⟩
        have hm : nI (v / 3 ^ k) - nI (v / 3 ^ k) / 3 * 3 = nI (v / 3 ^ k % 3) := pk_rem (d := 3) (by omega) (by decide) (by decide)
        have hd : nI (v / 3 ^ k) / 3 = nI (v / 3 ^ (k + 1)) := by
          rw [Nat.pow_succ, ← Nat.div_div_eq_div_mul]
          exact pk_div (d := 3) (by omega) (by decide) (by decide)
        rw [nI_clamp (by omega), hm] at e2
        rw [e2, e3, e4, hd, nI_1]
        have hm3 : v / 3 ^ k % 3 < 3 := Nat.mod_lt _ (by decide)
        refine ih (by omega) _ (ag_wI a1 (by decide)) (by rw [wI_ne (by decide)]; exact a2) (fun j hj => ?_) (fun j hj => ?_)
        · rw [wI_eq]
          by_cases hjk : j = k
          · rw [if_pos hjk]
            unfold dg
            rw [if_neg (by omega), hjk]
          · rw [if_neg hjk]
            exact a3 j (by omega)
        · rw [wI_eq]
          split
          · exact ⟨((v / 3 ^ k % 3 : Nat) : Int), rfl, nI_m hm3⟩
          · exact a4 j hj
    have k0 := key 0 (by decide) s1 ?_ ?_ ?_ ?_
    · rw [Nat.pow_zero, Nat.div_one] at k0
      exact k0
    · rw [e1]; exact ag_wI ag_rf (by decide)
    · rw [e1, wI_eq, if_pos rfl]
    · intro j hj; omega
    · rw [e1, wI_ne (by decide)]; exact h2.2.2
  · have he : v = w := by omega
    subst he
    exact h σ ag_rf h2 h1
theorem sX4_gather {G : hd_G} {σ : hd_M} {P : Int32 → hd_M → Prop} {f : Nat → Nat} (hN : NI σ f) (h : P (nI (nm f)) (hd_wI σ 78 2 (nI (nm f)))) : EVi G mX4_gather SH [.ref 78] σ P := by
  refine wX4_gather (fun X hX => ⟨vl_6, fun v1 e1 v2 e2 => ?_⟩)
  have e1 : v1 = nI (f 6) := e1.trans (hN.1 6 (by decide))
  have st : ∀ a b : Nat, nI a * 3 + nI b = nI (b + 3 * a) := fun a b => by
    rw [show (3 : Int32) = nI 3 from rfl, pk_mul, nI_add]
    congr 1
    omega
  have e2 : v2 = nI 5 := e2
  rw [e1, e2]
  refine wX4_gather_10 hX _ _ (b_lt' (by decide) ⟨hd_vn (k := 5) (by decide) (by decide), fun v3 e3 v4 e4 => ?_⟩)
  have e4 : v4 = nI 4 := by rw [e4]; rfl
  have e3 : v3 = nI (f 5 + 3 * f 6) := by rw [e3, ← st, ← hN.1 5 (by decide)]; rfl
  rw [e3, e4]
  refine wX4_gather_10 hX _ _ (b_lt' (by decide) ⟨hd_vn (k := 4) (by decide) (by decide), fun v3 e3 v4 e4 => ?_⟩)
  have e4 : v4 = nI 3 := by rw [e4]; rfl
  have e3 : v3 = nI (f 4 + 3 * (f 5 + 3 * f 6)) := by rw [e3, ← st _ (f 4), ← hN.1 4 (by decide)]; rfl
  rw [e3, e4]
  refine wX4_gather_10 hX _ _ (b_lt' (by decide) ⟨hd_vn (k := 3) (by decide) (by decide), fun v3 e3 v4 e4 => ?_⟩)
  have e4 : v4 = nI 2 := by rw [e4]; rfl
  have e3 : v3 = nI (f 3 + 3 * (f 4 + 3 * (f 5 + 3 * f 6))) := by rw [e3, ← st _ (f 3), ← hN.1 3 (by decide)]; rfl
  rw [e3, e4]
  refine wX4_gather_10 hX _ _ (b_lt' (by decide) ⟨hd_vn (k := 2) (by decide) (by decide), fun v3 e3 v4 e4 => ?_⟩)
  have e4 : v4 = nI 1 := by rw [e4]; rfl
  have e3 : v3 = nI (f 2 + 3 * (f 3 + 3 * (f 4 + 3 * (f 5 + 3 * f 6)))) := by rw [e3, ← st _ (f 2), ← hN.1 2 (by decide)]; rfl
  rw [e3, e4]
  refine wX4_gather_10 hX _ _ (b_lt' (by decide) ⟨hd_vn (k := 1) (by decide) (by decide), fun v3 e3 v4 e4 => ?_⟩)
  have e4 : v4 = nI 0 := by rw [e4]; rfl
  have e3 : v3 = nI (f 1 + 3 * (f 2 + 3 * (f 3 + 3 * (f 4 + 3 * (f 5 + 3 * f 6))))) := by rw [e3, ← st _ (f 1), ← hN.1 1 (by decide)]; rfl
  rw [e3, e4]
  refine wX4_gather_10 hX _ _ (b_lt' (by decide) ⟨hd_vn (k := 0) (by decide) (by decide), fun v3 e3 v4 e4 => ?_⟩)
  have e4 : v4 = -1 := by rw [e4]; rfl
  have e3 : v3 = nI (nm f) := by unfold nm; rw [e3, ← st _ (f 0), ← hN.1 0 (by decide)]; rfl
  rw [e3, e4]
  exact wX4_gather_10 hX _ _ (b_lt (by decide) (fun s1 e1 => by rw [e1]; exact h))
theorem sX4_isPlace {G : hd_G} {σ : hd_M} {P : Int32 → hd_M → Prop} {sz : Nat → Nat} {p : Nat} {z : Int} (hS : SZ σ sz) (hp : p < 6) (hz : -1000 < z ∧ z < 1000) (h : P (zI (cl_bit (isP sz p z))) σ) : EVi G mX4_isPlace SH [.ref 78, .int (nI p), .int (zI z)] σ P := by
  have hs := hS p hp
  refine wX4_isPlace _ _ (b_lt' (nI_pos' (by omega)) (b_le' (nI_lt (b := 6) hp (by decide)) (c_lt z 0 rfl rfl (fun h1 => ?_) (fun h1 => ⟨hd_vn hp (by decide), ?_⟩))))
  · have : isP sz p z = false := by unfold isP; simp; omega
    rw [this] at h
    exact ⟨Or.inl rfl, h⟩
  · rw [nI_clamp (by omega), hs.1]
    refine c_le (sz p : Int) z rfl rfl (fun h2 => ?_) (fun h2 => ?_)
    · have : isP sz p z = false := by unfold isP; simp; omega
      rw [this] at h
      exact ⟨Or.inl rfl, h⟩
    · have : isP sz p z = true := by unfold isP; simp; omega
      rw [this] at h
      exact ⟨Or.inr rfl, h⟩
theorem setF_o7 {sz : Nat → Nat} {c : Nat} : ∀ {l : List (Nat × Nat × Nat)} {f : Nat → Nat}, (∀ s ∈ l, s.1 < 21 ∧ s.2.1 < 6 ∧ s.2.2 < 3) → o7 f → o7 (setF sz c l f)
  | [], _, _, h => h
  | s :: r, f, hl, h => by
    unfold setF
    refine setF_o7 (fun t ht => hl t (List.mem_cons_of_mem _ ht)) ?_
    split
    · exact up_o7 h (hl s List.mem_cons_self).2.2
    · exact h
theorem sX4_setBy {G : hd_G} {σ : hd_M} {P : hd_M → Prop} {q c : Nat} {L : LW} {sz f : Nat → Nat} (hq : hd_law q) (hl : lq σ q L) (hL : LWok L) (hS : SZ σ sz) (hN : NI σ f) (hc : c < 1000) (h : ∀ σ', ag [79] σ σ' → NI σ' (setF sz c L.2.1 f) → P σ') : EVv G mX4_setBy SH [.ref 78, .ref q, .int (nI c)] σ P := by
  refine wX4_setBy hq _ (fun X hX v1 e1 => ?_)
  have key : ∀ (l : List (Nat × Nat × Nat)) (i : Nat) (σ1 : hd_M) (g : Nat → Nat), i + l.length = L.2.1.length → (∀ j, j < l.length → L.2.1.getD (i + j) (0, 0, 0) = l.getD j (0, 0, 0)) → (∀ s ∈ l, s.1 < 21 ∧ s.2.1 < 6 ∧ s.2.2 < 3) → ag [79] σ σ1 → NI σ1 g → setF sz c l g = setF sz c L.2.1 f → hd_J G mX4_setBy X SH (0, 0) 2 [(0, .ref 78), (1, .ref q), (2, .int (nI c)), (3, .int (nI i))] [] σ1 := by
    intro l
    induction l with
    | nil =>
      intro i σ1 g hi hj hb ha hn he
      have hi : i = L.2.1.length := by simpa using hi
      have l1 := lq_ag hl hq (ag79 ha)
      refine wX4_setBy_2 hq hX _ _ ?_
      rw [l1.2.1, hi]
      exact b_le (nI_le (Nat.le_refl _) (by have := hL.2.1; omega)) (h σ1 ha (by rw [← he]; exact hn))
    | cons s l ih =>
      intro i σ1 g hi hj hb ha hn he
      rw [List.length_cons] at hi
      have hlen := hL.2.1
      have l1 := lq_ag hl hq (ag79 ha)
      have hs := hb s List.mem_cons_self
      have hs0 : L.2.1.getD i (0, 0, 0) = s := by simpa using hj 0 (by simp)
      obtain ⟨c1, c2, c3⟩ := l1.2.2.1 i (by omega)
      rw [hs0] at c1 c2 c3
      have nx : ∀ σ2 g2, ag [79] σ σ2 → NI σ2 g2 → setF sz c l g2 = setF sz c L.2.1 f → hd_J G mX4_setBy X SH (0, 0) 2 [(0, .ref 78), (1, .ref q), (2, .int (nI c)), (3, .int (nI i + 1))] [] σ2 := by
        intro σ2 g2 b1 b2 b3
        rw [nI_1]
        refine ih (i + 1) σ2 g2 (by omega) (fun j h1 => ?_) (fun t ht => hb t (List.mem_cons_of_mem _ ht)) b1 b2 b3
        have := hj (j + 1) (by simp; omega)
        rw [show i + 1 + j = i + (j + 1) by omega, this]
        simp
      have he : setF sz c l (if s.1 = c ∧ s.2.2 < sz s.2.1 then up g s.2.1 s.2.2 else g) = setF sz c L.2.1 f := he
      refine wX4_setBy_2 hq hX _ _ ?_
      rw [l1.2.1, nI_clamp (by omega), c1, c2, c3]
      refine b_le' (nI_lt (by omega) (by omega)) (b_le' (nI_lt (b := 24) (by omega) (by decide)) ⟨hd_vn (by omega) (by decide), c_ne (s.1 : Int) (c : Int) rfl rfl (fun hne v1 e1 => ?_) (fun heq => ⟨hd_vn (by omega) (by decide), hd_vn (by omega) (by decide), ?_⟩)⟩)
      · rw [e1]
        rw [if_neg (fun z => hne (by rw [z.1]))] at he
        exact nx σ1 g ha hn he
      · refine sX4_isPlace (z := (s.2.2 : Int)) (SZ_ag hS (ag79 ha)) hs.2.1 ⟨by omega, by omega⟩ ?_
        have hcs : s.1 = c := by omega
        by_cases hp : s.2.2 < sz s.2.1
        · rw [if_pos ⟨hcs, hp⟩] at he
          have : isP sz s.2.1 (s.2.2 : Int) = true := by unfold isP; simp; omega
          rw [this]
          refine b_eq' (by decide) ⟨hd_vn (by omega) (by decide), hd_vn (by omega) (by decide), ?_⟩
          rw [c2, c3, nI_clamp (by omega)]
          refine ⟨hd_vn (by omega) (by decide), fun s5 e5 v6 e6 => ?_⟩
          rw [e5, e6]
          exact nx _ _ (ag_wI ha (by decide)) (NI_set hn (by omega) hs.2.2) he
        · rw [if_neg (fun z => hp z.2)] at he
          have : isP sz s.2.1 (s.2.2 : Int) = false := by unfold isP; simp; omega
          rw [this]
          refine b_eq (by decide) (fun v4 e4 => ?_)
          rw [e4]
          exact nx σ1 g ha hn he
  rw [e1]
  exact key L.2.1 0 σ f (by simp) (fun j _ => by rw [Nat.zero_add]) hL.2.2.1 ag_rf hN rfl
