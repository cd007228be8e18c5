/-! the class's Rules -/
/-- the names' row shows f; the rest is small -/
def NI (σ : hd_M) (f : Nat → Nat) : Prop := (∀ k, k < 7 → σ.1 79 k = nI (f k)) ∧ o7 f ∧ ∀ k, k < 10 → ∃ z : Int, σ.1 79 k = zI z ∧ cl_m z
def NV (σ : hd_M) : Prop := ∃ v, v < 2187 ∧ σ.1 78 2 = nI v ∧ NI σ (dg v)
def lq (σ : hd_M) (q : Nat) (L : LW) : Prop :=
  (∀ r, r < 9 → match L.1 r with
    | none => σ.1 (q + 2) r = -1
    | some cs => ∃ s0 : Nat, σ.1 (q + 2) r = nI s0 ∧ σ.1 (q + 3) r = nI (s0 + cs.length) ∧ s0 + cs.length ≤ 300 ∧ ∀ j, j < cs.length → σ.1 (q + 1) (s0 + j) = nI (cs.getD j 0)) ∧
  σ.1 q 7 = nI L.2.1.length ∧ (∀ j, j < L.2.1.length → σ.1 (q + 4) j = nI (L.2.1.getD j (0, 0, 0)).1 ∧ σ.1 (q + 5) j = nI (L.2.1.getD j (0, 0, 0)).2.1 ∧ σ.1 (q + 6) j = nI (L.2.1.getD j (0, 0, 0)).2.2) ∧
  σ.1 q 10 = nI L.2.2.length ∧ ∀ j, j < L.2.2.length → σ.1 (q + 7) j = nI (L.2.2.getD j (0, 0)).1 ∧ σ.1 (q + 8) j = nI (L.2.2.getD j (0, 0)).2
theorem lq_cg {σ σ' : hd_M} {q : Nat} {L : LW} (h : lq σ q L) (hc : ∀ k, q ≤ k → k ≤ q + 8 → σ'.1 k = σ.1 k) : lq σ' q L := by
  have h0 := hc q (by omega) (by omega)
  have h1 := hc (q + 1) (by omega) (by omega)
  have h2 := hc (q + 2) (by omega) (by omega)
  have h3 := hc (q + 3) (by omega) (by omega)
  have h4 := hc (q + 4) (by omega) (by omega)
  have h5 := hc (q + 5) (by omega) (by omega)
  have h6 := hc (q + 6) (by omega) (by omega)
  have h7 := hc (q + 7) (by omega) (by omega)
  have h8 := hc (q + 8) (by omega) (by omega)
  unfold lq
  rw [h0, h1, h2, h3, h4, h5, h6, h7, h8]
  exact h
theorem law_no {q : Nat} (hq : hd_law q) {k : Nat} (h1 : q ≤ k) (h2 : k ≤ q + 8) : k < 77 ∧ 16 < k ∧ k ≠ 62 ∧ k ≠ 63 ∧ k ≠ 64 ∧ k ≠ 65 ∧ k ≠ 66 ∧ k ≠ 67 := by
  rcases hq with rfl | rfl | rfl | rfl | rfl | rfl <;> omega
theorem law_k {q : Nat} (hq : hd_law q) {f : Nat → Prop} (h : f 0) : hd_k SH q 12 f := by
  rcases hq with rfl | rfl | rfl | rfl | rfl | rfl <;> exact hd_kI rfl h
theorem lq_ag {σ σ' : hd_M} {q : Nat} {L : LW} (h : lq σ q L) (hq : hd_law q) (ha : ag [78, 79, 80] σ σ') : lq σ' q L := lq_cg h (fun k h1 h2 => (ha k (by have := law_no hq h1 h2; simp; omega)).1)
def SZ (σ : hd_M) (sz : Nat → Nat) : Prop := ∀ p, p < 6 → σ.1 3 p = nI (sz p) ∧ sz p ≤ 3
theorem SZ_ag {σ σ' : hd_M} {sz : Nat → Nat} (h : SZ σ sz) (ha : ag [78, 79, 80] σ σ') : SZ σ' sz := fun p hp => by rw [(ha 3 (by decide)).1]; exact h p hp
theorem NI_ag {σ σ' : hd_M} {f : Nat → Nat} (h : NI σ f) (ha : ag [80] σ σ') : NI σ' f := by
  unfold NI
  rw [(ha 79 (by decide)).1]
  exact h
theorem ag80 {σ σ' : hd_M} (h : ag [80] σ σ') : ag [78, 79, 80] σ σ' := ag_mo h (fun k hk => by simp at hk; simp [hk])
theorem ag79 {σ σ' : hd_M} (h : ag [79] σ σ') : ag [78, 79, 80] σ σ' := ag_mo h (fun k hk => by simp at hk; simp [hk])
theorem ag89 {σ σ' : hd_M} (h : ag [78, 79] σ σ') : ag [78, 79, 80] σ σ' := ag_mo h (fun k hk => by simp at hk; simp; omega)
theorem nI_m {k : Nat} (h : k < 3) : cl_m (k : Int) := ⟨by omega, by omega⟩
theorem NI_set {σ : hd_M} {f : Nat → Nat} {p x : Nat} (h : NI σ f) (hp : p < 7) (hx : x < 3) : NI (hd_wI σ 79 p (nI x)) (up f p x) := by
  refine ⟨fun k hk => ?_, up_o7 h.2.1 hx, fun k hk => ?_⟩
  · rw [wI_eq]
    unfold up
    split
    · rfl
    · exact h.1 k hk
  · rw [wI_eq]
    split
    · exact ⟨(x : Int), rfl, nI_m hx⟩
    · exact h.2.2 k hk
theorem NI_nam {σ : hd_M} {f : Nat → Nat} {p : Nat} {z : Int} (h : NI σ f) (hp : 7 ≤ p) (hz : cl_m z) : NI (hd_wI σ 79 p (zI z)) f := by
  refine ⟨fun k hk => ?_, h.2.1, fun k hk => ?_⟩
  · rw [wI_eq, if_neg (by omega)]
    exact h.1 k hk
  · rw [wI_eq]
    split
    · exact ⟨z, rfl, hz⟩
    · exact h.2.2 k hk
theorem NI_cg {σ : hd_M} {f g : Nat → Nat} (h : NI σ f) (hg : ∀ k, k < 7 → f k = g k) : NI σ g := ⟨fun k hk => by rw [← hg k hk]; exact h.1 k hk, fun k hk => by rw [← hg k hk]; exact h.2.1 k hk, h.2.2⟩
theorem NI_e {σ : hd_M} {f : Nat → Nat} (h : NI σ f) : ∀ k, k < 10 → σ.1 79 k = zI (σ.1 79 k).toInt ∧ cl_m (σ.1 79 k).toInt := by
  intro k hk
  obtain ⟨z, h1, h2⟩ := h.2.2 k hk
  rw [h1, zI_toInt (cl_m_r h2)]
  exact ⟨rfl, h2⟩
theorem cl_run_m {e : Nat → Int} (he : ∀ k, k < 10 → cl_m (e k)) {r : Nat} : ∀ {cs : List Nat} {s fin : cl_S}, (∀ c ∈ cs, 10012 ≤ c → c < 10022 → al r (c - 10012) = true) → cl_ok s → cl_run e cs s = some fin → cl_ok fin
  | [], s, fin, _, h, hr => by
    have : s = fin := Option.some.inj hr
    rw [← this]
    exact h
  | c :: cs, s, fin, ha, h, hr => by
    unfold cl_run at hr
    cases hop : cl_op c e s with
    | none => rw [hop] at hr; cases hr
    | some s1 =>
      rw [hop] at hr
      refine cl_run_m he (fun d hd => ha d (List.mem_cons_of_mem _ hd)) ?_ hr
      by_cases hc : 10022 ≤ c
      · exact (cl_op_c (vs := s.1) (ts := s.2) hop hc h).1
      · unfold cl_op at hop
        by_cases h1 : c < 10000
        · rw [if_pos h1] at hop
          rw [← Option.some.inj hop]
          intro z hz
          rcases List.mem_cons.mp hz with rfl | hz
          · exact ⟨by omega, by omega⟩
          · exact h z hz
        · rw [if_neg h1] at hop
          by_cases h2 : c < 10012
          · rw [if_pos h2] at hop
            cases hop
          · rw [if_neg h2, if_pos (by omega)] at hop
            rw [← Option.some.inj hop]
            intro z hz
            rcases List.mem_cons.mp hz with rfl | hz
            · exact he _ (by omega)
            · exact h z hz
theorem sX2_has {G : hd_G} {σ : hd_M} {P : Int32 → hd_M → Prop} {q r : Nat} {L : LW} (hq : hd_law q) (hr : r < 9) (hl : lq σ q L) (h : P (zI (cl_bit (L.1 r).isSome)) σ) : EVi G mX2_has SH [.ref q, .int (nI r)] σ P := by
  refine wX2_has hq _ (b_lt' (nI_pos' (by omega)) (b_le' (nI_lt (b := 9) hr (by decide)) ⟨hd_vn hr (by decide), ?_⟩))
  rw [nI_clamp (by omega)]
  have h1 := hl.1 r hr
  cases hc : L.1 r with
  | none =>
    rw [hc] at h1 h
    exact b_eq h1 ⟨Or.inl rfl, h⟩
  | some cs =>
    rw [hc] at h1 h
    obtain ⟨s0, h2, -, h3, -⟩ := h1
    refine b_eq' (fun z => ?_) ⟨Or.inr rfl, h⟩
    rw [h2] at z
    have := congrArg Int32.toInt z
    rw [nI_toInt (by omega)] at this
    have h4 : (-1 : Int32).toInt = -1 := rfl
    omega
theorem sRuleB {G : hd_G} {σ : hd_M} {P : Int32 → hd_M → Prop} {q r : Nat} {L : LW} {cs : List Nat} {f : Nat → Nat} {e : Nat → Int} (hq : hd_law q) (hl : lq σ q L) (hL : LWok L) (hr : r < 9) (h6 : r ≠ 6) (hcs : L.1 r = some cs) (hN : NI σ f) (he : ∀ k, k < 10 → al r k = true → σ.1 79 k = zI (e k) ∧ cl_m (e k)) (h : ∀ σ', ag [80] σ σ' → P (zI (cl_bit (cl_b e cs))) σ') : EVi G mX4_valueOf SH [.ref 78, .ref q, .int (nI r)] σ P := by
  have h1 := hl.1 r hr
  rw [hcs] at h1
  obtain ⟨s0, a1, a2, a3, a4⟩ := h1
  obtain ⟨ga, gb⟩ := (hL.1 r cs hr hcs).2.1 h6
  obtain ⟨b, hb⟩ := gb _ (fun k hk => (NI_e hN k hk).2)
  refine sX4_valueOf hq hr a1 a2 a3 a4 (NI_e hN) hb (by simp [cl_flat]) (ga.2 _ (fun k hk => (NI_e hN k hk).2)) (fun σ' hσ => ?_)
  have hcb : cl_b e cs = b := by
    unfold cl_b
    rw [← gd_cg (e := fun k => (σ.1 79 k).toInt) ga (fun k hk hal => by have := he k hk hal; show (σ.1 79 k).toInt = _; rw [this.1, zI_toInt (cl_m_r this.2)]), hb]
  have := h σ' (ag_cl hσ)
  rw [hcb] at this
  exact this
theorem sRuleS {G : hd_G} {σ : hd_M} {P : Int32 → hd_M → Prop} {q : Nat} {L : LW} {cs : List Nat} {f : Nat → Nat} {e : Nat → Int} (hq : hd_law q) (hl : lq σ q L) (hL : LWok L) (hcs : L.1 6 = some cs) (hN : NI σ f) (he : ∀ k, k < 10 → al 6 k = true → σ.1 79 k = zI (e k) ∧ cl_m (e k)) (h : ∀ σ' z, cl_z e cs = z → cl_m z → ag [80] σ σ' → P (zI z) σ') : EVi G mX4_valueOf SH [.ref 78, .ref q, .int (nI 6)] σ P := by
  have h1 := hl.1 6 (by decide)
  rw [hcs] at h1
  obtain ⟨s0, a1, a2, a3, a4⟩ := h1
  obtain ⟨ga, gb⟩ := (hL.1 6 cs (by decide) hcs).2.2 rfl
  obtain ⟨z, hb⟩ := gb _ (fun k hk => (NI_e hN k hk).2)
  refine sX4_valueOf hq (by decide) a1 a2 a3 a4 (NI_e hN) hb (by simp [cl_flat]) (ga.2 _ (fun k hk => (NI_e hN k hk).2)) (fun σ' hσ => ?_)
  have hcb : cl_z e cs = z := by
    unfold cl_z
    rw [← gd_cg (e := fun k => (σ.1 79 k).toInt) ga (fun k hk hal => by have := he k hk hal; show (σ.1 79 k).toInt = _; rw [this.1, zI_toInt (cl_m_r this.2)]), hb]
  exact h σ' z hcb (cl_run_m (fun k hk => (NI_e hN k hk).2) ga.1 (fun z hz => by cases hz) hb z (by simp)) (ag_cl hσ)
