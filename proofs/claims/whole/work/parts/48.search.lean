/-! the reference's search: chains -/
def rh (x y : Nat) : Nat := (x * 7 + y * 13) % 4096
def chL (es : List BE) (b : Nat) : Nat → List Nat
  | 0 => []
  | n + 1 => if rh (be es n).1 (be es n).2.1 = b then n :: chL es b n else chL es b n
def lk (σ : hd_M) : Int32 → List Nat → Prop
  | x, [] => x = -1
  | x, k :: r => x = nI k ∧ lk σ (σ.1 109 k) r
theorem chL_mem {es : List BE} {b : Nat} : ∀ {n k : Nat}, k ∈ chL es b n → k < n
  | 0, k, h => by cases h
  | n + 1, k, h => by
    unfold chL at h
    split at h
    · rcases List.mem_cons.mp h with h | h
      · omega
      · have := chL_mem h
        omega
    · have := chL_mem h
      omega
theorem chL_in {es : List BE} {b : Nat} : ∀ {n k : Nat}, k < n → rh (be es k).1 (be es k).2.1 = b → k ∈ chL es b n
  | 0, k, h, _ => by omega
  | n + 1, k, h, hb => by
    unfold chL
    by_cases hk : k = n
    · subst hk
      rw [if_pos hb]
      exact List.mem_cons_self
    · have := chL_in (n := n) (by omega) hb
      split
      · exact List.mem_cons_of_mem _ this
      · exact this
theorem chL_cg {es es' : List BE} {b : Nat} : ∀ {n : Nat}, (∀ k, k < n → be es' k = be es k) → chL es' b n = chL es b n
  | 0, _ => rfl
  | n + 1, h => by
    unfold chL
    rw [h n (by omega), chL_cg (n := n) (fun k hk => h k (by omega))]
theorem lk_cg {σ σ' : hd_M} : ∀ {l : List Nat} {x : Int32}, (∀ k ∈ l, σ'.1 109 k = σ.1 109 k) → lk σ x l → lk σ' x l
  | [], _, _, h => h
  | k :: r, x, hc, h => by
    refine ⟨h.1, ?_⟩
    rw [hc k List.mem_cons_self]
    exact lk_cg (fun j hj => hc j (List.mem_cons_of_mem _ hj)) h.2
def rS (σ : hd_M) (most : Nat) (es : List BE) : Prop := σ.1 94 34 = nI es.length ∧ σ.1 94 35 = nI most ∧ (∀ k, k < es.length → σ.1 105 k = nI (be es k).1 ∧ σ.1 106 k = nI (be es k).2.1 ∧ (0 < k → σ.1 107 k = nI (be es k).2.2.1 ∧ σ.1 108 k = nI (be es k).2.2.2)) ∧ ∀ b, b < 4096 → lk σ (σ.1 110 b) (chL es b es.length)
def sr : List Nat := [94, 100, 101, 102, 103, 104, 105, 106, 107, 108, 109, 110]
def agS (σ σ' : hd_M) : Prop := ag sr σ σ' ∧ ∀ k, k ≠ 27 → k ≠ 34 → k ≠ 35 → σ'.1 94 k = σ.1 94 k
theorem agS_rf {σ : hd_M} : agS σ σ := ⟨ag_rf, fun _ _ _ _ => rfl⟩
theorem agS_tr {σ σ' σ'' : hd_M} (h : agS σ σ') (h' : agS σ' σ'') : agS σ σ'' := ⟨ag_tr h.1 h'.1, fun k a b c => (h'.2 k a b c).trans (h.2 k a b c)⟩
theorem agS_R {σ σ' : hd_M} (h : agR σ σ') : agS σ σ' := ⟨ag_mo h.1 (fun k hk => by simp [sr] at hk ⊢; omega), fun k a _ _ => h.2 k a⟩
theorem agS_c {σ σ' : hd_M} (h : agS σ σ') {k : Nat} (hk : k ∉ sr) : σ'.1 k = σ.1 k := (h.1 k hk).1
theorem fR_S {σ σ' : hd_M} (h : agS σ σ') : fR σ σ' := fR_ag h.1 (by decide)
theorem RREL_S {σ σ' : hd_M} {M : MM} (h : RREL σ M) (ha : agS σ σ') : RREL σ' M := by
  obtain ⟨h1, h2, h3, h4, h5⟩ := h
  refine ⟨?_, ?_, rDesk_cg h3 (agS_c ha (by decide)), rDesk_cg h4 (agS_c ha (by decide)), rTexts_cg h5 (agS_c ha (by decide))⟩
  · unfold rTape
    rw [ha.2 4 (by decide) (by decide) (by decide), agS_c ha (k := 98) (by decide)]
    exact h1
  · rw [ha.2 5 (by decide) (by decide) (by decide), ha.2 6 (by decide) (by decide) (by decide)]
    exact h2
theorem rS_R {σ σ' : hd_M} {most : Nat} {es : List BE} (h : rS σ most es) (ha : agR σ σ') : rS σ' most es := by
  have c : ∀ k, 105 ≤ k → σ'.1 k = σ.1 k := fun k hk => agR_c ha (by simp; omega)
  obtain ⟨h1, h2, h3, h4⟩ := h
  refine ⟨by rw [ha.2 34 (by decide)]; exact h1, by rw [ha.2 35 (by decide)]; exact h2, fun k hk => ?_, fun b hb => ?_⟩
  · rw [c 105 (by decide), c 106 (by decide), c 107 (by decide), c 108 (by decide)]
    exact h3 k hk
  · rw [c 110 (by decide)]
    exact lk_cg (fun k _ => by rw [c 109 (by decide)]) (h4 b hb)
def TL (σ : hd_M) (x : Int32) (L : LW) : Prop := ∃ K cd, TX σ x K cd ∧ KW K ∧ LWof K cd = L ∧ LWok L
theorem TL_S {σ σ' : hd_M} {x : Int32} {L : LW} (h : TL σ x L) (ha : agS σ σ') : TL σ' x L := by
  obtain ⟨K, cd, h1, h2⟩ := h
  exact ⟨K, cd, TX_cg h1 (agS_c ha (by decide)), h2⟩
theorem SR_S {σ σ' : hd_M} {n : Nat} {sz : Nat → Nat} (h : SR σ n sz) (ha : agS σ σ') : SR σ' n sz := SR_cg h (agS_c ha (by decide))
theorem TL_ne {σ : hd_M} {x : Int32} {L : LW} (h : TL σ x L) : ¬ x = -2 := by
  obtain ⟨K, cd, h1, -⟩ := h
  rcases h1 with ⟨h1, -⟩ | ⟨t, h1, h2⟩
  · rw [h1]; decide
  · rw [h1]
    have := h2.1
    intro z
    have z2 := congrArg Int32.toInt z
    rw [nI_toInt (by omega)] at z2
    have e1 : (-2 : Int32).toInt = -2 := rfl
    omega
theorem sX8_made {G : hd_G} {σ : hd_M} {P : Int32 → hd_M → Prop} {x : Int32} {act n v : Nat} {sz : Nat → Nat} {L : LW} (hT : TL σ x L) (hS : SR σ n sz) (hv : v < 2187) (ha : act < 15) (h : ∀ σ', agR σ σ' → P (nI (mkM L sz v act)) σ') : EVi G mX8_made SH [.ref 94, .int x, .int (nI v), .int (nI act)] σ P := by
  refine wX8_made _ _ _ (b_ne (TL_ne hT) (sX8_stand hv (fun s1 a1 r1 => ?_)))
  obtain ⟨K, cd, t1, t2, t3, t4⟩ := hT
  rw [← t3] at t4
  refine sX8_doesV (TX_R t1 a1) t4 t2 (SR_R hS a1) hv r1 ha (fun s2 a2 r2 v4 e4 => ?_)
  rw [t3] at e4 r2 t4
  rw [e4]
  unfold mkM at h
  cases hc : afM L sz v act with
  | none =>
    rw [hc] at h
    rw [haM_none.mpr hc]
    exact b_ne' rfl (h s2 (agR_tr a1 a2))
  | some w =>
    rw [hc] at h r2
    have hw := afM_lt t4 (SR_sz hS) hv ha hc
    refine b_ne (fun z => by rw [haM_none.mp z] at hc; cases hc) (sX8_standing r2 ?_)
    have h := h s2 (agR_tr a1 a2)
    show P (nI (nm (dg w))) s2
    rw [nm_dg hw]
    exact h
theorem sX8_isOpenAt {G : hd_G} {σ : hd_M} {P : Int32 → hd_M → Prop} {x : Int32} {v : Nat} {L : LW} (hT : TL σ x L) (hv : v < 2187) (h : ∀ σ', agR σ σ' → P (zI (cl_bit (opM L (dg v)))) σ') : EVi G mX8_isOpenAt SH [.ref 94, .int x, .int (nI v)] σ P := by
  refine wX8_isOpenAt _ _ (b_ne (TL_ne hT) (sX8_stand hv (fun s1 a1 r1 => ?_)))
  obtain ⟨K, cd, t1, t2, t3, t4⟩ := hT
  rw [← t3] at t4
  refine sX8_isOpen (TX_R t1 a1) t4 r1 (fun s2 a2 r2 => ⟨cl_bit_i _, ?_⟩)
  rw [t3]
  exact h s2 (agR_tr a1 a2)
theorem sX8_isKept {G : hd_G} {σ : hd_M} {P : Int32 → hd_M → Prop} {most x y i act : Nat} {x3 x4 : Int32} {es : List BE} (hS : rS σ most es) (hm : most ≤ 3000) (hl : es.length ≤ most) (he : ∀ k, k < es.length → (be es k).1 < 2187 ∧ (be es k).2.1 < 2187) (hx : x < 2187) (hy : y < 2187) (h3 : 0 < es.length → x3 = nI i ∧ x4 = nI act) (hA : bHas es x y = true → P 1 σ) (hB : bHas es x y = false → es.length = most → P 0 σ) (hN : bHas es x y = false → ¬ es.length = most → ∀ σ', agS σ σ' → rS σ' most (es ++ [(x, y, i, act)]) → P 1 σ') : EVi G mX8_isKept SH [.ref 94, .int (nI x), .int (nI y), .int x3, .int x4] σ P := by
  obtain ⟨r1, r2, r3, r4⟩ := hS
  refine wX8_isKept _ _ _ _ (fun X hX v1 e1 => ?_)
  rw [show (7 : Int32) = nI 7 from rfl, show (13 : Int32) = nI 13 from rfl, pk_mul, pk_mul, nI_add, show nI (x * 7 + y * 13) &&& 4095 = nI (rh x y) from pk_andN (by omega) 12 rfl] at e1
  have hb : rh x y < 4096 := Nat.mod_lt _ (by decide)
  rw [e1]
  refine ⟨hd_vn hb (by decide), fun v2 e2 => ?_⟩
  rw [nI_clamp (by omega)] at e2
  have key : ∀ (l : List Nat) (z : Int32), (∀ k ∈ l, k < es.length) → lk σ z l → (∀ k, k < es.length → rh (be es k).1 (be es k).2.1 = rh x y → k ∈ l ∨ ¬ ((be es k).1 = x ∧ (be es k).2.1 = y)) → hd_J G mX8_isKept X SH (0, 0) 24 [(0, .ref 94), (1, .int (nI x)), (2, .int (nI y)), (3, .int x3), (4, .int x4), (5, .int (nI (rh x y))), (6, .int z)] [] σ := by
    intro l
    induction l with
    | nil =>
      intro z _ hz hno
      have hz : z = -1 := hz
      have no : bHas es x y = false := bHas_no (fun ⟨k, hk, h1, h2⟩ => by
        rcases hno k hk (by rw [h1, h2]) with q | q
        · cases q
        · exact q ⟨h1, h2⟩)
      have hB := hB no
      have hN := hN no
      refine wX8_isKept_24 hX _ _ _ _ _ _ ?_
      rw [hz, r1, r2]
      refine b_lt (by decide) (c_ne (es.length : Int) (most : Int) rfl rfl (fun hne => ?_) (fun heq => ⟨Or.inl rfl, hB (by omega)⟩))
      have cl : (nI es.length).toNatClampNeg = es.length := nI_clamp (by omega)
      rw [cl]
      refine ⟨hd_vn (by omega) (by decide), fun s1 e1 => ?_⟩
      have f1 : s1.1 94 34 = nI es.length := by rw [e1, wI_ne (by decide), r1]
      rw [f1, cl]
      refine ⟨hd_vn (by omega) (by decide), fun s2 e2 => ?_⟩
      have f2 : s2.1 94 34 = nI es.length := by rw [e2, wI_ne (by decide), f1]
      rw [f2, cl]
      refine ⟨hd_vn (by omega) (by decide), fun s3 e3 => ?_⟩
      have f3 : s3.1 94 34 = nI es.length := by rw [e3, wI_ne (by decide), f2]
      rw [f3, cl]
      refine ⟨hd_vn (by omega) (by decide), fun s4 e4 => ⟨hd_vn hb (by decide), ?_⟩⟩
      have f4 : s4.1 94 34 = nI es.length := by rw [e4, wI_ne (by decide), f3]
      rw [f4, cl]
      refine ⟨hd_vn (by omega) (by decide), fun s5 e5 => ⟨hd_vn hb (by decide), fun s6 e6 s7 e7 => ⟨Or.inr rfl, ?_⟩⟩⟩
      have f5 : s5.1 94 34 = nI es.length := by rw [e5, wI_ne (by decide), f4]
      rw [nI_clamp (show rh x y < 2 ^ 31 by omega)] at e5 e6
      rw [f5] at e6
      have f6 : s6.1 94 34 = nI es.length := by rw [e6, wI_ne (by decide), f5]
      rw [f6, nI_1] at e7
      have g4 : s4.1 110 (rh x y) = σ.1 110 (rh x y) := by rw [e4, wI_ne (by decide), e3, wI_ne (by decide), e2, wI_ne (by decide), e1, wI_ne (by decide)]
      rw [g4] at e5
      refine hN (by omega) s7 ⟨?_, fun k k1 k2 k3 => ?_⟩ ⟨?_, ?_, fun k hk => ?_, fun b hb2 => ?_⟩
      · rw [e7, e6, e5, e4, e3, e2, e1]
        exact ag_wI (ag_wI (ag_wI (ag_wI (ag_wI (ag_wI (ag_wI ag_rf (by decide)) (by decide)) (by decide)) (by decide)) (by decide)) (by decide)) (by decide)
      · rw [e7, wI_eq, if_neg k2, e6, wI_ne (by decide), e5, wI_ne (by decide), e4, wI_ne (by decide), e3, wI_ne (by decide), e2, wI_ne (by decide), e1, wI_ne (by decide)]
      · rw [e7, wI_eq, if_pos rfl]
        simp
      · rw [e7, wI_eq, if_neg (by decide), e6, wI_ne (by decide), e5, wI_ne (by decide), e4, wI_ne (by decide), e3, wI_ne (by decide), e2, wI_ne (by decide), e1, wI_ne (by decide), r2]
      · have w1 : s7.1 105 k = if k = es.length then nI x else σ.1 105 k := by rw [e7, wI_ne (by decide), e6, wI_ne (by decide), e5, wI_ne (by decide), e4, wI_ne (by decide), e3, wI_ne (by decide), e2, wI_ne (by decide), e1, wI_eq]
        have w2 : s7.1 106 k = if k = es.length then nI y else σ.1 106 k := by rw [e7, wI_ne (by decide), e6, wI_ne (by decide), e5, wI_ne (by decide), e4, wI_ne (by decide), e3, wI_ne (by decide), e2, wI_eq, e1, wI_ne (by decide)]
        have w3 : s7.1 107 k = if k = es.length then x3 else σ.1 107 k := by rw [e7, wI_ne (by decide), e6, wI_ne (by decide), e5, wI_ne (by decide), e4, wI_ne (by decide), e3, wI_eq, e2, wI_ne (by decide), e1, wI_ne (by decide)]
        have w4 : s7.1 108 k = if k = es.length then x4 else σ.1 108 k := by rw [e7, wI_ne (by decide), e6, wI_ne (by decide), e5, wI_ne (by decide), e4, wI_eq, e3, wI_ne (by decide), e2, wI_ne (by decide), e1, wI_ne (by decide)]
        simp only [List.length_append, List.length_singleton] at hk
        rw [w1, w2, w3, w4]
        by_cases hk2 : k = es.length
        · subst hk2
          rw [if_pos rfl, if_pos rfl, if_pos rfl, if_pos rfl]
          unfold be
          rw [getD_app2]
          exact ⟨rfl, rfl, h3⟩
        · rw [if_neg hk2, if_neg hk2, if_neg hk2, if_neg hk2]
          unfold be
          rw [getD_app1 (show k < es.length by omega)]
          exact r3 k (by omega)
      · have old : ∀ k, k < es.length → be (es ++ [(x, y, i, act)]) k = be es k := fun k hk => getD_app1 hk
        have c9 : ∀ k, k < es.length → s7.1 109 k = σ.1 109 k := fun k hk => by rw [e7, wI_ne (by decide), e6, wI_ne (by decide), e5, wI_eq, if_neg (by omega), e4, wI_ne (by decide), e3, wI_ne (by decide), e2, wI_ne (by decide), e1, wI_ne (by decide)]
        have c10 : s7.1 110 b = if b = rh x y then nI es.length else σ.1 110 b := by rw [e7, wI_ne (by decide), e6, wI_eq, e5, wI_ne (by decide), e4, wI_ne (by decide), e3, wI_ne (by decide), e2, wI_ne (by decide), e1, wI_ne (by decide)]
        have lo : lk s7 (σ.1 110 b) (chL es b es.length) := lk_cg (fun k hk => c9 k (chL_mem hk)) (r4 b hb2)
        rw [List.length_append, List.length_singleton, c10]
        unfold chL
        have nw : be (es ++ [(x, y, i, act)]) es.length = (x, y, i, act) := getD_app2
        rw [nw, chL_cg old]
        by_cases hbx : b = rh x y
        · subst hbx
          rw [if_pos rfl, if_pos rfl]
          refine ⟨rfl, ?_⟩
          rw [show s7.1 109 es.length = σ.1 110 (rh x y) by rw [e7, wI_ne (by decide), e6, wI_ne (by decide), e5, wI_eq, if_pos rfl]]
          exact lo
        · rw [if_neg hbx, if_neg (fun q => hbx q.symm)]
          exact lo
    | cons k r ih =>
      intro z hall hz hno
      have hk := hall k List.mem_cons_self
      have e := r3 k hk
      have bk := he k hk
      refine wX8_isKept_24 hX _ _ _ _ _ _ ?_
      rw [hz.1, nI_clamp (show k < 2 ^ 31 by omega), e.1, e.2.1]
      have nx : ¬ ((be es k).1 = x ∧ (be es k).2.1 = y) → ∀ v8 : Int32, v8 = σ.1 109 k → hd_J G mX8_isKept X SH (0, 0) 24 [(0, .ref 94), (1, .int (nI x)), (2, .int (nI y)), (3, .int x3), (4, .int x4), (5, .int (nI (rh x y))), (6, .int v8)] [] σ := by
        intro hne v8 e8
        rw [e8]
        refine ih _ (fun j hj => hall j (List.mem_cons_of_mem _ hj)) hz.2 (fun j hj hr => ?_)
        rcases hno j hj hr with q | q
        · rcases List.mem_cons.mp q with q | q
          · rw [q]
            exact Or.inr hne
          · exact Or.inl q
        · exact Or.inr q
      refine b_lt' (nI_pos' (by omega)) ⟨hd_vn (by omega) (by decide), c_ne ((be es k).1 : Int) (x : Int) rfl rfl (fun z1 => ⟨hd_vn (by omega) (by decide), fun v8 e8 => nx (fun q => z1 (by rw [q.1])) v8 e8⟩) (fun z1 => ⟨hd_vn (by omega) (by decide), c_ne ((be es k).2.1 : Int) (y : Int) rfl rfl (fun z2 => ⟨hd_vn (by omega) (by decide), fun v8 e8 => nx (fun q => z2 (by rw [q.2])) v8 e8⟩) (fun z2 => ⟨Or.inr rfl, hA (bHas_iff.mpr ⟨k, hk, by omega, by omega⟩)⟩)⟩)⟩
  rw [e2]
  exact key _ _ (fun k hk => chL_mem hk) (r4 _ hb) (fun k hk hr => Or.inl (chL_in hk hr))
def rRow (S : BS) : Int32 := match S.2 with
  | none => -1
  | some false => -2
  | some true => nI (S.1.length - 1)
def rFin (σ : hd_M) (S : BS) : Prop := bOk 3000 S ∧ ∀ k, k < S.1.length → 0 < k → σ.1 107 k = nI (be S.1 k).2.2.1 ∧ σ.1 108 k = nI (be S.1 k).2.2.2
theorem rFin_of {σ : hd_M} {most : Nat} {S : BS} (h : rS σ most S.1) (ok : bOk 3000 S) : rFin σ S := ⟨ok, fun k hk h0 => (h.2.2.1 k hk).2.2 h0⟩
theorem sX8_search {G : hd_G} {σ : hd_M} {P : Int32 → hd_M → Prop} {x1 x2 : Int32} {n most v : Nat} {L1 L2 : LW} {sz : Nat → Nat} (hT1 : TL σ x1 L1) (hT2 : (x2 = -2 ∧ L1 = L2) ∨ TL σ x2 L2) (hS : SR σ n sz) (hm : 0 < most ∧ most ≤ 3000) (hv : v < 2187) (h : ∀ σ', agS σ σ' → rFin σ' (bEnd L1 L2 sz most v) → P (rRow (bEnd L1 L2 sz most v)) σ') : EVi G mX8_search SH [.ref 94, .int x1, .int x2, .int (nI v), .int (nI most)] σ P := by
  have hsz := SR_sz hS
  have hL1 : LWok L1 := by obtain ⟨K, cd, a, b, c, d⟩ := hT1; exact d
  have hL2 : LWok L2 := by
    rcases hT2 with q | ⟨K, cd, a, b, c, d⟩
    · rw [← q.2]; exact hL1
    · exact d
  have ok := bRun_ok (most := most) hL1 hL2 hsz hm.1 hv
  have opn : ∀ (s : hd_M) (w : Nat) (Q : Int32 → hd_M → Prop), agS σ s → w < 2187 → opM L1 (dg w) = true ∨ TL σ x2 L2 → (∀ σ', agR s σ' → Q (zI (cl_bit (opM L2 (dg w)))) σ') → EVi G mX8_isOpenAt SH [.ref 94, .int x2, .int (nI w)] s Q := by
    intro s w Q a hw hor hq
    by_cases h2 : x2 = -2
    · rw [h2]
      refine wX8_isOpenAt _ _ (b_ne' rfl ⟨Or.inr rfl, ?_⟩)
      rcases hT2 with q | q
      · rcases hor with o | o
        · have hq := hq s agR_rf
          rw [← q.2, o] at hq
          exact hq
        · exact absurd h2 (TL_ne o)
      · exact absurd h2 (TL_ne q)
    · rcases hT2 with q | q
      · exact absurd q.1 h2
      · exact sX8_isOpenAt (TL_S q a) hw hq
  refine wX8_search _ _ _ _ (fun X hX s1 e1 v2 e2 => ?_)
  have loop : ∀ (N k : Nat) (s : hd_M), most ≤ k + N → k ≤ most → agS σ s → rS s most (bRun L1 L2 sz most v (15 * k)).1 → (bRun L1 L2 sz most v (15 * k)).2 = none → hd_J G mX8_search X SH (0, 0) 69 [(0, .ref 94), (1, .int x1), (2, .int x2), (6, .int (nI k))] [] s := by
    intro N
    induction N with
    | zero =>
      intro k s hN hk a B hno
      have o := ok (15 * k)
      have e := bEnd_of (j := 15 * k) (by omega) (Or.inr (show (bRun L1 L2 sz most v (15 * k)).1.length ≤ 15 * k / 15 by have := o.2.1; omega))
      refine wX8_search_69 hX _ _ _ ?_
      rw [B.1]
      refine b_le (nI_le (by have := o.2.1; omega) (by omega)) ?_
      rw [e] at h
      have h := h s a (rFin_of B (bOk_mono o hm.2))
      unfold rRow at h
      rw [hno] at h
      exact h
    | succ N ih =>
      intro k s hN hk a B hno
      have inner : ∀ (m act : Nat) (s : hd_M), act + m = 15 → agS σ s → rS s most (bRun L1 L2 sz most v (15 * k + act)).1 → (bRun L1 L2 sz most v (15 * k + act)).2 = none → k < (bRun L1 L2 sz most v (15 * k + act)).1.length → hd_J G mX8_search X SH (0, 0) 81 [(0, .ref 94), (1, .int x1), (2, .int x2), (6, .int (nI k)), (7, .int (nI act))] [] s := by
        intro m
        induction m with
        | zero =>
          intro act s hact a B hno hk2
          have o := ok (15 * k + act)
          refine wX8_search_81 hX _ _ _ _ (b_le (nI_le (a := 15) (by omega) (by omega)) (fun v1 e1 => ?_))
          rw [e1, nI_1]
          have e : 15 * (k + 1) = 15 * k + act := by omega
          exact ih (k + 1) s (by omega) (by have := o.2.1; omega) a (by rw [e]; exact B) (by rw [e]; exact hno)
        | succ m ihm =>
          intro act s hact a B hno hk2
          have ha : act < 15 := by omega
          have o := ok (15 * k + act)
          have o1 := ok (15 * k + (act + 1))
          have hio : k < most := by have := o.2.1; omega
          have oi := o.2.2 k hk2
          generalize hSt : bRun L1 L2 sz most v (15 * k + act) = St at B hk2 o oi hno
          have hnext : bRun L1 L2 sz most v (15 * k + (act + 1)) = bStep L1 L2 sz most St (15 * k + act) := by rw [← hSt]; rfl
          rw [bStep_go hno hk2 ha] at hnext
          have hx1 : mkM L1 sz (be St.1 k).1 act < 2187 := mkM_lt hL1 hsz oi.1 ha
          have hy1 : mkM L2 sz (be St.1 k).2.1 act < 2187 := mkM_lt hL2 hsz oi.2.1 ha
          generalize hxx : mkM L1 sz (be St.1 k).1 act = xx at hnext hx1
          generalize hyy : mkM L2 sz (be St.1 k).2.1 act = yy at hnext hy1
          rw [hnext] at o1
          have hle := o.2.1
          have nxt : ∀ t : hd_M, agS σ t → rS t most (bRun L1 L2 sz most v (15 * k + (act + 1))).1 → (bRun L1 L2 sz most v (15 * k + (act + 1))).2 = none → k < (bRun L1 L2 sz most v (15 * k + (act + 1))).1.length → ∀ w : Int32, w = nI act + 1 → hd_J G mX8_search X SH (0, 0) 81 [(0, .ref 94), (1, .int x1), (2, .int x2), (6, .int (nI k)), (7, .int w)] [] t := by
            intro t b1 b2 b3 b4 w ew
            rw [ew, nI_1]
            exact ihm (act + 1) t (by omega) b1 b2 b3 b4
          have tail : ∀ (t : hd_M) (y : Int32), agS s t → rS t most St.1 → y = nI yy → (x2 = -2 → xx = yy) → EVi G mX8_isKept SH [.ref 94, .int (nI xx), .int y, .int (nI k), .int (nI act)] t (fun y10 s9 => (¬ y10 = 0 → (s9.1 94 34 ≤ nI St.1.length → ∀ v11 : Int32, v11 = nI act + 1 → hd_J G mX8_search X SH (0, 0) 81 [(0, .ref 94), (1, .int x1), (2, .int x2), (6, .int (nI k)), (7, .int v11)] [] s9) ∧ (nI St.1.length < s9.1 94 34 → EVi G mX8_isOpenAt SH [.ref 94, .int x1, .int (nI xx)] s9 (fun y13 s12 => (y13 = 0 → ∀ v14 : Int32, v14 = nI act + 1 → hd_J G mX8_search X SH (0, 0) 81 [(0, .ref 94), (1, .int x1), (2, .int x2), (6, .int (nI k)), (7, .int v14)] [] s12) ∧ (¬ y13 = 0 → EVi G mX8_isOpenAt SH [.ref 94, .int x2, .int y] s12 (fun y16 s15 => (y16 = 0 → ∀ v17 : Int32, v17 = nI act + 1 → hd_J G mX8_search X SH (0, 0) 81 [(0, .ref 94), (1, .int x1), (2, .int x2), (6, .int (nI k)), (7, .int v17)] [] s15) ∧ (¬ y16 = 0 → P (nI St.1.length) s15)))))) ∧ (y10 = 0 → P (-2) s9)) := by
            intro t y at1 Bt ey hsame
            rw [ey]
            have aT := agS_tr a at1
            refine sX8_isKept Bt hm.2 hle (fun k hk => ⟨(o.2.2 k hk).1, (o.2.2 k hk).2.1⟩) hx1 hy1 (fun _ => ⟨rfl, rfl⟩) (fun hb => ?_) (fun hb hf => ?_) (fun hb hf s9 a9 B9 => ?_)
            · rw [bReach_has hb] at hnext
              rw [hnext] at nxt
              refine b_ne (by decide) ?_
              rw [Bt.1]
              exact b_le (Int32.le_refl _) (nxt t aT Bt hno hk2)
            · rw [bReach_full hb hf] at hnext o1
              have e := bEnd_of (L1 := L1) (L2 := L2) (sz := sz) (most := most) (v := v) (j := 15 * k + (act + 1)) (by omega) (Or.inl (by rw [hnext]; rfl))
              rw [e, hnext] at h
              exact b_ne' rfl (h t aT (rFin_of (S := (St.1, some false)) Bt (bOk_mono o1 hm.2)))
            · rw [bReach_new hb hf] at hnext o1
              have hl9 : (St.1 ++ [(xx, yy, k, act)]).length = St.1.length + 1 := by simp
              have aT9 := agS_tr aT a9
              refine b_ne (by decide) ?_
              rw [B9.1, hl9]
              refine b_le' (nI_lt (by omega) (by omega)) (sX8_isOpenAt (TL_S hT1 aT9) hx1 (fun s12 a12 => ?_))
              have aT12 := agS_tr aT9 (agS_R a12)
              have B12 := rS_R B9 a12
              cases q1 : opM L1 (dg xx) with
              | false =>
                rw [q1] at hnext
                rw [hnext] at nxt
                exact b_eq rfl (nxt s12 aT12 B12 rfl (by rw [hl9]; omega))
              | true =>
                refine b_eq' (by decide) (opn s12 yy _ aT12 hy1 ?_ (fun s15 a15 => ?_))
                · rcases hT2 with q | q
                  · rw [← hsame q.1]
                    exact Or.inl q1
                  · exact Or.inr q
                · have aT15 := agS_tr aT12 (agS_R a15)
                  have B15 := rS_R B12 a15
                  cases q2 : opM L2 (dg yy) with
                  | false =>
                    rw [q1, q2] at hnext
                    rw [hnext] at nxt
                    exact b_eq rfl (nxt s15 aT15 B15 rfl (by rw [hl9]; omega))
                  | true =>
                    rw [q1, q2] at hnext o1
                    have e := bEnd_of (L1 := L1) (L2 := L2) (sz := sz) (most := most) (v := v) (j := 15 * k + (act + 1)) (by omega) (Or.inl (by rw [hnext]; rfl))
                    rw [e, hnext] at h
                    have h := h s15 aT15 (rFin_of (S := (St.1 ++ [(xx, yy, k, act)], some true)) B15 (bOk_mono o1 hm.2))
                    have h : P (nI ((St.1 ++ [(xx, yy, k, act)]).length - 1)) s15 := h
                    rw [hl9, Nat.add_sub_cancel] at h
                    exact b_eq' (by decide) h
          refine wX8_search_81 hX _ _ _ _ (b_le' (nI_lt (b := 15) ha (by decide)) (fun v2 e2 => ⟨hd_vn (by omega) (by decide), ?_⟩))
          subst e2
          rw [B.1, nI_clamp (show k < 2 ^ 31 by omega), (B.2.2.1 k hk2).1]
          refine sX8_made (TL_S hT1 a) (SR_S hS a) oi.1 ha (fun s3 a3 v5 e5 => ⟨fun hne => ⟨hd_vn (by omega) (by decide), ?_⟩, fun heq => fun v18 e18 => ?_⟩)
          · have B3 := rS_R B a3
            have e5 : v5 = nI xx := by rw [e5, ← hxx]
            rw [(B3.2.2.1 k hk2).2.1, e5]
            rcases hT2 with q | q
            · exact absurd q.1 hne
            · refine sX8_made (TL_S q (agS_tr a (agS_R a3))) (SR_S hS (agS_tr a (agS_R a3))) oi.2.1 ha (fun s6 a6 v8 e8 => ?_)
              exact tail s6 v8 (agS_R (agR_tr a3 a6)) (rS_R B (agR_tr a3 a6)) (by rw [e8, ← hyy]) (fun z => absurd z hne)
          · have e5 : v5 = nI xx := by rw [e5, ← hxx]
            have hxy : xx = yy := by
              rcases hT2 with q | q
              · have hLL := q.2
                have dg2 : (be St.1 k).1 = (be St.1 k).2.1 := by
                  have := bDg_run (L := L1) (sz := sz) (most := most) (v := v) (15 * k + act)
                  rw [← hLL] at hSt
                  rw [hSt] at this
                  exact this k hk2
                rw [← hxx, ← hyy, ← hLL, dg2]
              · exact absurd heq (TL_ne q)
            rw [e5] at e18 ⊢
            exact tail s3 v18 (agS_R a3) (rS_R B a3) (by rw [e18, hxy]) (fun _ => hxy)
      have o := ok (15 * k)
      refine wX8_search_69 hX _ _ _ ?_
      rw [B.1]
      refine c_le ((bRun L1 L2 sz most v (15 * k)).1.length : Int) (k : Int) rfl rfl (fun z => ?_) (fun z => fun v1 e1 => ?_) (by have := o.2.1; omega)
      · have e := bEnd_of (j := 15 * k) (by omega) (Or.inr (show (bRun L1 L2 sz most v (15 * k)).1.length ≤ 15 * k / 15 by omega))
        rw [e] at h
        have h := h s a (rFin_of B (bOk_mono o hm.2))
        unfold rRow at h
        rw [hno] at h
        exact h
      · rw [e1]
        exact inner 15 0 s rfl a B hno (by show k < (bRun L1 L2 sz most v (15 * k)).1.length; omega)
  have start : ∀ k, k ≤ 4096 → ∀ s, agS σ s → s.1 94 35 = nI most → (∀ b, b < k → s.1 110 b = -1) → hd_J G mX8_search X SH (0, 0) 9 [(0, .ref 94), (1, .int x1), (2, .int x2), (3, .int (nI v)), (5, .int (nI k))] [] s := by
    refine hd_upto (n := 4096) (fun k => ∀ s, agS σ s → s.1 94 35 = nI most → (∀ b, b < k → s.1 110 b = -1) → hd_J G mX8_search X SH (0, 0) 9 [(0, .ref 94), (1, .int x1), (2, .int x2), (3, .int (nI v)), (5, .int (nI k))] [] s) (fun k hk ih s a h35 hb => ?_)
    refine wX8_search_9 hX _ _ _ _ (c_le 4096 (k : Int) rfl rfl (fun z => fun s1 e1 => ?_) (fun z => ⟨hd_vn (by omega) (by decide), fun s11 e11 v12 e12 => ?_⟩))
    · have k4 : k = 4096 := by omega
      subst k4
      have a1 : agS σ s1 := agS_tr a (by rw [e1]; exact ⟨ag_wI ag_rf (by decide), fun k k1 k2 k3 => by rw [wI_eq, if_neg k2]⟩)
      have B1 : rS s1 most [] := ⟨by rw [e1, wI_eq, if_pos rfl]; rfl, by rw [e1, wI_eq, if_neg (by decide)]; exact h35, fun k hk => absurd hk (by show ¬ k < 0; omega), fun b hb2 => by
        show s1.1 110 b = -1
        rw [e1, wI_ne (by decide)]
        exact hb b hb2⟩
      refine sX8_isKept (i := 0) (act := 0) B1 hm.2 (Nat.zero_le _) (fun k hk => absurd hk (by show ¬ k < 0; omega)) hv hv (fun z => absurd z (by decide)) (fun z => absurd z (by simp [bHas])) (fun _ z => absurd z (by show ¬ 0 = most; omega)) (fun _ _ s2 a2 B2 v4 e4 => ?_)
      have B2 : rS s2 most [(v, v, 0, 0)] := B2
      have a12 := agS_tr a1 a2
      refine sX8_isOpenAt (TL_S hT1 a12) hv (fun s5 a5 => ?_)
      have a15 := agS_tr a12 (agS_R a5)
      have B5 := rS_R B2 a5
      have r0 : bRun L1 L2 sz most v (15 * 0) = ([(v, v, 0, 0)], if (opM L1 (dg v) && opM L2 (dg v)) = true then some true else none) := rfl
      have o0 := ok (15 * 0)
      cases q1 : opM L1 (dg v) with
      | false =>
        rw [q1] at r0
        refine b_eq rfl (fun v7 e7 => ?_)
        rw [e7]
        exact loop most 0 s5 (by omega) (by omega) a15 (by rw [r0]; exact B5) (by rw [r0]; rfl)
      | true =>
        refine b_eq' (by decide) (opn s5 v _ a15 hv (Or.inl q1) (fun s8 a8 => ?_))
        have a18 := agS_tr a15 (agS_R a8)
        have B8 := rS_R B5 a8
        cases q2 : opM L2 (dg v) with
        | false =>
          rw [q1, q2] at r0
          refine b_eq rfl (fun v7 e7 => ?_)
          rw [e7]
          exact loop most 0 s8 (by omega) (by omega) a18 (by rw [r0]; exact B8) (by rw [r0]; rfl)
        | true =>
          rw [q1, q2] at r0
          have e := bEnd_of (j := 15 * 0) (by omega) (Or.inl (by rw [r0]; rfl))
          rw [r0] at e o0
          rw [e] at h
          exact b_eq' (by decide) (h s8 a18 (rFin_of (S := ([(v, v, 0, 0)], some true)) B8 (bOk_mono o0 hm.2)))
    · rw [e12, nI_1]
      rw [nI_clamp (by omega)] at e11
      refine ih (by omega) s11 (agS_tr a (by rw [e11]; exact ⟨ag_wI ag_rf (by decide), fun k k1 k2 k3 => by rw [wI_ne (by decide)]⟩)) (by rw [e11, wI_ne (by decide)]; exact h35) (fun b hb2 => ?_)
      rw [e11, wI_eq]
      by_cases hbk : b = k
      · rw [if_pos hbk]
      · rw [if_neg hbk]
        exact hb b (by omega)
  rw [e2]
  exact start 0 (by omega) s1 (by rw [e1]; exact ⟨ag_wI ag_rf (by decide), fun k k1 k2 k3 => by rw [wI_eq, if_neg k3]⟩) (by rw [e1, wI_eq, if_pos rfl]) (fun b hb => absurd hb (by omega))
theorem sX8_actsTo {G : hd_G} {σ : hd_M} {P : Int32 → hd_M → Prop} {S : BS} (hS : rFin σ S) (i : Int32) (hi : (-1) ≤ i) (h : P (bAns S i) σ) : EVi G mX8_actsTo SH [.ref 94, .int (rRow S), .int i] σ P := by
  obtain ⟨ok, h3⟩ := hS
  have hf := bOk_fr ok
  have h0 := ok.1
  have h30 := ok.2.1
  have hD := bDepth_le hf (S.1.length - 1) (S.1.length - 1) (Nat.le_refl _) (by omega)
  refine wX8_actsTo _ _ (fun X hX => ?_)
  by_cases ht : S.2 = some true
  · have er : rRow S = nI (S.1.length - 1) := by unfold rRow; rw [ht]
    unfold bAns at h
    rw [ht] at h
    have h : P (if i = -1 then nI (bDepth S.1 (S.1.length - 1)) else if nI (bDepth S.1 (S.1.length - 1)) ≤ i then -1 else nI (S.1.getD (bBk S.1 (bDepth S.1 (S.1.length - 1) - 1 - i.toNatClampNeg) (S.1.length - 1)) (0, 0, 0, 0)).2.2.2) σ := h
    rw [er]
    refine b_le (nI_pos' (by omega)) (fun v1 e1 v2 e2 => ?_)
    have cnt : ∀ (n j a : Nat), j ≤ n → j < S.1.length → a + bDepth S.1 j = bDepth S.1 (S.1.length - 1) → hd_J G mX8_actsTo X SH (0, 0) 11 [(0, .ref 94), (1, .int (nI (S.1.length - 1))), (2, .int i), (3, .int (nI a)), (4, .int (nI j))] [] σ := by
      have z0 : ∀ (a j : Nat), j = 0 → a + bDepth S.1 j = bDepth S.1 (S.1.length - 1) → hd_J G mX8_actsTo X SH (0, 0) 11 [(0, .ref 94), (1, .int (nI (S.1.length - 1))), (2, .int i), (3, .int (nI a)), (4, .int (nI j))] [] σ := by
        intro a j hj ha
        subst hj
        rw [bDepth_0] at ha
        have ha : a = bDepth S.1 (S.1.length - 1) := by omega
        subst ha
        refine wX8_actsTo_11 hX _ _ _ _ (b_le (by decide) ⟨fun z => ⟨fun z3 => fun v1 e1 v2 e2 => ?_, fun z3 => ?_⟩, fun z => ?_⟩)
        · have ei : i = nI i.toInt.toNat := i_nn (by
            have a := Int32.le_iff_toInt_le.mp hi
            have e1 : (-1 : Int32).toInt = -1 := rfl
            by_cases q : i.toInt < 0
            · exact absurd (Int32.toInt_inj.mp (by omega : i.toInt = (-1 : Int32).toInt)) z
            · omega)
          have hk31 : i.toInt.toNat < 2 ^ 31 := by
            have := Int32.toInt_lt i
            omega
          generalize i.toInt.toNat = k at ei hk31
          subst ei
          have hk : k < bDepth S.1 (S.1.length - 1) := (nI_ltI hk31 (by omega)).mp z3
          rw [if_neg z, if_neg (fun q => absurd z3 (Int32.not_lt.mpr q)), nI_clamp (by omega)] at h
          have key : ∀ (t at' : Nat), at' < S.1.length → bDepth S.1 at' = k + 1 + t → P (nI (S.1.getD (bBk S.1 t at') (0, 0, 0, 0)).2.2.2) σ → hd_J G mX8_actsTo X SH (0, 0) 53 [(0, .ref 94), (2, .int (nI k)), (4, .int (nI at')), (5, .int (nI (k + t)))] [] σ := by
            intro t
            induction t with
            | zero =>
              intro at' ha hb hp
              have a0 : 0 < at' := by
                rcases Nat.eq_zero_or_pos at' with z | z
                · rw [z, bDepth_0] at hb
                  omega
                · exact z
              refine wX8_actsTo_53 hX _ _ _ (b_le (nI_le (by omega) (by omega)) ⟨hd_vn (by omega) (by decide), ?_⟩)
              rw [nI_clamp (by omega), (h3 at' ha a0).2]
              exact hp
            | succ t ih =>
              intro at' ha hb hp
              have a0 : 0 < at' := by
                rcases Nat.eq_zero_or_pos at' with z | z
                · rw [z, bDepth_0] at hb
                  omega
                · exact z
              have fa := hf at' a0 ha
              have dl := bDepth_le hf at' at' (Nat.le_refl _) ha
              refine wX8_actsTo_53 hX _ _ _ (b_le' (nI_lt (by omega) (by omega)) ⟨hd_vn (by omega) (by decide), fun v1 e1 v2 e2 => ?_⟩)
              rw [e1, e2, nI_clamp (by omega), (h3 at' ha a0).1, show nI (k + (t + 1)) + (-1) = nI (k + t) from pk_m1 (k + t)]
              rw [bDepth_s hf a0 ha] at hb
              exact ih (bFr S.1 at') (by omega) (by omega) hp
          rw [e1, e2, nI_sub1 (by omega)]
          have := key (bDepth S.1 (S.1.length - 1) - 1 - k) (S.1.length - 1) (by omega) (by omega) h
          rwa [show k + (bDepth S.1 (S.1.length - 1) - 1 - k) = bDepth S.1 (S.1.length - 1) - 1 by omega] at this
        · rwa [if_neg z, if_pos z3] at h
        · rwa [if_pos z] at h
      intro n
      induction n with
      | zero =>
        intro j a hj hj2 ha
        exact z0 a j (by omega) ha
      | succ n ih =>
        intro j a hj hj2 ha
        by_cases j0 : j = 0
        · exact z0 a j j0 ha
        · have j0 : 0 < j := by omega
          have hfj := hf j j0 hj2
          rw [bDepth_s hf j0 hj2] at ha
          refine wX8_actsTo_11 hX _ _ _ _ (b_le' (nI_lt (a := 0) j0 (by omega)) (fun v3 e3 => ⟨hd_vn (by omega) (by decide), fun v4 e4 => ?_⟩))
          rw [e3, e4, nI_1, nI_clamp (by omega), (h3 j hj2 j0).1]
          exact ih (bFr S.1 j) (a + 1) (by omega) (by omega) (by omega)
    rw [e1, e2]
    exact cnt _ (S.1.length - 1) 0 (Nat.le_refl _) (by omega) (by omega)
  · have n := bOut_neg ht
    rw [n.2 i] at h
    have er : rRow S = bOut S := by
      unfold rRow bOut
      cases hs : S.2 with
      | none => rfl
      | some b =>
        cases b with
        | false => rfl
        | true => exact absurd hs ht
    rw [er]
    exact b_le' n.1 h
