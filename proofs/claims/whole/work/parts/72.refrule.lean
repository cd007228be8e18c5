theorem rTs_cg {σ σ' : hd_M} {tp : List Nat} {ts : List Tk} (h : rTs σ tp ts) (h1 : ∀ j, 7 ≤ j → j ≤ 10 → σ'.1 94 j = σ.1 94 j) (h2 : σ'.2 94 = σ.2 94) : rTs σ' tp ts := by
  obtain ⟨t, rest, e, k, a⟩ := h
  refine ⟨t, rest, e, ?_, fun z => ?_⟩
  · unfold rTok
    rw [h1 8 (by omega) (by omega), h1 9 (by omega) (by omega), h1 10 (by omega) (by omega), h2]
    exact k
  · rw [h1 7 (by omega) (by omega)]
    exact a z
theorem rTs_hd {σ : hd_M} {tp : List Nat} {t : Tk} {ts : List Tk} (h : rTs σ tp (t :: ts)) : rTok σ t := by
  obtain ⟨t', rest, e, k, a⟩ := h
  injection e with e1 e2
  rw [e1]
  exact k
theorem rTs_ne {σ : hd_M} {tp : List Nat} {ts : List Tk} (h : rTs σ tp ts) : ∃ t r, ts = t :: r := by
  obtain ⟨t, rest, e, _⟩ := h
  exact ⟨t, rest, e⟩
theorem sX8_nextT {G : hd_G} {σ : hd_M} {P : hd_M → Prop} {tp : List Nat} {t : Tk} {ts : List Tk} (ht : tok tp) (hT : rTape σ tp) (hs : rTs σ tp (t :: ts)) (h0 : t.1 ≠ 0) (h : ∀ σ', agK σ σ' → rTs σ' tp ts → P σ') : EVv G mX8_nextToken SH [.ref 94] σ P := by
  obtain ⟨t', rest, e, k, a⟩ := hs
  injection e with e1 e2
  subst e1 e2
  obtain ⟨a0, b1, b2, b3⟩ := a h0
  exact sX8_nextToken ht hT b1 b2 b3 h
/-- signs that wait, let go -/
theorem sX8_settle {G : hd_G} {σ : hd_M} {P : hd_M → Prop} {t s x : Nat} {p cd : List Nat} (hsx : (x = 3 ∧ (s = 5 ∨ s = 1)) ∨ (x = 5 ∧ s = 6)) (hC : rC σ t cd) (hP : rPl σ p) (hl : p.length + cd.length ≤ 300) (hp : p.length ≤ 160) (ho : pOK p) (hh : p.head? ≠ some 35) (h : ∀ σ', agG t σ σ' → (∀ j, j ≠ 14 → j ≠ 17 → σ'.1 94 j = σ.1 94 j) → σ'.2 94 = σ.2 94 → rC σ' t (rel s p cd).2 → rPl σ' (rel s p cd).1 → nst (rel s p cd).1 = nst p → P σ') : EVv G mX8_settle SH [.ref 94, .int (nI x)] σ P := by
  have step : ∀ (p cd : List Nat) (s1 : hd_M) (J : hd_M → Prop), rPl s1 p → p.length ≤ 160 → pOK p → p.head? ≠ some 35 → (((rel s p cd) = (p, cd)) → P s1) → (∀ k p', p = k :: p' → rel s p cd = rel s p' (cd ++ [10000 + k]) → nst p = nst p' → p'.head? ≠ some 35 → ∀ s2, s2 = hd_wI s1 94 17 (nI p'.length) → vp_in (s2.1 94 17) 160 ∧ EVv G mX8_emit SH [.ref 94, .int (s2.1 99 ((s2.1 94 17).toNatClampNeg)), .int 0] s2 J) → (s1.1 94 17 ≤ 0 → P s1) ∧ (0 < s1.1 94 17 → vp_in ((s1.1 94 17) - 1) 160 ∧ ((40 ≤ s1.1 99 (((s1.1 94 17) - 1).toNatClampNeg) → P s1) ∧ (s1.1 99 (((s1.1 94 17) - 1).toNatClampNeg) < 40 → vp_in ((s1.1 94 17) - 1) 160 ∧ ((s1.1 99 (((s1.1 94 17) - 1).toNatClampNeg) < nI x → P s1) ∧ (nI x ≤ s1.1 99 (((s1.1 94 17) - 1).toNatClampNeg) → ∀ s2, s2 = hd_wI s1 94 17 ((s1.1 94 17) - 1) → vp_in (s2.1 94 17) 160 ∧ (EVv G mX8_emit SH [.ref 94, .int (s2.1 99 ((s2.1 94 17).toNatClampNeg)), .int 0] s2 J)))))) := by
    intro p cd s1 J hP hp ho hh hstop hgo
    cases p with
    | nil =>
      rw [hP.1]
      exact b_le (by decide) (hstop rfl)
    | cons k p =>
      rw [List.length_cons] at hp
      have hb := ho.1
      have hk35 : k ≠ 35 := fun z => hh (by rw [z]; rfl)
      have top : s1.1 99 p.length = nI (rk k) := by rw [hP.2 p.length (by rw [List.length_cons]; omega), wk_getD_top]
      have h17 : s1.1 94 17 = nI (p.length + 1) := hP.1
      rw [h17, nI_pred, nI_clamp (show p.length < 2 ^ 31 by omega), top]
      have hv : vp_in (nI p.length) 160 := hd_vn (by omega) (by decide)
      refine b_le' (nI_lt (a := 0) (by omega) (by omega)) ⟨hv, ?_⟩
      by_cases h36 : k = 36
      · subst h36
        have : (40 : Int32) ≤ nI (rk 36) := by decide
        exact ⟨fun _ => hstop (rel_stop (by show 0 < s; omega)), fun z => absurd z (Int32.not_lt.mpr this)⟩
      · have hk : 31 ≤ k ∧ k ≤ 34 := by omega
        have er : rk k = k - 28 := by
          unfold rk
          rw [if_neg hk35, if_neg h36]
        have eb : isBn k = true := by unfold isBn; simp; omega
        have es : stg k = if k ≤ 32 then 5 else 6 := by
          have : k = 31 ∨ k = 32 ∨ k = 33 ∨ k = 34 := by omega
          rcases this with rfl | rfl | rfl | rfl <;> rfl
        rw [er]
        refine ⟨fun z => ?_, fun z => ⟨hv, ?_⟩⟩
        · have := (nI_leI (a := 40) (by decide) (show k - 28 < 2 ^ 31 by omega)).mp z
          omega
        · refine c_lt ((k - 28 : Nat) : Int) (x : Int) rfl rfl (fun w => ?_) (fun w => ?_)
          · refine hstop (rel_stop ?_)
            rw [es]
            split <;> omega
          · refine hgo k p rfl ?_ ?_ ?_
            · show (if s ≤ stg k then _ else _) = _
              rw [if_pos ?_]
              rw [es]
              split <;> omega
            · show (if isN k = true then 1 else 0) + nst p = nst p
              have : isN k = false := by unfold isN; simp; omega
              rw [this, if_neg (by decide), Nat.zero_add]
            · cases p with
              | nil => simp
              | cons l p =>
                have h2 : isBn k = true → stg l < stg k := ho.2.1
                have := h2 eb
                simp only [List.head?_cons, ne_eq, Option.some.injEq]
                intro z
                rw [z, es] at this
                have e35 : stg 35 = 7 := rfl
                rw [e35] at this
                split at this <;> omega
  have main : ∀ (X : hd_X), hd_CX G mX8_settle X (hd_Zv P) SH (0, 0) → ∀ (p cd : List Nat) (s1 : hd_M), agG t σ s1 → (∀ j, j ≠ 14 → j ≠ 17 → s1.1 94 j = σ.1 94 j) → s1.2 94 = σ.2 94 → rC s1 t cd → rPl s1 p → p.length + cd.length ≤ 300 → p.length ≤ 160 → pOK p → p.head? ≠ some 35 → (∀ σ', agG t σ σ' → (∀ j, j ≠ 14 → j ≠ 17 → σ'.1 94 j = σ.1 94 j) → σ'.2 94 = σ.2 94 → rC σ' t (rel s p cd).2 → rPl σ' (rel s p cd).1 → nst (rel s p cd).1 = nst p → P σ') → ((s1.1 94 17 ≤ 0 → P s1) ∧ (0 < s1.1 94 17 → vp_in ((s1.1 94 17) - 1) 160 ∧ ((40 ≤ s1.1 99 (((s1.1 94 17) - 1).toNatClampNeg) → P s1) ∧ (s1.1 99 (((s1.1 94 17) - 1).toNatClampNeg) < 40 → vp_in ((s1.1 94 17) - 1) 160 ∧ ((s1.1 99 (((s1.1 94 17) - 1).toNatClampNeg) < nI x → P s1) ∧ (nI x ≤ s1.1 99 (((s1.1 94 17) - 1).toNatClampNeg) → ∀ s2, s2 = hd_wI s1 94 17 ((s1.1 94 17) - 1) → vp_in (s2.1 94 17) 160 ∧ (EVv G mX8_emit SH [.ref 94, .int (s2.1 99 ((s2.1 94 17).toNatClampNeg)), .int 0] s2 (fun s2 => hd_J G mX8_settle X SH (0, 0) 0 [(0, .ref 94), (1, .int (nI x))] [] s2)))))))) := by
    intro X hX p
    induction p with
    | nil =>
      intro cd s1 a j1 l1 hC hP hl hp ho hh h
      exact step [] cd s1 _ hP hp ho hh (fun e => h s1 a j1 l1 (by rw [e]; exact hC) (by rw [e]; exact hP) (by rw [e])) (fun k p' e => by cases e)
    | cons k0 p0 ih =>
      intro cd s1 a j1 l1 hC hP hl hp ho hh h
      rw [List.length_cons] at hl hp
      refine step (k0 :: p0) cd s1 _ hP (by rw [List.length_cons]; omega) ho hh (fun e => h s1 a j1 l1 (by rw [e]; exact hC) (by rw [e]; exact hP) (by rw [e])) (fun k p' e er en eh s2 e2 => ?_)
      injection e with e1 e3
      subst e1 e3
      have hb := ho.1
      have f17 : s2.1 94 17 = nI p0.length := by rw [e2, wI_eq, if_pos rfl]
      have f2 : ∀ j, j ≠ 17 → s2.1 94 j = s1.1 94 j := fun j hj => by rw [e2, wI_eq, if_neg hj]
      have r2 : ∀ k, k ≠ 94 → s2.1 k = s1.1 k := fun k hk => by rw [e2, wI_ne hk]
      have top : s1.1 99 p0.length = nI (rk k0) := by rw [hP.2 p0.length (by rw [List.length_cons]; omega), wk_getD_top]
      rw [f17, nI_clamp (by omega), r2 99 (by decide), top]
      have hk35 : k0 ≠ 35 := fun z => hh (by rw [z]; rfl)
      refine ⟨hd_vn (by omega) (by decide), sX8_emit (c := 10000 + k0) (rC_cg hC (f2 12 (by decide)) (f2 14 (by decide)) (r2 97 (by decide))) (by omega) ?_ (fun z => by omega) (fun s3 a3 g3 c3 => ?_)⟩
      · have hk36 : k0 ≠ 36 := by
          intro z
          subst z
          have : rel s (36 :: p0) cd = (36 :: p0, cd) := rel_stop (by show 0 < s; omega)
          rw [this] at er
          have := congrArg (fun y => y.1.length + y.2.length) er
          have l1 := (rel_len (s := s) (w := p0) (cd := cd ++ [10000 + 36])).2
          have := congrArg (fun y => y.1.length) er
          simp only [List.length_cons] at this
          omega
        have : k0 = 31 ∨ k0 = 32 ∨ k0 = 33 ∨ k0 = 34 := by omega
        rcases this with rfl | rfl | rfl | rfl <;> rfl
      · refine wX8_settle_0 hX _ (ih (cd ++ [10000 + k0]) s3 (agG_tr (by rw [e2]; exact agG_94 a (by decide)) a3) (fun j ja jb => by rw [g3.2.1 j ja, f2 j jb]; exact j1 j ja jb) (by rw [g3.2.2, e2]; exact l1) c3 ⟨?_, fun j hj => ?_⟩ (by rw [List.length_append, List.length_singleton]; omega) (by omega) ho.2.2 eh (fun σ' q1 q2 q3 q4 q5 q6 => h σ' q1 q2 q3 (by rw [er]; exact q4) (by rw [er]; exact q5) (by rw [er, en]; exact q6)))
        · rw [g3.2.1 17 (by decide)]; exact f17
        · rw [g3.1 99 (by decide) (by decide), r2 99 (by decide), hP.2 j (by rw [List.length_cons]; omega), wk_getD_lt hj]
  exact wX8_settle _ (fun X hX => main X hX p cd σ agG_rf (fun _ _ _ => rfl) rfl hC hP hl hp ho hh h)
theorem brk_m : ∀ {p : List Nat}, 36 ∈ p → 0 < brk p
  | [], h => by cases h
  | k :: p, h => by
    show 0 < (if k = 36 then 1 else 0) + brk p
    rcases List.mem_cons.mp h with z | z
    · rw [if_pos z.symm]; omega
    · have := brk_m z; omega
theorem sX8_hasParen {G : hd_G} {σ : hd_M} {P : Int32 → hd_M → Prop} {p : List Nat} (hP : rPl σ p) (hp : p.length ≤ 160) (ho : pOK p) (h : P (zI (cl_bit (decide (0 < brk p)))) σ) : EVi G mX8_hasParen SH [.ref 94] σ P := by
  refine wX8_hasParen (fun X hX v1 e1 => ?_)
  rw [e1]
  have main : ∀ (n j : Nat), j + n = p.length → (∀ i, i < j → p.reverse.getD i 0 ≠ 36) → hd_J G mX8_hasParen X SH (0, 0) 2 [(0, .ref 94), (1, .int (nI j))] [] σ := by
    intro n
    induction n with
    | zero =>
      intro j hj hi
      refine wX8_hasParen_2 hX _ ?_
      rw [hP.1]
      refine b_le (nI_le (by omega) (by omega)) ⟨Or.inl rfl, ?_⟩
      have : brk p = 0 := brk_z (fun k hk z => by
        obtain ⟨i, hi1, hi2⟩ := List.mem_iff_getElem.mp (List.mem_reverse.mpr hk)
        rw [List.length_reverse] at hi1
        refine hi i (by omega) ?_
        rw [List.getD_eq_getElem?_getD, List.getElem?_eq_getElem (by rw [List.length_reverse]; exact hi1), hi2]
        exact z)
      rw [this, decide_eq_false (by omega)] at h
      exact h
    | succ n ih =>
      intro j hj hi
      refine wX8_hasParen_2 hX _ ?_
      rw [hP.1, nI_clamp (by omega), hP.2 j (by omega)]
      have hm : p.reverse.getD j 0 ∈ p := by
        rw [List.getD_eq_getElem?_getD, List.getElem?_eq_getElem (by rw [List.length_reverse]; omega)]
        exact List.mem_reverse.mp (List.getElem_mem _)
      have hb := pOK_mem ho _ hm
      have hr : rk (p.reverse.getD j 0) < 100 ∧ (rk (p.reverse.getD j 0) = 40 ↔ p.reverse.getD j 0 = 36) := by
        unfold rk
        split
        · omega
        · split <;> omega
      refine b_le' (nI_lt (by omega) (by omega)) ⟨hd_vn (by omega) (by decide), c_ne (rk (p.reverse.getD j 0) : Int) 40 rfl rfl (fun z v e => ?_) (fun z => ⟨Or.inr rfl, ?_⟩)⟩
      · rw [e, nI_1]
        refine ih (j + 1) (by omega) (fun i hi2 => ?_)
        by_cases zi : i = j
        · rw [zi]
          intro w
          have := hr.2.mpr w
          omega
        · exact hi i (by omega)
      · have : p.reverse.getD j 0 = 36 := hr.2.mp (by omega)
        rw [this] at hm
        rw [decide_eq_true (brk_m hm)] at h
        exact h
  exact main p.length 0 (by omega) (fun i hi => absurd hi (by omega))
def onG (k : Nat) (p : List Nat) : Bool := (decide (31 ≤ k) && decide (k ≤ 34)) || (decide (k = 37) && decide (0 < brk p))
theorem sX8_goesOn {G : hd_G} {σ : hd_M} {P : Int32 → hd_M → Prop} {p : List Nat} {t : Tk} (hP : rPl σ p) (hp : p.length ≤ 160) (ho : pOK p) (ht : rTok σ t) (h : P (zI (cl_bit (onG t.1 p))) σ) : EVi G mX8_goesOn SH [.ref 94] σ P := by
  have yes : (31 ≤ t.1 ∧ t.1 ≤ 34) → P 1 σ := fun z => by
    have : onG t.1 p = true := by unfold onG; simp; omega
    rw [this] at h
    exact h
  refine wX8_goesOn (c_sg ht 31 (by decide) (fun z => ⟨Or.inr rfl, yes (by omega)⟩) (fun n1 => c_sg ht 32 (by decide) (fun z => ⟨Or.inr rfl, yes (by omega)⟩) (fun n2 => c_sg ht 33 (by decide) (fun z => ⟨Or.inr rfl, yes (by omega)⟩) (fun n3 => c_sg ht 34 (by decide) (fun z => ⟨Or.inr rfl, yes (by omega)⟩) (fun n4 => c_sgn ht 37 (by decide) (fun n5 => ⟨Or.inl rfl, ?_⟩) (fun n5 => sX8_hasParen hP hp ho ?_))))))
  · have : onG t.1 p = false := by unfold onG; simp; omega
    rw [this] at h
    exact h
  · have e : onG t.1 p = decide (0 < brk p) := by
      unfold onG
      rw [n5]
      simp
    rw [e] at h
    refine ⟨fun z => ⟨Or.inl rfl, ?_⟩, fun z => ⟨Or.inr rfl, ?_⟩⟩
    · rw [cl_bit_z] at z
      rw [z] at h
      exact h
    · rw [cl_bit_z] at z
      rw [show decide (0 < brk p) = true by simp at z ⊢; omega] at h
      exact h
