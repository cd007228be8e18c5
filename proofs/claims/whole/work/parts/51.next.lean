/-! next -/
def anN (L : LW) (sz : Nat → Nat) (v act : Nat) : Nat := match afM L sz v act with
  | none => 0
  | some w => hrM L (dg v) (dg w) act + 1
theorem anN_le (L : LW) (sz : Nat → Nat) (v act : Nat) : anN L sz v act ≤ 10 := by
  unfold anN
  split
  · omega
  · have := hrM_le L (dg v)
    rename_i w _
    have := this (dg w) act
    omega
theorem haM_N (L : LW) (sz : Nat → Nat) (v act : Nat) : haM L sz v act = zI ((anN L sz v act : Int) - 1) := by
  unfold haM anN
  cases h : afM L sz v act with
  | none => rfl
  | some w =>
    show nI _ = zI (((_ + 1 : Nat) : Int) - 1)
    rw [nI_z]
    congr 1
    omega
def cnA (f : Nat → Bool) (g : Nat → Nat) (a : Nat) : Nat → Nat
  | 0 => 0
  | n + 1 => cnA f g a n + (if f n = true ∧ g n = a then 1 else 0)
def moA (f : Nat → Bool) (g : Nat → Nat) : Nat → Nat
  | 0 => 0
  | t + 1 => if f t = true then max (moA f g t) (cnA f g (g t) (t + 1)) else moA f g t
theorem cnA_le {f : Nat → Bool} {g : Nat → Nat} {a : Nat} : ∀ n, cnA f g a n ≤ n
  | 0 => Nat.le_refl _
  | n + 1 => by
    have := cnA_le (f := f) (g := g) (a := a) n
    unfold cnA
    split <;> omega
theorem moA_le {f : Nat → Bool} {g : Nat → Nat} : ∀ n, moA f g n ≤ n
  | 0 => Nat.le_refl _
  | n + 1 => by
    have := moA_le (f := f) (g := g) n
    have := cnA_le (f := f) (g := g) (a := g n) (n + 1)
    unfold moA
    split <;> omega
theorem moA_T {f : Nat → Bool} {g : Nat → Nat} {T : Nat} (h : ∀ t, T ≤ t → f t = false) : ∀ k, moA f g (T + k) = moA f g T
  | 0 => rfl
  | k + 1 => by
    show (if f (T + k) = true then _ else moA f g (T + k)) = moA f g T
    rw [h (T + k) (by omega), moA_T h k]
    rfl
def gaM (D : MD) (laws : Nat → LW) (act t : Nat) : Nat := match ftM D laws t with
  | none => 0
  | some v => anN (laws t) (d_sz D) v act
theorem gaM_s {D : MD} {laws : Nat → LW} {act t v : Nat} (h : ftM D laws t = some v) : gaM D laws act t = anN (laws t) (d_sz D) v act := by
  unfold gaM
  rw [h]
theorem ffM_s {D : MD} {laws : Nat → LW} {t v : Nat} (h : ftM D laws t = some v) : ffM D laws t = true := by
  unfold ffM
  rw [h]
  rfl
theorem ffM_n {D : MD} {laws : Nat → LW} {t : Nat} (h : ftM D laws t = none) : ffM D laws t = false := by
  unfold ffM
  rw [h]
  rfl
theorem ftM_t {D : MD} {laws : Nat → LW} {t v : Nat} (h : ftM D laws t = some v) : t < d_T D := by
  unfold ftM at h
  split at h
  · assumption
  · cases h
def mlM (D : MD) (laws : Nat → LW) (act : Nat) : Nat := moA (ffM D laws) (gaM D laws act) 4
theorem max_i {a b : Nat} (ha : a < 1000) (hb : b < 1000) : (if nI a < nI b then nI b else nI a) = nI (max a b) := by
  by_cases h : a < b
  · rw [if_pos (nI_lt h (by omega)), show max a b = b by omega]
  · rw [if_neg (nI_nlt (by omega) (by omega)), show max a b = a by omega]
theorem sX7_mostAlike {G : hd_G} {σ : hd_M} {P : Int32 → hd_M → Prop} {act : Nat} {D : MD} {laws : Nat → LW} (hD : cDesk σ 2 D) (hd : dok D) (hl : cLaws σ (d_T D) laws) (hL : okL (d_T D) laws) (hN : NV σ) (ha : act < 15) (h93 : ∀ t, t < 4 → σ.1 93 t = oI (ftM D laws t)) (h : ∀ σ', ag [78, 79, 80] σ σ' → NV σ' → P (nI (mlM D laws act)) σ') : EVi G mX7_mostAlike SH [.ref 0, .int (nI act)] σ P := by
  have hT4 := hd.2.2.2.2.1
  refine wX7_mostAlike _ (fun X hX v1 e1 v2 e2 => ?_)
  have ask : ∀ (o w : Nat) (s : hd_M) (Q : Int32 → hd_M → Prop), o < 4 → ftM D laws o = some w → ag [78, 79, 80] σ s → NV s → (∀ σ', ag [78, 79, 80] σ σ' → NV σ' → Q (zI ((gaM D laws act o : Int) - 1)) σ') → vp_in (nI o) 4 ∧ ¬ ([17, 26, 35, 44] : List Nat).getD (nI o).toNatClampNeg 0 = 0 ∧ (vp_in (nI o) 4 ∧ (EVi G mX7_answerTo SH [.ref 0, .ref (([17, 26, 35, 44] : List Nat).getD (nI o).toNatClampNeg 0), .int (nI act), .int (s.1 93 (nI o).toNatClampNeg)] s Q)) := by
    intro o w s Q ho hw a n hq
    have hoT := ftM_t hw
    rw [nI_clamp (show o < 2 ^ 31 by omega), lawRef ho, (a 93 (by decide)).1, h93 o ho, hw]
    refine ⟨hd_vn ho (by decide), by omega, hd_vn ho (by decide), ?_⟩
    refine sX7_answerTo (law_t ho) (lq_ag (hl o hoT) (law_t ho) a) (hL o hoT) (SZ_ag (cDesk_SZ hD hd) a) n (ftM_lt hd hL o w hw) ha (fun s2 a2 n2 => ?_)
    rw [haM_N, ← gaM_s hw]
    exact hq s2 (ag_tr a a2) n2
  have gle : ∀ o, gaM D laws act o ≤ 10 := fun o => by
    unfold gaM
    split
    · omega
    · exact anN_le _ _ _ _
  have key : ∀ t, t ≤ 4 → ∀ s, ag [78, 79, 80] σ s → NV s → hd_J G mX7_mostAlike X SH (0, 0) 4 [(0, .ref 0), (1, .int (nI act)), (2, .int (nI (moA (ffM D laws) (gaM D laws act) t))), (3, .int (nI t))] [] s := by
    refine hd_upto (n := 4) (fun t => ∀ s, ag [78, 79, 80] σ s → NV s → hd_J G mX7_mostAlike X SH (0, 0) 4 [(0, .ref 0), (1, .int (nI act)), (2, .int (nI (moA (ffM D laws) (gaM D laws act) t))), (3, .int (nI t))] [] s) (fun t ht ih s a n => ?_)
    refine wX7_mostAlike_4 hX _ _ _ (c_le 4 (t : Int) rfl rfl (fun z => ?_) (fun z => ?_))
    · have : t = 4 := by omega
      subst this
      exact h s a n
    · have ht4 : t < 4 := by omega
      have es : moA (ffM D laws) (gaM D laws act) (t + 1) = if ffM D laws t = true then max (moA (ffM D laws) (gaM D laws act) t) (cnA (ffM D laws) (gaM D laws act) (gaM D laws act t) (t + 1)) else moA (ffM D laws) (gaM D laws act) t := rfl
      refine ⟨hd_vn ht4 (by decide), ?_⟩
      have e93 : s.1 93 (nI t).toNatClampNeg = oI (ftM D laws t) := by rw [nI_clamp (by omega), (a 93 (by decide)).1, h93 t ht4]
      have eo := oI_n (ftM D laws t) (ftM_lt hd hL t)
      refine ⟨fun z1 => fun v1 e1 => ?_, fun z1 => ?_⟩
      · rw [e93] at z1
        have ih := ih ht4 s a n
        rw [es, ffM_n (eo.mp z1)] at ih
        rw [e1, nI_1]
        exact ih
      · rw [e93] at z1
        obtain ⟨w, hw⟩ : ∃ w, ftM D laws t = some w := by
          cases hf : ftM D laws t with
          | none => exact absurd (eo.mpr hf) z1
          | some w => exact ⟨w, rfl⟩
        refine ask t w s _ ht4 hw a n (fun s2 a2 n2 v4 e4 v5 e5 v6 e6 => ?_)
        have inn : ∀ o, o ≤ t + 1 → ∀ s, ag [78, 79, 80] σ s → NV s → hd_J G mX7_mostAlike X SH (0, 0) 44 [(0, .ref 0), (1, .int (nI act)), (2, .int (nI (moA (ffM D laws) (gaM D laws act) t))), (3, .int (nI t)), (4, .int (zI ((gaM D laws act t : Int) - 1))), (5, .int (nI (cnA (ffM D laws) (gaM D laws act) (gaM D laws act t) o))), (6, .int (nI o))] [] s := by
          refine hd_upto (n := t + 1) (fun o => ∀ s, ag [78, 79, 80] σ s → NV s → hd_J G mX7_mostAlike X SH (0, 0) 44 [(0, .ref 0), (1, .int (nI act)), (2, .int (nI (moA (ffM D laws) (gaM D laws act) t))), (3, .int (nI t)), (4, .int (zI ((gaM D laws act t : Int) - 1))), (5, .int (nI (cnA (ffM D laws) (gaM D laws act) (gaM D laws act t) o))), (6, .int (nI o))] [] s) (fun o ho iho s a n => ?_)
          have cl := cnA_le (f := ffM D laws) (g := gaM D laws act) (a := gaM D laws act t) o
          have ml := moA_le (f := ffM D laws) (g := gaM D laws act) t
          refine wX7_mostAlike_44 hX _ _ _ _ _ _ (c_lt (t : Int) (o : Int) rfl rfl (fun z => fun v1 e1 v2 e2 => ?_) (fun z => ⟨hd_vn (by omega) (by decide), ?_⟩))
          · have : o = t + 1 := by omega
            subst this
            have ih := ih ht4 s a n
            rw [es, ffM_s hw, if_pos rfl] at ih
            rw [e1, e2, nI_1, max_i (by omega) (by omega)]
            exact ih
          · have ho4 : o < 4 := by omega
            have e93 : s.1 93 (nI o).toNatClampNeg = oI (ftM D laws o) := by rw [nI_clamp (by omega), (a 93 (by decide)).1, h93 o ho4]
            have eo := oI_n (ftM D laws o) (ftM_lt hd hL o)
            have ec : cnA (ffM D laws) (gaM D laws act) (gaM D laws act t) (o + 1) = cnA (ffM D laws) (gaM D laws act) (gaM D laws act t) o + (if ffM D laws o = true ∧ gaM D laws act o = gaM D laws act t then 1 else 0) := rfl
            have add0 : ∀ k : Nat, nI k + 0 = nI k := fun k => nI_add k 0
            refine ⟨fun z1 => fun v3 e3 => ?_, fun z1 => fun v12 e12 => ?_⟩
            · rw [e93] at z1
              have iho := iho (by omega) s a n
              rw [ec, ffM_n (eo.mp z1), if_neg (by simp), Nat.add_zero] at iho
              rw [e3]
              refine b_eq rfl (fun v4 e4 v5 e5 => ?_)
              rw [e4, e5, nI_1, add0]
              exact iho
            · rw [e93] at z1
              obtain ⟨w2, hw2⟩ : ∃ w, ftM D laws o = some w := by
                cases hf : ftM D laws o with
                | none => exact absurd (eo.mpr hf) z1
                | some w => exact ⟨w, rfl⟩
              rw [e12]
              refine b_eq' (by decide) (ask o w2 s _ ho4 hw2 a n (fun s15 a15 n15 => ?_))
              have iho := iho (by omega) s15 a15 n15
              have g1 := gle o
              have g2 := gle t
              refine c_ne ((gaM D laws act o : Int) - 1) ((gaM D laws act t : Int) - 1) rfl rfl (fun zz => fun v17 e17 v18 e18 => ?_) (fun zz => fun v17 e17 v18 e18 => ?_)
              · rw [ec, if_neg (fun q => zz (by rw [q.2])), Nat.add_zero] at iho
                rw [e17, e18, nI_1, add0]
                exact iho
              · rw [ec, if_pos ⟨ffM_s hw2, by omega⟩] at iho
                rw [e17, e18, nI_1, nI_1]
                exact iho
        rw [e4, e5, e6]
        exact inn 0 (by omega) s2 a2 n2
  rw [e1, e2]
  exact key 0 (by omega) σ ag_rf hN
/-- the best act -/
def bsM (mo : Nat → Nat) : Nat → Option (Nat × Nat)
  | 0 => none
  | k + 1 => match bsM mo k with
    | none => some (k, mo k)
    | some p => if mo k < p.2 then some (k, mo k) else some p
theorem bsM_ok {mo : Nat → Nat} (h : ∀ k, mo k ≤ 4) : ∀ {k : Nat} {p : Nat × Nat}, bsM mo k = some p → p.1 < k ∧ p.2 ≤ 4
  | 0, p, hp => by cases hp
  | k + 1, p, hp => by
    unfold bsM at hp
    have hk := h k
    split at hp
    · cases hp
      exact ⟨by show k < k + 1; omega, hk⟩
    · rename_i q hq
      have := bsM_ok h hq
      split at hp
      · cases hp
        exact ⟨by show k < k + 1; omega, hk⟩
      · cases hp
        exact ⟨by omega, this.2⟩
def bb1 (o : Option (Nat × Nat)) : Int32 := match o with
  | none => -1
  | some p => nI p.1
def bb2 (d : Int32) (o : Option (Nat × Nat)) : Int32 := match o with
  | none => d
  | some p => nI p.2
def cfM (f : Nat → Bool) : Nat → Nat
  | 0 => 0
  | t + 1 => cfM f t + (if f t = true then 1 else 0)
theorem cfM_le (f : Nat → Bool) : ∀ t, cfM f t ≤ t
  | 0 => Nat.le_refl _
  | t + 1 => by
    have := cfM_le f t
    unfold cfM
    split <;> omega
theorem cfM_0 (f : Nat → Bool) : ∀ t, cfM f t = 0 ↔ fmM f t = 0
  | 0 => Iff.rfl
  | t + 1 => by
    have := cfM_0 f t
    have h2 : 0 < 2 ^ t := Nat.two_pow_pos t
    unfold cfM fmM
    split <;> omega
def nxM (D : MD) (laws : Nat → LW) : Int32 := if fmM (ffM D laws) 4 = 0 then -1 else bb1 (bsM (mlM D laws) 15)
theorem mlM_le (D : MD) (laws : Nat → LW) (k : Nat) : mlM D laws k ≤ 4 := moA_le 4
def ag93 (σ σ' : hd_M) : Prop := ag [78, 79, 80, 93] σ σ'
theorem ag93_of {σ σ' : hd_M} (h : ag [78, 79, 80] σ σ') : ag93 σ σ' := ag_mo h (fun k hk => by simp at hk ⊢; omega)
theorem sX7_next {G : hd_G} {σ : hd_M} {P : Int32 → hd_M → Prop} {D : MD} {laws : Nat → LW} (hD : cDesk σ 2 D) (hd : dok D) (hl : cLaws σ (d_T D) laws) (hL : okL (d_T D) laws) (hN : NV σ) (h : ∀ σ', ag93 σ σ' → NV σ' → P (nxM D laws) σ') : EVi G mX7_next SH [.ref 0] σ P := by
  have hT4 := hd.2.2.2.2.1
  refine wX7_next (fun X hX v1 e1 v2 e2 => ?_)
  have cD : ∀ s, ag93 σ s → cDesk s 2 D := fun s a => cDesk_cg hD (fun k h1 h2 => (a k (by simp; omega)).1)
  have cL : ∀ s, ag93 σ s → cLaws s (d_T D) laws := fun s a => cLaws_cg hl hT4 (fun k h1 h2 => (a k (by simp; omega)).1)
  have cf := cfM_le (ffM D laws) 4
  have second : ∀ k, k ≤ 15 → ∀ s, ag93 σ s → NV s → (∀ t, t < 4 → s.1 93 t = oI (ftM D laws t)) → (k = 0 ∨ 0 < cfM (ffM D laws) 4) → hd_J G mX7_next X SH (0, 0) 51 [(0, .ref 0), (1, .int (nI (cfM (ffM D laws) 4))), (2, .int (bb1 (bsM (mlM D laws) k))), (3, .int (bb2 5 (bsM (mlM D laws) k))), (4, .int (nI k))] [] s := by
    refine hd_upto (n := 15) (fun k => ∀ s, ag93 σ s → NV s → (∀ t, t < 4 → s.1 93 t = oI (ftM D laws t)) → (k = 0 ∨ 0 < cfM (ffM D laws) 4) → hd_J G mX7_next X SH (0, 0) 51 [(0, .ref 0), (1, .int (nI (cfM (ffM D laws) 4))), (2, .int (bb1 (bsM (mlM D laws) k))), (3, .int (bb2 5 (bsM (mlM D laws) k))), (4, .int (nI k))] [] s) (fun k hk ih s a n h93 hor => ?_)
    have c0 := cfM_0 (ffM D laws) 4
    refine wX7_next_51 hX _ _ _ _ (c_le 15 (k : Int) rfl rfl (fun z => ?_) (fun z => c_le (cfM (ffM D laws) 4 : Int) 0 rfl rfl (fun z2 => ?_) (fun z2 => ?_)))
    · have : k = 15 := by omega
      subst this
      have h := h s a n
      unfold nxM at h
      rwa [if_neg (by omega)] at h
    · have h := h s a n
      unfold nxM at h
      rw [if_pos (by omega)] at h
      rw [show k = 0 by omega]
      exact h
    · refine sX7_mostAlike (cD s a) hd (cL s a) hL n (by omega) h93 (fun s1 a1 n1 v3 e3 => ?_)
      have ih := ih (by omega) s1 (ag_tr a (ag93_of a1)) n1 (fun t ht => by rw [(a1 93 (by decide)).1]; exact h93 t ht) (Or.inr (by omega))
      have ml := mlM_le D laws k
      rw [e3]
      have eb : bsM (mlM D laws) (k + 1) = match bsM (mlM D laws) k with
        | none => some (k, mlM D laws k)
        | some p => if mlM D laws k < p.2 then some (k, mlM D laws k) else some p := rfl
      cases hb : bsM (mlM D laws) k with
      | none =>
        rw [hb] at eb
        rw [eb] at ih
        refine b_le' (show nI (mlM D laws k) < 5 from nI_lt (b := 5) (by omega) (by decide)) (fun v5 e5 v6 e6 v7 e7 => ?_)
        rw [e5, e6, e7, nI_1]
        exact ih
      | some p =>
        rw [hb] at eb
        have pk := bsM_ok (mlM_le D laws) hb
        refine c_le (p.2 : Int) (mlM D laws k : Int) rfl rfl (fun z3 => fun v4 e4 => ?_) (fun z3 => fun v5 e5 v6 e6 v7 e7 => ?_)
        · have eb : bsM (mlM D laws) (k + 1) = some p := by rw [eb]; exact if_neg (by omega)
          rw [eb] at ih
          rw [e4, nI_1]
          exact ih
        · have eb : bsM (mlM D laws) (k + 1) = some (k, mlM D laws k) := by rw [eb]; exact if_pos (by omega)
          rw [eb] at ih
          rw [e5, e6, e7, nI_1]
          exact ih
  have first : ∀ t, t ≤ 4 → ∀ s, ag93 σ s → NV s → (∀ o, o < t → s.1 93 o = oI (ftM D laws o)) → hd_J G mX7_next X SH (0, 0) 4 [(0, .ref 0), (1, .int (nI (cfM (ffM D laws) t))), (2, .int (nI t))] [] s := by
    refine hd_upto (n := 4) (fun t => ∀ s, ag93 σ s → NV s → (∀ o, o < t → s.1 93 o = oI (ftM D laws o)) → hd_J G mX7_next X SH (0, 0) 4 [(0, .ref 0), (1, .int (nI (cfM (ffM D laws) t))), (2, .int (nI t))] [] s) (fun t ht ih s a n h93 => ?_)
    refine wX7_next_4 hX _ _ (c_le 4 (t : Int) rfl rfl (fun z => fun v1 e1 v2 e2 v3 e3 => ?_) (fun z => ?_))
    · have : t = 4 := by omega
      subst this
      rw [e1, e2, e3]
      exact second 0 (by omega) s a n h93 (Or.inl rfl)
    · have ht4 : t < 4 := by omega
      refine sX7_behind (cD s a) hd (cL s a) hL n ht4 (fun s4 a4 n4 => ⟨hd_vn ht4 (by decide), fun s6 e6 => ⟨hd_vn ht4 (by decide), ?_⟩⟩)
      rw [nI_clamp (by omega)] at e6 ⊢
      have e6 : s6 = hd_wI s4 93 t (oI (ftM D laws t)) := e6
      have x6 : s6.1 93 t = oI (ftM D laws t) := by rw [e6, wI_eq, if_pos rfl]
      have eo := oI_n (ftM D laws t) (ftM_lt hd hL t)
      rw [x6]
      have a6 : ag93 σ s6 := by rw [e6]; exact ag_wI (ag_tr a (ag93_of a4)) (by decide)
      have n6 : NV s6 := NV_cg n4 (by rw [e6, wI_ne (by decide)]) (by rw [e6, wI_ne (by decide)])
      have ih := ih ht4 s6 a6 n6 (fun o ho => by
        rw [e6, wI_eq]
        by_cases q : o = t
        · rw [if_pos q, q]
        · rw [if_neg q, (a4 93 (by decide)).1]
          exact h93 o (by omega))
      have ec : cfM (ffM D laws) (t + 1) = cfM (ffM D laws) t + (if ffM D laws t = true then 1 else 0) := rfl
      refine ⟨fun z1 => fun v7 e7 v8 e8 => ?_, fun z1 => fun v9 e9 v10 e10 => ?_⟩
      · rw [ec, ffM_n (eo.mp z1)] at ih
        rw [e7, e8, nI_1, show nI (cfM (ffM D laws) t) + 0 = nI (cfM (ffM D laws) t) from nI_add _ 0]
        exact ih
      · obtain ⟨w, hw⟩ : ∃ w, ftM D laws t = some w := by
          cases hf : ftM D laws t with
          | none => exact absurd (eo.mpr hf) z1
          | some w => exact ⟨w, rfl⟩
        rw [ec, ffM_s hw, if_pos rfl] at ih
        rw [e9, e10, nI_1, nI_1]
        exact ih
  rw [e1, e2]
  exact first 0 (by omega) σ ag_rf hN (fun o ho => absurd ho (by omega))
/-! the reference -/
def agN (σ σ' : hd_M) : Prop := ag [94, 100, 101, 102, 103, 104, 115] σ σ' ∧ ∀ k, k ≠ 27 → σ'.1 94 k = σ.1 94 k
theorem agN_rf {σ : hd_M} : agN σ σ := ⟨ag_rf, fun _ _ => rfl⟩
theorem agN_tr {σ σ' σ'' : hd_M} (h : agN σ σ') (h' : agN σ' σ'') : agN σ σ'' := ⟨ag_tr h.1 h'.1, fun k a => (h'.2 k a).trans (h.2 k a)⟩
theorem agN_R {σ σ' : hd_M} (h : agR σ σ') : agN σ σ' := ⟨ag_mo h.1 (fun k hk => by simp at hk ⊢; omega), h.2⟩
theorem agN_w {σ σ' : hd_M} {i : Nat} {x : Int32} (h : agN σ σ') : agN σ (hd_wI σ' 115 i x) := ⟨ag_wI h.1 (by decide), fun k hk => by rw [wI_ne (by decide)]; exact h.2 k hk⟩
theorem agN_c {σ σ' : hd_M} (h : agN σ σ') {k : Nat} (hk : k ∉ [94, 100, 101, 102, 103, 104, 115]) : σ'.1 k = σ.1 k := (h.1 k hk).1
theorem RREL_N {σ σ' : hd_M} {M : MM} (h : RREL σ M) (ha : agN σ σ') : RREL σ' M := by
  obtain ⟨h1, h2, h3, h4, h5⟩ := h
  refine ⟨?_, ?_, rDesk_cg h3 (agN_c ha (by decide)), rDesk_cg h4 (agN_c ha (by decide)), rTexts_cg h5 (agN_c ha (by decide))⟩
  · unfold rTape
    rw [ha.2 4 (by decide), agN_c ha (k := 98) (by decide)]
    exact h1
  · rw [ha.2 5 (by decide), ha.2 6 (by decide)]
    exact h2
theorem fm_bit (f : Nat → Bool) : ∀ T, T < 5 → ∀ t, t < T → fmM f T / 2 ^ t % 2 = if f t = true then 1 else 0 := by
  intro T hT t ht
  have hc : (T = 1 ∧ t = 0) ∨ (T = 2 ∧ t = 0) ∨ (T = 2 ∧ t = 1) ∨ (T = 3 ∧ t = 0) ∨ (T = 3 ∧ t = 1) ∨ (T = 3 ∧ t = 2) ∨ (T = 4 ∧ t = 0) ∨ (T = 4 ∧ t = 1) ∨ (T = 4 ∧ t = 2) ∨ (T = 4 ∧ t = 3) := by omega
  rcases hc with ⟨rfl, rfl⟩ | ⟨rfl, rfl⟩ | ⟨rfl, rfl⟩ | ⟨rfl, rfl⟩ | ⟨rfl, rfl⟩ | ⟨rfl, rfl⟩ | ⟨rfl, rfl⟩ | ⟨rfl, rfl⟩ | ⟨rfl, rfl⟩ | ⟨rfl, rfl⟩ <;> simp only [fmM] <;> cases f 0 <;> cases f 1 <;> cases f 2 <;> cases f 3 <;> decide
theorem sX8_alike {G : hd_G} {σ : hd_M} {P : Int32 → hd_M → Prop} {act : Nat} {D : MD} {laws : Nat → LW} (hD : rDesk σ 95 D) (hd : dok D) (hl : rTexts σ (d_T D) laws) (ha : act < 15) (h : ∀ σ', agN σ σ' → P (nI (mlM D laws act)) σ') : EVi G mX8_alike SH [.ref 94, .int (nI act), .int (nI (fmM (ffM D laws) (d_T D)))] σ P := by
  have hT4 := hd.2.2.2.2.1
  have m16 : fmM (ffM D laws) (d_T D) < 16 := Nat.lt_of_lt_of_le (fmM_lt _ _) (Nat.pow_le_pow_right (n := 2) (by decide) hT4 : 2 ^ d_T D ≤ 2 ^ 4)
  refine wX8_alike _ _ (fun X hX v1 e1 => ?_)
  have eT : mlM D laws act = moA (ffM D laws) (gaM D laws act) (d_T D) := by
    have := moA_T (f := ffM D laws) (g := gaM D laws act) (T := d_T D) (fun t ht => ffM_n (ftM_ge ht)) (4 - d_T D)
    rwa [show d_T D + (4 - d_T D) = 4 by omega] at this
  have second : ∀ t, t ≤ d_T D → ∀ s, agN σ s → (∀ b, b < 11 → s.1 115 b = nI (cnA (ffM D laws) (gaM D laws act) b t)) → hd_J G mX8_alike X SH (0, 0) 26 [(0, .ref 94), (1, .int (nI act)), (2, .int (nI (fmM (ffM D laws) (d_T D)))), (3, .int (nI (moA (ffM D laws) (gaM D laws act) t))), (4, .int (nI t))] [] s := by
    refine hd_upto (n := d_T D) (fun t => ∀ s, agN σ s → (∀ b, b < 11 → s.1 115 b = nI (cnA (ffM D laws) (gaM D laws act) b t)) → hd_J G mX8_alike X SH (0, 0) 26 [(0, .ref 94), (1, .int (nI act)), (2, .int (nI (fmM (ffM D laws) (d_T D)))), (3, .int (nI (moA (ffM D laws) (gaM D laws act) t))), (4, .int (nI t))] [] s) (fun t ht ih s a hb => ?_)
    have Ds := rDesk_cg hD (agN_c a (by decide))
    have Ls := rTexts_cg hl (agN_c a (k := 97) (by decide))
    refine wX8_alike_26 hX _ _ _ _ ⟨pk_in 1 334 (by decide), ?_⟩
    rw [show (1 : Int32).toNatClampNeg = 1 from rfl, Ds.2.2.2.2.2.1]
    have es : moA (ffM D laws) (gaM D laws act) (t + 1) = if ffM D laws t = true then max (moA (ffM D laws) (gaM D laws act) t) (cnA (ffM D laws) (gaM D laws act) (gaM D laws act t) (t + 1)) else moA (ffM D laws) (gaM D laws act) t := rfl
    refine c_le (d_T D : Int) (t : Int) rfl rfl (fun z => ?_) (fun z => wX8_has _ _ ?_)
    · have : t = d_T D := by omega
      subst this
      rw [eT] at h
      exact h s a
    · have htT : t < d_T D := by omega
      have ec : ∀ b, cnA (ffM D laws) (gaM D laws act) b (t + 1) = cnA (ffM D laws) (gaM D laws act) b t + (if ffM D laws t = true ∧ gaM D laws act t = b then 1 else 0) := fun _ => rfl
      rw [bit_i _ m16 t (by omega), fm_bit _ _ (by omega) t htT]
      cases hf : ffM D laws t with
      | false =>
        have ih := ih htT s a (fun b hb2 => by rw [ec, hf, if_neg (by simp), Nat.add_zero]; exact hb b hb2)
        rw [es, hf] at ih
        refine b_ne (by decide) ⟨Or.inl rfl, b_ne' rfl (fun v13 e13 => ?_)⟩
        rw [e13, nI_1]
        exact ih
      | true =>
        obtain ⟨w, hw⟩ : ∃ w, ftM D laws t = some w := by
          cases hq : ftM D laws t with
          | none => rw [ffM_n hq] at hf; cases hf
          | some w => exact ⟨w, rfl⟩
        have hbw : bhM (laws t) (d_sz D) (d_tr D) 0 = some w := by
          unfold ftM at hw
          rwa [if_pos htT] at hw
        refine b_ne' rfl ⟨Or.inr rfl, b_ne (by decide) (sX8_isFit Ds hd (TL_t Ls htT) (fun s3 a3 r3 v5 e5 => ?_))⟩
        have r3 := r3 w hbw
        obtain ⟨K, cd, t1, t2, t3, t4⟩ := TX_t Ls htT
        have hw7 : w < 2187 := bhM_lt (by rw [← t3]; exact t4) (dok_sz hd) (fun x hx => (hd.2.2.2.2.2.2.2.2.2.1 x hx).1) (by decide) hbw
        have D3 := rDesk_cg Ds (agR_c a3 (by decide))
        refine sX8_doesV (TX_R t1 a3) t4 t2 (rDesk_SR D3 hd) hw7 r3 ha (fun s6 a6 r6 v8 e8 => ?_)
        have gle : gaM D laws act t ≤ 10 := by rw [gaM_s hw]; exact anN_le _ _ _ _
        have e8 : v8 = nI (gaM D laws act t) := by
          rw [e8, t3, haM_N, ← gaM_s hw, show (1 : Int32) = zI 1 from rfl, zI_add, nI_z]
          congr 1
          omega
        rw [e8, nI_clamp (by omega)]
        have a16 := agN_tr a (agN_R (agR_tr a3 a6))
        have h115 : s6.1 115 = s.1 115 := agR_c (agR_tr a3 a6) (by decide)
        have cl := cnA_le (f := ffM D laws) (g := gaM D laws act) (a := gaM D laws act t) t
        have ml := moA_le (f := ffM D laws) (g := gaM D laws act) t
        refine ⟨hd_vn (by omega) (by decide), hd_vn (by omega) (by decide), fun s9 e9 => ⟨hd_vn (by omega) (by decide), ?_⟩⟩
        rw [h115, hb _ (by omega), nI_1] at e9
        have x9 : s9.1 115 (gaM D laws act t) = nI (cnA (ffM D laws) (gaM D laws act) (gaM D laws act t) t + 1) := by rw [e9, wI_eq, if_pos rfl]
        rw [x9]
        have ct : cnA (ffM D laws) (gaM D laws act) (gaM D laws act t) (t + 1) = cnA (ffM D laws) (gaM D laws act) (gaM D laws act t) t + 1 := by rw [ec, if_pos ⟨hf, rfl⟩]
        have ih := ih htT s9 (by rw [e9]; exact agN_w a16) (fun b hb2 => by
          rw [e9, wI_eq, ec]
          by_cases q : b = gaM D laws act t
          · rw [if_pos q, if_pos ⟨hf, q.symm⟩, q]
          · rw [if_neg q, if_neg (fun r => q r.2.symm), h115]
            exact hb b hb2)
        rw [es, hf, if_pos rfl, ct] at ih
        refine c_le ((cnA (ffM D laws) (gaM D laws act) (gaM D laws act t) t + 1 : Nat) : Int) (moA (ffM D laws) (gaM D laws act) t : Int) rfl rfl (fun z => fun v10 e10 => ?_) (fun z => ⟨hd_vn (by omega) (by decide), fun v11 e11 v12 e12 => ?_⟩)
        · rw [show max (moA (ffM D laws) (gaM D laws act) t) (cnA (ffM D laws) (gaM D laws act) (gaM D laws act t) t + 1) = moA (ffM D laws) (gaM D laws act) t by omega] at ih
          rw [e10, nI_1]
          exact ih
        · rw [show max (moA (ffM D laws) (gaM D laws act) t) (cnA (ffM D laws) (gaM D laws act) (gaM D laws act t) t + 1) = cnA (ffM D laws) (gaM D laws act) (gaM D laws act t) t + 1 by omega] at ih
          rw [e11, e12, nI_1]
          exact ih
  have first : ∀ k, k ≤ 11 → ∀ s, agN σ s → (∀ b, b < k → s.1 115 b = 0) → hd_J G mX8_alike X SH (0, 0) 2 [(0, .ref 94), (1, .int (nI act)), (2, .int (nI (fmM (ffM D laws) (d_T D)))), (3, .int (nI k))] [] s := by
    refine hd_upto (n := 11) (fun k => ∀ s, agN σ s → (∀ b, b < k → s.1 115 b = 0) → hd_J G mX8_alike X SH (0, 0) 2 [(0, .ref 94), (1, .int (nI act)), (2, .int (nI (fmM (ffM D laws) (d_T D)))), (3, .int (nI k))] [] s) (fun k hk ih s a hb => ?_)
    refine wX8_alike_2 hX _ _ _ (c_le 11 (k : Int) rfl rfl (fun z => fun v1 e1 v2 e2 => ?_) (fun z => ⟨hd_vn (by omega) (by decide), fun s3 e3 v4 e4 => ?_⟩))
    · have : k = 11 := by omega
      subst this
      rw [e1, e2]
      exact second 0 (by omega) s a hb
    · rw [nI_clamp (by omega)] at e3
      rw [e4, nI_1]
      refine ih (by omega) s3 (by rw [e3]; exact agN_w a) (fun b hb2 => ?_)
      rw [e3, wI_eq]
      by_cases q : b = k
      · rw [if_pos q]
      · rw [if_neg q]
        exact hb b (by omega)
  rw [e1]
  exact first 0 (by omega) σ agN_rf (fun b hb => absurd hb (by omega))
theorem sX8_next {G : hd_G} {σ : hd_M} {P : Int32 → hd_M → Prop} {D : MD} {laws : Nat → LW} (hD : rDesk σ 95 D) (hd : dok D) (hl : rTexts σ (d_T D) laws) (h : ∀ σ', agN σ σ' → P (nxM D laws) σ') : EVi G mX8_next SH [.ref 94] σ P := by
  have hT4 := hd.2.2.2.2.1
  have m16 : fmM (ffM D laws) (d_T D) < 16 := Nat.lt_of_lt_of_le (fmM_lt _ _) (Nat.pow_le_pow_right (n := 2) (by decide) hT4 : 2 ^ d_T D ≤ 2 ^ 4)
  have eT := ffM_T (laws := laws) hT4
  refine wX8_next (fun X hX => sX8_fits hD hd hl (fun s1 a1 v3 e3 => ?_))
  rw [e3]
  refine c_ne (fmM (ffM D laws) (d_T D) : Int) 0 rfl rfl (fun z => fun v4 e4 v5 e5 v6 e6 => ?_) (fun z => ?_)
  · have key : ∀ k, k ≤ 15 → ∀ s, agN σ s → hd_J G mX8_next X SH (0, 0) 18 [(0, .ref 94), (1, .int (nI (fmM (ffM D laws) (d_T D)))), (2, .int (bb1 (bsM (mlM D laws) k))), (3, .int (bb2 0 (bsM (mlM D laws) k))), (4, .int (nI k))] [] s := by
      refine hd_upto (n := 15) (fun k => ∀ s, agN σ s → hd_J G mX8_next X SH (0, 0) 18 [(0, .ref 94), (1, .int (nI (fmM (ffM D laws) (d_T D)))), (2, .int (bb1 (bsM (mlM D laws) k))), (3, .int (bb2 0 (bsM (mlM D laws) k))), (4, .int (nI k))] [] s) (fun k hk ih s a => ?_)
      refine wX8_next_18 hX _ _ _ _ (c_le 15 (k : Int) rfl rfl (fun z2 => ?_) (fun z2 => ?_))
      · have : k = 15 := by omega
        subst this
        have h := h s a
        unfold nxM at h
        rwa [if_neg (by omega)] at h
      · refine sX8_alike (rDesk_cg hD (agN_c a (by decide))) hd (rTexts_cg hl (agN_c a (by decide))) (by omega) (fun s1 a1 v3 e3 => ?_)
        have ih := ih (by omega) s1 (agN_tr a a1)
        have ml := mlM_le D laws k
        rw [e3]
        have eb : bsM (mlM D laws) (k + 1) = match bsM (mlM D laws) k with
          | none => some (k, mlM D laws k)
          | some p => if mlM D laws k < p.2 then some (k, mlM D laws k) else some p := rfl
        cases hb : bsM (mlM D laws) k with
        | none =>
          rw [hb] at eb
          rw [eb] at ih
          refine b_lt (show (-1 : Int32) < 0 by decide) (fun v5 e5 v6 e6 v7 e7 => ?_)
          rw [e5, e6, e7, nI_1]
          exact ih
        | some p =>
          rw [hb] at eb
          have pk := bsM_ok (mlM_le D laws) hb
          refine b_lt' (show (0 : Int32) ≤ nI p.1 from nI_pos' (by omega)) (c_lt (mlM D laws k : Int) (p.2 : Int) rfl rfl (fun z3 => fun v5 e5 v6 e6 v7 e7 => ?_) (fun z3 => fun v4 e4 => ?_))
          · have eb : bsM (mlM D laws) (k + 1) = some (k, mlM D laws k) := by rw [eb]; exact if_pos (by omega)
            rw [eb] at ih
            rw [e5, e6, e7, nI_1]
            exact ih
          · have eb : bsM (mlM D laws) (k + 1) = some p := by rw [eb]; exact if_neg (by omega)
            rw [eb] at ih
            rw [e4, nI_1]
            exact ih
    rw [e4, e5, e6]
    exact key 0 (by omega) s1 (agN_R a1)
  · have h := h s1 (agN_R a1)
    unfold nxM at h
    rwa [if_pos (by omega)] at h
theorem jNext {G : hd_G} {σ : hd_M} {M : MM} {Q : Int32 → Int32 → hd_M → Prop} (hR : REL σ M) (h : ∀ y s M', REL s M' → Q y y s) : EVi G mX7_next SH [.ref 0] σ (fun y1 s1 => EVi G mX8_next SH [.ref 94] s1 (fun y' s2 => Q y1 y' s2)) := by
  obtain ⟨tp, ft, D, D', laws⟩ := M
  have hm := hR.2.2
  have hd : dok D := hm.2.1
  have hT4 := hd.2.2.2.2.1
  refine sX7_next hR.1.2.2.1 hd hR.1.2.2.2.2.1 hm.2.2.2.2 hR.1.2.2.2.2.2.2.1 (fun s1 a1 n1 => ?_)
  have R1 := RREL_fC hR.2.1 (fC_ag a1 (by decide))
  have C1 : CREL s1 (tp, ft, D, D', laws) := CREL_desk hR.1 (Nat.le_refl _) hT4 (fun k h1 h2 => (a1 k (by simp; omega)).1) (a1 1 (by decide)).1 (fun k hk => by rw [(a1 0 (by decide)).1]) n1 (cDesk_cg hR.1.2.2.1 (fun k h1 h2 => (a1 k (by simp; omega)).1)) (cSch_cg hR.1.2.2.2.2.2.2.2 (by rw [(a1 0 (by decide)).1]) (a1 81 (by decide)).1 (a1 84 (by decide)).1 (a1 85 (by decide)).1)
  refine sX8_next R1.2.2.1 hd R1.2.2.2.2 (fun s2 a2 => ?_)
  exact h _ _ (tp, ft, D, D', laws) ⟨CREL_fR C1 hm (fR_ag a2.1 (by decide)), RREL_N R1 a2, hm⟩
