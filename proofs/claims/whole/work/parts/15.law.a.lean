/-! the law: its script is an array below -/
def hd_scr (G : hd_G) (X : hd_X) (L : Nat) (xs : Nat → Int32) : Prop := va_X (hd_ad G 6000) L xs X.2.2.2.1 X.2.2.2.1.heap ∧ hd_ad G 6000 < X.2.2.2.1.heap.size ∧ ¬ hd_A G (hd_ad G 6000)
def hd_stepL (L : Nat) (xs : Nat → Int32) (G : hd_G) (mi : hd_I) (Z : hd_S → Nat × Nat → Option Value → hd_M → Prop) (sh : hd_S) (ks : Nat × Nat) (i : hd_Ins) (pc len a b : Nat) (c : Int32) (d : Int64) (sw : List (Int32 × Nat)) (ce : hd_I) (lv : hd_L) (st : List Value) (σ : hd_M) (k : hd_S → Nat × Nat → Nat → hd_L → List Value → hd_M → Prop) : Prop := match i with
  | .arraylength => hd_r1 st (fun q st => bif Nat.beq q 6000 then k sh ks (pc + len) lv (.int (Int32.ofNat L) :: st) σ else False)
  | .iaload => hd_ir st (fun j q st => bif Nat.beq q 6000 then (vp_in j L ∧ k sh ks (pc + len) lv (.int (xs j.toNatClampNeg) :: st) σ) else False)
  | _ => hd_stepA G mi Z sh ks i pc len a b c d sw ce lv st σ k
theorem hd_stepL_ok {L : Nat} {xs : Nat → Int32} {G : hd_G} {mi : hd_I} {X : hd_X} {Z : hd_S → Nat × Nat → Option Value → hd_M → Prop} {sh : hd_S} {ks : Nat × Nat} (hs : hd_scr G X L xs) (hC : hd_C G mi X) (hks : ks.1 + 0 ≤ mi.2.2.2.2.2.2.1 ∧ ks.2 + 0 ≤ mi.2.2.2.2.2.2.2) (hZ : hd_Zok G mi X (Z sh ks) sh ks) {i : hd_Ins} {pc len a b : Nat} {c : Int32} {d : Int64} {sw : List (Int32 × Nat)} {ce : hd_I} (hok : hd_okA mi (pc, i, len, a, b, c, d, sw, ce) = true) (hcd : hd_cd (pc, i, len, a, b, c, d, sw, ce)) {lv : hd_L} {st : List Value} {σ : hd_M} {k : hd_S → Nat × Nat → Nat → hd_L → List Value → hd_M → Prop} (hk : ∀ sh' ks', (ks'.1 + 0 ≤ mi.2.2.2.2.2.2.1 ∧ ks'.2 + 0 ≤ mi.2.2.2.2.2.2.2) → ∀ pc lv st σ, k sh' ks' pc lv st σ → hd_J G mi X sh' ks' pc lv st σ) (h : hd_stepL L xs G mi Z sh ks i pc len a b c d sw ce lv st σ k) : hd_J G mi X sh ks pc lv st σ := by
  have hC0 := hC
  obtain ⟨p, e, R, s, m, args, below, meth, cd, Q⟩ := X
  obtain ⟨hx, hb, hr, hml, hown, hts, hlocks, hK, hname, hfr, hlo, hrc, hrs⟩ := hC
  dsimp only at hx hb hr hml hown hts hlocks hK hname hfr hlo hrc hrs
  obtain ⟨hs1, hs2, hs3⟩ := hs
  dsimp only at hs1 hs2
  cases i
  case arraylength =>
    obtain ⟨hd, ho⟩ := hd_and hok
    have hd := of_decide_eq_true hd
    have e0 := hd_len1 ho; subst e0
    obtain ⟨q, st', rfl, h1⟩ := hd_r1_inv h
    obtain ⟨h2, h3⟩ := hd_bif h1
    have e1 := Nat.eq_of_beq_eq_true h2; subst e1
    intro hsz H locs ls hP hS hl
    exact va_slen hx hb hs1 hs2 hs3 hS hd (hk sh ks hks _ _ _ _ h3 hsz H locs ls hP hS hl)
  case iaload =>
    obtain ⟨hd, ho⟩ := hd_and hok
    have hd := of_decide_eq_true hd
    have e0 := hd_len1 ho; subst e0
    obtain ⟨j, q, st', rfl, h1⟩ := hd_ir_inv h
    obtain ⟨h2, h3, h4⟩ := hd_bif h1
    have e1 := Nat.eq_of_beq_eq_true h2; subst e1
    intro hsz H locs ls hP hS hl
    exact va_sld hx hb hs1 hs2 hs3 hS h3 hd (hk sh ks hks _ _ _ _ h4 hsz H locs ls hP hS hl)
  all_goals exact hd_stepA_ok hC0 hks hZ hok hcd hk h
def hd_wpL (L : Nat) (xs : Nat → Int32) (G : hd_G) (mi : hd_I) (X : hd_X) (Z : hd_S → Nat × Nat → Option Value → hd_M → Prop) (rows : List hd_R) (cuts : List (Nat × List Nat)) : Nat → hd_S → Nat × Nat → Nat → hd_L → List Value → hd_M → Prop
  | 0, sh, ks, pc, lv, st, σ => hd_J G mi X sh ks pc lv st σ
  | n + 1, sh, ks, pc, lv, st, σ => match hd_find pc rows with
    | none => False
    | some (pc, i, len, a, b, c, d, sw, ce) => hd_stepL L xs G mi Z sh ks i pc len a b c d sw ce lv st σ (fun sh ks pc lv st σ => match hd_cut pc cuts with
      | some live => hd_J G mi X sh ks pc (hd_pick live lv) st σ
      | none => hd_wpL L xs G mi X Z rows cuts n sh ks pc lv st σ)
theorem hd_wpL_ok {L : Nat} {xs : Nat → Int32} {G : hd_G} {mi : hd_I} {X : hd_X} {Z : hd_S → Nat × Nat → Option Value → hd_M → Prop} {rows : List hd_R} {cuts : List (Nat × List Nat)} (hs : hd_scr G X L xs) (hC : hd_C G mi X) (hZ : ∀ sh ks, hd_Zok G mi X (Z sh ks) sh ks) (hrows : rows.all (hd_okA mi) = true) (hcs : hd_cdl rows) : ∀ (n : Nat) (sh : hd_S) (ks : Nat × Nat), (ks.1 + 0 ≤ mi.2.2.2.2.2.2.1 ∧ ks.2 + 0 ≤ mi.2.2.2.2.2.2.2) → ∀ (pc : Nat) (lv : hd_L) (st : List Value) (σ : hd_M), hd_wpL L xs G mi X Z rows cuts n sh ks pc lv st σ → hd_J G mi X sh ks pc lv st σ
  | 0, _, _, _, _, _, _, _, h => h
  | n + 1, sh, ks, hks, pc, lv, st, σ, h => by
    unfold hd_wpL at h
    split at h
    · exact h.elim
    · rename_i pc' i len a b c d sw ce hf
      obtain ⟨h1, h2⟩ := hd_find_ok hf
      have h2 : pc' = pc := h2
      subst h2
      refine hd_stepL_ok hs hC hks (hZ sh ks) (List.all_eq_true.mp hrows _ h1) (hd_cdl_mem hcs _ h1) (fun sh' ks' hks' pc lv st σ hk => ?_) h
      split at hk
      · rename_i live hc
        intro hsz H locs ls hP hS hl
        exact hk hsz H locs ls hP hS (hd_has_pick hl)
      · exact hd_wpL_ok hs hC hZ hrows hcs n sh' ks' hks' pc lv st σ hk
theorem hd_walkL {L : Nat} {xs : Nat → Int32} {G : hd_G} {mi : hd_I} {X : hd_X} {Z : hd_S → Nat × Nat → Option Value → hd_M → Prop} {rows : List hd_R} (cuts : List (Nat × List Nat)) {sh : hd_S} {ks : Nat × Nat} (n : Nat) {pc : Nat} {lv : hd_L} {st : List Value} {σ : hd_M} (hX : hd_CA G mi X Z) (hs : hd_scr G X L xs) (hks : Nat.ble ks.1 mi.2.2.2.2.2.2.1 = true ∧ Nat.ble ks.2 mi.2.2.2.2.2.2.2 = true) (hrows : rows.all (hd_okA mi) = true ∧ hd_cdl rows) (h : hd_wpL L xs G mi X Z rows cuts n sh ks pc lv st σ) : hd_J G mi X sh ks pc lv st σ := hd_wpL_ok hs hX.1 hX.2 hrows.1 hrows.2 n sh ks ⟨Nat.le_of_ble_eq_true hks.1, Nat.le_of_ble_eq_true hks.2⟩ pc lv st σ h
