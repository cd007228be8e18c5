theorem hd_len1 {len : Nat} {n : Nat} (h : Nat.beq len n = true) : len = n := Nat.eq_of_beq_eq_true h
theorem hd_ge {x y : Int32} (h : ¬ x < y) : y ≤ x := Int32.not_lt.mp h
theorem hd_gt {x y : Int32} (h : ¬ x ≤ y) : y < x := Int32.not_le.mp h
theorem hd_getF {G : hd_G} {mi : hd_I} {X : hd_X} {sh : hd_S} {ks : Nat × Nat} {idx pc q a b n0 : Nat} {rs : List Nat} {sw : List (Int32 × Nat)} {lv : hd_L} {st : List Value} {σ : hd_M} {v : Value} (hC : hd_C G mi X) (hd : decode mi.2.1 pc = .ok (.getfield idx, 3)) (hf : hd_fok mi idx a b sw = true) (hq : sh[q]? = some (10 + a, n0, rs)) (hv : hd_fv (hd_ad G) σ q rs a (b % 100) = hd_v (hd_ad G) v) (kk : hd_J G mi X sh ks (pc + 3) lv (v :: st) σ) : hd_J G mi X sh ks pc lv (.ref q :: st) σ := by
  obtain ⟨p, e, R, s, m, args, below, meth, cd, Q⟩ := X
  obtain ⟨hx, hb, hr, hml, hown, hts, hlocks, hK, hname, hfr, hlo, hrc, hrs⟩ := hC
  dsimp only at hx hb hr hml hown hts hlocks hK hname hfr hlo hrc hrs
  intro hsz H locs ls hP hS hl
  unfold hd_fok at hf
  split at hf
  · rename_i cq hcq
    obtain ⟨hf, -⟩ := hd_and hf
    obtain ⟨h1, h2⟩ := hd_and hf
    have h1 : b % 100 < cq.2.2 := Nat.le_of_ble_eq_true h1
    obtain ⟨g1, g2, g3, g4⟩ := hd_clok hcq
    show W _ _ _ _ _ _ _ _ _ _ _ _ _ _ _ (F0 m pc ls (.ref (hd_ad G q) :: st.map (hd_v (hd_ad G))))
    rw [hd_adq hK hP hq]
    refine va_get (C := cq.1) (T := cq.2.1) (N := cq.2.2) (ci := a) hx hb hts g1 hown hK.1 hP.2 q (by rw [hd_ws_at hq, hd_E_obj]) (by rw [hcq]) (b % 100) h1 (hts _ (hd_at_mem h2)) (fun _ z => z) (v := hd_v (hd_ad G) v) (by rw [hd_fs_at (by rw [g4]; exact h1), hv]) hd ?_
    exact kk hsz H locs ls hP hS hl
  · cases hf
theorem hd_putF {G : hd_G} {mi : hd_I} {X : hd_X} {sh : hd_S} {ks : Nat × Nat} {idx pc q a b n0 : Nat} {rs : List Nat} {sw : List (Int32 × Nat)} {lv : hd_L} {st : List Value} {σ σ' : hd_M} {v : Value} (hC : hd_C G mi X) (hd : decode mi.2.1 pc = .ok (.putfield idx, 3)) (hf : hd_fok mi idx a b sw = true) (hfin : hd_fin mi a b = true) (hq : sh[q]? = some (10 + a, n0, rs)) (hnar : narrow (hd_ft a (b % 100)) (hd_v (hd_ad G) v) = hd_v (hd_ad G) v) (hfits : fits (hd_ft a (b % 100)) (hd_v (hd_ad G) v) = true) (hv : hd_fv (hd_ad G) σ' q rs a (b % 100) = hd_v (hd_ad G) v) (ho : ∀ j, j ≠ b % 100 → hd_fv (hd_ad G) σ' q rs a j = hd_fv (hd_ad G) σ q rs a j) (ho2 : ∀ k s', k ≠ q → hd_E G σ' k s' = hd_E G σ k s') (kk : hd_J G mi X sh ks (pc + 3) lv st σ') : hd_J G mi X sh ks pc lv (v :: .ref q :: st) σ := by
  obtain ⟨p, e, R, s, m, args, below, meth, cd, Q⟩ := X
  obtain ⟨hx, hb, hr, hml, hown, hts, hlocks, hK, hname, hfr, hlo, hrc, hrs⟩ := hC
  dsimp only at hx hb hr hml hown hts hlocks hK hname hfr hlo hrc hrs
  intro hsz H locs ls hP hS hl
  unfold hd_fok at hf
  split at hf
  · rename_i cq hcq
    obtain ⟨hf, -⟩ := hd_and hf
    obtain ⟨h1, h2⟩ := hd_and hf
    have h1 : b % 100 < cq.2.2 := Nat.le_of_ble_eq_true h1
    obtain ⟨g1, g2, g3, g4⟩ := hd_clok hcq
    have hfn : (cq.2.1 (b % 100)).2.2.2 = false := by
      unfold hd_fin at hfin
      rw [hcq] at hfin
      simpa using hfin
    show W _ _ _ _ _ _ _ _ _ _ _ _ _ _ _ (F0 m pc ls (hd_v (hd_ad G) v :: .ref (hd_ad G q) :: st.map (hd_v (hd_ad G))))
    rw [hd_adq hK hP hq]
    refine va_put (C := cq.1) (T := cq.2.1) (N := cq.2.2) (ci := a) hx hb hts g1 (hd_ft a) g2 g3 hown hK.1 hP.2 (hd_D G sh σ) hS q (by rw [hd_ws_at hq, hd_E_obj]) (by rw [hcq]) (b % 100) h1 (hts _ (hd_at_mem h2)) (fun _ z => z) hfn (g2 _ h1) hnar hfits (by simp [g4, h1]) hd ?_
    intro H1 locs1 hP1 hD1 hS1
    refine kk hsz H1 locs1 ls (hd_P_set hP hq ?_ ho2 hP1) hS1 hl
    rw [hd_E_obj, hd_fs_set (by rw [g4]; exact h1) hv ho]
  · cases hf
theorem hd_fok_k {mi : hd_I} {idx a b : Nat} {sw : List (Int32 × Nat)} (hf : hd_fok mi idx a b sw = true) : hd_fk a (b % 100) = b / 100 ∨ (b / 100 = 5 ∧ hd_fk a (b % 100) = 2) := by
  unfold hd_fok at hf
  split at hf
  · obtain ⟨-, h⟩ := hd_and hf
    rw [Bool.or_eq_true] at h
    rcases h with h | h
    · exact Or.inl (Nat.eq_of_beq_eq_true h)
    · obtain ⟨h1, h2⟩ := hd_and h
      exact Or.inr ⟨Nat.eq_of_beq_eq_true h1, Nat.eq_of_beq_eq_true h2⟩
  · cases hf
theorem hd_fk_ty {a k n : Nat} (h : hd_fk a k = n) : (n = 0 → hd_ft a k = .int) ∧ (n = 1 → hd_ft a k = .long) ∧ (n = 4 → hd_ft a k = .boolean) ∧ (n = 3 → (∃ c, hd_ft a k = .object c) ∨ ∃ t, hd_ft a k = .array t) := by
  unfold hd_fk at h
  split at h
  · rename_i e; subst h; exact ⟨fun z => absurd z (by decide), fun _ => e, fun z => absurd z (by decide), fun z => absurd z (by decide)⟩
  · rename_i e; subst h; exact ⟨fun z => absurd z (by decide), fun z => absurd z (by decide), fun _ => e, fun z => absurd z (by decide)⟩
  · rename_i c e
    refine ⟨fun z => ?_, fun z => ?_, fun z => ?_, fun z => Or.inl ⟨c, e⟩⟩ <;> (subst z; cases hm : hd_mut a k <;> rw [hm] at h <;> exact absurd h (by decide))
  · rename_i c e
    refine ⟨fun z => ?_, fun z => ?_, fun z => ?_, fun z => Or.inr ⟨c, e⟩⟩ <;> (subst z; cases hm : hd_mut a k <;> rw [hm] at h <;> exact absurd h (by decide))
  · rename_i e; subst h; exact ⟨fun _ => e, fun z => absurd z (by decide), fun z => absurd z (by decide), fun z => absurd z (by decide)⟩
  · subst h; exact ⟨fun z => absurd z (by decide), fun z => absurd z (by decide), fun z => absurd z (by decide), fun z => absurd z (by decide)⟩
theorem hd_fv0 {f : Nat → Nat} {σ : hd_M} {q a k n : Nat} {rs : List Nat} (h : hd_fk a k = n) (hn : n = 0 ∨ n = 4) : hd_fv f σ q rs a k = .int (σ.1 q k) := by
  unfold hd_fv
  rw [h]
  rcases hn with rfl | rfl <;> rfl
theorem hd_fvx {f : Nat → Nat} {σ : hd_M} {q a k n : Nat} {rs : List Nat} (h : hd_fk a k = n) (hn : 4 ≤ n) : hd_fv f σ q rs a k = .int (σ.1 q k) := by
  unfold hd_fv
  rw [h]
  match n, hn with
  | n + 4, _ => rfl
theorem hd_fk_le (a k : Nat) : hd_fk a k ≠ 5 := by
  unfold hd_fk
  split <;> first | decide | (cases hd_mut a k <;> decide)
theorem hd_fv1 {f : Nat → Nat} {σ : hd_M} {q a k : Nat} {rs : List Nat} (h : hd_fk a k = 1) : hd_fv f σ q rs a k = .long (σ.2 q k) := by
  unfold hd_fv
  rw [h]
  rfl
theorem hd_fv2 {f : Nat → Nat} {σ : hd_M} {q a k : Nat} {rs : List Nat} (h : hd_fk a k = 2) : hd_fv f σ q rs a k = hd_rv f (rs.getD k 0) := by
  unfold hd_fv
  rw [h]
  rfl
theorem hd_fv3 {f : Nat → Nat} {σ : hd_M} {q a k : Nat} {rs : List Nat} (h : hd_fk a k = 3) : hd_fv f σ q rs a k = hd_rv f (σ.1 q k).toNatClampNeg := by
  unfold hd_fv
  rw [h]
  rfl
theorem hd_rv_ne {f : Nat → Nat} {n : Nat} (h : ¬ n = 0) : hd_rv f n = .ref (f n) := by
  unfold hd_rv
  cases hb : Nat.beq n 0 with
  | true => exact absurd (Nat.eq_of_beq_eq_true hb) h
  | false => rfl
theorem hd_arr_upd {G : hd_G} {σ : hd_M} {q t n : Nat} {rs : List Nat} {f : Nat → Int32} (ht : t < 3) : hd_E G (va_up σ.1 q f, σ.2) q (t, n, rs) = .inl (G.2.2.1 t, n, .inl f) := by
  rw [hd_E_arr ht]
  show Sum.inl (_, _, Sum.inl (va_up σ.1 q f q)) = _
  rw [hd_up_eq]
theorem hd_arr_updL {G : hd_G} {σ : hd_M} {q n : Nat} {rs : List Nat} {f : Nat → Int64} : hd_E G (σ.1, va_up σ.2 q f) q (3, n, rs) = .inl (G.2.2.1 3, n, .inr (.inl f)) := by
  show Sum.inl (_, _, Sum.inr (Sum.inl (va_up σ.2 q f q))) = _
  rw [hd_up_eq]
theorem hd_sw_ok {x : Int32} {dft : Nat} {k : Nat → Prop} : ∀ {sw : List (Int32 × Nat)}, hd_sw x dft k sw → (∃ (j : Nat) (v : Int32) (t : Nat), sw[j]? = some (v, t) ∧ x = v ∧ k t) ∨ ((∀ (j : Nat) (v : Int32) (t : Nat), sw[j]? = some (v, t) → ¬ x = v) ∧ k dft)
  | [], h => Or.inr ⟨fun j v t z => by simp at z, h⟩
  | (v, t) :: r, h => by
    by_cases hx : x = v
    · exact Or.inl ⟨0, v, t, rfl, hx, h.1 hx⟩
    · rcases hd_sw_ok (h.2 hx) with ⟨j, v', t', h1, h2, h3⟩ | ⟨h1, h2⟩
      · exact Or.inl ⟨j + 1, v', t', h1, h2, h3⟩
      · refine Or.inr ⟨fun j v' t' hj => ?_, h2⟩
        match j, hj with
        | 0, hj => cases hj; exact hx
        | j + 1, hj => exact h1 j v' t' hj
theorem hd_call_EV {G : hd_G} {ce : hd_I} {kind : Nat} {sh : hd_S} {as rest : List Value} {σ : hd_M} {k : List Value → hd_M → Prop} (h : hd_call G ce kind sh as rest σ k) : ∃ P, hd_EV G ce sh as σ P ∧ ∀ r sh' σ', P r sh' σ' → sh' = sh ∧ k (r.toList ++ rest) σ' := by
  match kind, h with
  | 0, h => exact ⟨_, h, fun r sh' σ' ⟨h1, x, h2, h3⟩ => ⟨h1, by rw [h2]; exact h3⟩⟩
  | 1, h => exact ⟨_, h, fun r sh' σ' ⟨h1, x, h2, h3⟩ => ⟨h1, by rw [h2]; exact h3⟩⟩
  | 2, h => exact ⟨_, h, fun r sh' σ' ⟨h1, h2, h3⟩ => ⟨h1, by rw [h2]; exact h3⟩⟩
  | 3, h => exact ⟨_, h, fun r sh' σ' ⟨h1, x, h2, h3⟩ => ⟨h1, by rw [h2]; exact h3⟩⟩
  | n + 4, h => exact h.elim
set_option maxHeartbeats 4000000 in
set_option maxRecDepth 20000 in
theorem hd_step_ok {G : hd_G} {mi : hd_I} {X : hd_X} {Z : Option Value → hd_M → Prop} {sh : hd_S} {ks : Nat × Nat} (hC : hd_C G mi X) (hks : ks.1 + 0 ≤ mi.2.2.2.2.2.2.1 ∧ ks.2 + 0 ≤ mi.2.2.2.2.2.2.2) (hZ : hd_Zok G mi X Z sh ks) {i : hd_Ins} {pc len a b : Nat} {c : Int32} {d : Int64} {sw : List (Int32 × Nat)} {ce : hd_I} (hok : hd_okb mi (pc, i, len, a, b, c, d, sw, ce) = true) (hcd : hd_cd (pc, i, len, a, b, c, d, sw, ce)) {lv : hd_L} {st : List Value} {σ : hd_M} {k : Nat → hd_L → List Value → hd_M → Prop} (hk : ∀ pc lv st σ, k pc lv st σ → hd_J G mi X sh ks pc lv st σ) (h : hd_step G mi Z sh i pc len a b c d sw ce lv st σ k) : hd_J G mi X sh ks pc lv st σ := by
  have hC0 := hC
  obtain ⟨hdd, ho⟩ := hd_and hok
  have hd := of_decide_eq_true hdd
  clear hok hdd
  obtain ⟨p, e, R, s, m, args, below, meth, cd, Q⟩ := X
  obtain ⟨hx, hb, hr, hml, hown, hts, hlocks, hK, hname, hfr, hlo, hrc, hrs⟩ := hC
  dsimp only at hx hb hr hml hown hts hlocks hK hname hfr hlo hrc hrs hd
  intro hsz H locs ls hP hS hl
  dsimp only at hsz hS
  cases i
  case iadd =>
    replace h := hd_i2_inv h
    obtain ⟨y, x, st, rfl, h⟩ := h
    have e0 := hd_len1 ho; subst e0
    exact lv_iadd hx hb hd (hk _ _ _ _ h hsz H locs ls hP hS hl)
  case isub =>
    replace h := hd_i2_inv h
    obtain ⟨y, x, st, rfl, h⟩ := h
    have e0 := hd_len1 ho; subst e0
    exact lv_isub hx hb hd (hk _ _ _ _ h hsz H locs ls hP hS hl)
  case imul =>
    replace h := hd_i2_inv h
    obtain ⟨y, x, st, rfl, h⟩ := h
    have e0 := hd_len1 ho; subst e0
    exact lv_imul hx hb hd (hk _ _ _ _ h hsz H locs ls hP hS hl)
  case ishl =>
    replace h := hd_i2_inv h
    obtain ⟨y, x, st, rfl, h⟩ := h
    have e0 := hd_len1 ho; subst e0
    exact lv_ishl hx hb hd (hk _ _ _ _ h hsz H locs ls hP hS hl)
  case ishr =>
    replace h := hd_i2_inv h
    obtain ⟨y, x, st, rfl, h⟩ := h
    have e0 := hd_len1 ho; subst e0
    exact lv_ishr hx hb hd (hk _ _ _ _ h hsz H locs ls hP hS hl)
  case iand =>
    replace h := hd_i2_inv h
    obtain ⟨y, x, st, rfl, h⟩ := h
    have e0 := hd_len1 ho; subst e0
    exact lv_iand hx hb hd (hk _ _ _ _ h hsz H locs ls hP hS hl)
  case ior =>
    replace h := hd_i2_inv h
    obtain ⟨y, x, st, rfl, h⟩ := h
    have e0 := hd_len1 ho; subst e0
    exact lv_ior hx hb hd (hk _ _ _ _ h hsz H locs ls hP hS hl)
  case ixor =>
    replace h := hd_i2_inv h
    obtain ⟨y, x, st, rfl, h⟩ := h
    have e0 := hd_len1 ho; subst e0
    exact lv_ixor hx hb hd (hk _ _ _ _ h hsz H locs ls hP hS hl)
  case ladd =>
    replace h := hd_l2_inv h
    obtain ⟨y, x, st, rfl, h⟩ := h
    have e0 := hd_len1 ho; subst e0
    exact lv_ladd hx hb hd (hk _ _ _ _ h hsz H locs ls hP hS hl)
  case lsub =>
    replace h := hd_l2_inv h
    obtain ⟨y, x, st, rfl, h⟩ := h
    have e0 := hd_len1 ho; subst e0
    exact lv_lsub hx hb hd (hk _ _ _ _ h hsz H locs ls hP hS hl)
  case lmul =>
    replace h := hd_l2_inv h
    obtain ⟨y, x, st, rfl, h⟩ := h
    have e0 := hd_len1 ho; subst e0
    exact lv_lmul hx hb hd (hk _ _ _ _ h hsz H locs ls hP hS hl)
  case lor =>
    replace h := hd_l2_inv h
    obtain ⟨y, x, st, rfl, h⟩ := h
    have e0 := hd_len1 ho; subst e0
    exact lv_lor hx hb hd (hk _ _ _ _ h hsz H locs ls hP hS hl)
  case idiv =>
    replace h := hd_i2_inv h
    obtain ⟨y, x, st, rfl, hn, h⟩ := h
    have e0 := hd_len1 ho; subst e0
    exact lv_idiv hx hb hd hn (hk _ _ _ _ h hsz H locs ls hP hS hl)
  case irem =>
    replace h := hd_i2_inv h
    obtain ⟨y, x, st, rfl, hn, h⟩ := h
    have e0 := hd_len1 ho; subst e0
    exact lv_irem hx hb hd hn (hk _ _ _ _ h hsz H locs ls hP hS hl)
  case ldiv =>
    replace h := hd_l2_inv h
    obtain ⟨y, x, st, rfl, hn, h⟩ := h
    have e0 := hd_len1 ho; subst e0
    exact lv_ldiv hx hb hd hn (hk _ _ _ _ h hsz H locs ls hP hS hl)
  case iushr =>
    replace h := hd_i2_inv h
    obtain ⟨y, x, st, rfl, h⟩ := h
    have e0 := hd_len1 ho; subst e0
    exact lv_iushr hx hb hd rfl (hk _ _ _ _ h hsz H locs ls hP hS hl)
  case lshl =>
    replace h := hd_il_inv h
    obtain ⟨y, x, st, rfl, h⟩ := h
    have e0 := hd_len1 ho; subst e0
    exact lv_lshl hx hb hd rfl (hk _ _ _ _ h hsz H locs ls hP hS hl)
  case lcmp =>
    replace h := hd_l2_inv h
    obtain ⟨y, x, st, rfl, h⟩ := h
    have e0 := hd_len1 ho; subst e0
    exact W.lcmp hx hb hd (hk _ _ _ _ h hsz H locs ls hP hS hl)
  case ineg =>
    replace h := hd_i1_inv h
    obtain ⟨x, st, rfl, h⟩ := h
    have e0 := hd_len1 ho; subst e0
    exact lv_ineg hx hb hd (hk _ _ _ _ h hsz H locs ls hP hS hl)
  case lneg =>
    replace h := hd_l1_inv h
    obtain ⟨x, st, rfl, h⟩ := h
    have e0 := hd_len1 ho; subst e0
    exact lv_lneg hx hb hd (hk _ _ _ _ h hsz H locs ls hP hS hl)
  case i2l =>
    replace h := hd_i1_inv h
    obtain ⟨x, st, rfl, h⟩ := h
    have e0 := hd_len1 ho; subst e0
    exact lv_i2l hx hb hd rfl (hk _ _ _ _ h hsz H locs ls hP hS hl)
  case l2i =>
    replace h := hd_l1_inv h
    obtain ⟨x, st, rfl, h⟩ := h
    have e0 := hd_len1 ho; subst e0
    exact lv_l2i hx hb hd rfl (hk _ _ _ _ h hsz H locs ls hP hS hl)
  case i2b =>
    replace h := hd_i1_inv h
    obtain ⟨x, st, rfl, h⟩ := h
    have e0 := hd_len1 ho; subst e0
    exact lv_i2b hx hb hd rfl (hk _ _ _ _ h hsz H locs ls hP hS hl)
  case iconst =>
    replace ho := hd_and ho
    obtain ⟨h1, h2⟩ := ho
    have e0 := hd_len1 h1; subst e0
    exact lv_iconst hx hb hd (of_decide_eq_true h2) (hk _ _ _ _ h hsz H locs ls hP hS hl)
  case bipush =>
    replace ho := hd_and ho
    obtain ⟨h1, h2⟩ := ho
    have e0 := hd_len1 h1; subst e0
    exact lv_bipush hx hb hd (of_decide_eq_true h2) (hk _ _ _ _ h hsz H locs ls hP hS hl)
  case sipush =>
    replace ho := hd_and ho
    obtain ⟨h1, h2⟩ := ho
    have e0 := hd_len1 h1; subst e0
    exact lv_sipush hx hb hd (of_decide_eq_true h2) (hk _ _ _ _ h hsz H locs ls hP hS hl)
  case lconst =>
    replace ho := hd_and ho
    obtain ⟨h1, h2⟩ := ho
    have e0 := hd_len1 h1; subst e0
    exact lv_lconst hx hb hd (of_decide_eq_true h2) (hk _ _ _ _ h hsz H locs ls hP hS hl)
  case ldc_w =>
    replace ho := hd_and ho
    obtain ⟨h1, h2⟩ := ho
    have e0 := hd_len1 h1; subst e0
    exact lv_ldcw hx hb hown (hts _ (hd_at_mem h2)) hd (hk _ _ _ _ h hsz H locs ls hP hS hl)
  case ldc2_w =>
    replace ho := hd_and ho
    obtain ⟨h1, h2⟩ := ho
    have e0 := hd_len1 h1; subst e0
    exact lv_ldc2 hx hb hown (hts _ (hd_at_mem h2)) hd (hk _ _ _ _ h hsz H locs ls hP hS hl)
  case iload =>
    replace h := hd_lki_inv h
    obtain ⟨x, hx1, h⟩ := h
    replace ho := hd_and ho
    obtain ⟨h1, h2⟩ := ho
    have e0 := hd_len1 h1; subst e0
    have e0 := hd_len1 h2; subst e0
    exact lv_iload hx hb hd (hd_has_at hl hx1) (hk _ _ _ _ h hsz H locs ls hP hS hl)
  case iload_n =>
    replace h := hd_lki_inv h
    obtain ⟨x, hx1, h⟩ := h
    replace ho := hd_and ho
    obtain ⟨h1, h2⟩ := ho
    have e0 := hd_len1 h1; subst e0
    exact lv_iload_n hx hb hd (hd_len1 h2) (hd_has_at hl hx1) (hk _ _ _ _ h hsz H locs ls hP hS hl)
  case lload =>
    replace h := hd_lkl_inv h
    obtain ⟨x, hx1, h⟩ := h
    replace ho := hd_and ho
    obtain ⟨h1, h2⟩ := ho
    have e0 := hd_len1 h1; subst e0
    have e0 := hd_len1 h2; subst e0
    exact lv_lload hx hb hd (hd_has_at hl hx1) (hk _ _ _ _ h hsz H locs ls hP hS hl)
  case lload_n =>
    replace h := hd_lkl_inv h
    obtain ⟨x, hx1, h⟩ := h
    replace ho := hd_and ho
    obtain ⟨h1, h2⟩ := ho
    have e0 := hd_len1 h1; subst e0
    exact lv_lload_n hx hb hd (hd_len1 h2) (hd_has_at hl hx1) (hk _ _ _ _ h hsz H locs ls hP hS hl)
  case aload =>
    replace h := hd_lkr_inv h
    obtain ⟨x, hx1, h⟩ := h
    replace ho := hd_and ho
    obtain ⟨h1, h2⟩ := ho
    have e0 := hd_len1 h1; subst e0
    have e0 := hd_len1 h2; subst e0
    exact lv_aload hx hb hd (hd_has_at hl hx1) (hk _ _ _ _ h hsz H locs ls hP hS hl)
  case aload_n =>
    replace h := hd_lkr_inv h
    obtain ⟨x, hx1, h⟩ := h
    replace ho := hd_and ho
    obtain ⟨h1, h2⟩ := ho
    have e0 := hd_len1 h1; subst e0
    exact lv_aload_n hx hb hd (hd_len1 h2) (hd_has_at hl hx1) (hk _ _ _ _ h hsz H locs ls hP hS hl)
  case istore =>
    replace h := hd_i1_inv h
    obtain ⟨x, st, rfl, h⟩ := h
    replace ho := hd_and ho
    obtain ⟨h1, h3⟩ := ho
    replace h1 := hd_and h1
    obtain ⟨h1, h2⟩ := h1
    have e0 := hd_len1 h1; subst e0
    have e0 := hd_len1 h2; subst e0
    exact lv_istore hx hb hd hl (Nat.le_of_ble_eq_true h3) rfl (fun ls' hl' => (hk _ _ _ _ (h _ rfl) hsz H locs ls' hP hS (hd_has_sto hl')))
  case istore_n =>
    replace h := hd_i1_inv h
    obtain ⟨x, st, rfl, h⟩ := h
    replace ho := hd_and ho
    obtain ⟨h1, h3⟩ := ho
    replace h1 := hd_and h1
    obtain ⟨h1, h2⟩ := h1
    have e0 := hd_len1 h1; subst e0
    exact lv_istore_n hx hb hd (hd_len1 h2) hl (Nat.le_of_ble_eq_true h3) rfl (fun ls' hl' => (hk _ _ _ _ (h _ rfl) hsz H locs ls' hP hS (hd_has_sto hl')))
  case lstore =>
    replace h := hd_l1_inv h
    obtain ⟨x, st, rfl, h⟩ := h
    replace ho := hd_and ho
    obtain ⟨h1, h3⟩ := ho
    replace h1 := hd_and h1
    obtain ⟨h1, h2⟩ := h1
    have e0 := hd_len1 h1; subst e0
    have e0 := hd_len1 h2; subst e0
    exact lv_lstore hx hb hd hl (Nat.le_of_ble_eq_true h3) rfl (fun ls' hl' => (hk _ _ _ _ (h _ rfl) hsz H locs ls' hP hS (hd_has_stoL hl')))
  case lstore_n =>
    replace h := hd_l1_inv h
    obtain ⟨x, st, rfl, h⟩ := h
    replace ho := hd_and ho
    obtain ⟨h1, h3⟩ := ho
    replace h1 := hd_and h1
    obtain ⟨h1, h2⟩ := h1
    have e0 := hd_len1 h1; subst e0
    exact lv_lstore_n hx hb hd (hd_len1 h2) hl (Nat.le_of_ble_eq_true h3) rfl (fun ls' hl' => (hk _ _ _ _ (h _ rfl) hsz H locs ls' hP hS (hd_has_stoL hl')))
  case astore =>
    replace h := hd_r1_inv h
    obtain ⟨x, st, rfl, h⟩ := h
    replace ho := hd_and ho
    obtain ⟨h1, h3⟩ := ho
    replace h1 := hd_and h1
    obtain ⟨h1, h2⟩ := h1
    have e0 := hd_len1 h1; subst e0
    have e0 := hd_len1 h2; subst e0
    exact lv_astore hx hb hd hl (Nat.le_of_ble_eq_true h3) rfl (fun ls' hl' => (hk _ _ _ _ h hsz H locs ls' hP hS (hd_has_sto hl')))
  case astore_n =>
    replace h := hd_r1_inv h
    obtain ⟨x, st, rfl, h⟩ := h
    replace ho := hd_and ho
    obtain ⟨h1, h3⟩ := ho
    replace h1 := hd_and h1
    obtain ⟨h1, h2⟩ := h1
    have e0 := hd_len1 h1; subst e0
    exact lv_astore_n hx hb hd (hd_len1 h2) hl (Nat.le_of_ble_eq_true h3) rfl (fun ls' hl' => (hk _ _ _ _ h hsz H locs ls' hP hS (hd_has_sto hl')))
  case iinc =>
    replace h := hd_lki_inv h
    obtain ⟨x, hx1, h⟩ := h
    replace ho := hd_and ho
    obtain ⟨h1, h4⟩ := ho
    replace h1 := hd_and h1
    obtain ⟨h1, h3⟩ := h1
    replace h1 := hd_and h1
    obtain ⟨h1, h2⟩ := h1
    have e0 := hd_len1 h1; subst e0
    have e0 := hd_len1 h2; subst e0
    obtain ⟨j, hj⟩ := List.mem_iff_getElem?.mp (show (_, hd_v (hd_ad G) (.int x)) ∈ hd_lm (hd_ad G) lv from List.mem_map.mpr ⟨_, hd_lk_mem hx1, rfl⟩)
    exact lv_iinc hx hb hd hl hj (by rw [of_decide_eq_true h4]) (Nat.le_of_ble_eq_true h3) rfl (fun ls' hl' => hk _ _ _ _ (h _ rfl) hsz H locs ls' hP hS (hd_has_sto hl'))
  case goto =>
    replace ho := hd_and ho
    obtain ⟨h1, h2⟩ := ho
    have e0 := hd_len1 h1; subst e0
    exact lv_goto hx hb hd (of_decide_eq_true h2) (hk _ _ _ _ h hsz H locs ls hP hS hl)
  case ifCond cnd off =>
    replace h := hd_i1_inv h
    obtain ⟨x, st, rfl, h⟩ := h
    replace ho := hd_and ho
    obtain ⟨h1, h2⟩ := ho
    have e0 := hd_len1 h1; subst e0
    have ht := of_decide_eq_true h2
    cases cnd
    · exact lv_if_eq hx hb hd ht (fun z => (hk _ _ _ _ (h.1 z) hsz H locs ls hP hS hl)) (fun z => (hk _ _ _ _ (h.2 z) hsz H locs ls hP hS hl))
    · exact lv_if_ne hx hb hd ht (fun z => (hk _ _ _ _ (h.1 z) hsz H locs ls hP hS hl)) (fun z => (hk _ _ _ _ (h.2 z) hsz H locs ls hP hS hl))
    · exact lv_if_lt hx hb hd ht (fun z => (hk _ _ _ _ (h.1 z) hsz H locs ls hP hS hl)) (fun z => (hk _ _ _ _ (h.2 (hd_ge z)) hsz H locs ls hP hS hl))
    · exact lv_if_ge hx hb hd ht (fun z => (hk _ _ _ _ (h.1 z) hsz H locs ls hP hS hl)) (fun z => (hk _ _ _ _ (h.2 (hd_gt z)) hsz H locs ls hP hS hl))
    · exact lv_if_gt hx hb hd ht (fun z => (hk _ _ _ _ (h.1 z) hsz H locs ls hP hS hl)) (fun z => (hk _ _ _ _ (h.2 (hd_ge z)) hsz H locs ls hP hS hl))
    · exact lv_if_le hx hb hd ht (fun z => (hk _ _ _ _ (h.1 z) hsz H locs ls hP hS hl)) (fun z => (hk _ _ _ _ (h.2 (hd_gt z)) hsz H locs ls hP hS hl))
  case if_icmp cnd off =>
    replace h := hd_i2_inv h
    obtain ⟨y, x, st, rfl, h⟩ := h
    replace ho := hd_and ho
    obtain ⟨h1, h2⟩ := ho
    have e0 := hd_len1 h1; subst e0
    have ht := of_decide_eq_true h2
    cases cnd
    · exact lv_icmp_eq hx hb hd ht (fun z => (hk _ _ _ _ (h.1 z) hsz H locs ls hP hS hl)) (fun z => (hk _ _ _ _ (h.2 z) hsz H locs ls hP hS hl))
    · exact lv_icmp_ne hx hb hd ht (fun z => (hk _ _ _ _ (h.1 z) hsz H locs ls hP hS hl)) (fun z => (hk _ _ _ _ (h.2 z) hsz H locs ls hP hS hl))
    · exact lv_icmp_lt hx hb hd ht (fun z => (hk _ _ _ _ (h.1 z) hsz H locs ls hP hS hl)) (fun z => (hk _ _ _ _ (h.2 (hd_ge z)) hsz H locs ls hP hS hl))
    · exact lv_icmp_ge hx hb hd ht (fun z => (hk _ _ _ _ (h.1 z) hsz H locs ls hP hS hl)) (fun z => (hk _ _ _ _ (h.2 (hd_gt z)) hsz H locs ls hP hS hl))
    · exact lv_icmp_gt hx hb hd ht (fun z => (hk _ _ _ _ (h.1 z) hsz H locs ls hP hS hl)) (fun z => (hk _ _ _ _ (h.2 (hd_ge z)) hsz H locs ls hP hS hl))
    · exact lv_icmp_le hx hb hd ht (fun z => (hk _ _ _ _ (h.1 z) hsz H locs ls hP hS hl)) (fun z => (hk _ _ _ _ (h.2 (hd_gt z)) hsz H locs ls hP hS hl))
  case if_acmp cnd off =>
    replace h := hd_r2_inv h
    obtain ⟨y, x, st, rfl, ⟨q1, q2⟩, h⟩ := h
    replace ho := hd_and ho
    obtain ⟨h1, h2⟩ := ho
    have e0 := hd_len1 h1; subst e0
    have ht := of_decide_eq_true h2
    have hinj : some (hd_ad G x) = some (hd_ad G y) → x = y := fun z => by have z := Option.some.inj z; rw [hK.2.2.2.2.2 x q1, hK.2.2.2.2.2 y q2] at z; exact Nat.add_left_cancel z
    have hinj2 : x = y → some (hd_ad G x) = some (hd_ad G y) := fun z => by rw [z]
    cases cnd
    · exact lv_acmp_eq (rx := some (hd_ad G x)) (ry := some (hd_ad G y)) hx hb hd ht (fun z => (hk _ _ _ _ (h.1 (hinj z)) hsz H locs ls hP hS hl)) (fun z => (hk _ _ _ _ (h.2 (fun z2 => z (hinj2 z2))) hsz H locs ls hP hS hl))
    · exact lv_acmp_ne (rx := some (hd_ad G x)) (ry := some (hd_ad G y)) hx hb hd ht (fun z => (hk _ _ _ _ (h.1 (fun z2 => z (hinj2 z2))) hsz H locs ls hP hS hl)) (fun z => (hk _ _ _ _ (h.2 (hinj z)) hsz H locs ls hP hS hl))
  case iaload =>
    replace h := hd_ir_inv h
    obtain ⟨j, q, st, rfl, h⟩ := h
    have e0 := hd_len1 ho; subst e0
    replace h := hd_k_inv h
    obtain ⟨n, rs, hq, hin, h⟩ := h
    show W _ _ _ _ _ _ _ _ _ _ _ _ _ _ _ (F0 m pc ls (.int j :: .ref (hd_ad G q) :: st.map (hd_v (hd_ad G))))
    rw [hd_adq hK hP hq]
    exact va_iald hx hb hK.1 hP.2 q 0 (hd_ws_at hq) rfl hin hd (hk _ _ _ _ h hsz H locs ls hP hS hl)
  case laload =>
    replace h := hd_ir_inv h
    obtain ⟨j, q, st, rfl, h⟩ := h
    have e0 := hd_len1 ho; subst e0
    replace h := hd_k_inv h
    obtain ⟨n, rs, hq, hin, h⟩ := h
    show W _ _ _ _ _ _ _ _ _ _ _ _ _ _ _ (F0 m pc ls (.int j :: .ref (hd_ad G q) :: st.map (hd_v (hd_ad G))))
    rw [hd_adq hK hP hq]
    exact va_lald hx hb hK.1 hP.2 q 3 (hd_ws_at hq) rfl hin hd (hk _ _ _ _ h hsz H locs ls hP hS hl)
  case baload =>
    replace h := hd_ir_inv h
    obtain ⟨j, q, st, rfl, h⟩ := h
    have e0 := hd_len1 ho; subst e0
    replace h := hd_k_inv h
    obtain ⟨n, rs, hq, h⟩ := h
    replace h := hd_bif h
    obtain ⟨hab, hin, h⟩ := h
    show W _ _ _ _ _ _ _ _ _ _ _ _ _ _ _ (F0 m pc ls (.int j :: .ref (hd_ad G q) :: st.map (hd_v (hd_ad G))))
    rw [hd_adq hK hP hq]
    rw [Bool.or_eq_true] at hab
    rcases hab with hab | hab
    · have e0 := hd_len1 hab; subst e0
      exact va_bald hx hb hK.1 hP.2 q 1 (hd_ws_at hq) rfl hin hd (hk _ _ _ _ h hsz H locs ls hP hS hl)
    · have e0 := hd_len1 hab; subst e0
      exact va_zald hx hb hK.1 hP.2 q 2 (hd_ws_at hq) rfl hin hd (hk _ _ _ _ h hsz H locs ls hP hS hl)
  case aaload =>
    replace h := hd_ir_inv h
    obtain ⟨j, q, st, rfl, h⟩ := h
    have e0 := hd_len1 ho; subst e0
    replace h := hd_kr_inv h
    obtain ⟨n, rs, hq, hin, hnz, h⟩ := h
    show W _ _ _ _ _ _ _ _ _ _ _ _ _ _ _ (F0 m pc ls (.int j :: .ref (hd_ad G q) :: st.map (hd_v (hd_ad G))))
    rw [hd_adq hK hP hq]
    refine va_aldq (C := "HiddenDrawers$Law") hx hb hK.1 hP.2 q 4 (hd_ws_at hq) rfl hin hd ?_
    have hz : hd_ro (hd_ad G) (rs.getD j.toNatClampNeg 0) = some (hd_ad G (rs.getD j.toNatClampNeg 0)) := by
      unfold hd_ro
      cases hb0 : Nat.beq (rs.getD j.toNatClampNeg 0) 0 with
      | true => exact absurd (Nat.eq_of_beq_eq_true hb0) hnz
      | false => rfl
    show W _ _ _ _ _ _ _ _ _ _ _ _ _ _ _ (F0 m (pc + 1) ls (va_rf (hd_ro (hd_ad G) (rs.getD j.toNatClampNeg 0)) :: st.map (hd_v (hd_ad G))))
    rw [hz]
    exact hk _ _ _ _ h hsz H locs ls hP hS hl
  case iastore =>
    replace h := hd_iir_inv h
    obtain ⟨x, j, q, st, rfl, h⟩ := h
    have e0 := hd_len1 ho; subst e0
    replace h := hd_k_inv h
    obtain ⟨n, rs, hq, hin, h⟩ := h
    show W _ _ _ _ _ _ _ _ _ _ _ _ _ _ _ (F0 m pc ls (.int x :: .int j :: .ref (hd_ad G q) :: st.map (hd_v (hd_ad G))))
    rw [hd_adq hK hP hq]
    refine va_iast hx hb hK.1 hP.2 (hd_D G sh σ) hS q 0 (hd_ws_at hq) rfl hin hd (fun H1 locs1 hP1 hD1 hS1 => ?_)
    exact hk _ _ _ _ (h _ rfl) hsz H1 locs1 ls (hd_P_set hP hq (hd_arr_upd (by decide)).symm (fun k s' hk' => hd_E_I k s' hk') hP1) hS1 hl
  case lastore =>
    replace h := hd_lir_inv h
    obtain ⟨x, j, q, st, rfl, h⟩ := h
    have e0 := hd_len1 ho; subst e0
    replace h := hd_k_inv h
    obtain ⟨n, rs, hq, hin, h⟩ := h
    show W _ _ _ _ _ _ _ _ _ _ _ _ _ _ _ (F0 m pc ls (.long x :: .int j :: .ref (hd_ad G q) :: st.map (hd_v (hd_ad G))))
    rw [hd_adq hK hP hq]
    refine va_last hx hb hK.1 hP.2 (hd_D G sh σ) hS q 3 (hd_ws_at hq) rfl hin hd (fun H1 locs1 hP1 hD1 hS1 => ?_)
    exact hk _ _ _ _ (h _ rfl) hsz H1 locs1 ls (hd_P_set hP hq hd_arr_updL.symm (fun k s' hk' => hd_E_L k s' hk') hP1) hS1 hl
  case bastore =>
    replace h := hd_iir_inv h
    obtain ⟨x, j, q, st, rfl, h⟩ := h
    have e0 := hd_len1 ho; subst e0
    match a, h with
    | 0, h => exact h.elim
    | 1, h =>
      replace h := hd_k_inv h
      obtain ⟨n, rs, hq, hin, h⟩ := h
      show W _ _ _ _ _ _ _ _ _ _ _ _ _ _ _ (F0 m pc ls (.int x :: .int j :: .ref (hd_ad G q) :: st.map (hd_v (hd_ad G))))
      rw [hd_adq hK hP hq]
      refine va_bast hx hb hK.1 hP.2 (hd_D G sh σ) hS q 1 (hd_ws_at hq) rfl hin hd (fun H1 locs1 hP1 hD1 hS1 => ?_)
      rw [vp_nar_byte] at hP1
      exact hk _ _ _ _ (h _ rfl) hsz H1 locs1 ls (hd_P_set hP hq (hd_arr_upd (by decide)).symm (fun k s' hk' => hd_E_I k s' hk') hP1) hS1 hl
    | 2, h =>
      replace h := hd_k_inv h
      obtain ⟨n, rs, hq, hin, hx01, h⟩ := h
      show W _ _ _ _ _ _ _ _ _ _ _ _ _ _ _ (F0 m pc ls (.int x :: .int j :: .ref (hd_ad G q) :: st.map (hd_v (hd_ad G))))
      rw [hd_adq hK hP hq]
      refine va_zast hx hb hK.1 hP.2 (hd_D G sh σ) hS q 2 (hd_ws_at hq) rfl hin hd (fun H1 locs1 hP1 hD1 hS1 => ?_)
      have hnz : vp_nar .boolean x = x := by rcases hx01 with rfl | rfl <;> rfl
      rw [hnz] at hP1
      exact hk _ _ _ _ (h _ rfl) hsz H1 locs1 ls (hd_P_set hP hq (hd_arr_upd (by decide)).symm (fun k s' hk' => hd_E_I k s' hk') hP1) hS1 hl
    | n + 3, h => exact h.elim
  case arraylength =>
    replace h := hd_r1_inv h
    obtain ⟨q, st, rfl, h⟩ := h
    have e0 := hd_len1 ho; subst e0
    replace h := hd_al_inv h
    obtain ⟨t, n, rs, hq, ht, h⟩ := h
    show W _ _ _ _ _ _ _ _ _ _ _ _ _ _ _ (F0 m pc ls (.ref (hd_ad G q) :: st.map (hd_v (hd_ad G))))
    rw [hd_adq hK hP hq]
    match t, ht, hq with
    | 0, _, hq => exact va_alen hx hb hK.1 hP.2 q 0 (hd_ws_at hq) rfl rfl hd (hk _ _ _ _ h hsz H locs ls hP hS hl)
    | 1, _, hq => exact va_alen hx hb hK.1 hP.2 q 1 (hd_ws_at hq) rfl rfl hd (hk _ _ _ _ h hsz H locs ls hP hS hl)
    | 2, _, hq => exact va_alen hx hb hK.1 hP.2 q 2 (hd_ws_at hq) rfl rfl hd (hk _ _ _ _ h hsz H locs ls hP hS hl)
    | 3, _, hq => exact va_alen hx hb hK.1 hP.2 q 3 (hd_ws_at hq) rfl rfl hd (hk _ _ _ _ h hsz H locs ls hP hS hl)
    | 4, _, hq => exact va_alen hx hb hK.1 hP.2 q 4 (hd_ws_at hq) rfl rfl hd (hk _ _ _ _ h hsz H locs ls hP hS hl)
  case dup =>
    rcases st with _ | ⟨v, st⟩
    · exact h.elim
    replace h := hd_bif h
    obtain ⟨h1, h⟩ := h
    have e0 := hd_len1 ho; subst e0
    exact lv_dup hx hb hd (by rw [hd_cat]; exact Nat.eq_of_beq_eq_true h1) (hk _ _ _ _ h hsz H locs ls hP hS hl)
  case pop =>
    rcases st with _ | ⟨v, st⟩
    · exact h.elim
    replace h := hd_bif h
    obtain ⟨h1, h⟩ := h
    have e0 := hd_len1 ho; subst e0
    exact lv_pop hx hb hd (by rw [hd_cat]; exact Nat.eq_of_beq_eq_true h1) (hk _ _ _ _ h hsz H locs ls hP hS hl)
  case dup_x1 =>
    rcases st with _ | ⟨v, _ | ⟨w, st⟩⟩
    · exact h.elim
    · exact h.elim
    replace h := hd_bif h
    obtain ⟨h1, h⟩ := h
    replace h1 := hd_and h1
    obtain ⟨h1, h2⟩ := h1
    have e0 := hd_len1 ho; subst e0
    exact lv_dup_x1 hx hb hd (by rw [hd_cat]; exact Nat.eq_of_beq_eq_true h1) (by rw [hd_cat]; exact Nat.eq_of_beq_eq_true h2) (hk _ _ _ _ h hsz H locs ls hP hS hl)
  case dup2 =>
    rcases st with _ | ⟨v, _ | ⟨w, st⟩⟩
    · exact h.elim
    · exact h.elim
    replace h := hd_bif h
    obtain ⟨h1, h⟩ := h
    replace h1 := hd_and h1
    obtain ⟨h1, h2⟩ := h1
    have e0 := hd_len1 ho; subst e0
    exact lv_dup2_11 hx hb hd (by rw [hd_cat]; exact Nat.eq_of_beq_eq_true h1) (by rw [hd_cat]; exact Nat.eq_of_beq_eq_true h2) (hk _ _ _ _ h hsz H locs ls hP hS hl)
  case ireturn =>
    have e0 := hd_len1 ho; subst e0
    match st, h with
    | [.int v], h => exact hZ.1 v σ H locs ls pc h hP hS hd
  case lreturn =>
    have e0 := hd_len1 ho; subst e0
    match st, h with
    | [.long v], h => exact hZ.2.1 v σ H locs ls pc h hP hS hd
  case areturn =>
    have e0 := hd_len1 ho; subst e0
    match st, h with
    | [.ref v], h => exact hZ.2.2.1 v σ H locs ls pc h hP hS hd
  case return_ =>
    have e0 := hd_len1 ho; subst e0
    match st, h with
    | [], h => exact hZ.2.2.2 σ H locs ls pc h hP hS hd
  case ldc =>
    replace ho := hd_and ho
    obtain ⟨h1, h2⟩ := ho
    have e0 := hd_len1 h1; subst e0
    cases hb0 : Nat.beq b 0 with
    | true =>
      rw [hb0] at h2
      replace h : bif Nat.beq b 0 then k (pc + 2) lv (.int c :: st) σ else k (pc + 2) lv (.ref (5000 + a) :: st) σ := h
      rw [hb0] at h
      exact lv_ldc hx hb hown (hts _ (hd_at_mem h2)) hd (hk _ _ _ _ h hsz H locs ls hP hS hl)
    | false =>
      rw [hb0] at h2
      replace h : bif Nat.beq b 0 then k (pc + 2) lv (.int c :: st) σ else k (pc + 2) lv (.ref (5000 + a) :: st) σ := h
      rw [hb0] at h
      replace h2 := hd_and h2
      obtain ⟨h2, h3⟩ := h2
      replace h2 := hd_and h2
      obtain ⟨h2, h4⟩ := h2
      have e2 := of_decide_eq_true h2
      have e3 := of_decide_eq_true h3
      have e4 : a < 15 := Nat.le_of_ble_eq_true h4
      have hR := hK.2.2.2.1.1 a e4
      rw [e3, ← e2] at hR
      exact va_ldcS hx hb hown hR hd (hk _ _ _ _ h hsz H locs ls hP hS hl)
  case getfield idx =>
    replace h := hd_r1_inv h
    obtain ⟨q, st, rfl, h⟩ := h
    replace ho := hd_and ho
    obtain ⟨h1, hf⟩ := ho
    have e0 := hd_len1 h1; subst e0
    replace h := hd_kr_inv h
    obtain ⟨n, rs, hq, h⟩ := h
    have hkind := hd_fok_k hf
    generalize hbk : b / 100 = kd at h hkind
    have hkd : ∀ n, kd = n → n ≠ 5 → hd_fk a (b % 100) = n := fun n e0 e1 => hkind.elim (fun z => z.trans e0) (fun z => absurd (e0.symm.trans z.1) e1)
    match kd, h, hkd with
    | 0, h, hkd => exact hd_getF hC0 hd hf hq (v := .int (σ.1 q (b % 100))) (hd_fv0 (hkd 0 rfl (by decide)) (Or.inl rfl)) (hk _ _ _ _ h) hsz H locs ls hP hS hl
    | 1, h, hkd => exact hd_getF hC0 hd hf hq (v := .long (σ.2 q (b % 100))) (hd_fv1 (hkd 1 rfl (by decide))) (hk _ _ _ _ h) hsz H locs ls hP hS hl
    | 2, h, hkd =>
      have hz : ¬ rs.getD (b % 100) 0 = 0 := by
        intro z
        rw [z] at h
        exact h
      rw [hd_rv_ne hz] at h
      exact hd_getF hC0 hd hf hq (v := .ref (rs.getD (b % 100) 0)) ((hd_fv2 (hkd 2 rfl (by decide))).trans (hd_rv_ne hz)) (hk _ _ _ _ h) hsz H locs ls hP hS hl
    | 3, h, hkd => exact hd_getF hC0 hd hf hq (v := .ref (σ.1 q (b % 100)).toNatClampNeg) ((hd_fv3 (hkd 3 rfl (by decide))).trans (hd_rv_ne h.1)) (hk _ _ _ _ h.2) hsz H locs ls hP hS hl
    | 4, h, hkd => exact hd_getF hC0 hd hf hq (v := .int (σ.1 q (b % 100))) (hd_fv0 (hkd 4 rfl (by decide)) (Or.inr rfl)) (hk _ _ _ _ h) hsz H locs ls hP hS hl
    | 5, h, _ =>
      have h2 : hd_fk a (b % 100) = 2 := by
        rcases hkind with z | z
        · exact absurd z (hd_fk_le a (b % 100))
        · exact z.2
      exact hd_getF hC0 hd hf hq (v := .ref (rs.getD (b % 100) 0)) ((hd_fv2 h2).trans (hd_rv_ne h.1)) (hk _ _ _ _ h.2) hsz H locs ls hP hS hl
    | n + 6, h, hkd => exact hd_getF hC0 hd hf hq (v := .int (σ.1 q (b % 100))) (hd_fvx (hkd _ rfl (by omega)) (by omega)) (hk _ _ _ _ h) hsz H locs ls hP hS hl
  case putfield idx =>
    replace ho := hd_and ho
    obtain ⟨h1, hfin⟩ := ho
    replace h1 := hd_and h1
    obtain ⟨h1, hf⟩ := h1
    have e0 := hd_len1 h1; subst e0
    have hkind := hd_fok_k hf
    change (match b / 100 with
      | 0 => hd_i1 st (fun x st => hd_r1 st (fun q st => hd_k sh q (10 + a) (fun _ => ∀ σ', σ' = hd_wI σ q (b % 100) x → k (pc + 3) lv st σ')))
      | 1 => hd_l1 st (fun x st => hd_r1 st (fun q st => hd_k sh q (10 + a) (fun _ => ∀ σ', σ' = hd_wL σ q (b % 100) x → k (pc + 3) lv st σ')))
      | 3 => hd_r1 st (fun r st => hd_r1 st (fun q st => hd_k sh q (10 + a) (fun _ => (0 < r ∧ r < 5000) ∧ ∀ σ', σ' = hd_wI σ q (b % 100) (Int32.ofNat r) → k (pc + 3) lv st σ')))
      | 4 => hd_i1 st (fun x st => hd_r1 st (fun q st => hd_k sh q (10 + a) (fun _ => (x = 0 ∨ x = 1) ∧ ∀ σ', σ' = hd_wI σ q (b % 100) x → k (pc + 3) lv st σ')))
      | _ => False) at h
    generalize hbk : b / 100 = kd at h hkind
    have hkd : ∀ n, kd = n → n ≠ 5 → hd_fk a (b % 100) = n := fun n e0 e1 => hkind.elim (fun z => z.trans e0) (fun z => absurd (e0.symm.trans z.1) e1)
    match kd, h, hkd with
    | 0, h, hkd =>
      obtain ⟨x, st1, rfl, h⟩ := hd_i1_inv h
      obtain ⟨q, st2, rfl, h⟩ := hd_r1_inv h
      obtain ⟨n, rs, hq, h⟩ := hd_k_inv h
      have hk0 := hkd 0 rfl (by decide)
      have hty := (hd_fk_ty hk0).1 rfl
      refine hd_putF (v := .int x) (σ' := hd_wI σ q (b % 100) x) hC0 hd hf hfin hq (by rw [hty]; rfl) (by rw [hty]; rfl) ?_ (fun j hj => hd_fv_I hj) (fun k s' hk' => hd_E_I k s' hk') (hk _ _ _ _ (h _ rfl)) hsz H locs ls hP hS hl
      rw [hd_fv0 hk0 (Or.inl rfl)]
      show Value.int (va_up σ.1 q (va_up (σ.1 q) (b % 100) x) q (b % 100)) = _
      rw [hd_up_eq, hd_up_eq]
      rfl
    | 1, h, hkd =>
      obtain ⟨x, st1, rfl, h⟩ := hd_l1_inv h
      obtain ⟨q, st2, rfl, h⟩ := hd_r1_inv h
      obtain ⟨n, rs, hq, h⟩ := hd_k_inv h
      have hk0 := hkd 1 rfl (by decide)
      have hty := (hd_fk_ty hk0).2.1 rfl
      refine hd_putF (v := .long x) (σ' := hd_wL σ q (b % 100) x) hC0 hd hf hfin hq (by rw [hty]; rfl) (by rw [hty]; rfl) ?_ (fun j hj => hd_fv_L hj) (fun k s' hk' => hd_E_L k s' hk') (hk _ _ _ _ (h _ rfl)) hsz H locs ls hP hS hl
      rw [hd_fv1 hk0]
      show Value.long (va_up σ.2 q (va_up (σ.2 q) (b % 100) x) q (b % 100)) = _
      rw [hd_up_eq, hd_up_eq]
      rfl
    | 2, h, _ => exact h.elim
    | 3, h, hkd =>
      obtain ⟨r, st1, rfl, h'⟩ := hd_r1_inv h
      obtain ⟨q, st2, rfl, h2'⟩ := hd_r1_inv h'
      obtain ⟨n, rs, hq, ⟨hr1, hr2⟩, h⟩ := hd_k_inv h2'
      have hk0 := hkd 3 rfl (by decide)
      have hty := (hd_fk_ty hk0).2.2.2 rfl
      refine hd_putF (v := .ref r) (σ' := hd_wI σ q (b % 100) (Int32.ofNat r)) hC0 hd hf hfin hq (by rcases hty with ⟨c, hty⟩ | ⟨c, hty⟩ <;> rw [hty] <;> rfl) (by rcases hty with ⟨c, hty⟩ | ⟨c, hty⟩ <;> rw [hty] <;> rfl) ?_ (fun j hj => hd_fv_I hj) (fun k s' hk' => hd_E_I k s' hk') (hk _ _ _ _ (h _ rfl)) hsz H locs ls hP hS hl
      rw [hd_fv3 hk0]
      show hd_rv _ (va_up σ.1 q (va_up (σ.1 q) (b % 100) (Int32.ofNat r)) q (b % 100)).toNatClampNeg = _
      rw [hd_up_eq, hd_up_eq, show (Int32.ofNat r).toNatClampNeg = r from nI_clamp (by omega), hd_rv_ne (by omega)]
      rfl
    | 4, h, hkd =>
      obtain ⟨x, st1, rfl, h⟩ := hd_i1_inv h
      obtain ⟨q, st2, rfl, h⟩ := hd_r1_inv h
      obtain ⟨n, rs, hq, hx01, h⟩ := hd_k_inv h
      have hk0 := hkd 4 rfl (by decide)
      have hty := (hd_fk_ty hk0).2.2.1 rfl
      refine hd_putF (v := .int x) (σ' := hd_wI σ q (b % 100) x) hC0 hd hf hfin hq (by rw [hty]; rcases hx01 with rfl | rfl <;> rfl) (by rw [hty]; rcases hx01 with rfl | rfl <;> rfl) ?_ (fun j hj => hd_fv_I hj) (fun k s' hk' => hd_E_I k s' hk') (hk _ _ _ _ (h _ rfl)) hsz H locs ls hP hS hl
      rw [hd_fv0 hk0 (Or.inr rfl)]
      show Value.int (va_up σ.1 q (va_up (σ.1 q) (b % 100) x) q (b % 100)) = _
      rw [hd_up_eq, hd_up_eq]
      rfl
    | n + 5, h, _ => exact h.elim
  case invokestatic idx =>
    replace ho := hd_and ho
    obtain ⟨h1, ho⟩ := ho
    have e0 := hd_len1 h1; subst e0
    replace h : bif Nat.beq a 6 then hd_inC sh b st σ (fun st σ => k (pc + 3) lv st σ) else bif Nat.blt 6 a then hd_inM a st σ (fun st σ => k (pc + 3) lv st σ) else hd_inS G ce a b sh st σ (fun st σ => k (pc + 3) lv st σ) := h
    cases ha6 : Nat.beq a 6 with
    | false =>
      rw [ha6] at ho h
      cases ha7 : Nat.blt 6 a with
      | true =>
        rw [ha7] at ho h
        have ho : hd_okm mi idx a sw = true := ho
        have h : hd_inM a st σ (fun st σ => k (pc + 3) lv st σ) := h
        obtain ⟨ho, o4⟩ := hd_and ho
        obtain ⟨ho, o3⟩ := hd_and ho
        obtain ⟨o1, o2⟩ := hd_and ho
        have hf1 := Nat.le_trans (Nat.le_of_ble_eq_true o1) hfr
        have hl1 := Nat.le_trans (Nat.le_of_ble_eq_true o2) hlo
        have hkc : ks.1 ≤ R.cells := by rw [hrc]; exact hks.1
        have hkd : ks.2 ≤ R.slots := by rw [hrs]; exact hks.2
        have hm' : cd.maxLocals = ls.size := by rw [hml]; exact hl.1.symm
        match a, o4, h with
        | 7, o4, h =>
          obtain ⟨o4, o6⟩ := hd_and o4
          obtain ⟨o4, o5⟩ := hd_and o4
          obtain ⟨y, x, st', rfl, h⟩ := hd_i2_inv h
          obtain ⟨h8, h⟩ := hd_bif h
          refine va_mmax hx hb hm' hown (hts _ (hd_at_mem o4)) (hts _ (hd_at_mem o6)) (hts _ (hd_at_mem o3)) (hts _ (hd_at_mem o5)) hf1 ?_ hkc hkd hd (hk _ _ _ _ h hsz H locs ls hP hS hl)
          rw [hd_sum_eq]
          have := Nat.le_of_ble_eq_true h8
          show _ ≤ R.locals
          omega
        | 8, o4, h =>
          obtain ⟨o4, o6⟩ := hd_and o4
          obtain ⟨o4, o5⟩ := hd_and o4
          obtain ⟨y, x, st', rfl, h⟩ := hd_i2_inv h
          obtain ⟨h8, h⟩ := hd_bif h
          refine va_mmin hx hb hm' hown (hts _ (hd_at_mem o4)) (hts _ (hd_at_mem o6)) (hts _ (hd_at_mem o3)) (hts _ (hd_at_mem o5)) hf1 ?_ hkc hkd hd (hk _ _ _ _ h hsz H locs ls hP hS hl)
          rw [hd_sum_eq]
          have := Nat.le_of_ble_eq_true h8
          show _ ≤ R.locals
          omega
        | 9, o4, h =>
          obtain ⟨o4, o6⟩ := hd_and o4
          obtain ⟨o4, o5⟩ := hd_and o4
          obtain ⟨y, x, st', rfl, h⟩ := hd_l2_inv h
          obtain ⟨h8, h⟩ := hd_bif h
          refine va_mmax_long hx hb hm' hown (hts _ (hd_at_mem o4)) (hts _ (hd_at_mem o6)) (hts _ (hd_at_mem o3)) (hts _ (hd_at_mem o5)) hf1 ?_ hkc hkd hd (hk _ _ _ _ h hsz H locs ls hP hS hl)
          rw [hd_sum_eq]
          have := Nat.le_of_ble_eq_true h8
          show _ ≤ R.locals
          omega
        | 10, o4, h =>
          obtain ⟨o4, o6⟩ := hd_and o4
          obtain ⟨o4, o5⟩ := hd_and o4
          obtain ⟨y, x, st', rfl, h⟩ := hd_l2_inv h
          obtain ⟨h8, h⟩ := hd_bif h
          refine va_mmin_long hx hb hm' hown (hts _ (hd_at_mem o4)) (hts _ (hd_at_mem o6)) (hts _ (hd_at_mem o3)) (hts _ (hd_at_mem o5)) hf1 ?_ hkc hkd hd (hk _ _ _ _ h hsz H locs ls hP hS hl)
          rw [hd_sum_eq]
          have := Nat.le_of_ble_eq_true h8
          show _ ≤ R.locals
          omega
        | 0, _, h => exact h.elim
        | 1, _, h => exact h.elim
        | 2, _, h => exact h.elim
        | 3, _, h => exact h.elim
        | 4, _, h => exact h.elim
        | 5, _, h => exact h.elim
        | 6, _, h => exact h.elim
        | n + 11, _, h => exact h.elim
      | false =>
        rw [ha7] at ho h
        have ho : ((bif hd_isN sw then hd_lnkN mi idx sw ce.1 else hd_lnk mi idx sw ce.1) && hd_cal mi b sw ce && hd_at sw 3 (.static ce.1) && Nat.beq ce.2.2.2.2.2.2.1 0 && Nat.beq ce.2.2.2.2.2.2.2 0) = true := ho
        obtain ⟨ho, o5⟩ := hd_and ho
        obtain ⟨ho, o4⟩ := hd_and ho
        obtain ⟨ho, o3⟩ := hd_and ho
        obtain ⟨o1, o2⟩ := hd_and ho
        have hcode : hd_cdc ce := by
          have h5 : Nat.blt 5 a = false := by
            cases h5 : Nat.blt 5 a with
            | false => rfl
            | true =>
              have h5 : 5 < a := Nat.le_of_ble_eq_true h5
              have h6 : ¬ a = 6 := fun z => by rw [z] at ha6; cases ha6
              have h7 : 6 < a := by omega
              rw [show Nat.blt 6 a = true from Nat.ble_eq_true_of_le h7] at ha7
              cases ha7
          have hcd' : bif Nat.blt 5 a then True else hd_cdc ce := hcd
          rw [h5] at hcd'
          exact hcd'
        obtain ⟨as, rest, htk, hs8, hcall⟩ := hd_inS_inv h
        obtain ⟨hst, hln⟩ := hd_take_ok htk
        have hst : as.reverse ++ rest = st := by simpa using hst
        have hln : as.length = b := by simpa using hln
        have hlk : Cond.methodLink mi.1.cls idx ce.1 ∈ lw_g ∨ Cond.methodLinkNest mi.1.cls idx ce.1 "HiddenDrawers" ∈ hd_nest := by
          cases hn : hd_isN sw with
          | true =>
            rw [hn] at o1
            have o1 : hd_lnkN mi idx sw ce.1 = true := o1
            unfold hd_lnkN at o1
            split at o1
            · exact Or.inr (List.mem_of_getElem? (of_decide_eq_true o1))
            · cases o1
          | false =>
            rw [hn] at o1
            exact Or.inl (hd_at_mem o1)
        rw [← hst]
        obtain ⟨P, hE, hPk⟩ := hd_call_EV hcall
        have z1 := Nat.eq_of_beq_eq_true o4
        have z2 := Nat.eq_of_beq_eq_true o5
        refine hd_callS hC0 hd hlk (hd_at_mem o3) o2 hcode (by rw [z1, z2]; exact hks) hln hs8 hE (fun r sh' σ' hp => ?_) hsz H locs ls hP hS hl
        obtain ⟨rfl, hp⟩ := hPk r sh' σ' hp
        rw [z1, z2]
        exact hk _ _ _ _ hp
    | true =>
      rw [ha6] at ho h
      have ho : (Nat.beq b 5 && hd_lnk mi idx sw arraycopyName && hd_at sw 1 (.native arraycopyName) && hd_at sw 2 (.static arraycopyName) && hd_at sw 3 (.initialized "java/lang/System") && Nat.ble 1 mi.2.2.2.2.1 && Nat.ble (8 + (nativeFrameWords "java/lang/System" "arraycopy" 5 + 11)) mi.2.2.2.2.2.1) = true := ho
      obtain ⟨ho, o7⟩ := hd_and ho
      obtain ⟨ho, o6⟩ := hd_and ho
      obtain ⟨ho, o5⟩ := hd_and ho
      obtain ⟨ho, o4⟩ := hd_and ho
      obtain ⟨ho, o3⟩ := hd_and ho
      obtain ⟨o1, o2⟩ := hd_and ho
      obtain ⟨n, dp, q', sp, q, rest, n0, n1, rs0, rs1, hst, hs8, hq0, hq1, ⟨c1, c2, c3, c4, c5⟩, hkk⟩ := hd_inC_inv h
      subst hst
      show W _ _ _ _ _ _ _ _ _ _ _ _ _ _ _ (F0 m pc ls (.int n :: .int dp :: .ref (hd_ad G q') :: .int sp :: .ref (hd_ad G q) :: rest.map (hd_v (hd_ad G))))
      rw [hd_adq hK hP hq0, hd_adq hK hP hq1]
      refine va_copyi hx hb (by rw [hml]; exact hl.1.symm) hown (hts _ (hd_at_mem o2)) (hts _ (hd_at_mem o3)) (hts _ (hd_at_mem o4)) (hts _ (hd_at_mem o5)) hK.1 hP.2 (hd_D G sh σ) hS q q' 0 0 (hd_ws_at hq0) (hd_ws_at hq1) rfl rfl rfl (Int32.not_lt.mpr c1) (Int32.not_lt.mpr c2) (Int32.not_lt.mpr c3) c4 c5 (fun _ _ => rfl) (Nat.le_trans (Nat.le_of_ble_eq_true o6) hfr) ?_ hd (fun H1 locs1 hP1 hD1 hS1 => ?_)
      · rw [hd_sum_eq]
        have := Nat.le_of_ble_eq_true o7
        show _ ≤ R.locals
        omega
      · exact hk _ _ _ _ hkk hsz H1 locs1 ls (hd_P_set hP hq1 (hd_arr_upd (by decide)).symm (fun k s' hk' => hd_E_I k s' hk') hP1) hS1 hl
  case invokevirtual idx =>
    replace ho := hd_and ho
    obtain ⟨ho, o8⟩ := ho
    obtain ⟨ho, o7⟩ := hd_and ho
    obtain ⟨ho, o6⟩ := hd_and ho
    obtain ⟨ho, o5⟩ := hd_and ho
    obtain ⟨ho, o4⟩ := hd_and ho
    obtain ⟨ho, o3⟩ := hd_and ho
    obtain ⟨h1, o2⟩ := hd_and ho
    have e0 := hd_len1 h1; subst e0
    replace h : bif Nat.beq (b / 100) 99 then hd_inT G ce a b sh st σ (fun st σ => k (pc + 3) lv st σ) else hd_inV G ce a b sh st σ (fun st σ => k (pc + 3) lv st σ) := h
    cases h99 : Nat.beq (b / 100) 99 with
    | true =>
      rw [h99] at h o8
      obtain ⟨q, as, rest, htk, hs8, hq, hcall⟩ := hd_inT_inv h
      obtain ⟨hst, hln⟩ := hd_take_ok htk
      have hst : as.reverse ++ Value.ref q :: rest = st := by simpa using hst
      have hln : as.length = b % 100 := by simpa using hln
      obtain ⟨P, hE, hPk⟩ := hd_call_EV hcall
      have z1 := Nat.eq_of_beq_eq_true o6
      have z2 := Nat.eq_of_beq_eq_true o7
      rw [← hst]
      refine hd_callT hC0 hd (hd_at_mem o2) (hd_at_mem o4) (hd_at_mem o5) (of_decide_eq_true o8) hq o3 hcd (by rw [z1, z2]; exact hks) hln hs8 hE (fun r sh' σ' hp => ?_) hsz H locs ls hP hS hl
      obtain ⟨rfl, hp⟩ := hPk r sh' σ' hp
      rw [z1, z2]
      exact hk _ _ _ _ hp
    | false =>
      rw [h99] at h o8
      replace o8 : (match vwCl[b / 100]? with
        | some q => decide (q.1 = ce.1.cls)
        | none => false) = true := o8
      obtain ⟨q, as, rest, n, rs, htk, hs8, hq, hcall⟩ := hd_inV_inv h
      obtain ⟨hst, hln⟩ := hd_take_ok htk
      have hst : as.reverse ++ Value.ref q :: rest = st := by simpa using hst
      have hln : as.length = b % 100 := by simpa using hln
      obtain ⟨P, hE, hPk⟩ := hd_call_EV hcall
      have z1 := Nat.eq_of_beq_eq_true o6
      have z2 := Nat.eq_of_beq_eq_true o7
      split at o8
      · rename_i cq hcq
        rw [← hst]
        refine hd_callV hC0 hd (hd_at_mem o2) (hd_at_mem o4) (hd_at_mem o5) hcq (of_decide_eq_true o8) hq o3 hcd (by rw [z1, z2]; exact hks) hln hs8 hE (fun r sh' σ' hp => ?_) hsz H locs ls hP hS hl
        obtain ⟨rfl, hp⟩ := hPk r sh' σ' hp
        rw [z1, z2]
        exact hk _ _ _ _ hp
      · cases o8
  case invokespecial idx =>
    replace ho := hd_and ho
    obtain ⟨ho, o7⟩ := ho
    obtain ⟨ho, o6⟩ := hd_and ho
    obtain ⟨ho, o5⟩ := hd_and ho
    obtain ⟨ho, o4⟩ := hd_and ho
    obtain ⟨ho, o3⟩ := hd_and ho
    obtain ⟨h1, o2⟩ := hd_and ho
    have e0 := hd_len1 h1; subst e0
    obtain ⟨q, st', rfl, h'⟩ := hd_r1_inv h
    obtain ⟨h2, h3⟩ := hd_bif h'
    obtain ⟨h2, -⟩ := hd_and h2
    refine W.objInit hx hb hown (hts _ (hd_at_mem o3)) (hts _ (hd_at_mem o4)) (hts _ (hd_at_mem o5)) rfl (by rw [hml]; exact hl.1) rfl hd (Nat.le_trans (Nat.le_of_ble_eq_true o6) hfr) ?_ (hk _ _ _ _ h3 hsz H locs ls hP hS hl)
    have h8 := lv_room (m := m) (pc := pc) (ls := ls) (rest := st'.map (hd_v (hd_ad G))) (st := st'.map (hd_v (hd_ad G))) (by rw [hd_sum_eq]; exact Nat.le_of_ble_eq_true h2)
    have h9 := Nat.le_of_ble_eq_true o7
    have h10 : 2 * (F0 m pc ls (st'.map (hd_v (hd_ad G)))).monitorRoom = 0 := rfl
    show 2 * (F0 m pc ls (st'.map (hd_v (hd_ad G)))).monitorRoom + _ + 12 ≤ R.locals
    dsimp only at h8 h10 ⊢
    omega
  case tableswitch dflt lo hi offs =>
    replace ho := hd_and ho
    obtain ⟨ho, o5⟩ := ho
    obtain ⟨ho, o4⟩ := hd_and ho
    obtain ⟨ho, o3⟩ := hd_and ho
    obtain ⟨o1, o2⟩ := hd_and ho
    obtain ⟨x, st', rfl, h'⟩ := hd_i1_inv h
    have o1 := of_decide_eq_true o1
    have o2 := of_decide_eq_true o2
    have o3 := of_decide_eq_true o3
    have o4 := of_decide_eq_true o4
    have o5 := of_decide_eq_true o5
    have hat : ∀ (j : Nat), j < offs.size → ∃ t : Nat, sw[j]? = some (Int32.ofInt (lo + (j : Int)), t) ∧ (t : Int) = (pc : Int) + offs.getD j 0 := by
      intro j hj
      have h1 : (sw.map (fun q => (q.1, (q.2 : Int))))[j]? = some (Int32.ofInt (lo + (j : Int)), (pc : Int) + offs.getD j 0) := by
        rw [o5]
        simp [hj]
      rw [List.getElem?_map] at h1
      cases hs : sw[j]? with
      | none => rw [hs] at h1; cases h1
      | some q =>
        rw [hs] at h1
        have h2 := Option.some.inj h1
        have h3 := congrArg Prod.fst h2
        have h4 := congrArg Prod.snd h2
        dsimp only at h3 h4
        exact ⟨q.2, by rw [← h3], h4⟩
    have hlen : sw.length = offs.size := by
      have := congrArg List.length o5
      simpa using this
    rcases hd_sw_ok h' with ⟨j, v, t, h1, h2, h3⟩ | ⟨h1, h2⟩
    · have hj : j < offs.size := by rw [← hlen]; exact (List.getElem?_eq_some_iff.mp h1).1
      obtain ⟨t', g1, g2⟩ := hat j hj
      rw [h1] at g1
      cases g1
      have hxi : x.toInt = lo + (j : Int) := by
        rw [h2]
        exact Int32.toInt_ofInt_of_le (by omega) (by omega)
      refine lv_tableIn (off := offs.getD j 0) hx hb hd (by omega) (by omega) ?_ g2.symm (hk _ _ _ _ h3 hsz H locs ls hP hS hl)
      have hjj : (x.toInt - lo).toNat = j := by omega
      rw [hjj, Array.getD_eq_getD_getElem?, Array.getElem?_eq_getElem hj]
      rfl
    · refine lv_tableOut hx hb hd ?_ o1 (hk _ _ _ _ h2 hsz H locs ls hP hS hl)
      by_cases hlo1 : x.toInt < lo
      · exact Or.inl hlo1
      · refine Or.inr (Int.not_le.mp fun hh => ?_)
        have hj : (x.toInt - lo).toNat < offs.size := by omega
        obtain ⟨t', g1, g2⟩ := hat _ hj
        refine h1 _ _ _ g1 ?_
        have : lo + (((x.toInt - lo).toNat : Nat) : Int) = x.toInt := by omega
        rw [this, Int32.ofInt_toInt]
  all_goals exact h.elim
