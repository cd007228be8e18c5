theorem hd_find_ok {pc : Nat} : ∀ {rows : List hd_R} {r : hd_R}, hd_find pc rows = some r → r ∈ rows ∧ r.1 = pc
  | r0 :: rs, r, h => by
    unfold hd_find at h
    cases hb : Nat.beq pc r0.1 with
    | true =>
      rw [hb] at h
      cases h
      exact ⟨List.mem_cons_self, (Nat.eq_of_beq_eq_true hb).symm⟩
    | false =>
      rw [hb] at h
      obtain ⟨h1, h2⟩ := hd_find_ok (rows := rs) h
      exact ⟨List.mem_cons_of_mem _ h1, h2⟩
/-- a walk over rows that hold is a walk of the machine -/
theorem hd_wps_ok {G : hd_G} {mi : hd_I} {X : hd_X} {Z : Option Value → hd_M → Prop} {rows : List hd_R} {cuts : List (Nat × List Nat)} {sh : hd_S} {ks : Nat × Nat} (hC : hd_C G mi X) (hks : ks.1 + 0 ≤ mi.2.2.2.2.2.2.1 ∧ ks.2 + 0 ≤ mi.2.2.2.2.2.2.2) (hZ : hd_Zok G mi X Z sh ks) (hrows : rows.all (hd_okb mi) = true) (hcs : hd_cdl rows) : ∀ (n pc : Nat) (lv : hd_L) (st : List Value) (σ : hd_M), hd_wps G mi X Z rows cuts sh ks n pc lv st σ → hd_J G mi X sh ks pc lv st σ
  | 0, _, _, _, _, h => h
  | n + 1, pc, lv, st, σ, h => by
    unfold hd_wps at h
    split at h
    · exact h.elim
    · rename_i pc' i len a b c d sw ce hf
      obtain ⟨h1, h2⟩ := hd_find_ok hf
      have h2 : pc' = pc := h2
      subst h2
      refine hd_step_ok hC hks hZ (List.all_eq_true.mp hrows _ h1) (hd_cdl_mem hcs _ h1) (fun pc lv st σ hk => ?_) h
      split at hk
      · rename_i live hc
        intro hsz H locs ls hP hS hl
        exact hk hsz H locs ls hP hS (hd_has_pick hl)
      · exact hd_wps_ok hC hks hZ hrows hcs n pc lv st σ hk
/-- a method's walk: its context -/
def hd_CX (G : hd_G) (mi : hd_I) (X : hd_X) (Z : Option Value → hd_M → Prop) (sh : hd_S) (ks : Nat × Nat) : Prop := hd_C G mi X ∧ hd_Zok G mi X Z sh ks
theorem hd_walk {G : hd_G} {mi : hd_I} {X : hd_X} {Z : Option Value → hd_M → Prop} {rows : List hd_R} (cuts : List (Nat × List Nat)) {sh : hd_S} {ks : Nat × Nat} (n : Nat) {pc : Nat} {lv : hd_L} {st : List Value} {σ : hd_M} (hX : hd_CX G mi X Z sh ks) (hks : ks.1 + 0 ≤ mi.2.2.2.2.2.2.1 ∧ ks.2 + 0 ≤ mi.2.2.2.2.2.2.2) (hrows : rows.all (hd_okb mi) = true ∧ hd_cdl rows) (h : hd_wps G mi X Z rows cuts sh ks n pc lv st σ) : hd_J G mi X sh ks pc lv st σ := hd_wps_ok hX.1 hks hX.2 hrows.1 hrows.2 n pc lv st σ h
def hd_ar : Nat → List Value → hd_L
  | _, [] => []
  | n, v :: r => (n, v) :: hd_ar (bif Nat.beq v.category 2 then n + 2 else n + 1) r
theorem hd_ar_eq (f : Nat → Nat) : ∀ (as : List Value) (n : Nat), lv_args n (as.map (hd_v f)) = hd_lm f (hd_ar n as)
  | [], _ => rfl
  | v :: r, n => by
    show (n, hd_v f v) :: lv_args (if (hd_v f v).category = 2 then n + 2 else n + 1) (r.map (hd_v f)) = (n, hd_v f v) :: hd_lm f (hd_ar (bif Nat.beq v.category 2 then n + 2 else n + 1) r)
    rw [← hd_ar_eq f r, hd_cat]
    cases hb : Nat.beq v.category 2 with
    | true => rw [if_pos (Nat.eq_of_beq_eq_true hb)]; rfl
    | false => rw [if_neg (fun z => by rw [z] at hb; cases hb)]; rfl
def hd_al2 : List Value → Nat
  | [] => 0
  | v :: r => (bif Nat.beq v.category 2 then 2 else 1) + hd_al2 r
theorem hd_al2_eq (f : Nat → Nat) : ∀ (as : List Value), (lg_sl (as.map (hd_v f))).length = hd_al2 as
  | [] => rfl
  | v :: r => by
    show (lg_sl (hd_v f v :: r.map (hd_v f))).length = _
    unfold lg_sl
    rw [List.flatMap_cons, List.length_append]
    have h := hd_al2_eq f r
    unfold lg_sl at h
    rw [h, hd_cat]
    show _ = (bif Nat.beq v.category 2 then 2 else 1) + hd_al2 r
    cases hb : Nat.beq v.category 2 with
    | true => rw [if_pos (Nat.eq_of_beq_eq_true hb)]; rfl
    | false => rw [if_neg (fun z => by rw [z] at hb; cases hb)]; rfl
/-- the end of a method that makes no cell -/
theorem hd_Zok_of {G : hd_G} {mi : hd_I} {p : Program} {e : Env} {R : Room} {s : State} {m : MethodId} {args : Array Value} {below : List Frame} {meth : Method} {c : Code} {Z : Option Value → hd_M → Prop} {sh : hd_S} {P : Option Value → hd_S → hd_M → Prop} (hx : p.tables.exec = Jvm.exec) (hb : c.code = mi.2.1) (hr : meth.sig.returnType = mi.2.2.2.1) (hlocks : meth.locks = false) (hZP : ∀ r σ, Z r σ → P r sh σ) : hd_Zok G mi (p, e, R, s, m, args, below, meth, c, MQ below (hd_Qc G sh.length P) args s 0 0 (hd_A G)) Z sh (0, 0) := by
  refine ⟨fun v σ H locs ls pc h hP hS hd => ?_, fun v σ H locs ls pc h hP hS hd => ?_, fun v σ H locs ls pc h hP hS hd => ?_, fun σ H locs ls pc h hP hS hd => ?_⟩
  · have hq : Z (some (.int v)) σ → ∀ t : State, t.heap = H → s.WarmedH t.vm → hd_Qc G sh.length P args s (.returned (some (.int v))) t := fun hz t ht _ => ⟨⟨some (.int v), sh, σ, rfl, hZP _ _ hz, by rw [ht]; exact hP, rfl⟩, hS.F ht⟩
    generalize hrt : mi.2.2.2.1 = rt at h hr
    unfold hd_ret at h
    split at h
    · exact W.iret hx hb hr (hq h) hS.2.2 hd hlocks
    · exact W.zret hx hb hr (by rcases h.1 with rfl | rfl <;> rfl) (hq h.2) hS.2.2 hd hlocks
    · exact h.elim
  · generalize hrt : mi.2.2.2.1 = rt at h hr
    unfold hd_retl at h
    split at h
    · exact W.lret hx hb hr (fun t ht _ => ⟨⟨some (.long v), sh, σ, rfl, hZP _ _ h, by rw [ht]; exact hP, rfl⟩, hS.F ht⟩) hS.2.2 hd hlocks
    · exact h.elim
  · generalize hrt : mi.2.2.2.1 = rt at h hr
    unfold hd_reta at h
    split at h
    · exact W.aret hx hb hr (Or.inl ⟨_, rfl⟩) (Or.inr ⟨_, rfl⟩) (fun t ht _ => ⟨⟨some (.ref v), sh, σ, rfl, hZP _ _ h, by rw [ht]; exact hP, rfl⟩, hS.F ht⟩) hS.2.2 hd hlocks
    · exact W.aret hx hb hr (Or.inr ⟨_, rfl⟩) (Or.inr ⟨_, rfl⟩) (fun t ht _ => ⟨⟨some (.ref v), sh, σ, rfl, hZP _ _ h, by rw [ht]; exact hP, rfl⟩, hS.F ht⟩) hS.2.2 hd hlocks
    · exact h.elim
  · generalize hrt : mi.2.2.2.1 = rt at h hr
    unfold hd_retv at h
    split at h
    · exact W.vret hx hb hr (fun t ht _ => ⟨⟨none, sh, σ, rfl, hZP _ _ h, by rw [ht]; exact hP, rfl⟩, hS.F ht⟩) hS.2.2 hd hlocks
    · exact h.elim
/-- a method that makes no cell, from its entry -/
theorem hd_enter {G : hd_G} {mi : hd_I} {sh : hd_S} {as : List Value} {σ : hd_M} {P : Option Value → hd_S → hd_M → Prop} (Z : Option Value → hd_M → Prop) (hy : plainName mi.1.cls = true) (hal : Nat.ble (hd_al2 as) mi.2.2.1 = true) (h0 : mi.2.2.2.2.2.2.1 = 0) (h1 : mi.2.2.2.2.2.2.2 = 0) (hZP : ∀ r σ, Z r σ → P r sh σ) (h : ∀ X, hd_CX G mi X Z sh (0, 0) → hd_J G mi X sh (0, 0) 0 (hd_ar 0 as) [] σ) : hd_EV G mi sh as σ P := by
  unfold hd_EV
  rw [h0, h1]
  refine Met.ofW (cc := mi.2.1) (maxL := mi.2.2.1) (ret := mi.2.2.2.1) hy rfl ?_
  intro p e s m args below meth c s₁ B hml hv
  obtain ⟨rfl, hK, hP, hsz⟩ := hv
  have hts := atoms_spec (ws := hd_wm mi) B.pre
  have hC : hd_C G mi (p, e, (headSpec (hd_wm mi) (hd_rm mi)).room, s, m, (as.map (hd_v (hd_ad G))).toArray, below, meth, c, MQ below (hd_Qc G (sh.length + 0) P) (as.map (hd_v (hd_ad G))).toArray s 0 0 (hd_A G)) :=
    ⟨B.exec, B.bytes, B.returns, hml, findClass_of_methodNamed B.named, fun w hw => hts w (List.mem_cons_of_mem _ hw), B.notSynchronized, hK, (name_of_methodNamed B.named B.method).1, Nat.le_refl _, Nat.le_refl _, rfl, rfl⟩
  have hl := lv_entry (as.map (hd_v (hd_ad G))) (n := mi.2.2.1) (by rw [hd_al2_eq]; exact Nat.le_of_ble_eq_true hal)
  rw [lg_entry_eq]
  rw [hd_ar_eq] at hl
  exact h _ ⟨hC, hd_Zok_of B.exec B.bytes B.returns B.notSynchronized hZP⟩ (by show s.heap.size + 0 = _; rw [hsz]; rfl) s.heap [] _ hP va_S.rf hl
theorem EVi_of {G : hd_G} {mi : hd_I} {sh : hd_S} {as : List Value} {σ : hd_M} {P : Int32 → hd_M → Prop} (hy : plainName mi.1.cls = true) (hal : Nat.ble (hd_al2 as) mi.2.2.1 = true) (h0 : mi.2.2.2.2.2.2.1 = 0) (h1 : mi.2.2.2.2.2.2.2 = 0) (h : ∀ X, hd_CX G mi X (hd_Zi P) sh (0, 0) → hd_J G mi X sh (0, 0) 0 (hd_ar 0 as) [] σ) : EVi G mi sh as σ P := by
  refine hd_enter (hd_Zi P) hy hal h0 h1 (fun r σ hz => ?_) h
  unfold hd_Zi at hz
  split at hz
  · exact ⟨rfl, _, rfl, hz⟩
  · exact hz.elim
theorem EVl_of {G : hd_G} {mi : hd_I} {sh : hd_S} {as : List Value} {σ : hd_M} {P : Int64 → hd_M → Prop} (hy : plainName mi.1.cls = true) (hal : Nat.ble (hd_al2 as) mi.2.2.1 = true) (h0 : mi.2.2.2.2.2.2.1 = 0) (h1 : mi.2.2.2.2.2.2.2 = 0) (h : ∀ X, hd_CX G mi X (hd_Zl P) sh (0, 0) → hd_J G mi X sh (0, 0) 0 (hd_ar 0 as) [] σ) : EVl G mi sh as σ P := by
  refine hd_enter (hd_Zl P) hy hal h0 h1 (fun r σ hz => ?_) h
  unfold hd_Zl at hz
  split at hz
  · exact ⟨rfl, _, rfl, hz⟩
  · exact hz.elim
theorem EVr_of {G : hd_G} {mi : hd_I} {sh : hd_S} {as : List Value} {σ : hd_M} {P : Nat → hd_M → Prop} (hy : plainName mi.1.cls = true) (hal : Nat.ble (hd_al2 as) mi.2.2.1 = true) (h0 : mi.2.2.2.2.2.2.1 = 0) (h1 : mi.2.2.2.2.2.2.2 = 0) (h : ∀ X, hd_CX G mi X (hd_Zr P) sh (0, 0) → hd_J G mi X sh (0, 0) 0 (hd_ar 0 as) [] σ) : EVr G mi sh as σ P := by
  refine hd_enter (hd_Zr P) hy hal h0 h1 (fun r σ hz => ?_) h
  unfold hd_Zr at hz
  split at hz
  · exact ⟨rfl, _, rfl, hz⟩
  · exact hz.elim
theorem EVv_of {G : hd_G} {mi : hd_I} {sh : hd_S} {as : List Value} {σ : hd_M} {P : hd_M → Prop} (hy : plainName mi.1.cls = true) (hal : Nat.ble (hd_al2 as) mi.2.2.1 = true) (h0 : mi.2.2.2.2.2.2.1 = 0) (h1 : mi.2.2.2.2.2.2.2 = 0) (h : ∀ X, hd_CX G mi X (hd_Zv P) sh (0, 0) → hd_J G mi X sh (0, 0) 0 (hd_ar 0 as) [] σ) : EVv G mi sh as σ P := by
  refine hd_enter (hd_Zv P) hy hal h0 h1 (fun r σ hz => ?_) h
  unfold hd_Zv at hz
  split at hz
  · exact ⟨rfl, rfl, hz⟩
  · exact hz.elim
