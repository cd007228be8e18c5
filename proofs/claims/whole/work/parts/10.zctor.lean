/-! constructors: instructions that make cells -/
def hd_zer (σ : hd_M) (n : Nat) : hd_M := (va_up σ.1 n (fun _ => 0), va_up σ.2 n (fun _ => 0))
theorem hd_E_zer {G : hd_G} {σ : hd_M} {n : Nat} (k : Nat) (s : Nat × Nat × List Nat) (h : k ≠ n) : hd_E G (hd_zer σ n) k s = hd_E G σ k s := by
  unfold hd_E hd_fv hd_zer
  simp only [hd_up_ne h]
theorem hd_ws_app {G : hd_G} {sh : hd_S} {σ : hd_M} {x : Nat × Nat × List Nat} : hd_ws G (sh ++ [x]) (hd_zer σ sh.length) = hd_ws G sh σ ++ [(hd_b G + sh.length, hd_E G (hd_zer σ sh.length) sh.length x)] := by
  apply List.ext_getElem?
  intro i
  by_cases h : i < sh.length
  · rw [List.getElem?_append_left (by rw [hd_ws_len]; exact h), hd_ws_at (s := sh[i]) (by rw [List.getElem?_append_left h]; exact List.getElem?_eq_getElem h), hd_ws_at (List.getElem?_eq_getElem h), hd_E_zer _ _ (by omega)]
  · by_cases h2 : i = sh.length
    · subst h2
      rw [hd_ws_at (s := x) (by simp), List.getElem?_append_right (by rw [hd_ws_len]; exact Nat.le_refl _), hd_ws_len]
      simp
    · rw [List.getElem?_eq_none (by rw [hd_ws_len]; simp; omega), List.getElem?_eq_none (by rw [List.length_append, hd_ws_len]; simp; omega)]
theorem hd_rep (n j : Nat) : (List.replicate n 0).getD j 0 = 0 := by
  rw [List.getD_eq_getElem?_getD, List.getElem?_replicate]
  split <;> rfl
theorem hd_fk9 : ∀ a, a < 9 → ∀ k, k < hd_N a → hd_fk a k ≠ 9 := by decide +kernel
theorem hd_born {G : hd_G} {σ : hd_M} {n a j : Nat} (ha : a < 9) (hj : j < hd_N a) : hd_fv (hd_ad G) (hd_zer σ n) n (List.replicate (hd_N a) 0) a j = defaultValue (hd_ft a j) := by
  have hk := hd_fk9 a ha j hj
  have h1 : (hd_zer σ n).1 n j = 0 := by show va_up σ.1 n (fun _ => 0) n j = 0; rw [hd_up_eq]
  have h2 : (hd_zer σ n).2 n j = 0 := by show va_up σ.2 n (fun _ => 0) n j = 0; rw [hd_up_eq]
  have h3 : (List.replicate (hd_N a) 0).getD j 0 = 0 := hd_rep _ _
  unfold hd_fv
  rw [h1, h2, h3]
  unfold hd_fk at hk ⊢
  split at hk
  · rename_i e; rw [e]; rfl
  · rename_i e; rw [e]; rfl
  · rename_i c e; rw [e]; cases hd_mut a j <;> rfl
  · rename_i c e; rw [e]; cases hd_mut a j <;> rfl
  · rename_i e; rw [e]; rfl
  · exact absurd rfl hk
/-- a cell that was made: it lies right behind the others -/
theorem hd_newq {G : hd_G} {sh : hd_S} {σ : hd_M} {H1 : Heap} {q : Nat} {e : va_E} {x : Nat × Nat × List Nat} {n : Nat} (hl : sh.length < 5000) (hP1 : va_P G.2.1 vwCl (hd_ws G sh σ ++ [(q, e)]) H1) (hD1 : va_D (hd_A G) (hd_ws G sh σ ++ [(q, e)])) (hz : H1.size ≤ n) (hn : n = hd_b G + sh.length + 1) (he : hd_E G (hd_zer σ sh.length) sh.length x = e) : q = hd_b G + sh.length ∧ hd_P G (sh ++ [x]) (hd_zer σ sh.length) H1 := by
  have hat : (hd_ws G sh σ ++ [(q, e)])[sh.length]? = some (q, e) := by
    rw [List.getElem?_append_right (by rw [hd_ws_len]; exact Nat.le_refl _), hd_ws_len]
    simp
  have h1 : q < H1.size := (hP1 _ _ hat).lt
  have h2 : hd_b G ≤ q := hD1.2 _ _ hat
  have hq : q = hd_b G + sh.length := by
    by_cases h3 : q < hd_b G + sh.length
    · have h4 : q - hd_b G < sh.length := by omega
      have h5 : (hd_ws G sh σ ++ [(q, e)])[q - hd_b G]? = some (hd_b G + (q - hd_b G), hd_E G σ (q - hd_b G) sh[q - hd_b G]) := by
        rw [List.getElem?_append_left (by rw [hd_ws_len]; exact h4)]
        exact hd_ws_at (List.getElem?_eq_getElem h4)
      have h6 := hD1.1 _ _ _ _ h5 hat (by show hd_b G + (q - hd_b G) = q; omega)
      omega
    · omega
  refine ⟨hq, by rw [List.length_append]; show sh.length + 1 ≤ 5000; omega, ?_⟩
  rw [hd_ws_app, he, ← hq]
  exact hP1
/-- a constructor's call -/
def hd_inI (G : hd_G) (mi ce : hd_I) (b : Nat) (sh : hd_S) (ks : Nat × Nat) (st : List Value) (σ : hd_M) (k : hd_S → Nat × Nat → List Value → hd_M → Prop) : Prop := match hd_take (b + 1) [] st with
  | some (.ref q :: as, rest) => bif Nat.ble (hd_sum rest) 8 && Nat.ble (ks.1 + ce.2.2.2.2.2.2.1) mi.2.2.2.2.2.2.1 && Nat.ble (ks.2 + ce.2.2.2.2.2.2.2) mi.2.2.2.2.2.2.2 then EVc G ce sh (.ref q :: as) σ (fun sh' σ' => k sh' (ks.1 + ce.2.2.2.2.2.2.1, ks.2 + ce.2.2.2.2.2.2.2) rest σ') else False
  | _ => False
theorem hd_inI_inv {G : hd_G} {mi ce : hd_I} {b : Nat} {sh : hd_S} {ks : Nat × Nat} {st : List Value} {σ : hd_M} {k : hd_S → Nat × Nat → List Value → hd_M → Prop} (h : hd_inI G mi ce b sh ks st σ k) : ∃ q as rest, hd_take (b + 1) [] st = some (.ref q :: as, rest) ∧ hd_sum rest ≤ 8 ∧ ks.1 + ce.2.2.2.2.2.2.1 ≤ mi.2.2.2.2.2.2.1 ∧ ks.2 + ce.2.2.2.2.2.2.2 ≤ mi.2.2.2.2.2.2.2 ∧ EVc G ce sh (.ref q :: as) σ (fun sh' σ' => k sh' (ks.1 + ce.2.2.2.2.2.2.1, ks.2 + ce.2.2.2.2.2.2.2) rest σ') := by
  unfold hd_inI at h
  split at h
  · rename_i q as rest e
    obtain ⟨h1, h2⟩ := hd_bif h
    obtain ⟨h1, h3⟩ := hd_and h1
    obtain ⟨h1, h4⟩ := hd_and h1
    exact ⟨q, as, rest, e, Nat.le_of_ble_eq_true h1, Nat.le_of_ble_eq_true h4, Nat.le_of_ble_eq_true h3, h2⟩
  · exact h.elim
/-- a reference field that stays is set -/
def hd_puR (sh : hd_S) (a b : Nat) (st : List Value) (k : hd_S → List Value → Prop) : Prop := hd_r1 st (fun r st => hd_r1 st (fun q st => hd_kr sh q (10 + a) (fun n rs => bif Nat.blt 0 r && Nat.blt r sh.length && Nat.beq rs.length (hd_N a) then k (sh.set q (10 + a, n, rs.set (b % 100) r)) st else False)))
theorem hd_puR_inv {sh : hd_S} {a b : Nat} {st : List Value} {k : hd_S → List Value → Prop} (h : hd_puR sh a b st k) : ∃ r q rest n rs, st = .ref r :: .ref q :: rest ∧ sh[q]? = some (10 + a, n, rs) ∧ 0 < r ∧ r < sh.length ∧ rs.length = hd_N a ∧ k (sh.set q (10 + a, n, rs.set (b % 100) r)) rest := by
  obtain ⟨r, st1, e1, h1⟩ := hd_r1_inv h
  obtain ⟨q, rest, e2, h2⟩ := hd_r1_inv h1
  obtain ⟨n, rs, h3, h4⟩ := hd_kr_inv h2
  obtain ⟨h5, h6⟩ := hd_bif h4
  obtain ⟨h5, h7⟩ := hd_and h5
  obtain ⟨h5, h8⟩ := hd_and h5
  exact ⟨r, q, rest, n, rs, by rw [e1, e2], h3, Nat.le_of_ble_eq_true h5, Nat.le_of_ble_eq_true h8, Nat.eq_of_beq_eq_true h7, h6⟩
theorem hd_ws_set {G : hd_G} {sh : hd_S} {σ : hd_M} {q : Nat} {x : Nat × Nat × List Nat} (hq : q < sh.length) : (hd_ws G sh σ).set q (hd_b G + q, hd_E G σ q x) = hd_ws G (sh.set q x) σ := by
  apply List.ext_getElem?
  intro i
  rw [List.getElem?_set]
  by_cases hi : q = i
  · subst hi
    rw [if_pos rfl, if_pos (by rw [hd_ws_len]; exact hq), hd_ws_at (s := x) (by simp [hq])]
  · rw [if_neg hi]
    by_cases hl : i < sh.length
    · rw [hd_ws_at (List.getElem?_eq_getElem hl), hd_ws_at (s := sh[i]) (by rw [List.getElem?_set, if_neg hi]; exact List.getElem?_eq_getElem hl)]
    · rw [List.getElem?_eq_none (by rw [hd_ws_len]; omega), List.getElem?_eq_none (by rw [hd_ws_len, List.length_set]; omega)]
def hd_stepA (G : hd_G) (mi : hd_I) (Z : hd_S → Nat × Nat → Option Value → hd_M → Prop) (sh : hd_S) (ks : Nat × Nat) (i : hd_Ins) (pc len a b : Nat) (c : Int32) (d : Int64) (sw : List (Int32 × Nat)) (ce : hd_I) (lv : hd_L) (st : List Value) (σ : hd_M) (k : hd_S → Nat × Nat → Nat → hd_L → List Value → hd_M → Prop) : Prop := match i with
  | .new _ => bif Nat.blt sh.length 5000 && Nat.blt ks.1 mi.2.2.2.2.2.2.1 && Nat.ble (ks.2 + hd_N a) mi.2.2.2.2.2.2.2 then k (sh ++ [(10 + a, 0, List.replicate (hd_N a) 0)]) (ks.1 + 1, ks.2 + hd_N a) (pc + len) lv (.ref sh.length :: st) (hd_zer σ sh.length) else False
  | .newarray _ => hd_i1 st (fun n st => n = Int32.ofNat b ∧ bif Nat.blt sh.length 5000 && Nat.blt ks.1 mi.2.2.2.2.2.2.1 && Nat.ble (ks.2 + b) mi.2.2.2.2.2.2.2 && Nat.blt b 100000 then k (sh ++ [(a, b, [])]) (ks.1 + 1, ks.2 + b) (pc + len) lv (.ref sh.length :: st) (hd_zer σ sh.length) else False)
  | .anewarray _ => hd_i1 st (fun n st => n = Int32.ofNat b ∧ bif Nat.blt sh.length 5000 && Nat.blt ks.1 mi.2.2.2.2.2.2.1 && Nat.ble (ks.2 + b) mi.2.2.2.2.2.2.2 && Nat.blt b 100000 then k (sh ++ [(4, b, List.replicate b 0)]) (ks.1 + 1, ks.2 + b) (pc + len) lv (.ref sh.length :: st) (hd_zer σ sh.length) else False)
  | .aastore => hd_r1 st (fun r st => hd_ir st (fun j q st => hd_kr sh q 4 (fun n rs => vp_in j n ∧ hd_k sh r 12 (fun _ => bif Nat.blt 0 r && Nat.beq n rs.length then k (sh.set q (4, n, rs.set j.toNatClampNeg r)) ks (pc + len) lv st σ else False))))
  | .putfield _ => bif Nat.beq (b / 100) 2 then hd_puR sh a b st (fun sh st => k sh ks (pc + len) lv st σ) else hd_step G mi (Z sh ks) sh i pc len a b c d sw ce lv st σ (k sh ks)
  | .invokespecial _ => bif Nat.beq a 4 then hd_inI G mi ce b sh ks st σ (fun sh ks st σ => k sh ks (pc + len) lv st σ) else hd_step G mi (Z sh ks) sh i pc len a b c d sw ce lv st σ (k sh ks)
  | _ => hd_step G mi (Z sh ks) sh i pc len a b c d sw ce lv st σ (k sh ks)
def hd_okA (mi : hd_I) (r : hd_R) : Bool := match r with
  | (pc, i, len, a, b, c, d, sw, ce) => match i with
    | .new idx => decide (decode mi.2.1 pc = .ok (i, len)) && Nat.beq len 3 && (match vwCl[a]? with
      | some q => hd_at sw 0 (.classLink mi.1.cls idx q.1) && hd_at sw 1 (.instantiable q.1 q.2.2) && hd_at sw 2 (.initialized q.1)
      | none => false)
    | .newarray aty => decide (decode mi.2.1 pc = .ok (i, len)) && Nat.beq len 2 && hd_at sw 0 (.arrayClass (newarray.typeOf aty)) && decide ((aty = .int ∧ a = 0) ∨ (aty = .byte ∧ a = 1) ∨ (aty = .boolean ∧ a = 2) ∨ (aty = .long ∧ a = 3))
    | .anewarray idx => decide (decode mi.2.1 pc = .ok (i, len)) && Nat.beq len 3 && hd_at sw 0 (.classLink mi.1.cls idx "HiddenDrawers$Law")
    | .aastore => decide (decode mi.2.1 pc = .ok (i, len)) && Nat.beq len 1
    | .putfield idx => bif Nat.beq (b / 100) 2 then decide (decode mi.2.1 pc = .ok (i, len)) && Nat.beq len 3 && hd_fok mi idx a b sw && (match vwCl[a]? with
      | some q => (q.2.1 (b % 100)).2.2.2 && decide (mi.1.name = "<init>") && decide ((q.2.1 (b % 100)).1 = mi.1.cls)
      | none => false) else hd_okb mi r
    | .invokespecial idx => bif Nat.beq a 4 then decide (decode mi.2.1 pc = .ok (i, len)) && Nat.beq len 3 && (bif hd_isN sw then hd_lnkN mi idx sw ce.1 else hd_lnk mi idx sw ce.1) && hd_cal mi b sw ce && hd_at sw 3 (.instanceMethod ce.1) && decide (ce.1.name = "<init>") && decide (ce.2.2.2.1 = none) else hd_okb mi r
    | _ => hd_okb mi r
theorem hd_callI {G : hd_G} {mi ce : hd_I} {X : hd_X} {sh : hd_S} {ks : Nat × Nat} {idx pc n q : Nat} {sw : List (Int32 × Nat)} {lv : hd_L} {as rest : List Value} {σ : hd_M} {P : Option Value → hd_S → hd_M → Prop} (hC : hd_C G mi X) (hd : decode mi.2.1 pc = .ok (.invokespecial idx, 3)) (hlk : Cond.methodLink mi.1.cls idx ce.1 ∈ lw_g ∨ Cond.methodLinkNest mi.1.cls idx ce.1 "HiddenDrawers" ∈ hd_nest) (hin : Cond.instanceMethod ce.1 ∈ lw_g) (hnm : ce.1.name = "<init>") (hrt : ce.2.2.2.1 = none) (hc : hd_cal mi n sw ce = true) (hcode : hd_cdc ce) (hcm : ks.1 + ce.2.2.2.2.2.2.1 ≤ mi.2.2.2.2.2.2.1 ∧ ks.2 + ce.2.2.2.2.2.2.2 ≤ mi.2.2.2.2.2.2.2) (hn : as.length = n) (hsum : hd_sum rest ≤ 8) (hE : hd_EV G ce sh (.ref q :: as) σ P)
    (kk : ∀ r sh' σ', P r sh' σ' → hd_J G mi X sh' (ks.1 + ce.2.2.2.2.2.2.1, ks.2 + ce.2.2.2.2.2.2.2) (pc + 3) lv (r.toList ++ rest) σ') : hd_J G mi X sh ks pc lv (as.reverse ++ .ref q :: rest) σ := by
  obtain ⟨p, e, R, s, m, args, below, meth, cd, Q⟩ := X
  obtain ⟨hx, hb, hr, hml, hown, hts, hlocks, hK, hname, hfr, hlo, hrc, hrs⟩ := hC
  dsimp only at hx hb hr hml hown hts hlocks hK hname hfr hlo hrc hrs
  obtain ⟨hR, hini, hcd⟩ := hd_cal_ok hc
  intro hsz H locs ls hP hS hl
  dsimp only at hsz hS
  refine hd_sized fun hz => ?_
  have hlow := hd_low (Nat.le_trans hK.2.2.2.2.1 hS.1) hP
  have hsize : H.size = hd_b G + sh.length := by dsimp only at hz; omega
  have hpre : PreS s H (va_Pc ((Value.ref q :: as).map (hd_v (hd_ad G))) (fun U => hd_K G U ∧ hd_P G sh σ U.heap ∧ U.heap.size = hd_b G + sh.length)) (.ref (hd_ad G q) :: as.map (hd_v (hd_ad G))) :=
    ⟨hd_blind, fun U hU hW => ⟨rfl, hd_K.warm hW (fun q h1 h2 => by rw [hU]; exact hS.2.1 q h1 h2) (by rw [hU]; omega) hK, by rw [hU]; exact hP, by rw [hU]; exact hsize⟩⟩
  have hrooms : (hd_rm ce).frames + 1 ≤ R.frames ∧ 8 + (ce.2.2.1 + 11) + (hd_rm ce).locals ≤ R.locals := ⟨Nat.le_trans hR.1 hfr, Nat.le_trans hR.2 hlo⟩
  have hst' : (as.reverse ++ Value.ref q :: rest).map (hd_v (hd_ad G)) = (as.map (hd_v (hd_ad G))).reverse ++ .ref (hd_ad G q) :: rest.map (hd_v (hd_ad G)) := by simp [hd_v]
  rw [hst']
  have hfit : ks.1 + ce.2.2.2.2.2.2.1 ≤ R.cells ∧ ks.2 + ce.2.2.2.2.2.2.2 ≤ R.slots := by rw [hrc, hrs]; exact hcm
  have hlen : (as.map (hd_v (hd_ad G))).length = n := by rw [List.length_map]; exact hn
  have fin : ∀ (r : Option Value) (sh' : hd_S) (σ' : hd_M) (H1 : Heap) (locs1 : List Loc), P r sh' σ' → hd_P G sh' σ' H1 → sh'.length = sh.length + ce.2.2.2.2.2.2.1 → va_S (hd_A G) s.heap H1 locs1 → W p G.1 e R s m args below meth cd H1 locs1 (ks.1 + ce.2.2.2.2.2.2.1) (ks.2 + ce.2.2.2.2.2.2.2) Q (F0 m (pc + 3) ls ((r.map (hd_v (hd_ad G))).toList ++ rest.map (hd_v (hd_ad G)))) := by
    intro r sh' σ' H1 locs1 hp hP1 hln hS1
    rw [hd_ret_st]
    exact kk r sh' σ' hp (by dsimp only; omega) H1 locs1 ls hP1 hS1 hl
  have hws : hd_wm ce = Cond.code ce.1 ce.2.1 ce.2.2.1 none :: lw_g := by unfold hd_wm; rw [hrt]
  rcases hlk with hlk | hlk
  · exact hd_goes (va_runI (own := mi.1.cls) (index := idx) (y := ce.1) (bytes := ce.2.1) (maxL := ce.2.2.1) (ws := hd_wm ce) (rm := hd_rm ce) (n := n) (Ts := lw_g) (nL := mi.2.2.1) ⟨hx, hb, hml, hown, hts⟩ hE ⟨callB_of n hts (hd_good ce hcode) hws rfl rfl (hts _ hini) (hts _ hlk) hcd hrooms, hnm, hts _ hin⟩ hpre rfl hlen hl.1 rfl (lv_room (by rw [hd_sum_eq]; exact hsum)) hd hfit) hS fin
  · exact hd_goes (va_runIN (own := mi.1.cls) (host := "HiddenDrawers") (index := idx) (y := ce.1) (bytes := ce.2.1) (maxL := ce.2.2.1) (ws := hd_wm ce) (rm := hd_rm ce) (n := n) (Ts := lw_g) (nL := mi.2.2.1) ⟨hx, hb, hml, hown, hts⟩ hE ⟨va_cnB n hts (hd_good ce hcode) hws rfl rfl (hK.2.1 _ hlk) (hts _ hini) hcd hrooms, hnm, hts _ hin⟩ hpre rfl hlen hl.1 rfl (lv_room (by rw [hd_sum_eq]; exact hsum)) hd hfit) hS fin
theorem hd_cA {G : hd_G} {s : State} {c : ClassId} {t : Nat} {ty : FieldType} (hK : hd_K G s) (ht : (hd_tys G)[t]? = some (G.2.2.1 t, ty)) (h : va_RA s c ty) : c = G.2.2.1 t := by
  have h2 := (hK.1.2 t _ ht).2
  cases ty with
  | object C =>
    obtain ⟨_, _, -, -, -, h4⟩ := h
    obtain ⟨_, _, -, -, -, g4⟩ := h2
    exact Option.some.inj (h4.symm.trans g4)
  | _ => exact Option.some.inj (Eq.trans (Eq.symm h) h2)
set_option maxHeartbeats 4000000 in
theorem hd_stepA_ok {G : hd_G} {mi : hd_I} {X : hd_X} {Z : hd_S → Nat × Nat → Option Value → hd_M → Prop} {sh : hd_S} {ks : Nat × Nat} (hC : hd_C G mi X) (hks : ks.1 + 0 ≤ mi.2.2.2.2.2.2.1 ∧ ks.2 + 0 ≤ mi.2.2.2.2.2.2.2) (hZ : hd_Zok G mi X (Z sh ks) sh ks) {i : hd_Ins} {pc len a b : Nat} {c : Int32} {d : Int64} {sw : List (Int32 × Nat)} {ce : hd_I} (hok : hd_okA mi (pc, i, len, a, b, c, d, sw, ce) = true) (hcd : hd_cd (pc, i, len, a, b, c, d, sw, ce)) {lv : hd_L} {st : List Value} {σ : hd_M} {k : hd_S → Nat × Nat → Nat → hd_L → List Value → hd_M → Prop} (hk : ∀ sh' ks', (ks'.1 + 0 ≤ mi.2.2.2.2.2.2.1 ∧ ks'.2 + 0 ≤ mi.2.2.2.2.2.2.2) → ∀ pc lv st σ, k sh' ks' pc lv st σ → hd_J G mi X sh' ks' pc lv st σ) (h : hd_stepA G mi Z sh ks i pc len a b c d sw ce lv st σ k) : hd_J G mi X sh ks pc lv st σ := by
  have hC0 := hC
  obtain ⟨p, e, R, s, m, args, below, meth, cd, Q⟩ := X
  obtain ⟨hx, hb, hr, hml, hown, hts, hlocks, hK, hname, hfr, hlo, hrc, hrs⟩ := hC
  dsimp only at hx hb hr hml hown hts hlocks hK hname hfr hlo hrc hrs
  cases i
  case new idx =>
    obtain ⟨hok, o3⟩ := hd_and hok
    obtain ⟨o1, o2⟩ := hd_and hok
    have hd := of_decide_eq_true o1
    have e0 := hd_len1 o2; subst e0
    obtain ⟨hb1, h⟩ := hd_bif h
    obtain ⟨hb1, b3⟩ := hd_and hb1
    obtain ⟨b1, b2⟩ := hd_and hb1
    have b1 : sh.length < 5000 := Nat.le_of_ble_eq_true b1
    have b2 : ks.1 < mi.2.2.2.2.2.2.1 := Nat.le_of_ble_eq_true b2
    have b3 : ks.2 + hd_N a ≤ mi.2.2.2.2.2.2.2 := Nat.le_of_ble_eq_true b3
    split at o3
    · rename_i cq hcq
      obtain ⟨o3, o5⟩ := hd_and o3
      obtain ⟨o3, o4⟩ := hd_and o3
      obtain ⟨g1, g2, g3, g4⟩ := hd_clok hcq
      have ha9 : a < 9 := (List.getElem?_eq_some_iff.mp hcq).1
      intro hsz H locs ls hP hS hl
      dsimp only at hsz hS
      refine va_new (C := cq.1) (T := cq.2.1) (N := cq.2.2) (ci := a) (fs := (List.range (hd_N a)).map (fun j => hd_fv (hd_ad G) (hd_zer σ sh.length) sh.length (List.replicate (hd_N a) 0) a j)) hx hb hts g1 (hd_ft a) g2 hown (hts _ (hd_at_mem o3)) (hts _ (hd_at_mem o4)) (hts _ (hd_at_mem o5)) hK.1 hP.2 (hd_D G sh σ) hS (fun q hq => Nat.le_trans hK.2.2.2.2.1 hq) hcq ?_ (by show _ ≤ R.cells; rw [hrc]; exact b2) (by show _ ≤ R.slots; rw [hrs, ← g4]; exact b3) hd ?_
      · intro j hj
        rw [← g4] at hj
        rw [← hd_born (G := G) (σ := σ) (n := sh.length) ha9 hj]
        simp [vp_V, hj]
      · intro q H1 hP1 hD1 hS1
        refine hd_sized fun hz => ?_
        dsimp only at hz
        obtain ⟨hq, hPn⟩ := hd_newq (x := (10 + a, 0, List.replicate (hd_N a) 0)) b1 hP1 hD1 hz (by show _ = _; omega) hd_E_obj
        rw [hq, ← hK.2.2.2.2.2 sh.length b1, ← g4]
        exact hk _ (ks.1 + 1, ks.2 + hd_N a) ⟨b2, b3⟩ _ _ _ _ h (by show s.heap.size + (ks.1 + 1) = _; rw [List.length_append]; show _ = hd_b G + (sh.length + 1); omega) H1 locs ls hPn hS1 hl
    · cases o3
  case newarray aty =>
    obtain ⟨hok, o4⟩ := hd_and hok
    obtain ⟨hok, o3⟩ := hd_and hok
    obtain ⟨o1, o2⟩ := hd_and hok
    have hd := of_decide_eq_true o1
    have e0 := hd_len1 o2; subst e0
    have o4 := of_decide_eq_true o4
    obtain ⟨n, st', rfl, hn, h⟩ := hd_i1_inv h
    obtain ⟨hb1, hkk⟩ := hd_bif h
    obtain ⟨hb1, b4⟩ := hd_and hb1
    obtain ⟨hb1, b3⟩ := hd_and hb1
    obtain ⟨b1, b2⟩ := hd_and hb1
    have b1 : sh.length < 5000 := Nat.le_of_ble_eq_true b1
    have b2 : ks.1 < mi.2.2.2.2.2.2.1 := Nat.le_of_ble_eq_true b2
    have b3 : ks.2 + b ≤ mi.2.2.2.2.2.2.2 := Nat.le_of_ble_eq_true b3
    have b4 : b < 100000 := Nat.le_of_ble_eq_true b4
    intro hsz H locs ls hP hS hl
    dsimp only at hsz hS
    have hn0 : ¬ n < 0 := by rw [hn]; exact nI_pos (by omega)
    have hnb : n.toNatClampNeg = b := by rw [hn]; exact nI_clamp (by omega)
    have hcells : ks.1 + 1 ≤ R.cells := by rw [hrc]; exact b2
    have hslots : ks.2 + b ≤ R.slots := by rw [hrs]; exact b3
    rcases o4 with ⟨rfl, rfl⟩ | ⟨rfl, rfl⟩ | ⟨rfl, rfl⟩ | ⟨rfl, rfl⟩
    · refine va_newa (a0 := (b, .inl (fun _ => 0))) hx hb (hts _ (hd_at_mem o3)) rfl hK.1 hP.2 (hd_D G sh σ) hS (fun q hq => Nat.le_trans hK.2.2.2.2.1 hq) (fun _ => rfl) hn0 hnb (by show b * 4 ≤ _; omega) hcells hslots hd ?_
      intro q c1 H1 hK1 hP1 hD1 hS1
      refine hd_sized fun hz => ?_
      have hc1 : c1 = G.2.2.1 0 := hd_cA (ty := .int) hK rfl (hK1.2 5 (c1, .int) rfl).2
      subst hc1
      obtain ⟨hq, hPn⟩ := hd_newq (x := (0, b, [])) b1 hP1 hD1 hz (by show _ = _; omega) (by show Sum.inl (_, _, Sum.inl (va_up σ.1 sh.length (fun _ => 0) sh.length)) = _; rw [hd_up_eq])
      rw [hq, ← hK.2.2.2.2.2 sh.length b1]
      exact hk _ (ks.1 + 1, ks.2 + b) ⟨b2, b3⟩ _ _ _ _ hkk (by show s.heap.size + (ks.1 + 1) = _; rw [List.length_append]; show _ = hd_b G + (sh.length + 1); omega) H1 locs ls hPn hS1 hl
    · refine va_newa (a0 := (b, .inl (fun _ => 0))) hx hb (hts _ (hd_at_mem o3)) rfl hK.1 hP.2 (hd_D G sh σ) hS (fun q hq => Nat.le_trans hK.2.2.2.2.1 hq) (fun _ => rfl) hn0 hnb (by show b * 1 ≤ _; omega) hcells hslots hd ?_
      intro q c1 H1 hK1 hP1 hD1 hS1
      refine hd_sized fun hz => ?_
      have hc1 : c1 = G.2.2.1 1 := hd_cA (ty := .byte) hK rfl (hK1.2 5 (c1, .byte) rfl).2
      subst hc1
      obtain ⟨hq, hPn⟩ := hd_newq (x := (1, b, [])) b1 hP1 hD1 hz (by show _ = _; omega) (by show Sum.inl (_, _, Sum.inl (va_up σ.1 sh.length (fun _ => 0) sh.length)) = _; rw [hd_up_eq])
      rw [hq, ← hK.2.2.2.2.2 sh.length b1]
      exact hk _ (ks.1 + 1, ks.2 + b) ⟨b2, b3⟩ _ _ _ _ hkk (by show s.heap.size + (ks.1 + 1) = _; rw [List.length_append]; show _ = hd_b G + (sh.length + 1); omega) H1 locs ls hPn hS1 hl
    · refine va_newa (a0 := (b, .inl (fun _ => 0))) hx hb (hts _ (hd_at_mem o3)) rfl hK.1 hP.2 (hd_D G sh σ) hS (fun q hq => Nat.le_trans hK.2.2.2.2.1 hq) (fun _ => rfl) hn0 hnb (by show b * 1 ≤ _; omega) hcells hslots hd ?_
      intro q c1 H1 hK1 hP1 hD1 hS1
      refine hd_sized fun hz => ?_
      have hc1 : c1 = G.2.2.1 2 := hd_cA (ty := .boolean) hK rfl (hK1.2 5 (c1, .boolean) rfl).2
      subst hc1
      obtain ⟨hq, hPn⟩ := hd_newq (x := (2, b, [])) b1 hP1 hD1 hz (by show _ = _; omega) (by show Sum.inl (_, _, Sum.inl (va_up σ.1 sh.length (fun _ => 0) sh.length)) = _; rw [hd_up_eq])
      rw [hq, ← hK.2.2.2.2.2 sh.length b1]
      exact hk _ (ks.1 + 1, ks.2 + b) ⟨b2, b3⟩ _ _ _ _ hkk (by show s.heap.size + (ks.1 + 1) = _; rw [List.length_append]; show _ = hd_b G + (sh.length + 1); omega) H1 locs ls hPn hS1 hl
    · refine va_newa (a0 := (b, .inr (.inl (fun _ => 0)))) hx hb (hts _ (hd_at_mem o3)) rfl hK.1 hP.2 (hd_D G sh σ) hS (fun q hq => Nat.le_trans hK.2.2.2.2.1 hq) (fun _ => rfl) hn0 hnb (by show b * 8 ≤ _; omega) hcells hslots hd ?_
      intro q c1 H1 hK1 hP1 hD1 hS1
      refine hd_sized fun hz => ?_
      have hc1 : c1 = G.2.2.1 3 := hd_cA (ty := .long) hK rfl (hK1.2 5 (c1, .long) rfl).2
      subst hc1
      obtain ⟨hq, hPn⟩ := hd_newq (x := (3, b, [])) b1 hP1 hD1 hz (by show _ = _; omega) (by show Sum.inl (_, _, Sum.inr (Sum.inl (va_up σ.2 sh.length (fun _ => 0) sh.length))) = _; rw [hd_up_eq])
      rw [hq, ← hK.2.2.2.2.2 sh.length b1]
      exact hk _ (ks.1 + 1, ks.2 + b) ⟨b2, b3⟩ _ _ _ _ hkk (by show s.heap.size + (ks.1 + 1) = _; rw [List.length_append]; show _ = hd_b G + (sh.length + 1); omega) H1 locs ls hPn hS1 hl
  case anewarray idx =>
    obtain ⟨hok, o3⟩ := hd_and hok
    obtain ⟨o1, o2⟩ := hd_and hok
    have hd := of_decide_eq_true o1
    have e0 := hd_len1 o2; subst e0
    obtain ⟨n, st', rfl, hn, h⟩ := hd_i1_inv h
    obtain ⟨hb1, h⟩ := hd_bif h
    obtain ⟨hb1, b4⟩ := hd_and hb1
    obtain ⟨hb1, b3⟩ := hd_and hb1
    obtain ⟨b1, b2⟩ := hd_and hb1
    have b1 : sh.length < 5000 := Nat.le_of_ble_eq_true b1
    have b2 : ks.1 < mi.2.2.2.2.2.2.1 := Nat.le_of_ble_eq_true b2
    have b3 : ks.2 + b ≤ mi.2.2.2.2.2.2.2 := Nat.le_of_ble_eq_true b3
    have b4 : b < 100000 := Nat.le_of_ble_eq_true b4
    intro hsz H locs ls hP hS hl
    dsimp only at hsz hS
    have hn0 : ¬ n < 0 := by rw [hn]; exact nI_pos (by omega)
    have hnb : n.toNatClampNeg = b := by rw [hn]; exact nI_clamp (by omega)
    refine va_newq (C := "HiddenDrawers$Law") hx hb hown (hts _ (hd_at_mem o3)) hK.2.2.1 hK.1 hP.2 (hd_D G sh σ) hS (fun q hq => Nat.le_trans hK.2.2.2.2.1 hq) hn0 hnb (by omega) (by show _ ≤ R.cells; rw [hrc]; exact b2) (by show _ ≤ R.slots; rw [hrs]; exact b3) hd ?_
    intro q c1 H1 hK1 hP1 hD1 hS1
    refine hd_sized fun hz => ?_
    have hc1 : c1 = G.2.2.1 4 := hd_cA (ty := .object "HiddenDrawers$Law") hK rfl (hK1.2 5 (c1, .object "HiddenDrawers$Law") rfl).2
    subst hc1
    obtain ⟨hq, hPn⟩ := hd_newq (x := (4, b, List.replicate b 0)) b1 hP1 hD1 hz (by show _ = _; omega) (by
      show Sum.inl (_, _, Sum.inr (Sum.inr (Sum.inr (Sum.inr (fun i => hd_ro (hd_ad G) ((List.replicate b 0).getD i 0)))))) = _
      have : (fun i => hd_ro (hd_ad G) ((List.replicate b 0).getD i 0)) = fun _ => none := by
        funext i
        have : (List.replicate b 0).getD i 0 = 0 := hd_rep _ _
        rw [this]
        rfl
      rw [this])
    rw [hq, ← hK.2.2.2.2.2 sh.length b1]
    exact hk _ (ks.1 + 1, ks.2 + b) ⟨b2, b3⟩ _ _ _ _ h (by show s.heap.size + (ks.1 + 1) = _; rw [List.length_append]; show _ = hd_b G + (sh.length + 1); omega) H1 locs ls hPn hS1 hl
  case aastore =>
    obtain ⟨o1, o2⟩ := hd_and hok
    have hd := of_decide_eq_true o1
    have e0 := hd_len1 o2; subst e0
    obtain ⟨r, st1, e1, h1⟩ := hd_r1_inv h
    obtain ⟨j, q, rest, e2, h2⟩ := hd_ir_inv h1
    obtain ⟨n, rs, hq, hin, h3⟩ := hd_kr_inv h2
    obtain ⟨n', rs', hr', h4⟩ := hd_k_inv h3
    obtain ⟨h5, h6⟩ := hd_bif h4
    obtain ⟨h5, h7⟩ := hd_and h5
    have h5 : 0 < r := Nat.le_of_ble_eq_true h5
    have h7 := Nat.eq_of_beq_eq_true h7
    subst e2
    subst e1
    intro hsz H locs ls hP hS hl
    dsimp only at hsz hS
    show W _ _ _ _ _ _ _ _ _ _ _ _ _ _ _ (F0 m pc ls (.ref (hd_ad G r) :: .int j :: .ref (hd_ad G q) :: rest.map (hd_v (hd_ad G))))
    have har := hd_adq hK hP hr'
    rw [hd_adq hK hP hq, har]
    have hE4 : hd_E G σ r (12, n', rs') = .inr (2, (List.range (hd_N 2)).map (fun j => hd_fv (hd_ad G) σ r rs' 2 j)) := hd_E_obj (a := 2)
    refine va_astq (r := (RX2, TX2, 11)) hx hb hK.1 hP.2 (hd_D G sh σ) hS q 4 r 2 (hd_ws_at hq) rfl (by rw [hd_ws_at hr', hE4]) rfl hin hd (fun H1 locs1 hP1 hD1 hS1 => ?_)
    have hjn : j.toNatClampNeg < rs.length := by rw [← h7]; exact Nat.not_le.mp fun z => hin (Or.inr z)
    have hE : (.inl (G.2.2.1 4, n, .inr (.inr (.inr (.inr (va_up (fun i => hd_ro (hd_ad G) (rs.getD i 0)) j.toNatClampNeg (some (hd_b G + r))))))) : va_E) = hd_E G σ q (4, n, rs.set j.toNatClampNeg r) := by
      show _ = Sum.inl (_, _, Sum.inr (Sum.inr (Sum.inr (Sum.inr (fun i => hd_ro (hd_ad G) ((rs.set j.toNatClampNeg r).getD i 0))))))
      congr 7
      funext i
      by_cases hi : i = j.toNatClampNeg
      · subst hi
        rw [hd_up_eq]
        simp only [List.getD_eq_getElem?_getD, List.getElem?_set, if_true, hjn, Option.getD_some]
        unfold hd_ro
        cases hb0 : Nat.beq r 0 with
        | true => exact absurd (Nat.eq_of_beq_eq_true hb0) (Nat.ne_of_gt h5)
        | false => rw [har]; rfl
      · rw [hd_up_ne hi]
        simp only [List.getD_eq_getElem?_getD, List.getElem?_set, if_neg (fun z => hi z.symm : ¬ j.toNatClampNeg = i)]
    rw [show ((hd_ws G sh σ).set q (hd_b G + q, _)) = hd_ws G (sh.set q (4, n, rs.set j.toNatClampNeg r)) σ from (by rw [← hd_ws_set (hd_len hq), ← hE])] at hP1
    exact hk _ ks hks _ _ _ _ h6 (by rw [List.length_set]; exact hsz) H1 locs1 ls ⟨by rw [List.length_set]; exact hP.1, hP1⟩ hS1 hl
  case putfield idx =>
    replace hok : (bif Nat.beq (b / 100) 2 then decide (decode mi.2.1 pc = .ok (.putfield idx, len)) && Nat.beq len 3 && hd_fok mi idx a b sw && (match vwCl[a]? with
      | some q => (q.2.1 (b % 100)).2.2.2 && decide (mi.1.name = "<init>") && decide ((q.2.1 (b % 100)).1 = mi.1.cls)
      | none => false) else hd_okb mi (pc, .putfield idx, len, a, b, c, d, sw, ce)) = true := hok
    replace h : bif Nat.beq (b / 100) 2 then hd_puR sh a b st (fun sh st => k sh ks (pc + len) lv st σ) else hd_step G mi (Z sh ks) sh (.putfield idx) pc len a b c d sw ce lv st σ (k sh ks) := h
    cases hb2 : Nat.beq (b / 100) 2 with
    | false =>
      rw [hb2] at hok h
      exact hd_step_ok hC0 hks hZ hok hcd (hk sh ks hks) h
    | true =>
      rw [hb2] at hok h
      replace h : hd_puR sh a b st (fun sh st => k sh ks (pc + len) lv st σ) := h
      obtain ⟨hok, o4⟩ := hd_and hok
      obtain ⟨hok, o3⟩ := hd_and hok
      obtain ⟨o1, o2⟩ := hd_and hok
      have hd := of_decide_eq_true o1
      have e0 := hd_len1 o2; subst e0
      obtain ⟨r, q, rest, n, rs, e1, hq, hr0, hrl, hrn, hkk⟩ := hd_puR_inv h
      subst e1
      have hkd : hd_fk a (b % 100) = 2 := by
        have hb2 := Nat.eq_of_beq_eq_true hb2
        rcases hd_fok_k o3 with z | z
        · rw [z, hb2]
        · exact z.2
      unfold hd_fok at o3
      split at o3
      · rename_i cq hcq
        rw [hcq] at o4
        obtain ⟨o4, o7⟩ := hd_and o4
        obtain ⟨o5, o6⟩ := hd_and o4
        obtain ⟨o3, -⟩ := hd_and o3
        obtain ⟨h1, h2⟩ := hd_and o3
        have h1 : b % 100 < cq.2.2 := Nat.le_of_ble_eq_true h1
        obtain ⟨g1, g2, g3, g4⟩ := hd_clok hcq
        intro hsz H locs ls hP hS hl
        dsimp only at hsz hS
        have hty : (∃ c, hd_ft a (b % 100) = .object c) ∨ ∃ t, hd_ft a (b % 100) = .array t := by
          have hkd' := hkd
          unfold hd_fk at hkd'
          split at hkd'
          · cases hkd'
          · cases hkd'
          · exact Or.inl ⟨_, by assumption⟩
          · exact Or.inr ⟨_, by assumption⟩
          · cases hkd'
          · cases hkd'
        show W _ _ _ _ _ _ _ _ _ _ _ _ _ _ _ (F0 m pc ls (.ref (hd_ad G r) :: .ref (hd_ad G q) :: rest.map (hd_v (hd_ad G))))
        rw [hd_adq hK hP hq]
        refine va_putF (C := cq.1) (T := cq.2.1) (N := cq.2.2) (ci := a) hx hb hts g1 (hd_ft a) g2 g3 hown hK.1 hP.2 (hd_D G sh σ) hS q (by rw [hd_ws_at hq, hd_E_obj]) (by rw [hcq]) (b % 100) h1 (hts _ (hd_at_mem h2)) (fun _ z => z) o5 (by rw [hname]; exact of_decide_eq_true o6) (of_decide_eq_true o7) (g2 _ h1) (by rcases hty with ⟨c, hty⟩ | ⟨c, hty⟩ <;> rw [hty] <;> rfl) (by rcases hty with ⟨c, hty⟩ | ⟨c, hty⟩ <;> rw [hty] <;> rfl) (by simp [g4, h1]) hd ?_
        intro H1 locs1 hP1 hD1 hS1
        have hE : (.inr (a, ((List.range (hd_N a)).map (fun j => hd_fv (hd_ad G) σ q rs a j)).set (b % 100) (.ref (hd_ad G r))) : va_E) = hd_E G σ q (10 + a, n, rs.set (b % 100) r) := by
          rw [hd_E_obj]
          congr 2
          apply List.ext_getElem?
          intro i
          rw [List.getElem?_set]
          by_cases hi : b % 100 = i
          · subst hi
            have hbl : b % 100 < rs.length := by rw [hrn, g4]; exact h1
            have hbl2 : b % 100 < hd_N a := by rw [g4]; exact h1
            rw [if_pos rfl, if_pos (by simp [hbl2])]
            simp only [List.getElem?_map, List.getElem?_range hbl2, Option.map_some]
            rw [hd_fv2 hkd]
            simp only [List.getD_eq_getElem?_getD, List.getElem?_set, if_true, hbl, Option.getD_some]
            rw [hd_rv_ne (Nat.ne_of_gt hr0)]
          · rw [if_neg hi]
            by_cases hl2 : i < hd_N a
            · simp only [List.getElem?_map, List.getElem?_range hl2, Option.map_some]
              unfold hd_fv
              simp only [List.getD_eq_getElem?_getD, List.getElem?_set, if_neg hi]
            · simp [hl2]
        rw [hE, hd_ws_set (hd_len hq)] at hP1
        exact hk _ ks hks _ _ _ _ hkk (by rw [List.length_set]; exact hsz) H1 locs1 ls ⟨by rw [List.length_set]; exact hP.1, hP1⟩ hS1 hl
      · cases o3
  case invokespecial idx =>
    replace h : bif Nat.beq a 4 then hd_inI G mi ce b sh ks st σ (fun sh ks st σ => k sh ks (pc + len) lv st σ) else hd_step G mi (Z sh ks) sh (.invokespecial idx) pc len a b c d sw ce lv st σ (k sh ks) := h
    replace hok : (bif Nat.beq a 4 then decide (decode mi.2.1 pc = .ok (.invokespecial idx, len)) && Nat.beq len 3 && (bif hd_isN sw then hd_lnkN mi idx sw ce.1 else hd_lnk mi idx sw ce.1) && hd_cal mi b sw ce && hd_at sw 3 (.instanceMethod ce.1) && decide (ce.1.name = "<init>") && decide (ce.2.2.2.1 = none) else hd_okb mi (pc, .invokespecial idx, len, a, b, c, d, sw, ce)) = true := hok
    cases ha4 : Nat.beq a 4 with
    | false =>
      rw [ha4] at hok
      rw [ha4] at h
      exact hd_step_ok hC0 hks hZ hok hcd (hk sh ks hks) h
    | true =>
      rw [ha4] at hok h
      replace h : hd_inI G mi ce b sh ks st σ (fun sh ks st σ => k sh ks (pc + len) lv st σ) := h
      obtain ⟨hok, o7⟩ := hd_and hok
      obtain ⟨hok, o6⟩ := hd_and hok
      obtain ⟨hok, o5⟩ := hd_and hok
      obtain ⟨hok, o4⟩ := hd_and hok
      obtain ⟨hok, o3⟩ := hd_and hok
      obtain ⟨o1, o2⟩ := hd_and hok
      have hd := of_decide_eq_true o1
      have e0 := hd_len1 o2; subst e0
      obtain ⟨q, as, rest, htk, hs8, hc1, hc2, hE⟩ := hd_inI_inv h
      obtain ⟨hst, hln⟩ := hd_take_ok htk
      have hst : as.reverse ++ Value.ref q :: rest = st := by simpa using hst
      have hln : as.length = b := by simpa using hln
      have hlk : Cond.methodLink mi.1.cls idx ce.1 ∈ lw_g ∨ Cond.methodLinkNest mi.1.cls idx ce.1 "HiddenDrawers" ∈ hd_nest := by
        cases hn : hd_isN sw with
        | true =>
          rw [hn] at o3
          have o3 : hd_lnkN mi idx sw ce.1 = true := o3
          unfold hd_lnkN at o3
          split at o3
          · exact Or.inr (List.mem_of_getElem? (of_decide_eq_true o3))
          · cases o3
        | false =>
          rw [hn] at o3
          exact Or.inl (hd_at_mem o3)
      rw [← hst]
      refine hd_callI hC0 hd hlk (hd_at_mem o5) (of_decide_eq_true o6) (of_decide_eq_true o7) o4 (by have hcd' : bif Nat.beq a 4 then hd_cdc ce else True := hcd; rw [ha4] at hcd'; exact hcd') ⟨hc1, hc2⟩ hln hs8 hE (fun r sh' σ' hp => ?_)
      obtain ⟨rfl, hp⟩ := hp
      exact hk _ (ks.1 + ce.2.2.2.2.2.2.1, ks.2 + ce.2.2.2.2.2.2.2) ⟨hc1, hc2⟩ _ _ _ _ hp
  all_goals exact hd_step_ok hC0 hks hZ hok hcd (hk sh ks hks) h
def hd_wpA (G : hd_G) (mi : hd_I) (X : hd_X) (Z : hd_S → Nat × Nat → Option Value → hd_M → Prop) (rows : List hd_R) (cuts : List (Nat × List Nat)) : Nat → hd_S → Nat × Nat → Nat → hd_L → List Value → hd_M → Prop
  | 0, sh, ks, pc, lv, st, σ => hd_J G mi X sh ks pc lv st σ
  | n + 1, sh, ks, pc, lv, st, σ => match hd_find pc rows with
    | none => False
    | some (pc, i, len, a, b, c, d, sw, ce) => hd_stepA G mi Z sh ks i pc len a b c d sw ce lv st σ (fun sh ks pc lv st σ => match hd_cut pc cuts with
      | some live => hd_J G mi X sh ks pc (hd_pick live lv) st σ
      | none => hd_wpA G mi X Z rows cuts n sh ks pc lv st σ)
theorem hd_wpA_ok {G : hd_G} {mi : hd_I} {X : hd_X} {Z : hd_S → Nat × Nat → Option Value → hd_M → Prop} {rows : List hd_R} {cuts : List (Nat × List Nat)} (hC : hd_C G mi X) (hZ : ∀ sh ks, hd_Zok G mi X (Z sh ks) sh ks) (hrows : rows.all (hd_okA mi) = true) (hcs : hd_cdl rows) : ∀ (n : Nat) (sh : hd_S) (ks : Nat × Nat), (ks.1 + 0 ≤ mi.2.2.2.2.2.2.1 ∧ ks.2 + 0 ≤ mi.2.2.2.2.2.2.2) → ∀ (pc : Nat) (lv : hd_L) (st : List Value) (σ : hd_M), hd_wpA G mi X Z rows cuts n sh ks pc lv st σ → hd_J G mi X sh ks pc lv st σ
  | 0, _, _, _, _, _, _, _, h => h
  | n + 1, sh, ks, hks, pc, lv, st, σ, h => by
    unfold hd_wpA at h
    split at h
    · exact h.elim
    · rename_i pc' i len a b c d sw ce hf
      obtain ⟨h1, h2⟩ := hd_find_ok hf
      have h2 : pc' = pc := h2
      subst h2
      refine hd_stepA_ok hC hks (hZ sh ks) (List.all_eq_true.mp hrows _ h1) (hd_cdl_mem hcs _ h1) (fun sh' ks' hks' pc lv st σ hk => ?_) h
      split at hk
      · rename_i live hc
        intro hsz H locs ls hP hS hl
        exact hk hsz H locs ls hP hS (hd_has_pick hl)
      · exact hd_wpA_ok hC hZ hrows hcs n sh' ks' hks' pc lv st σ hk
/-- a constructor's end -/
def hd_Zc (mi : hd_I) (n : Nat) (P : hd_S → hd_M → Prop) : hd_S → Nat × Nat → Option Value → hd_M → Prop := fun sh ks r σ => match r with
  | none => (sh.length = n ∧ ks.1 ≤ mi.2.2.2.2.2.2.1 ∧ ks.2 ≤ mi.2.2.2.2.2.2.2) ∧ P sh σ
  | some _ => False
def hd_CA (G : hd_G) (mi : hd_I) (X : hd_X) (Z : hd_S → Nat × Nat → Option Value → hd_M → Prop) : Prop := hd_C G mi X ∧ ∀ sh ks, hd_Zok G mi X (Z sh ks) sh ks
theorem hd_walkA {G : hd_G} {mi : hd_I} {X : hd_X} {Z : hd_S → Nat × Nat → Option Value → hd_M → Prop} {rows : List hd_R} (cuts : List (Nat × List Nat)) {sh : hd_S} {ks : Nat × Nat} (n : Nat) {pc : Nat} {lv : hd_L} {st : List Value} {σ : hd_M} (hX : hd_CA G mi X Z) (hks : Nat.ble ks.1 mi.2.2.2.2.2.2.1 = true ∧ Nat.ble ks.2 mi.2.2.2.2.2.2.2 = true) (hrows : rows.all (hd_okA mi) = true ∧ hd_cdl rows) (h : hd_wpA G mi X Z rows cuts n sh ks pc lv st σ) : hd_J G mi X sh ks pc lv st σ := hd_wpA_ok hX.1 hX.2 hrows.1 hrows.2 n sh ks ⟨Nat.le_of_ble_eq_true hks.1, Nat.le_of_ble_eq_true hks.2⟩ pc lv st σ h
theorem EVc_of {G : hd_G} {mi : hd_I} {sh : hd_S} {as : List Value} {σ : hd_M} {P : hd_S → hd_M → Prop} (hy : plainName mi.1.cls = true) (hal : Nat.ble (hd_al2 as) mi.2.2.1 = true) (hret : mi.2.2.2.1 = none) (h : ∀ X, hd_CA G mi X (hd_Zc mi (sh.length + mi.2.2.2.2.2.2.1) P) → hd_J G mi X sh (0, 0) 0 (hd_ar 0 as) [] σ) : EVc G mi sh as σ P := by
  unfold EVc hd_EV
  refine Met.ofW (cc := mi.2.1) (maxL := mi.2.2.1) (ret := mi.2.2.2.1) hy rfl ?_
  intro p e s m args below meth c s₁ B hml hv
  obtain ⟨rfl, hK, hP, hsz⟩ := hv
  have hts := atoms_spec (ws := hd_wm mi) B.pre
  have hlocks := B.notSynchronized
  have hC : hd_C G mi (p, e, (headSpec (hd_wm mi) (hd_rm mi)).room, s, m, (as.map (hd_v (hd_ad G))).toArray, below, meth, c, MQ below (hd_Qc G (sh.length + mi.2.2.2.2.2.2.1) (fun r sh' σ' => r = none ∧ P sh' σ')) (as.map (hd_v (hd_ad G))).toArray s mi.2.2.2.2.2.2.1 mi.2.2.2.2.2.2.2 (hd_A G)) :=
    ⟨B.exec, B.bytes, B.returns, hml, findClass_of_methodNamed B.named, fun w hw => hts w (List.mem_cons_of_mem _ hw), B.notSynchronized, hK, (name_of_methodNamed B.named B.method).1, Nat.le_refl _, Nat.le_refl _, rfl, rfl⟩
  have hl := lv_entry (as.map (hd_v (hd_ad G))) (n := mi.2.2.1) (by rw [hd_al2_eq]; exact Nat.le_of_ble_eq_true hal)
  rw [lg_entry_eq]
  rw [hd_ar_eq] at hl
  refine h _ ⟨hC, fun sh' ks' => ?_⟩ (by show s.heap.size + 0 = _; rw [hsz]; rfl) s.heap [] _ hP va_S.rf hl
  refine ⟨fun v σ H locs ls pc h hP hS hd => ?_, fun v σ H locs ls pc h hP hS hd => ?_, fun v σ H locs ls pc h hP hS hd => ?_, fun σ H locs ls pc h hP hS hd => ?_⟩
  · rw [hret] at h; exact h.elim
  · rw [hret] at h; exact h.elim
  · rw [hret] at h; exact h.elim
  · rw [hret] at h
    obtain ⟨⟨z1, z2, z3⟩, z4⟩ := h
    refine W.widen z2 z3 ?_
    exact W.vret B.exec B.bytes (B.returns.trans hret) (fun t ht _ => ⟨⟨none, sh', σ, rfl, ⟨rfl, z4⟩, by rw [ht]; exact hP, z1⟩, hS.F ht⟩) hS.2.2 hd hlocks
