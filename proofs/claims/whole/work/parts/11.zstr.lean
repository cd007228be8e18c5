/-! text constants: length and charAt -/
def mJ0_coder : hd_I := (yJ0_coder_7d493, cJ0_coder_7d493, 1, some .byte, 0, 0, 0, 0)
def mJ0_isLatin1 : hd_I := (yJ0_isLatin1_aae02, cJ0_isLatin1_aae02, 1, some .boolean, 0, 0, 0, 0)
def mJ3_checkIndex : hd_I := (yJ3_checkIndex_8e157, cJ3_checkIndex_8e157, 3, some .int, 0, 0, 0, 0)
def mJ0_checkIndex : hd_I := (yJ0_checkIndex_df160, cJ0_checkIndex_df160, 2, none, 1, 22, 0, 0)
def mJ1_charAt : hd_I := (yJ1_charAt_3b067, cJ1_charAt_3b067, 2, some .char, 2, 43, 0, 0)
set_option maxRecDepth 100000 in
theorem zJ0_coder : hd_cdc mJ0_coder := List.mem_filter.mpr ⟨hd_tb_sub (c := 2) (List.mem_of_getElem? (i := 190) rfl), rfl⟩
set_option maxRecDepth 100000 in
theorem zJ0_isLatin1 : hd_cdc mJ0_isLatin1 := List.mem_filter.mpr ⟨hd_tb_sub (c := 2) (List.mem_of_getElem? (i := 200) rfl), rfl⟩
set_option maxRecDepth 100000 in
theorem zJ3_checkIndex : hd_cdc mJ3_checkIndex := List.mem_filter.mpr ⟨hd_tb_sub (c := 2) (List.mem_of_getElem? (i := 211) rfl), rfl⟩
set_option maxRecDepth 100000 in
theorem zJ0_checkIndex : hd_cdc mJ0_checkIndex := List.mem_filter.mpr ⟨hd_tb_sub (c := 2) (List.mem_of_getElem? (i := 206) rfl), rfl⟩
set_option maxRecDepth 100000 in
theorem zJ1_charAt : hd_cdc mJ1_charAt := List.mem_filter.mpr ⟨hd_tb_sub (c := 2) (List.mem_of_getElem? (i := 203) rfl), rfl⟩
set_option maxRecDepth 100000 in
theorem qs_cs : Cond.fieldLink RJ0 38 RJ0 "COMPACT_STRINGS" "Z" ∈ lw_g := List.mem_filter.mpr ⟨hd_tb_sub (c := 2) (List.mem_of_getElem? (i := 191) rfl), rfl⟩
set_option maxRecDepth 100000 in
theorem qs_va : Cond.fieldLink RJ0 9 RJ0 "value" "[B" ∈ lw_g := List.mem_filter.mpr ⟨hd_tb_sub (c := 6) (List.mem_of_getElem? (i := 176) rfl), rfl⟩
set_option maxRecDepth 100000 in
theorem qs_co : Cond.fieldLink RJ0 15 RJ0 "coder" "B" ∈ lw_g := List.mem_filter.mpr ⟨hd_tb_sub (c := 6) (List.mem_of_getElem? (i := 177) rfl), rfl⟩
set_option maxRecDepth 100000 in
theorem qs_sf : Cond.fieldLink RJ0 1053 RJ3 "SIOOBE_FORMATTER" "Ljava/util/function/BiFunction;" ∈ lw_g := List.mem_filter.mpr ⟨hd_tb_sub (c := 2) (List.mem_of_getElem? (i := 207) rfl), rfl⟩
set_option maxRecDepth 100000 in
theorem qs_m1 : Cond.methodLink RJ0 335 yJ0_coder_7d493 ∈ lw_g ∧ Cond.instanceMethod yJ0_coder_7d493 ∈ lw_g ∧ Cond.selects RJ0 yJ0_coder_7d493 yJ0_coder_7d493 ∈ lw_g := ⟨List.mem_filter.mpr ⟨hd_tb_sub (c := 2) (List.mem_of_getElem? (i := 187) rfl), rfl⟩, List.mem_filter.mpr ⟨hd_tb_sub (c := 2) (List.mem_of_getElem? (i := 188) rfl), rfl⟩, List.mem_filter.mpr ⟨hd_tb_sub (c := 2) (List.mem_of_getElem? (i := 189) rfl), rfl⟩⟩
set_option maxRecDepth 100000 in
theorem qs_m2 : Cond.methodLink RJ0 492 yJ0_isLatin1_aae02 ∈ lw_g ∧ Cond.instanceMethod yJ0_isLatin1_aae02 ∈ lw_g ∧ Cond.selects RJ0 yJ0_isLatin1_aae02 yJ0_isLatin1_aae02 ∈ lw_g := ⟨List.mem_filter.mpr ⟨hd_tb_sub (c := 2) (List.mem_of_getElem? (i := 197) rfl), rfl⟩, List.mem_filter.mpr ⟨hd_tb_sub (c := 2) (List.mem_of_getElem? (i := 198) rfl), rfl⟩, List.mem_filter.mpr ⟨hd_tb_sub (c := 2) (List.mem_of_getElem? (i := 199) rfl), rfl⟩⟩
set_option maxRecDepth 100000 in
theorem qs_m3 : Cond.methodLink RJ0 495 yJ1_charAt_3b067 ∈ lw_g ∧ Cond.static yJ1_charAt_3b067 ∈ lw_g := ⟨List.mem_filter.mpr ⟨hd_tb_sub (c := 2) (List.mem_of_getElem? (i := 201) rfl), rfl⟩, List.mem_filter.mpr ⟨hd_tb_sub (c := 2) (List.mem_of_getElem? (i := 202) rfl), rfl⟩⟩
set_option maxRecDepth 100000 in
theorem qs_m4 : Cond.methodLink RJ1 9 yJ0_checkIndex_df160 ∈ lw_g ∧ Cond.static yJ0_checkIndex_df160 ∈ lw_g := ⟨List.mem_filter.mpr ⟨hd_tb_sub (c := 2) (List.mem_of_getElem? (i := 204) rfl), rfl⟩, List.mem_filter.mpr ⟨hd_tb_sub (c := 2) (List.mem_of_getElem? (i := 205) rfl), rfl⟩⟩
set_option maxRecDepth 100000 in
theorem qs_m5 : Cond.methodLink RJ0 1059 yJ3_checkIndex_8e157 ∈ lw_g ∧ Cond.static yJ3_checkIndex_8e157 ∈ lw_g := ⟨List.mem_filter.mpr ⟨hd_tb_sub (c := 2) (List.mem_of_getElem? (i := 209) rfl), rfl⟩, List.mem_filter.mpr ⟨hd_tb_sub (c := 2) (List.mem_of_getElem? (i := 210) rfl), rfl⟩⟩
/-- a method whose answer is known, of any small type -/
theorem EVn_of {G : hd_G} {mi : hd_I} {sh : hd_S} {as : List Value} {σ : hd_M} {P : Int32 → hd_M → Prop} {ty : FieldType} {x : Int32} (hy : plainName mi.1.cls = true) (hal : Nat.ble (hd_al2 as) mi.2.2.1 = true) (h0 : mi.2.2.2.2.2.2.1 = 0) (h1 : mi.2.2.2.2.2.2.2 = 0) (hrt : mi.2.2.2.1 = some ty) (hn : narrow ty (.int x) = .int x) (hp : P x σ) (h : ∀ X, hd_C G mi X → (∀ pc lv, decode mi.2.1 pc = .ok (.ireturn, 1) → hd_J G mi X sh (0, 0) pc lv [.int x] σ) → hd_J G mi X sh (0, 0) 0 (hd_ar 0 as) [] σ) : EVi G mi sh as σ P := by
  unfold EVi hd_EV
  rw [h0, h1]
  refine Met.ofW (cc := mi.2.1) (maxL := mi.2.2.1) (ret := mi.2.2.2.1) hy rfl ?_
  intro p e s m args below meth c s₁ B hml hv
  obtain ⟨rfl, hK, hP, hsz⟩ := hv
  have hts := atoms_spec (ws := hd_wm mi) B.pre
  have hC : hd_C G mi (p, e, (headSpec (hd_wm mi) (hd_rm mi)).room, s, m, (as.map (hd_v (hd_ad G))).toArray, below, meth, c, MQ below (hd_Qc G (sh.length + 0) (fun r sh' σ' => sh' = sh ∧ ∃ x, r = some (.int x) ∧ P x σ')) (as.map (hd_v (hd_ad G))).toArray s 0 0 (hd_A G)) :=
    ⟨B.exec, B.bytes, B.returns, hml, findClass_of_methodNamed B.named, fun w hw => hts w (List.mem_cons_of_mem _ hw), B.notSynchronized, hK, (name_of_methodNamed B.named B.method).1, Nat.le_refl _, Nat.le_refl _, rfl, rfl⟩
  have hl := lv_entry (as.map (hd_v (hd_ad G))) (n := mi.2.2.1) (by rw [hd_al2_eq]; exact Nat.le_of_ble_eq_true hal)
  rw [lg_entry_eq]
  rw [hd_ar_eq] at hl
  refine h _ hC (fun pc lv hd => ?_) (by show s.heap.size + 0 = _; rw [hsz]; rfl) s.heap [] _ hP va_S.rf hl
  intro hsz2 H locs ls hP2 hS2 hl2
  have hr : meth.sig.returnType = some ty := by rw [← hrt]; exact B.returns
  exact W.zret (v := x) B.exec B.bytes hr hn (fun t ht _ => ⟨⟨some (.int x), sh, σ, rfl, ⟨rfl, x, rfl, hp⟩, by rw [ht]; exact hP2, rfl⟩, hS2.F ht⟩) hS2.2.2 hd B.notSynchronized
theorem dJ_c0 : decode cJ0_coder_7d493 0 = .ok (.getstatic 38, 3) := by decide +kernel
theorem dJ_c3 : decode cJ0_coder_7d493 3 = .ok (.ifCond .eq 10, 3) := by decide +kernel
theorem dJ_c6 : decode cJ0_coder_7d493 6 = .ok (.aload_n 0, 1) := by decide +kernel
theorem dJ_c7 : decode cJ0_coder_7d493 7 = .ok (.getfield 15, 3) := by decide +kernel
theorem dJ_c10 : decode cJ0_coder_7d493 10 = .ok (.goto 4, 3) := by decide +kernel
theorem dJ_c14 : decode cJ0_coder_7d493 14 = .ok (.ireturn, 1) := by decide +kernel
theorem sJ0_coder {G : hd_G} {σ : hd_M} {P : Int32 → hd_M → Prop} {sh : hd_S} {j : Nat} (hj : j < 15) (h : P 0 σ) : EVi G mJ0_coder sh [.ref (5000 + j)] σ P := by
  refine EVn_of (ty := .byte) (x := 0) rfl rfl rfl rfl rfl rfl h (fun X hC fin => ?_)
  obtain ⟨p, e, R, s, m, args, below, meth, cd, Q⟩ := X
  obtain ⟨hx, hb, hr, hml, hown, hts, hlocks, hK, hrest⟩ := hC
  intro hsz H locs ls hP hS hl
  have hS' : va_S (hd_A G) s.heap H locs := hS
  have hstr : hd_str G s := hK.2.2.2.1
  refine va_gets (cc := cJ0_coder_7d493) (own := RJ0) (index := 38) (ref := RJ0) hx hb hstr.2.2.1 hS' hown (hts _ qs_cs) (fun x h => h) dJ_c0 ?_
  refine lv_if_eq (cc := cJ0_coder_7d493) (tgt := 13) hx hb dJ_c3 rfl (fun z => absurd z (by decide)) (fun _ => ?_)
  refine lv_aload_n (cc := cJ0_coder_7d493) (k := 0) (i := 0) hx hb dJ_c6 rfl (hd_has_at hl (v := .ref (5000 + j)) rfl) ?_
  refine vk_getf (cc := cJ0_coder_7d493) (own := RJ0) (ref := RJ0) hx hb (hstr.2.1.1 j hj).2.1 hS' hown (hts _ qs_co) (fun x h => h) dJ_c7 ?_
  refine lv_goto (cc := cJ0_coder_7d493) (tgt := 14) hx hb dJ_c10 rfl ?_
  exact fin 14 _ dJ_c14 hsz H locs ls hP hS hl
theorem dJ_l0 : decode cJ0_isLatin1_aae02 0 = .ok (.getstatic 38, 3) := by decide +kernel
theorem dJ_l3 : decode cJ0_isLatin1_aae02 3 = .ok (.ifCond .eq 14, 3) := by decide +kernel
theorem dJ_l6 : decode cJ0_isLatin1_aae02 6 = .ok (.aload_n 0, 1) := by decide +kernel
theorem dJ_l7 : decode cJ0_isLatin1_aae02 7 = .ok (.getfield 15, 3) := by decide +kernel
theorem dJ_l10 : decode cJ0_isLatin1_aae02 10 = .ok (.ifCond .ne 7, 3) := by decide +kernel
theorem dJ_l13 : decode cJ0_isLatin1_aae02 13 = .ok (.iconst 1, 1) := by decide +kernel
theorem dJ_l14 : decode cJ0_isLatin1_aae02 14 = .ok (.goto 4, 3) := by decide +kernel
theorem dJ_l18 : decode cJ0_isLatin1_aae02 18 = .ok (.ireturn, 1) := by decide +kernel
theorem sJ0_isLatin1 {G : hd_G} {σ : hd_M} {P : Int32 → hd_M → Prop} {sh : hd_S} {j : Nat} (hj : j < 15) (h : P 1 σ) : EVi G mJ0_isLatin1 sh [.ref (5000 + j)] σ P := by
  refine EVn_of (ty := .boolean) (x := 1) rfl rfl rfl rfl rfl rfl h (fun X hC fin => ?_)
  obtain ⟨p, e, R, s, m, args, below, meth, cd, Q⟩ := X
  obtain ⟨hx, hb, hr, hml, hown, hts, hlocks, hK, hrest⟩ := hC
  intro hsz H locs ls hP hS hl
  have hS' : va_S (hd_A G) s.heap H locs := hS
  have hstr : hd_str G s := hK.2.2.2.1
  refine va_gets (cc := cJ0_isLatin1_aae02) (own := RJ0) (index := 38) (ref := RJ0) hx hb hstr.2.2.1 hS' hown (hts _ qs_cs) (fun x h => h) dJ_l0 ?_
  refine lv_if_eq (cc := cJ0_isLatin1_aae02) (tgt := 17) hx hb dJ_l3 rfl (fun z => absurd z (by decide)) (fun _ => ?_)
  refine lv_aload_n (cc := cJ0_isLatin1_aae02) (k := 0) (i := 0) hx hb dJ_l6 rfl (hd_has_at hl (v := .ref (5000 + j)) rfl) ?_
  refine vk_getf (cc := cJ0_isLatin1_aae02) (own := RJ0) (ref := RJ0) hx hb (hstr.2.1.1 j hj).2.1 hS' hown (hts _ qs_co) (fun x h => h) dJ_l7 ?_
  refine lv_if_ne (cc := cJ0_isLatin1_aae02) (tgt := 17) hx hb dJ_l10 rfl (fun z => absurd rfl z) (fun _ => ?_)
  refine lv_iconst (cc := cJ0_isLatin1_aae02) (v := 1) hx hb dJ_l13 rfl ?_
  refine lv_goto (cc := cJ0_isLatin1_aae02) (tgt := 18) hx hb dJ_l14 rfl ?_
  exact fin 18 _ dJ_l18 hsz H locs ls hP hS hl
theorem dJ_n0 : decode cJ0_length_8abf5 0 = .ok (.aload_n 0, 1) := by decide +kernel
theorem dJ_n1 : decode cJ0_length_8abf5 1 = .ok (.getfield 9, 3) := by decide +kernel
theorem dJ_n4 : decode cJ0_length_8abf5 4 = .ok (.arraylength, 1) := by decide +kernel
theorem dJ_n5 : decode cJ0_length_8abf5 5 = .ok (.aload_n 0, 1) := by decide +kernel
theorem dJ_n6 : decode cJ0_length_8abf5 6 = .ok (.invokevirtual 335, 3) := by decide +kernel
theorem dJ_n9 : decode cJ0_length_8abf5 9 = .ok (.ishr, 1) := by decide +kernel
theorem dJ_n10 : decode cJ0_length_8abf5 10 = .ok (.ireturn, 1) := by decide +kernel
theorem qs_len : ∀ j, j < 15 → hd_sl.getD j 0 < 8 ∧ Int32.ofNat (hd_sl.getD j 0) >>> ((0 : Int32) &&& 31) = Int32.ofNat (hd_sl.getD j 0) := by decide +kernel
set_option maxRecDepth 100000 in
theorem qs_cal1 : hd_cal mJ0_length_8abf5 0 [(0, 0), (0, 0), (0, 1012)] mJ0_coder = true := by decide +kernel
theorem sJ0_length {G : hd_G} {σ : hd_M} {P : Int32 → hd_M → Prop} {sh : hd_S} {j : Nat} (hj : j < 15) (h : P (Int32.ofNat (hd_sl.getD j 0)) σ) : EVi G mJ0_length_8abf5 sh [.ref (5000 + j)] σ P := by
  refine EVn_of (ty := .int) (x := Int32.ofNat (hd_sl.getD j 0)) rfl rfl rfl rfl rfl rfl h (fun X hC fin => ?_)
  obtain ⟨p, e, R, s, m, args, below, meth, cd, Q⟩ := X
  have hC0 := hC
  obtain ⟨hx, hb, hr, hml, hown, hts, hlocks, hK, hrest⟩ := hC
  intro hsz H locs ls hP hS hl
  have hS' : va_S (hd_A G) s.heap H locs := hS
  have hstr : hd_str G s := hK.2.2.2.1
  refine lv_aload_n (cc := cJ0_length_8abf5) (k := 0) (i := 0) hx hb dJ_n0 rfl (hd_has_at hl (v := .ref (5000 + j)) rfl) ?_
  refine vk_getf (cc := cJ0_length_8abf5) (own := RJ0) (ref := RJ0) hx hb (hstr.2.1.1 j hj).2.2.1 hS' hown (hts _ qs_va) (fun x h => h) dJ_n1 ?_
  refine va_tlen (cc := cJ0_length_8abf5) hx hb (hstr.2.1.1 j hj).2.2.2 hS' rfl dJ_n4 ?_
  refine lv_aload_n (cc := cJ0_length_8abf5) (k := 0) (i := 0) hx hb dJ_n5 rfl (hd_has_at hl (v := .ref (5000 + j)) rfl) ?_
  refine hd_callT (mi := mJ0_length_8abf5) (ce := mJ0_coder) (idx := 335) (pc := 6) (n := 0) (q := 5000 + j) (as := []) (rest := [.int (Int32.ofNat (hd_sl.getD j 0))]) hC0 dJ_n6 qs_m1.1 qs_m1.2.1 qs_m1.2.2 rfl ⟨by omega, by omega⟩ qs_cal1 zJ0_coder ⟨Nat.le_refl _, Nat.le_refl _⟩ rfl (by show (1 : Nat) ≤ 8; decide) (sJ0_coder (P := fun x s => x = 0 ∧ s = σ) hj ⟨rfl, rfl⟩) (fun r sh' σ' hp => ?_) hsz H locs ls hP hS hl
  obtain ⟨rfl, x, rfl, rfl, rfl⟩ := hp
  intro hsz H locs ls hP hS hl
  refine lv_ishr (cc := cJ0_length_8abf5) hx hb dJ_n9 ?_
  have fin := fin 10 _ dJ_n10 hsz H locs ls hP hS hl
  rw [(qs_len j hj).2]
  exact fin
theorem dJ_p0 : decode cJ3_checkIndex_8e157 0 = .ok (.iload_n 0, 1) := by decide +kernel
theorem dJ_p1 : decode cJ3_checkIndex_8e157 1 = .ok (.ifCond .lt 8, 3) := by decide +kernel
theorem dJ_p4 : decode cJ3_checkIndex_8e157 4 = .ok (.iload_n 0, 1) := by decide +kernel
theorem dJ_p5 : decode cJ3_checkIndex_8e157 5 = .ok (.iload_n 1, 1) := by decide +kernel
theorem dJ_p6 : decode cJ3_checkIndex_8e157 6 = .ok (.if_icmp .lt 10, 3) := by decide +kernel
theorem dJ_p16 : decode cJ3_checkIndex_8e157 16 = .ok (.iload_n 0, 1) := by decide +kernel
theorem dJ_p17 : decode cJ3_checkIndex_8e157 17 = .ok (.ireturn, 1) := by decide +kernel
theorem sJ3_checkIndex {G : hd_G} {σ : hd_M} {P : Int32 → hd_M → Prop} {sh : hd_S} {x y : Int32} {v : Value} (hv : v = .null ∨ v = .ref 5300) (h0 : ¬ x < 0) (h1 : x < y) (h : P x σ) : EVi G mJ3_checkIndex sh [.int x, .int y, v] σ P := by
  refine EVn_of (ty := .int) (x := x) rfl (by rcases hv with rfl | rfl <;> rfl) rfl rfl rfl rfl h (fun X hC fin => ?_)
  obtain ⟨p, e, R, s, m, args, below, meth, cd, Q⟩ := X
  obtain ⟨hx, hb, hr, hml, hown, hts, hlocks, hK, hrest⟩ := hC
  intro hsz H locs ls hP hS hl
  refine lv_iload_n (cc := cJ3_checkIndex_8e157) (k := 0) (i := 0) hx hb dJ_p0 rfl (hd_has_at hl (v := .int x) rfl) ?_
  refine lv_if_lt (cc := cJ3_checkIndex_8e157) (tgt := 9) hx hb dJ_p1 rfl (fun z => absurd z h0) (fun _ => ?_)
  refine lv_iload_n (cc := cJ3_checkIndex_8e157) (k := 0) (i := 0) hx hb dJ_p4 rfl (hd_has_at hl (v := .int x) rfl) ?_
  refine lv_iload_n (cc := cJ3_checkIndex_8e157) (k := 1) (i := 1) hx hb dJ_p5 rfl (hd_has_at hl (v := .int y) rfl) ?_
  refine lv_icmp_lt (cc := cJ3_checkIndex_8e157) (tgt := 16) hx hb dJ_p6 rfl (fun _ => ?_) (fun z => absurd h1 z)
  refine lv_iload_n (cc := cJ3_checkIndex_8e157) (k := 0) (i := 0) hx hb dJ_p16 rfl (hd_has_at hl (v := .int x) rfl) ?_
  exact fin 17 _ dJ_p17 hsz H locs ls hP hS hl
theorem dJ_k0 : decode cJ0_checkIndex_df160 0 = .ok (.iload_n 0, 1) := by decide +kernel
theorem dJ_k1 : decode cJ0_checkIndex_df160 1 = .ok (.iload_n 1, 1) := by decide +kernel
theorem dJ_k2 : decode cJ0_checkIndex_df160 2 = .ok (.getstatic 1053, 3) := by decide +kernel
theorem dJ_k5 : decode cJ0_checkIndex_df160 5 = .ok (.invokestatic 1059, 3) := by decide +kernel
theorem dJ_k8 : decode cJ0_checkIndex_df160 8 = .ok (.pop, 1) := by decide +kernel
theorem dJ_k9 : decode cJ0_checkIndex_df160 9 = .ok (.return_, 1) := by decide +kernel
set_option maxRecDepth 100000 in
theorem qs_cal2 : hd_cal mJ0_checkIndex 3 [(0, 0), (0, 0), (0, 1014)] mJ3_checkIndex = true := by decide +kernel
theorem sJ0_checkIndex {G : hd_G} {σ : hd_M} {P : hd_M → Prop} {sh : hd_S} {x y : Int32} (h0 : ¬ x < 0) (h1 : x < y) (h : P σ) : EVv G mJ0_checkIndex sh [.int x, .int y] σ P := by
  refine EVv_of rfl rfl rfl rfl (fun X hX => ?_)
  obtain ⟨hC, hZ⟩ := hX
  obtain ⟨p, e, R, s, m, args, below, meth, cd, Q⟩ := X
  have hC0 := hC
  obtain ⟨hx, hb, hr, hml, hown, hts, hlocks, hK, hrest⟩ := hC
  intro hsz H locs ls hP hS hl
  have hS' : va_S (hd_A G) s.heap H locs := hS
  have hstr : hd_str G s := hK.2.2.2.1
  refine lv_iload_n (cc := cJ0_checkIndex_df160) (k := 0) (i := 0) hx hb dJ_k0 rfl (hd_has_at hl (v := .int x) rfl) ?_
  refine lv_iload_n (cc := cJ0_checkIndex_df160) (k := 1) (i := 1) hx hb dJ_k1 rfl (hd_has_at hl (v := .int y) rfl) ?_
  have call : ∀ v : Value, v = .null ∨ v = .ref 5300 → W p G.1 e R s m args below meth cd H locs 0 0 Q (F0 m 5 ls (([v, .int y, .int x] : List Value).map (hd_v (hd_ad G)))) := by
    intro v hv
    refine hd_callS (mi := mJ0_checkIndex) (ce := mJ3_checkIndex) (idx := 1059) (pc := 5) (n := 3) (as := [.int x, .int y, v]) (rest := []) hC0 dJ_k5 (Or.inl qs_m5.1) qs_m5.2 qs_cal2 zJ3_checkIndex ⟨Nat.le_refl _, Nat.le_refl _⟩ rfl (Nat.zero_le _) (sJ3_checkIndex (P := fun _ s => s = σ) hv h0 h1 rfl) (fun r sh' σ' hp => ?_) hsz H locs ls hP hS hl
    obtain ⟨rfl, x', rfl, rfl⟩ := hp
    intro hsz H locs ls hP hS hl
    refine lv_pop (cc := cJ0_checkIndex_df160) hx hb dJ_k8 rfl ?_
    exact hZ.2.2.2 σ' H locs ls 9 h hP hS dJ_k9
  rcases hstr.2.2.2 with q | q
  · exact va_gets (cc := cJ0_checkIndex_df160) (own := RJ0) (index := 1053) (ref := RJ3) hx hb q hS' hown (hts _ qs_sf) (fun x h => h) dJ_k2 (call .null (Or.inl rfl))
  · exact va_gets (cc := cJ0_checkIndex_df160) (own := RJ0) (index := 1053) (ref := RJ3) hx hb q hS' hown (hts _ qs_sf) (fun x h => h) dJ_k2 (call (.ref 5300) (Or.inr rfl))
theorem dJ_h0 : decode cJ1_charAt_3b067 0 = .ok (.iload_n 1, 1) := by decide +kernel
theorem dJ_h1 : decode cJ1_charAt_3b067 1 = .ok (.aload_n 0, 1) := by decide +kernel
theorem dJ_h2 : decode cJ1_charAt_3b067 2 = .ok (.arraylength, 1) := by decide +kernel
theorem dJ_h3 : decode cJ1_charAt_3b067 3 = .ok (.invokestatic 9, 3) := by decide +kernel
theorem dJ_h6 : decode cJ1_charAt_3b067 6 = .ok (.aload_n 0, 1) := by decide +kernel
theorem dJ_h7 : decode cJ1_charAt_3b067 7 = .ok (.iload_n 1, 1) := by decide +kernel
theorem dJ_h8 : decode cJ1_charAt_3b067 8 = .ok (.baload, 1) := by decide +kernel
theorem dJ_h9 : decode cJ1_charAt_3b067 9 = .ok (.sipush 255, 3) := by decide +kernel
theorem dJ_h12 : decode cJ1_charAt_3b067 12 = .ok (.iand, 1) := by decide +kernel
theorem dJ_h13 : decode cJ1_charAt_3b067 13 = .ok (.i2c, 1) := by decide +kernel
theorem dJ_h14 : decode cJ1_charAt_3b067 14 = .ok (.ireturn, 1) := by decide +kernel
theorem qs_ch : ∀ j, j < 15 → ∀ i, i < 8 → ((((hd_sb.getD j []).getD i 0) &&& 255 : Int32).toUInt32 % 65536).toInt32 = (hd_sb.getD j []).getD i 0 := by decide +kernel
theorem qs_nc : ∀ j, j < 15 → ∀ i, i < 8 → ∃ q : Nat, q < 65536 ∧ (hd_sb.getD j []).getD i 0 = nI q := by
  intro j hj i hi
  have := qs_ch j hj i hi
  rw [pk_char] at this
  exact ⟨_, Nat.mod_lt _ (by decide), this.symm⟩
set_option maxRecDepth 100000 in
theorem qs_cal3 : hd_cal mJ1_charAt 2 [(0, 0), (0, 0), (0, 1012)] mJ0_checkIndex = true := by decide +kernel
theorem sJ1_charAt {G : hd_G} {σ : hd_M} {P : Int32 → hd_M → Prop} {sh : hd_S} {j i : Nat} (hj : j < 15) (hi : i < hd_sl.getD j 0) (h : P ((hd_sb.getD j []).getD i 0) σ) : EVi G mJ1_charAt sh [.ref (5100 + j), .int (nI i)] σ P := by
  have hl8 := (qs_len j hj).1
  have nar : narrow .char (.int ((hd_sb.getD j []).getD i 0)) = .int ((hd_sb.getD j []).getD i 0) := by
    obtain ⟨q, h1, h2⟩ := qs_nc j hj i (by omega)
    rw [h2]
    exact (pk_charN h1).1
  refine EVn_of (ty := .char) (x := (hd_sb.getD j []).getD i 0) rfl rfl rfl rfl rfl nar h (fun X hC fin => ?_)
  obtain ⟨p, e, R, s, m, args, below, meth, cd, Q⟩ := X
  have hC0 := hC
  obtain ⟨hx, hb, hr, hml, hown, hts, hlocks, hK, hrest⟩ := hC
  intro hsz H locs ls hP hS hl
  have hS' : va_S (hd_A G) s.heap H locs := hS
  have hstr : hd_str G s := hK.2.2.2.1
  refine lv_iload_n (cc := cJ1_charAt_3b067) (k := 1) (i := 1) hx hb dJ_h0 rfl (hd_has_at hl (v := .int (nI i)) rfl) ?_
  refine lv_aload_n (cc := cJ1_charAt_3b067) (k := 0) (i := 0) hx hb dJ_h1 rfl (hd_has_at hl (v := .ref (5100 + j)) rfl) ?_
  refine va_tlen (cc := cJ1_charAt_3b067) hx hb (hstr.2.1.1 j hj).2.2.2 hS' rfl dJ_h2 ?_
  refine hd_callS (mi := mJ1_charAt) (ce := mJ0_checkIndex) (idx := 9) (pc := 3) (n := 2) (as := [.int (nI i), .int (Int32.ofNat (hd_sl.getD j 0))]) (rest := []) hC0 dJ_h3 (Or.inl qs_m4.1) qs_m4.2 qs_cal3 zJ0_checkIndex ⟨Nat.le_refl _, Nat.le_refl _⟩ rfl (Nat.zero_le _) (sJ0_checkIndex (P := fun s => s = σ) (nI_pos (by omega)) (nI_lt hi (by omega)) rfl) (fun r sh' σ' hp => ?_) hsz H locs ls hP hS hl
  obtain ⟨rfl, rfl, rfl⟩ := hp
  intro hsz H locs ls hP hS hl
  have hS' : va_S (hd_A G) s.heap H locs := hS
  refine lv_aload_n (cc := cJ1_charAt_3b067) (k := 0) (i := 0) hx hb dJ_h6 rfl (hd_has_at hl (v := .ref (5100 + j)) rfl) ?_
  refine lv_iload_n (cc := cJ1_charAt_3b067) (k := 1) (i := 1) hx hb dJ_h7 rfl (hd_has_at hl (v := .int (nI i)) rfl) ?_
  refine va_tb (cc := cJ1_charAt_3b067) hx hb (hstr.2.1.1 j hj).2.2.2 hS' (i := nI i) (vp_in_nI hi (by omega)) (v := .int ((hd_sb.getD j []).getD i 0)) (by rw [nI_clamp (by omega)]) dJ_h8 ?_
  refine lv_sipush (cc := cJ1_charAt_3b067) (v := 255) hx hb dJ_h9 rfl ?_
  refine lv_iand (cc := cJ1_charAt_3b067) hx hb dJ_h12 ?_
  refine lv_i2c (cc := cJ1_charAt_3b067) hx hb dJ_h13 (qs_ch j hj i (by omega)) ?_
  exact fin 14 _ dJ_h14 hsz H locs ls hP hS hl
theorem dJ_a0 : decode cJ0_charAt_5068e 0 = .ok (.aload_n 0, 1) := by decide +kernel
theorem dJ_a1 : decode cJ0_charAt_5068e 1 = .ok (.invokevirtual 492, 3) := by decide +kernel
theorem dJ_a4 : decode cJ0_charAt_5068e 4 = .ok (.ifCond .eq 12, 3) := by decide +kernel
theorem dJ_a7 : decode cJ0_charAt_5068e 7 = .ok (.aload_n 0, 1) := by decide +kernel
theorem dJ_a8 : decode cJ0_charAt_5068e 8 = .ok (.getfield 9, 3) := by decide +kernel
theorem dJ_a11 : decode cJ0_charAt_5068e 11 = .ok (.iload_n 1, 1) := by decide +kernel
theorem dJ_a12 : decode cJ0_charAt_5068e 12 = .ok (.invokestatic 495, 3) := by decide +kernel
theorem dJ_a15 : decode cJ0_charAt_5068e 15 = .ok (.ireturn, 1) := by decide +kernel
set_option maxRecDepth 100000 in
theorem qs_cal4 : hd_cal mJ0_charAt_5068e 0 [(0, 0), (0, 0), (0, 1012)] mJ0_isLatin1 = true := by decide +kernel
set_option maxRecDepth 100000 in
theorem qs_cal5 : hd_cal mJ0_charAt_5068e 2 [(0, 0), (0, 0), (0, 1013)] mJ1_charAt = true := by decide +kernel
theorem sJ0_charAt {G : hd_G} {σ : hd_M} {P : Int32 → hd_M → Prop} {sh : hd_S} {j i : Nat} (hj : j < 15) (hi : i < hd_sl.getD j 0) (h : P ((hd_sb.getD j []).getD i 0) σ) : EVi G mJ0_charAt_5068e sh [.ref (5000 + j), .int (nI i)] σ P := by
  have hl8 := (qs_len j hj).1
  have nar : narrow .char (.int ((hd_sb.getD j []).getD i 0)) = .int ((hd_sb.getD j []).getD i 0) := by
    obtain ⟨q, h1, h2⟩ := qs_nc j hj i (by omega)
    rw [h2]
    exact (pk_charN h1).1
  refine EVn_of (ty := .char) (x := (hd_sb.getD j []).getD i 0) rfl rfl rfl rfl rfl nar h (fun X hC fin => ?_)
  obtain ⟨p, e, R, s, m, args, below, meth, cd, Q⟩ := X
  have hC0 := hC
  obtain ⟨hx, hb, hr, hml, hown, hts, hlocks, hK, hrest⟩ := hC
  intro hsz H locs ls hP hS hl
  have hstr : hd_str G s := hK.2.2.2.1
  refine lv_aload_n (cc := cJ0_charAt_5068e) (k := 0) (i := 0) hx hb dJ_a0 rfl (hd_has_at hl (v := .ref (5000 + j)) rfl) ?_
  refine hd_callT (mi := mJ0_charAt_5068e) (ce := mJ0_isLatin1) (idx := 492) (pc := 1) (n := 0) (q := 5000 + j) (as := []) (rest := []) hC0 dJ_a1 qs_m2.1 qs_m2.2.1 qs_m2.2.2 rfl ⟨by omega, by omega⟩ qs_cal4 zJ0_isLatin1 ⟨Nat.le_refl _, Nat.le_refl _⟩ rfl (Nat.zero_le _) (sJ0_isLatin1 (P := fun x s => x = 1 ∧ s = σ) hj ⟨rfl, rfl⟩) (fun r sh' σ' hp => ?_) hsz H locs ls hP hS hl
  obtain ⟨rfl, x, rfl, rfl, rfl⟩ := hp
  intro hsz H locs ls hP hS hl
  have hS' : va_S (hd_A G) s.heap H locs := hS
  refine lv_if_eq (cc := cJ0_charAt_5068e) (tgt := 16) hx hb dJ_a4 rfl (fun z => absurd z (by decide)) (fun _ => ?_)
  refine lv_aload_n (cc := cJ0_charAt_5068e) (k := 0) (i := 0) hx hb dJ_a7 rfl (hd_has_at hl (v := .ref (5000 + j)) rfl) ?_
  refine vk_getf (cc := cJ0_charAt_5068e) (own := RJ0) (ref := RJ0) hx hb (hstr.2.1.1 j hj).2.2.1 hS' hown (hts _ qs_va) (fun x h => h) dJ_a8 ?_
  refine lv_iload_n (cc := cJ0_charAt_5068e) (k := 1) (i := 1) hx hb dJ_a11 rfl (hd_has_at hl (v := .int (nI i)) rfl) ?_
  refine hd_callS (mi := mJ0_charAt_5068e) (ce := mJ1_charAt) (idx := 495) (pc := 12) (n := 2) (as := [.ref (5100 + j), .int (nI i)]) (rest := []) hC0 dJ_a12 (Or.inl qs_m3.1) qs_m3.2 qs_cal5 zJ1_charAt ⟨Nat.le_refl _, Nat.le_refl _⟩ rfl (Nat.zero_le _) (sJ1_charAt (P := fun x s => x = (hd_sb.getD j []).getD i 0 ∧ s = σ') hj hi ⟨rfl, rfl⟩) (fun r sh' σ'' hp => ?_) hsz H locs ls hP hS hl
  obtain ⟨rfl, x, rfl, rfl, rfl⟩ := hp
  intro hsz H locs ls hP hS hl
  exact fin 15 _ dJ_a15 hsz H locs ls hP hS hl
