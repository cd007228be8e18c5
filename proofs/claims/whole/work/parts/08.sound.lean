/-- where a walk ends: what its last instruction asks -/
def hd_Zok (G : hd_G) (mi : hd_I) (X : hd_X) (Z : Option Value → hd_M → Prop) (sh : hd_S) (ks : Nat × Nat) : Prop :=
  (∀ (v : Int32) (σ : hd_M) (H : Heap) (locs : List Loc) (ls : Array Slot) (pc : Nat), hd_ret mi.2.2.2.1 v (Z (some (.int v)) σ) → hd_P G sh σ H → va_S (hd_A G) X.2.2.2.1.heap H locs → decode mi.2.1 pc = .ok (.ireturn, 1) → W X.1 G.1 X.2.1 X.2.2.1 X.2.2.2.1 X.2.2.2.2.1 X.2.2.2.2.2.1 X.2.2.2.2.2.2.1 X.2.2.2.2.2.2.2.1 X.2.2.2.2.2.2.2.2.1 H locs ks.1 ks.2 X.2.2.2.2.2.2.2.2.2 (F0 X.2.2.2.2.1 pc ls [.int v])) ∧
  (∀ (v : Int64) (σ : hd_M) (H : Heap) (locs : List Loc) (ls : Array Slot) (pc : Nat), hd_retl mi.2.2.2.1 (Z (some (.long v)) σ) → hd_P G sh σ H → va_S (hd_A G) X.2.2.2.1.heap H locs → decode mi.2.1 pc = .ok (.lreturn, 1) → W X.1 G.1 X.2.1 X.2.2.1 X.2.2.2.1 X.2.2.2.2.1 X.2.2.2.2.2.1 X.2.2.2.2.2.2.1 X.2.2.2.2.2.2.2.1 X.2.2.2.2.2.2.2.2.1 H locs ks.1 ks.2 X.2.2.2.2.2.2.2.2.2 (F0 X.2.2.2.2.1 pc ls [.long v])) ∧
  (∀ (v : Nat) (σ : hd_M) (H : Heap) (locs : List Loc) (ls : Array Slot) (pc : Nat), hd_reta mi.2.2.2.1 (Z (some (.ref v)) σ) → hd_P G sh σ H → va_S (hd_A G) X.2.2.2.1.heap H locs → decode mi.2.1 pc = .ok (.areturn, 1) → W X.1 G.1 X.2.1 X.2.2.1 X.2.2.2.1 X.2.2.2.2.1 X.2.2.2.2.2.1 X.2.2.2.2.2.2.1 X.2.2.2.2.2.2.2.1 X.2.2.2.2.2.2.2.2.1 H locs ks.1 ks.2 X.2.2.2.2.2.2.2.2.2 (F0 X.2.2.2.2.1 pc ls [.ref (hd_ad G v)])) ∧
  (∀ (σ : hd_M) (H : Heap) (locs : List Loc) (ls : Array Slot) (pc : Nat), hd_retv mi.2.2.2.1 (Z none σ) → hd_P G sh σ H → va_S (hd_A G) X.2.2.2.1.heap H locs → decode mi.2.1 pc = .ok (.return_, 1) → W X.1 G.1 X.2.1 X.2.2.1 X.2.2.2.1 X.2.2.2.2.1 X.2.2.2.2.2.1 X.2.2.2.2.2.2.1 X.2.2.2.2.2.2.2.1 X.2.2.2.2.2.2.2.2.1 H locs ks.1 ks.2 X.2.2.2.2.2.2.2.2.2 (F0 X.2.2.2.2.1 pc ls []))
theorem hd_sized {p : Program} {l : Launch} {e : Env} {R : Room} {s : State} {m : MethodId} {args : Array Value} {below : List Frame} {meth : Method} {c : Code} {H : Heap} {locs : List Loc} {cells slots : Nat} {Q : State → Prop} {g : JFrame} (k : H.size ≤ s.heap.size + cells → W p l e R s m args below meth c H locs cells slots Q g) : W p l e R s m args below meth c H locs cells slots Q g := by
  intro T hT X
  have h := X.same.2.2.1
  refine k ?_ T hT X
  rw [← hT]
  exact h
theorem hd_low {G : hd_G} {sh : hd_S} {σ : hd_M} {H : Heap} (hb : hd_b G ≤ H.size) (h : hd_P G sh σ H) : hd_b G + sh.length ≤ H.size := by
  by_cases hz : sh.length = 0
  · omega
  · have hl : sh.length - 1 < sh.length := by omega
    have h1 := (h.2 _ _ (hd_ws_at (G := G) (σ := σ) (List.getElem?_eq_getElem hl))).lt
    dsimp only at h1
    omega
section HDC
variable {p : Program} {l : Launch} {e : Env} {R : Room} {s : State} {m : MethodId} {args : Array Value} {below : List Frame} {meth : Method} {c : Code} {H : Heap} {locs : List Loc} {cells slots : Nat} {Q : State → Prop}
variable {pc : Nat} {ls : Array Slot} {rest st0 : List Value} {a : Array Value} {H0 : Heap} {mc ms : Nat}
/-- a call goes on -/
theorem hd_goes {G : hd_G} {n : Nat} {P : Option Value → hd_S → hd_M → Prop} (hr : va_Run p l e R s m args below meth c H locs cells slots mc ms (F0 m pc ls st0) rest (hd_Qc G n P a) (hd_A G)) (hS : va_S (hd_A G) H0 H locs)
    (kk : ∀ (r : Option Value) (sh : hd_S) (σ : hd_M) (H1 : Heap) (locs1 : List Loc), P r sh σ → hd_P G sh σ H1 → sh.length = n → va_S (hd_A G) H0 H1 locs1 → W p l e R s m args below meth c H1 locs1 (cells + mc) (slots + ms) Q (F0 m (pc + 3) ls ((r.map (hd_v (hd_ad G))).toList ++ rest))) : W p l e R s m args below meth c H locs cells slots Q (F0 m pc ls st0) := by
  intro T hT X
  obtain ⟨v, st₀, t, T', L, h0, X', hL, e1, e2, ⟨⟨r, sh, σ, hv, hp, hb, hn⟩, hz, hk⟩, st⟩ := hr T hT X
  cases hv
  rw [h0] at hz hk
  obtain ⟨t2, a1, b1⟩ := kk r sh σ T'.heap (locs ++ L) hp (by rw [e1]; exact hb) hn
    ⟨Nat.le_trans hS.1 (by rw [e1]; exact hz), fun q h1 h2 => by rw [e1, hk q (Nat.lt_of_lt_of_le h1 hS.1) h2]; exact hS.2.1 q h1 h2, fun q hq => by
      rcases List.mem_append.mp hq with h | h
      · exact hS.2.2 q h
      · exact hL q h⟩ T' rfl X'
  exact ⟨t2, st t2 a1, b1⟩
end HDC
theorem hd_K.warm {G : hd_G} {s U : State} (hW : s.WarmedH U.vm) (hl : ∀ q, q < s.heap.size → ¬ hd_A G q → U.heap[q]? = s.heap[q]?) (hz : hd_b G ≤ U.heap.size) (h : hd_K G s) : hd_K G U := by
  obtain ⟨h1, h2, h3, ⟨h4, h5, h6, h6q⟩, h7, h8⟩ := h
  refine ⟨va_K.moved hW.alike h1, fun w hw => ?_, va_AO.moved hW.alike h3, ⟨fun j hj => (h4 j hj).warm hW, ?_, ?_, ?_⟩, hz, h8⟩
  · have h9 := h2 w hw
    simp only [hd_nest, List.mem_cons, List.not_mem_nil, or_false] at hw
    rcases hw with rfl | rfl | rfl | rfl | rfl | rfl | rfl <;> exact va_Nw.warmM hW h9
  · exact (vk_S.moved hW.alike h5).kept hl
  · exact (va_Z.moved hW.alike h6).kept hl
  · rcases h6q with q | q
    · exact Or.inl ((va_Z.moved hW.alike q).kept hl)
    · exact Or.inr ((va_Z.moved hW.alike q).kept hl)
theorem hd_K.same {G : hd_G} {s U : State} (hv : U.vm = s.vm) (hh : U.heap = s.heap) (h : hd_K G s) : hd_K G U := by
  obtain ⟨h1, h2, h3, ⟨h4, h5, h6, h6q⟩, h7, h8⟩ := h
  have ha : s.vm.Alike U.vm := by rw [hv]; exact Vm.Alike.refl _
  refine ⟨va_K.moved ha h1, fun w hw => ?_, va_AO.moved ha h3, ⟨fun j hj => (h4 j hj).same hv, ?_, ?_, ?_⟩, by rw [hh]; exact h7, h8⟩
  · have h9 := h2 w hw
    simp only [hd_nest, List.mem_cons, List.not_mem_nil, or_false] at hw
    rcases hw with rfl | rfl | rfl | rfl | rfl | rfl | rfl <;> exact va_Nw.same rfl hv.symm h9
  · rw [hh]; exact vk_S.moved ha h5
  · rw [hh]; exact va_Z.moved ha h6
  · rw [hh]
    rcases h6q with q | q
    · exact Or.inl (va_Z.moved ha q)
    · exact Or.inr (va_Z.moved ha q)
theorem hd_good (mi : hd_I) (h : Cond.code mi.1 mi.2.1 mi.2.2.1 mi.2.2.2.1 ∈ lw_g) : GoodIn lw_g (hd_wm mi) := by
  intro w hw
  rcases List.mem_cons.mp hw with rfl | hw
  · exact ⟨h, good_of_word (List.mem_filter.mp h).2⟩
  · exact ⟨hw, good_of_word (List.mem_filter.mp hw).2⟩
/-- what a call asks, out of its row -/
theorem hd_cal_ok {mi : hd_I} {n : Nat} {sw : List (Int32 × Nat)} {ce : hd_I} (h : hd_cal mi n sw ce = true) : (ce.2.2.2.2.1 + 1 ≤ mi.2.2.2.2.1 ∧ 8 + (ce.2.2.1 + 11) + ce.2.2.2.2.2.1 ≤ mi.2.2.2.2.2.1) ∧ Cond.initialized ce.1.cls ∈ lw_g ∧ (ce.1.cls ≠ "java/lang/invoke/MethodHandle" ∧ ce.1.cls ≠ "java/lang/invoke/VarHandle" ∧ (parseMethodDescriptor ce.1.desc).map (fun d => d.parameters.length) = some n) := by
  obtain ⟨h, h5⟩ := hd_and h
  obtain ⟨h, h4⟩ := hd_and h
  obtain ⟨h1, h2⟩ := hd_and h
  exact ⟨⟨Nat.le_of_ble_eq_true h1, Nat.le_of_ble_eq_true h2⟩, hd_at_mem h4, of_decide_eq_true h5⟩
theorem hd_blind {G : hd_G} {sh : hd_S} {σ : hd_M} {as : List Value} : FrameBlind (va_Pc as (fun U => hd_K G U ∧ hd_P G sh σ U.heap ∧ U.heap.size = hd_b G + sh.length)) := fun a U g mk h => ⟨h.1, hd_K.same (s := U) (U := U.calling g mk a) rfl rfl h.2.1, h.2.2.1, h.2.2.2⟩
theorem hd_take_ok : ∀ {n : Nat} {acc st as rest : List Value}, hd_take n acc st = some (as, rest) → as.reverse ++ rest = acc.reverse ++ st ∧ as.length = n + acc.length
  | 0, acc, st, as, rest, h => by cases h; exact ⟨rfl, by omega⟩
  | n + 1, acc, v :: st, as, rest, h => by
    obtain ⟨h1, h2⟩ := hd_take_ok (n := n) h
    refine ⟨?_, by rw [h2, List.length_cons]; omega⟩
    rw [h1]
    simp
theorem hd_sum_eq (f : Nat → Nat) : ∀ st : List Value, ((st.map (hd_v f)).map fun v => v.category).sum = hd_sum st
  | [] => rfl
  | v :: st => by simp only [List.map_cons, List.sum_cons, hd_sum, hd_cat, hd_sum_eq f st]
theorem hd_ret_st (f : Nat → Nat) (r : Option Value) (rest : List Value) : (r.map (hd_v f)).toList ++ rest.map (hd_v f) = (r.toList ++ rest).map (hd_v f) := by cases r <;> simp
theorem hd_callS {G : hd_G} {mi ce : hd_I} {X : hd_X} {sh : hd_S} {ks : Nat × Nat} {idx pc n : Nat} {sw : List (Int32 × Nat)} {lv : hd_L} {as rest : List Value} {σ : hd_M} {P : Option Value → hd_S → hd_M → Prop} (hC : hd_C G mi X) (hd : decode mi.2.1 pc = .ok (.invokestatic idx, 3)) (hlk : Cond.methodLink mi.1.cls idx ce.1 ∈ lw_g ∨ Cond.methodLinkNest mi.1.cls idx ce.1 "HiddenDrawers" ∈ hd_nest) (hst : Cond.static ce.1 ∈ lw_g) (hc : hd_cal mi n sw ce = true) (hcode : hd_cdc ce) (hcm : ks.1 + ce.2.2.2.2.2.2.1 ≤ mi.2.2.2.2.2.2.1 ∧ ks.2 + ce.2.2.2.2.2.2.2 ≤ mi.2.2.2.2.2.2.2) (hn : as.length = n) (hsum : hd_sum rest ≤ 8) (hE : hd_EV G ce sh as σ P)
    (kk : ∀ r sh' σ', P r sh' σ' → hd_J G mi X sh' (ks.1 + ce.2.2.2.2.2.2.1, ks.2 + ce.2.2.2.2.2.2.2) (pc + 3) lv (r.toList ++ rest) σ') : hd_J G mi X sh ks pc lv (as.reverse ++ rest) σ := by
  obtain ⟨p, e, R, s, m, args, below, meth, cd, Q⟩ := X
  obtain ⟨hx, hb, hr, hml, hown, hts, hlocks, hK, hname, hfr, hlo, hrc, hrs⟩ := hC
  dsimp only at hx hb hr hml hown hts hlocks hK hname hfr hlo hrc hrs
  obtain ⟨hR, hini, hcd⟩ := hd_cal_ok hc
  intro hsz H locs ls hP hS hl
  dsimp only at hsz hS
  refine hd_sized fun hz => ?_
  have hlow := hd_low (Nat.le_trans hK.2.2.2.2.1 hS.1) hP
  have hsize : H.size = hd_b G + sh.length := by dsimp only at hz; omega
  have hpre : PreS s H (va_Pc (as.map (hd_v (hd_ad G))) (fun U => hd_K G U ∧ hd_P G sh σ U.heap ∧ U.heap.size = hd_b G + sh.length)) (as.map (hd_v (hd_ad G))) :=
    ⟨hd_blind, fun U hU hW => ⟨rfl, hd_K.warm hW (fun q h1 h2 => by rw [hU]; exact hS.2.1 q h1 h2) (by rw [hU]; omega) hK, by rw [hU]; exact hP, by rw [hU]; exact hsize⟩⟩
  have hrooms : (hd_rm ce).frames + 1 ≤ R.frames ∧ 8 + (ce.2.2.1 + 11) + (hd_rm ce).locals ≤ R.locals := ⟨Nat.le_trans hR.1 hfr, Nat.le_trans hR.2 hlo⟩
  have hst' : (as.reverse ++ rest).map (hd_v (hd_ad G)) = (as.map (hd_v (hd_ad G))).reverse ++ rest.map (hd_v (hd_ad G)) := by simp
  rw [hst']
  have hfit : ks.1 + ce.2.2.2.2.2.2.1 ≤ R.cells ∧ ks.2 + ce.2.2.2.2.2.2.2 ≤ R.slots := by rw [hrc, hrs]; exact hcm
  have hroom8 : 2 * (F0 m pc ls ((as.map (hd_v (hd_ad G))).reverse ++ rest.map (hd_v (hd_ad G)))).monitorRoom + ((rest.map (hd_v (hd_ad G))).map fun v => v.category).sum ≤ 8 := lv_room (by rw [hd_sum_eq]; exact hsum)
  have hlen : (as.map (hd_v (hd_ad G))).length = n := by rw [List.length_map]; exact hn
  have fin : ∀ (r : Option Value) (sh' : hd_S) (σ' : hd_M) (H1 : Heap) (locs1 : List Loc), P r sh' σ' → hd_P G sh' σ' H1 → sh'.length = sh.length + ce.2.2.2.2.2.2.1 → va_S (hd_A G) s.heap H1 locs1 → W p G.1 e R s m args below meth cd H1 locs1 (ks.1 + ce.2.2.2.2.2.2.1) (ks.2 + ce.2.2.2.2.2.2.2) Q (F0 m (pc + 3) ls ((r.map (hd_v (hd_ad G))).toList ++ rest.map (hd_v (hd_ad G)))) := by
    intro r sh' σ' H1 locs1 hp hP1 hln hS1
    rw [hd_ret_st]
    exact kk r sh' σ' hp (by dsimp only; omega) H1 locs1 ls hP1 hS1 hl
  rcases hlk with hlk | hlk
  · exact hd_goes (va_runS (own := mi.1.cls) (index := idx) (y := ce.1) (bytes := ce.2.1) (maxL := ce.2.2.1) (ret := ce.2.2.2.1) (ws := hd_wm ce) (rm := hd_rm ce) (n := n) (Ts := lw_g) (nL := mi.2.2.1) ⟨hx, hb, hml, hown, hts⟩ hE ⟨callB_of n hts (hd_good ce hcode) rfl rfl rfl (hts _ hini) (hts _ hlk) hcd hrooms, hts _ hst⟩ hpre rfl hlen hl.1 rfl hroom8 hd hfit) hS fin
  · exact hd_goes (va_runSN (own := mi.1.cls) (host := "HiddenDrawers") (index := idx) (y := ce.1) (bytes := ce.2.1) (maxL := ce.2.2.1) (ret := ce.2.2.2.1) (ws := hd_wm ce) (rm := hd_rm ce) (n := n) (Ts := lw_g) (nL := mi.2.2.1) ⟨hx, hb, hml, hown, hts⟩ hE ⟨va_cnB n hts (hd_good ce hcode) rfl rfl rfl (hK.2.1 _ hlk) (hts _ hini) hcd hrooms, hts _ hst, trivial⟩ hpre rfl hlen hl.1 rfl hroom8 hd hfit) hS fin
theorem hd_callV {G : hd_G} {mi ce : hd_I} {X : hd_X} {sh : hd_S} {ks : Nat × Nat} {idx pc n q ci n0 : Nat} {rs : List Nat} {sw : List (Int32 × Nat)} {lv : hd_L} {as rest : List Value} {σ : hd_M} {P : Option Value → hd_S → hd_M → Prop} {cq : vw_C} (hC : hd_C G mi X) (hd : decode mi.2.1 pc = .ok (.invokevirtual idx, 3)) (hlk : Cond.methodLink mi.1.cls idx ce.1 ∈ lw_g) (hin : Cond.instanceMethod ce.1 ∈ lw_g) (hsel : Cond.selects ce.1.cls ce.1 ce.1 ∈ lw_g) (hcq : vwCl[ci]? = some cq) (hcn : cq.1 = ce.1.cls) (hq : sh[q]? = some (10 + ci, n0, rs)) (hc : hd_cal mi n sw ce = true) (hcode : hd_cdc ce) (hcm : ks.1 + ce.2.2.2.2.2.2.1 ≤ mi.2.2.2.2.2.2.1 ∧ ks.2 + ce.2.2.2.2.2.2.2 ≤ mi.2.2.2.2.2.2.2) (hn : as.length = n) (hsum : hd_sum rest ≤ 8) (hE : hd_EV G ce sh (.ref q :: as) σ P)
    (kk : ∀ r sh' σ', P r sh' σ' → hd_J G mi X sh' (ks.1 + ce.2.2.2.2.2.2.1, ks.2 + ce.2.2.2.2.2.2.2) (pc + 3) lv (r.toList ++ rest) σ') : hd_J G mi X sh ks pc lv (as.reverse ++ .ref q :: rest) σ := by
  obtain ⟨p, e, R, s, m, args, below, meth, cd, Q⟩ := X
  obtain ⟨hx, hb, hr, hml, hown, hts, hlocks, hK, hname, hfr, hlo, hrc, hrs⟩ := hC
  dsimp only at hx hb hr hml hown hts hlocks hK hname hfr hlo hrc hrs
  obtain ⟨hR, hini, hcd⟩ := hd_cal_ok hc
  intro hsz H locs ls hP hS hl
  dsimp only at hsz hS
  refine hd_sized fun hz => ?_
  have hlow := hd_low (Nat.le_trans hK.2.2.2.2.1 hS.1) hP
  have hsize : H.size = hd_b G + sh.length := by dsimp only at hz; omega
  have hrecv := va_recv hK.1 hP.2 hcq (by rw [hd_ws_at hq, hd_E_obj])
  rw [hcn, ← hd_adq hK hP hq] at hrecv
  have hpre : PreV s H ce.1.cls (hd_ad G q) (va_Pc ((Value.ref q :: as).map (hd_v (hd_ad G))) (fun U => hd_K G U ∧ hd_P G sh σ U.heap ∧ U.heap.size = hd_b G + sh.length)) (as.map (hd_v (hd_ad G))) :=
    ⟨hd_blind, hrecv, fun U hU hW => ⟨rfl, hd_K.warm hW (fun q h1 h2 => by rw [hU]; exact hS.2.1 q h1 h2) (by rw [hU]; omega) hK, by rw [hU]; exact hP, by rw [hU]; exact hsize⟩⟩
  have hrooms : (hd_rm ce).frames + 1 ≤ R.frames ∧ 8 + (ce.2.2.1 + 11) + (hd_rm ce).locals ≤ R.locals := ⟨Nat.le_trans hR.1 hfr, Nat.le_trans hR.2 hlo⟩
  have hst' : (as.reverse ++ Value.ref q :: rest).map (hd_v (hd_ad G)) = (as.map (hd_v (hd_ad G))).reverse ++ .ref (hd_ad G q) :: rest.map (hd_v (hd_ad G)) := by simp [hd_v]
  rw [hst']
  have hfit : ks.1 + ce.2.2.2.2.2.2.1 ≤ R.cells ∧ ks.2 + ce.2.2.2.2.2.2.2 ≤ R.slots := by rw [hrc, hrs]; exact hcm
  have hlen : (as.map (hd_v (hd_ad G))).length = n := by rw [List.length_map]; exact hn
  have fin : ∀ (r : Option Value) (sh' : hd_S) (σ' : hd_M) (H1 : Heap) (locs1 : List Loc), P r sh' σ' → hd_P G sh' σ' H1 → sh'.length = sh.length + ce.2.2.2.2.2.2.1 → va_S (hd_A G) s.heap H1 locs1 → W p G.1 e R s m args below meth cd H1 locs1 (ks.1 + ce.2.2.2.2.2.2.1) (ks.2 + ce.2.2.2.2.2.2.2) Q (F0 m (pc + 3) ls ((r.map (hd_v (hd_ad G))).toList ++ rest.map (hd_v (hd_ad G)))) := by
    intro r sh' σ' H1 locs1 hp hP1 hln hS1
    rw [hd_ret_st]
    exact kk r sh' σ' hp (by dsimp only; omega) H1 locs1 ls hP1 hS1 hl
  exact hd_goes (va_runV (own := mi.1.cls) (C := ce.1.cls) (index := idx) (y := ce.1) (bytes := ce.2.1) (maxL := ce.2.2.1) (ret := ce.2.2.2.1) (ws := hd_wm ce) (rm := hd_rm ce) (n := n) (Ts := lw_g) (nL := mi.2.2.1) ⟨hx, hb, hml, hown, hts⟩ hE ⟨callB_of n hts (hd_good ce hcode) rfl rfl rfl (hts _ hini) (hts _ hlk) hcd hrooms, hts _ hin, hts _ hsel⟩ hpre rfl hlen hl.1 rfl (lv_room (by rw [hd_sum_eq]; exact hsum)) hd hfit) hS fin
theorem hd_callT {G : hd_G} {mi ce : hd_I} {X : hd_X} {sh : hd_S} {ks : Nat × Nat} {idx pc n q : Nat} {sw : List (Int32 × Nat)} {lv : hd_L} {as rest : List Value} {σ : hd_M} {P : Option Value → hd_S → hd_M → Prop} (hC : hd_C G mi X) (hd : decode mi.2.1 pc = .ok (.invokevirtual idx, 3)) (hlk : Cond.methodLink mi.1.cls idx ce.1 ∈ lw_g) (hin : Cond.instanceMethod ce.1 ∈ lw_g) (hsel : Cond.selects ce.1.cls ce.1 ce.1 ∈ lw_g) (hcn : ce.1.cls = "java/lang/String") (hq : 5000 ≤ q ∧ q < 5015) (hc : hd_cal mi n sw ce = true) (hcode : hd_cdc ce) (hcm : ks.1 + ce.2.2.2.2.2.2.1 ≤ mi.2.2.2.2.2.2.1 ∧ ks.2 + ce.2.2.2.2.2.2.2 ≤ mi.2.2.2.2.2.2.2) (hn : as.length = n) (hsum : hd_sum rest ≤ 8) (hE : hd_EV G ce sh (.ref q :: as) σ P)
    (kk : ∀ r sh' σ', P r sh' σ' → hd_J G mi X sh' (ks.1 + ce.2.2.2.2.2.2.1, ks.2 + ce.2.2.2.2.2.2.2) (pc + 3) lv (r.toList ++ rest) σ') : hd_J G mi X sh ks pc lv (as.reverse ++ .ref q :: rest) σ := by
  obtain ⟨p, e, R, s, m, args, below, meth, cd, Q⟩ := X
  obtain ⟨hx, hb, hr, hml, hown, hts, hlocks, hK, hname, hfr, hlo, hrc, hrs⟩ := hC
  dsimp only at hx hb hr hml hown hts hlocks hK hname hfr hlo hrc hrs
  obtain ⟨hR, hini, hcd⟩ := hd_cal_ok hc
  intro hsz H locs ls hP hS hl
  dsimp only at hsz hS
  refine hd_sized fun hz => ?_
  have hlow := hd_low (Nat.le_trans hK.2.2.2.2.1 hS.1) hP
  have hsize : H.size = hd_b G + sh.length := by dsimp only at hz; omega
  have hrecv := vk_recv (i := q - 5000) hK.2.2.2.1.2.1 (by omega) hS
  have hq5 : 5000 + (q - 5000) = q := by omega
  rw [hq5, ← hcn] at hrecv
  have hpre : PreV s H ce.1.cls (hd_ad G q) (va_Pc ((Value.ref q :: as).map (hd_v (hd_ad G))) (fun U => hd_K G U ∧ hd_P G sh σ U.heap ∧ U.heap.size = hd_b G + sh.length)) (as.map (hd_v (hd_ad G))) :=
    ⟨hd_blind, hrecv, fun U hU hW => ⟨rfl, hd_K.warm hW (fun q h1 h2 => by rw [hU]; exact hS.2.1 q h1 h2) (by rw [hU]; omega) hK, by rw [hU]; exact hP, by rw [hU]; exact hsize⟩⟩
  have hrooms : (hd_rm ce).frames + 1 ≤ R.frames ∧ 8 + (ce.2.2.1 + 11) + (hd_rm ce).locals ≤ R.locals := ⟨Nat.le_trans hR.1 hfr, Nat.le_trans hR.2 hlo⟩
  have hst' : (as.reverse ++ Value.ref q :: rest).map (hd_v (hd_ad G)) = (as.map (hd_v (hd_ad G))).reverse ++ .ref (hd_ad G q) :: rest.map (hd_v (hd_ad G)) := by simp [hd_v]
  rw [hst']
  have hfit : ks.1 + ce.2.2.2.2.2.2.1 ≤ R.cells ∧ ks.2 + ce.2.2.2.2.2.2.2 ≤ R.slots := by rw [hrc, hrs]; exact hcm
  have hlen : (as.map (hd_v (hd_ad G))).length = n := by rw [List.length_map]; exact hn
  have fin : ∀ (r : Option Value) (sh' : hd_S) (σ' : hd_M) (H1 : Heap) (locs1 : List Loc), P r sh' σ' → hd_P G sh' σ' H1 → sh'.length = sh.length + ce.2.2.2.2.2.2.1 → va_S (hd_A G) s.heap H1 locs1 → W p G.1 e R s m args below meth cd H1 locs1 (ks.1 + ce.2.2.2.2.2.2.1) (ks.2 + ce.2.2.2.2.2.2.2) Q (F0 m (pc + 3) ls ((r.map (hd_v (hd_ad G))).toList ++ rest.map (hd_v (hd_ad G)))) := by
    intro r sh' σ' H1 locs1 hp hP1 hln hS1
    rw [hd_ret_st]
    exact kk r sh' σ' hp (by dsimp only; omega) H1 locs1 ls hP1 hS1 hl
  exact hd_goes (va_runV (own := mi.1.cls) (C := ce.1.cls) (index := idx) (y := ce.1) (bytes := ce.2.1) (maxL := ce.2.2.1) (ret := ce.2.2.2.1) (ws := hd_wm ce) (rm := hd_rm ce) (n := n) (Ts := lw_g) (nL := mi.2.2.1) ⟨hx, hb, hml, hown, hts⟩ hE ⟨callB_of n hts (hd_good ce hcode) rfl rfl rfl (hts _ hini) (hts _ hlk) hcd hrooms, hts _ hin, hts _ hsel⟩ hpre rfl hlen hl.1 rfl (lv_room (by rw [hd_sum_eq]; exact hsum)) hd hfit) hS fin
