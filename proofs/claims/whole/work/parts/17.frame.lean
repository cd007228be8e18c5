/-! THE CLAIM OUT OF ONE WALK OF THE LAW'S BODY. Your part is whole_start (and what it stands on); all else here is the same for every law, but numbers. -/
def R_law : String := "HiddenDrawersLaw"
def lw_P (b : Addr) (xs : List Int32) (args : Array Value) (s : State) : Prop := args = #[.ref b] ∧ s.IntsAt b xs ∧ xs.length ≤ 3072 ∧ (Jvm.Cond.and given_1 narrow_1).before args s = true
def lw_Q (_ : Array Value) (s : State) (o : Outcome) (t : State) : Prop := o = .returned (some (.int 1)) ∧ Framed s o t [] 600000 7302250
def lw_Z (below : List Frame) (a : Array Value) (s : State) : State → Prop := fun t => ∃ o, t.status = .running ∧ Ended t below o ∧ lw_Q a s o t
/-- the law's own end, with 1 on the stack, nothing written that was there before, its room as the claim has it -/
theorem lw_ret {p : Program} {l : Launch} {e : Env} {s : State} {m : MethodId} {below : List Frame} {meth : Method} {c : Code} {b : Nat} (hx : p.tables.exec = Jvm.exec) (hb : c.code = code) (hr : meth.sig.returnType = ret) (hlocks : meth.locks = false) {pc : Nat} {H : Heap} {ls : Array Slot} (hdg : decode code pc = .ok (.ireturn, 1)) : W p l e room_1 s m #[Value.ref b] below meth c H [] 600000 7302250 (lw_Z below #[Value.ref b] s) (F0 m pc ls [.int 1]) := by
  intro T hT X
  obtain ⟨fs, hret, hrun, hended, hW, hframe⟩ := X.leave (v := some (.int 1)) (hlocks := hlocks) (fun h => by rw [hr] at h; cases h)
  have hmeth' : T.vm.method? m = some meth := X.method'
  refine ⟨T.setFrames fs, ?_, .returned (some (.int 1)), hrun, hended, rfl, ⟨_, rfl⟩, hW, hframe⟩
  jvm_step X.here [X.here.top, hx, hb, hdg, hmeth', hr, ret, narrow_b1]
  (try refine ⟨rfl, ?_⟩); (try refine ⟨rfl, ?_⟩)
  first | (intro acts; rw [hret _ acts rfl rfl rfl]) | rw [hret _ _ rfl rfl rfl]
  exact Steps.refl _
/-- what holds at the law's entry: the machine, the code, the tables' words (any of lw_tbl by 'hts w (by decide +kernel)'), the script of L ints xs at the cell b, what the Statement gives of the start (any of its parts by flat_of_before) -/
def lw_At (p : Program) (s : State) (m : MethodId) (meth : Method) (c : Code) (b L : Nat) (xs : Nat → Int32) : Prop :=
  p.tables.exec = Jvm.exec ∧ c.code = code ∧ meth.sig.returnType = ret ∧ c.maxLocals = 4 ∧ s.vm.findClass R_law = some m.cls ∧ (∀ w ∈ lw_tbl, w.before #[Value.ref b] s = true) ∧ va_X b L xs s s.heap ∧ b < s.heap.size ∧ meth.locks = false ∧ (Jvm.Cond.and given_1 narrow_1).before #[Value.ref b] s = true ∧ meth.name = "law"
def hd_Zw : hd_S → Nat × Nat → Option Value → hd_M → Prop := fun _ ks r _ => r = some (.int 1) ∧ ks.1 ≤ 600000 ∧ ks.2 ≤ 7302250
/-- the law's body, out of the abstract walk from its entry -/
theorem hd_law_enter {p : Program} {e : Env} {s : State} {m : MethodId} {below : List Frame} {meth : Method} {c : Code} (l : Launch) {b L : Nat} {xs : Nat → Int32} (C0 : lw_At p s m meth c b L xs) (hrun : ∀ (G : hd_G) (X : hd_X), hd_CA G mL X hd_Zw → hd_scr G X L xs → ∀ σ, hd_J G mL X hs35 (0, 0) 0 [(0, .ref 6000)] [] σ) : W p l e room_1 s m #[Value.ref b] below meth c s.heap [] 0 0 (lw_Z below #[Value.ref b] s) (entryFrame m ([Value.ref b] : List Value).toArray 4) := by
  obtain ⟨hx, hb, hr, hml, hown, hts, hX, hbl, hlocks, hgv, hname⟩ := C0
  obtain ⟨G, hG1, hG2, hG3, hK⟩ := hd_start (l := l) hts hgv b
  subst hG1
  have hbs : hd_b G = s.heap.size := by unfold hd_b; rw [hG2]
  have hA : ∀ q, hd_A G q ↔ s.heap.size ≤ q := fun q => by unfold hd_A; rw [hbs]
  have hC : hd_C G mL (p, e, room_1, s, m, #[Value.ref b], below, meth, c, lw_Z below #[Value.ref b] s) :=
    ⟨hx, hb, hr, hml, hown, fun w hw => hts w (hd_g_tbl hw), hlocks, hK, hname, Nat.le_refl _, Nat.le_refl _, rfl, rfl⟩
  have hZ : ∀ sh ks, hd_Zok G mL (p, e, room_1, s, m, #[Value.ref b], below, meth, c, lw_Z below #[Value.ref b] s) (hd_Zw sh ks) sh ks := by
    intro sh ks
    refine ⟨fun v σ H locs ls pc h hP hS hd => ?_, fun v σ H locs ls pc h hP hS hd => h.elim, fun v σ H locs ls pc h hP hS hd => h.elim, fun σ H locs ls pc h hP hS hd => h.elim⟩
    obtain ⟨-, h1, h2, h3⟩ := h
    cases h1
    refine va_forget (fun q hq => (hA _).mp (hS.2.2 q hq)) ?_
    refine W.widen h2 h3 ?_
    exact lw_ret hx hb hr hlocks hd
  have hs : hd_scr G (p, e, room_1, s, m, #[Value.ref b], below, meth, c, lw_Z below #[Value.ref b] s) L xs := by
    refine ⟨?_, ?_, ?_⟩
    · rw [hG3]; exact hX
    · rw [hG3]; exact hbl
    · rw [hG3, hA]; exact Nat.not_le.mpr hbl
  have hl := lv_entry (([Value.ref 6000] : List Value).map (hd_v (hd_ad G))) (n := 4) (by rw [hd_al2_eq]; decide)
  rw [hd_ar_eq] at hl
  have hl' : ([Value.ref b] : List Value) = ([Value.ref 6000] : List Value).map (hd_v (hd_ad G)) := by
    show [Value.ref b] = [Value.ref (hd_ad G 6000)]
    rw [hG3]
  rw [lg_entry_eq]
  have hP0 : hd_P G hs35 (fun _ _ => 0, fun _ _ => 0) s.heap := ⟨Nat.zero_le _, fun k q h => by simp [hd_ws, hs35] at h⟩
  have := hrun G _ ⟨hC, hZ⟩ hs (fun _ _ => 0, fun _ _ => 0) (by show s.heap.size + 0 = hd_b G + 0; rw [hbs]) s.heap [] _ hP0 va_S.rf hl
  rw [← hl'] at this
  exact this
