/-! The abstract machine: a world of numbered cells (a shape, and what the cells hold as functions), values with cell numbers in the place of addresses. -/
abbrev hd_Ins : Type := Jvm.ClassFile.Instr
/-- launch, classes, array classes, the state at the law's entry, the addresses -/
abbrev hd_G : Type := Launch × va_G × (Nat → ClassId) × State × (Nat → Nat)
/-- what the cells hold: ints (also the four references that change: the cell's number, 0 for null), longs -/
abbrev hd_M : Type := (Nat → Nat → Int32) × (Nat → Nat → Int64)
/-- a cell's kind (0 int[], 1 byte[], 2 boolean[], 3 long[], 4 Law[], 10 + c an object of class c), its length, its references that stay (0: null) -/
abbrev hd_S : Type := List (Nat × Nat × List Nat)
/-- a method: name, code, locals, return type, frames, locals' room, cells and slots that it makes -/
abbrev hd_I : Type := MethodName × ByteArray × Nat × Option FieldType × Nat × Nat × Nat × Nat
/-- where a method's walk stands -/
abbrev hd_X : Type := Program × Env × Room × State × MethodId × Array Value × List Frame × Method × Code × (State → Prop)
/-- an instruction: pc, instruction, length, two numbers, an int, a long, a switch's table, a callee -/
abbrev hd_R : Type := Nat × hd_Ins × Nat × Nat × Nat × Int32 × Int64 × List (Int32 × Nat) × hd_I
abbrev hd_L : Type := List (Nat × Value)
def hd_b (G : hd_G) : Nat := G.2.2.2.1.heap.size
def hd_ad (G : hd_G) : Nat → Nat := G.2.2.2.2
def hd_A (G : hd_G) : Nat → Prop := fun q => hd_b G ≤ q
def hd_tys (G : hd_G) : List (ClassId × FieldType) := [(G.2.2.1 0, .int), (G.2.2.1 1, .byte), (G.2.2.1 2, .boolean), (G.2.2.1 3, .long), (G.2.2.1 4, .object "HiddenDrawers$Law")]
def hd_v (ad : Nat → Nat) : Value → Value
  | .ref k => .ref (ad k)
  | v => v
def hd_lm (f : Nat → Nat) (lv : hd_L) : hd_L := lv.map (fun q => (q.1, hd_v f q.2))
def hd_ft (ci k : Nat) : FieldType := match ci with
  | 0 => tyX0 k
  | 1 => tyX1 k
  | 2 => tyX2 k
  | 3 => tyX3 k
  | 4 => tyX4 k
  | 5 => tyX5 k
  | 6 => tyX6 k
  | 7 => tyX7 k
  | _ => tyX8 k
/-- the reference fields that change -/
def hd_mut (ci k : Nat) : Bool := (Nat.beq ci 3 && Nat.beq k 1) || (Nat.beq ci 5 && (Nat.beq k 7 || Nat.beq k 8)) || (Nat.beq ci 6 && Nat.beq k 5)
/-- a field's kind: 0 int, 1 long, 2 a reference that stays, 3 one that changes, 4 boolean -/
def hd_fk (ci k : Nat) : Nat := match hd_ft ci k with
  | .long => 1
  | .boolean => 4
  | .object _ => bif hd_mut ci k then 3 else 2
  | .array _ => bif hd_mut ci k then 3 else 2
  | .int => 0
  | _ => 9
def hd_rv (f : Nat → Nat) (n : Nat) : Value := bif Nat.beq n 0 then .null else .ref (f n)
def hd_ro (f : Nat → Nat) (n : Nat) : Option Nat := bif Nat.beq n 0 then none else some (f n)
/-- a field's value, references by f -/
def hd_fv (f : Nat → Nat) (σ : hd_M) (q : Nat) (rs : List Nat) (ci k : Nat) : Value := match hd_fk ci k with
  | 1 => .long (σ.2 q k)
  | 2 => hd_rv f (rs.getD k 0)
  | 3 => hd_rv f (σ.1 q k).toNatClampNeg
  | _ => .int (σ.1 q k)
def hd_N (ci : Nat) : Nat := match vwCl[ci]? with
  | some r => r.2.2
  | none => 0
def hd_E (G : hd_G) (σ : hd_M) (q : Nat) (s : Nat × Nat × List Nat) : va_E := match s.1 with
  | 0 => .inl (G.2.2.1 0, s.2.1, .inl (σ.1 q))
  | 1 => .inl (G.2.2.1 1, s.2.1, .inl (σ.1 q))
  | 2 => .inl (G.2.2.1 2, s.2.1, .inl (σ.1 q))
  | 3 => .inl (G.2.2.1 3, s.2.1, .inr (.inl (σ.2 q)))
  | 4 => .inl (G.2.2.1 4, s.2.1, .inr (.inr (.inr (.inr (fun i => hd_ro (hd_ad G) (s.2.2.getD i 0))))))
  | k => .inr (k - 10, (List.range (hd_N (k - 10))).map (fun j => hd_fv (hd_ad G) σ q s.2.2 (k - 10) j))
def hd_ws (G : hd_G) (sh : hd_S) (σ : hd_M) : va_W := (List.range sh.length).map (fun k => (hd_b G + k, hd_E G σ k (sh.getD k (0, 0, []))))
def hd_P (G : hd_G) (sh : hd_S) (σ : hd_M) (H : Heap) : Prop := sh.length ≤ 5000 ∧ va_P G.2.1 vwCl (hd_ws G sh σ) H
def hd_nest : List Cond := [.methodLinkNest "HiddenDrawers" 22 ⟨"HiddenDrawers$Desk", "<init>", "()V"⟩ "HiddenDrawers", .methodLinkNest "HiddenDrawers" 43 ⟨"HiddenDrawers$Reader", "<init>", "()V"⟩ "HiddenDrawers", .methodLinkNest "HiddenDrawers$Reader" 11 ⟨"HiddenDrawers$Tokens", "<init>", "()V"⟩ "HiddenDrawers", .methodLinkNest "HiddenDrawers$Reader" 84 ⟨"HiddenDrawers", "causeOfPush", "(II)I"⟩ "HiddenDrawers", .methodLinkNest "HiddenDrawers$Reader" 88 ⟨"HiddenDrawers", "causeOfTilt", "(I)I"⟩ "HiddenDrawers", .methodLinkNest "HiddenDrawers$Rules" 40 ⟨"HiddenDrawers", "causeOfTilt", "(I)I"⟩ "HiddenDrawers", .methodLinkNest "HiddenDrawers$Rules" 65 ⟨"HiddenDrawers", "causeOfPush", "(II)I"⟩ "HiddenDrawers"]
def hd_sk : List Nat := [85, 91, 93, 95, 96, 98, 100, 102, 104, 106, 108, 110, 112, 114, 116]
def hd_stx : List String := ["tilt", "on", "part", "at", "or", "and", "not", "when", "with", "to", "set", "sound", "open", "stops", "do"]
def hd_sl : List Nat := [4, 2, 4, 2, 2, 3, 3, 4, 4, 2, 3, 5, 4, 5, 2]
def hd_sb : List (List Int32) := [[116, 105, 108, 116], [111, 110], [112, 97, 114, 116], [97, 116], [111, 114], [97, 110, 100], [110, 111, 116], [119, 104, 101, 110], [119, 105, 116, 104], [116, 111], [115, 101, 116], [115, 111, 117, 110, 100], [111, 112, 101, 110], [115, 116, 111, 112, 115], [100, 111]]
def hd_str (G : hd_G) (U : State) : Prop := (∀ j, j < 15 → vk_R RX6 (hd_sk.getD j 0) (hd_stx.getD j "") (hd_ad G (5000 + j)) U) ∧ vk_S 15 hd_sl hd_sb (fun j => hd_ad G (5000 + j)) (fun j => hd_ad G (5100 + j)) (hd_A G) U U.heap ∧ va_Z "java/lang/String" "COMPACT_STRINGS" "Z" (.int 1) (hd_A G) U U.heap ∧ (va_Z "jdk/internal/util/Preconditions" "SIOOBE_FORMATTER" "Ljava/util/function/BiFunction;" .null (hd_A G) U U.heap ∨ va_Z "jdk/internal/util/Preconditions" "SIOOBE_FORMATTER" "Ljava/util/function/BiFunction;" (.ref (hd_ad G 5300)) (hd_A G) U U.heap)
/-- what every state under the law keeps of the tables and of what lies below -/
def hd_K (G : hd_G) (U : State) : Prop := va_K G.2.1 vwCl (hd_tys G) U ∧ (∀ w ∈ hd_nest, va_Nw w U) ∧ va_AO "HiddenDrawers$Law" U ∧ hd_str G U ∧ hd_b G ≤ U.heap.size ∧ ∀ k, k < 5000 → hd_ad G k = hd_b G + k
def lw_g : List Cond := lw_tbl.filter goodWord
def hd_wm (mi : hd_I) : List Cond := .code mi.1 mi.2.1 mi.2.2.1 mi.2.2.2.1 :: lw_g
def hd_rm (mi : hd_I) : Room := { frames := mi.2.2.2.2.1, cells := mi.2.2.2.2.2.2.1, slots := mi.2.2.2.2.2.2.2, locals := mi.2.2.2.2.2.1 }
def hd_Qc (G : hd_G) (n : Nat) (P : Option Value → hd_S → hd_M → Prop) : Array Value → State → Outcome → State → Prop := fun _ st o t => (∃ (r : Option Value) (sh : hd_S) (σ : hd_M), o = .returned (r.map (hd_v (hd_ad G))) ∧ P r sh σ ∧ hd_P G sh σ t.heap ∧ sh.length = n) ∧ va_F (hd_A G) st t
/-- a call of a method: it returns, with P -/
def hd_EV (G : hd_G) (mi : hd_I) (sh : hd_S) (as : List Value) (σ : hd_M) (P : Option Value → hd_S → hd_M → Prop) : Prop :=
  Met G.1 mi.1 (hd_wm mi) (hd_rm mi) (va_Pc (as.map (hd_v (hd_ad G))) (fun U => hd_K G U ∧ hd_P G sh σ U.heap ∧ U.heap.size = hd_b G + sh.length)) (hd_Qc G (sh.length + mi.2.2.2.2.2.2.1) P) mi.2.2.2.2.2.2.1 mi.2.2.2.2.2.2.2 (hd_A G)
def EVi (G : hd_G) (mi : hd_I) (sh : hd_S) (as : List Value) (σ : hd_M) (P : Int32 → hd_M → Prop) : Prop := hd_EV G mi sh as σ (fun r sh' σ' => sh' = sh ∧ ∃ x, r = some (.int x) ∧ P x σ')
def EVl (G : hd_G) (mi : hd_I) (sh : hd_S) (as : List Value) (σ : hd_M) (P : Int64 → hd_M → Prop) : Prop := hd_EV G mi sh as σ (fun r sh' σ' => sh' = sh ∧ ∃ x, r = some (.long x) ∧ P x σ')
def EVr (G : hd_G) (mi : hd_I) (sh : hd_S) (as : List Value) (σ : hd_M) (P : Nat → hd_M → Prop) : Prop := hd_EV G mi sh as σ (fun r sh' σ' => sh' = sh ∧ ∃ x, r = some (.ref x) ∧ P x σ')
def EVv (G : hd_G) (mi : hd_I) (sh : hd_S) (as : List Value) (σ : hd_M) (P : hd_M → Prop) : Prop := hd_EV G mi sh as σ (fun r sh' σ' => sh' = sh ∧ r = none ∧ P σ')
/-- a constructor: the world may grow -/
def EVc (G : hd_G) (mi : hd_I) (sh : hd_S) (as : List Value) (σ : hd_M) (P : hd_S → hd_M → Prop) : Prop := hd_EV G mi sh as σ (fun r sh' σ' => r = none ∧ P sh' σ')
/-- what holds where a method's walk stands -/
def hd_C (G : hd_G) (mi : hd_I) (X : hd_X) : Prop :=
  X.1.tables.exec = Jvm.exec ∧ X.2.2.2.2.2.2.2.2.1.code = mi.2.1 ∧ X.2.2.2.2.2.2.2.1.sig.returnType = mi.2.2.2.1 ∧ X.2.2.2.2.2.2.2.2.1.maxLocals = mi.2.2.1 ∧ X.2.2.2.1.vm.findClass mi.1.cls = some X.2.2.2.2.1.cls ∧
  (∀ w ∈ lw_g, w.before X.2.2.2.2.2.1 X.2.2.2.1 = true) ∧ X.2.2.2.2.2.2.2.1.locks = false ∧ hd_K G X.2.2.2.1 ∧ X.2.2.2.2.2.2.2.1.name = mi.1.name ∧ mi.2.2.2.2.1 ≤ X.2.2.1.frames ∧ mi.2.2.2.2.2.1 ≤ X.2.2.1.locals ∧ X.2.2.1.cells = mi.2.2.2.2.2.2.1 ∧ X.2.2.1.slots = mi.2.2.2.2.2.2.2
/-- the walk goes on from here to its end -/
def hd_J (G : hd_G) (mi : hd_I) (X : hd_X) (sh : hd_S) (ks : Nat × Nat) (pc : Nat) (lv : hd_L) (st : List Value) (σ : hd_M) : Prop := X.2.2.2.1.heap.size + ks.1 = hd_b G + sh.length →
  ∀ (H : Heap) (locs : List Loc) (ls : Array Slot), hd_P G sh σ H → va_S (hd_A G) X.2.2.2.1.heap H locs → lv_has ls mi.2.2.1 (hd_lm (hd_ad G) lv) →
    W X.1 G.1 X.2.1 X.2.2.1 X.2.2.2.1 X.2.2.2.2.1 X.2.2.2.2.2.1 X.2.2.2.2.2.2.1 X.2.2.2.2.2.2.2.1 X.2.2.2.2.2.2.2.2.1 H locs ks.1 ks.2 X.2.2.2.2.2.2.2.2.2 (F0 X.2.2.2.2.1 pc ls (st.map (hd_v (hd_ad G))))

/-! lookups -/
theorem hd_ws_at {G : hd_G} {sh : hd_S} {σ : hd_M} {k : Nat} {s : Nat × Nat × List Nat} (h : sh[k]? = some s) : (hd_ws G sh σ)[k]? = some (hd_b G + k, hd_E G σ k s) := by
  have hl : k < sh.length := (List.getElem?_eq_some_iff.mp h).1
  have hk : sh[k] = s := (List.getElem?_eq_some_iff.mp h).2
  simp [hd_ws, hl, hk]
theorem hd_ws_len {G : hd_G} {sh : hd_S} {σ : hd_M} : (hd_ws G sh σ).length = sh.length := by simp [hd_ws]
theorem hd_ws_inv {G : hd_G} {sh : hd_S} {σ : hd_M} {k : Nat} {x : Nat × va_E} (h : (hd_ws G sh σ)[k]? = some x) : k < sh.length ∧ x.1 = hd_b G + k := by
  have hl : k < (hd_ws G sh σ).length := (List.getElem?_eq_some_iff.mp h).1
  rw [hd_ws_len] at hl
  refine ⟨hl, ?_⟩
  rw [hd_ws_at (List.getElem?_eq_getElem hl)] at h
  cases h
  rfl
theorem hd_D (G : hd_G) (sh : hd_S) (σ : hd_M) : va_D (hd_A G) (hd_ws G sh σ) := by
  refine ⟨fun i j p q hp hq e => ?_, fun k q hq => ?_⟩
  · have h1 := (hd_ws_inv hp).2
    have h2 := (hd_ws_inv hq).2
    omega
  · have h1 := (hd_ws_inv hq).2
    show hd_b G ≤ q.1
    omega
theorem hd_set {G : hd_G} {sh : hd_S} {σ σ' : hd_M} {q : Nat} {s : Nat × Nat × List Nat} {e : va_E} (hs : sh[q]? = some s) (he : e = hd_E G σ' q s) (ho : ∀ k s', k ≠ q → hd_E G σ' k s' = hd_E G σ k s') : (hd_ws G sh σ).set q (hd_b G + q, e) = hd_ws G sh σ' := by
  apply List.ext_getElem?
  intro i
  rw [List.getElem?_set]
  by_cases hi : q = i
  · subst hi
    rw [if_pos rfl, if_pos (by rw [hd_ws_len]; exact (List.getElem?_eq_some_iff.mp hs).1), hd_ws_at hs, he]
  · rw [if_neg hi]
    by_cases hl : i < sh.length
    · rw [hd_ws_at (List.getElem?_eq_getElem hl), hd_ws_at (List.getElem?_eq_getElem hl), ho i _ (fun z => hi z.symm)]
    · rw [List.getElem?_eq_none (by rw [hd_ws_len]; omega), List.getElem?_eq_none (by rw [hd_ws_len]; omega)]
def hd_wI (σ : hd_M) (q i : Nat) (x : Int32) : hd_M := (va_up σ.1 q (va_up (σ.1 q) i x), σ.2)
def hd_wL (σ : hd_M) (q i : Nat) (x : Int64) : hd_M := (σ.1, va_up σ.2 q (va_up (σ.2 q) i x))
theorem hd_up_ne {α : Type} {f : Nat → α} {q k : Nat} {x : α} (h : k ≠ q) : va_up f q x k = f k := by simp [va_up, h]
theorem hd_up_eq {α : Type} {f : Nat → α} {q : Nat} {x : α} : va_up f q x q = x := by simp [va_up]
theorem hd_E_I {G : hd_G} {σ : hd_M} {q : Nat} {f : Nat → Int32} (k : Nat) (s : Nat × Nat × List Nat) (h : k ≠ q) : hd_E G (va_up σ.1 q f, σ.2) k s = hd_E G σ k s := by
  unfold hd_E hd_fv
  simp only [hd_up_ne h]
theorem hd_E_L {G : hd_G} {σ : hd_M} {q : Nat} {f : Nat → Int64} (k : Nat) (s : Nat × Nat × List Nat) (h : k ≠ q) : hd_E G (σ.1, va_up σ.2 q f) k s = hd_E G σ k s := by
  unfold hd_E hd_fv
  simp only [hd_up_ne h]
/-! locals -/
def hd_lk (i : Nat) : hd_L → Option Value
  | [] => none
  | (j, v) :: r => bif Nat.beq i j then some v else hd_lk i r
def hd_ins (i : Nat) (v : Value) : hd_L → hd_L
  | [] => [(i, v)]
  | (j, w) :: r => bif Nat.blt i j then (i, v) :: (j, w) :: r else bif Nat.beq i j then (i, v) :: r else (j, w) :: hd_ins i v r
def hd_del (i : Nat) : hd_L → hd_L
  | [] => []
  | (j, w) :: r => bif Nat.beq (j + 1) i && Nat.beq w.category 2 then hd_del i r else (j, w) :: hd_del i r
def hd_del1 (i : Nat) : hd_L → hd_L
  | [] => []
  | (j, w) :: r => bif Nat.beq i j then hd_del1 i r else (j, w) :: hd_del1 i r
def hd_sto (i : Nat) (v : Value) (lv : hd_L) : hd_L := hd_ins i v (hd_del i (hd_del1 i lv))
def hd_stoL (i : Nat) (v : Value) (lv : hd_L) : hd_L := hd_ins i v (hd_del1 (i + 1) (hd_del i (hd_del1 i lv)))
def hd_pick (is : List Nat) (lv : hd_L) : hd_L := lv.filter (fun q => is.contains q.1)
theorem hd_lk_mem {i : Nat} {v : Value} : ∀ {lv : hd_L}, hd_lk i lv = some v → (i, v) ∈ lv
  | (j, w) :: r, h => by
    unfold hd_lk at h
    cases hb : Nat.beq i j with
    | true =>
      rw [hb] at h
      cases Nat.eq_of_beq_eq_true hb
      cases h
      exact List.mem_cons_self
    | false =>
      rw [hb] at h
      exact List.mem_cons_of_mem _ (hd_lk_mem h)
theorem hd_ins_sub {i : Nat} {v : Value} {q : Nat × Value} : ∀ {lv : hd_L}, q ∈ hd_ins i v lv → q = (i, v) ∨ q ∈ lv
  | [], h => Or.inl (List.mem_singleton.mp h)
  | (j, w) :: r, h => by
    unfold hd_ins at h
    cases hb : Nat.blt i j with
    | true =>
      rw [hb] at h
      rcases List.mem_cons.mp h with h | h
      · exact Or.inl h
      · exact Or.inr h
    | false =>
      rw [hb] at h
      cases hc : Nat.beq i j with
      | true =>
        rw [hc] at h
        rcases List.mem_cons.mp h with h | h
        · exact Or.inl h
        · exact Or.inr (List.mem_cons_of_mem _ h)
      | false =>
        rw [hc] at h
        rcases List.mem_cons.mp h with h | h
        · exact Or.inr (h ▸ List.mem_cons_self)
        · rcases hd_ins_sub h with h | h
          · exact Or.inl h
          · exact Or.inr (List.mem_cons_of_mem _ h)
theorem hd_del1_sub {i : Nat} {q : Nat × Value} : ∀ {lv : hd_L}, q ∈ hd_del1 i lv → q ∈ lv ∧ q.1 ≠ i
  | (j, w) :: r, h => by
    unfold hd_del1 at h
    cases hb : Nat.beq i j with
    | true =>
      rw [hb] at h
      exact ⟨List.mem_cons_of_mem _ (hd_del1_sub h).1, (hd_del1_sub h).2⟩
    | false =>
      rw [hb] at h
      rcases List.mem_cons.mp h with h | h
      · subst h
        exact ⟨List.mem_cons_self, fun z => by subst z; rw [Nat.beq_refl] at hb; cases hb⟩
      · exact ⟨List.mem_cons_of_mem _ (hd_del1_sub h).1, (hd_del1_sub h).2⟩
theorem hd_del_sub {i : Nat} {q : Nat × Value} : ∀ {lv : hd_L}, q ∈ hd_del i lv → q ∈ lv ∧ ¬ (q.1 + 1 = i ∧ q.2.category = 2)
  | (j, w) :: r, h => by
    unfold hd_del at h
    cases hb : (Nat.beq (j + 1) i && Nat.beq w.category 2) with
    | true =>
      rw [hb] at h
      exact ⟨List.mem_cons_of_mem _ (hd_del_sub h).1, (hd_del_sub h).2⟩
    | false =>
      rw [hb] at h
      rcases List.mem_cons.mp h with h | h
      · subst h
        refine ⟨List.mem_cons_self, fun z => ?_⟩
        simp only at z
        rw [z.1, z.2, Nat.beq_refl, Nat.beq_refl] at hb
        cases hb
      · exact ⟨List.mem_cons_of_mem _ (hd_del_sub h).1, (hd_del_sub h).2⟩
theorem hd_cat (f : Nat → Nat) (v : Value) : (hd_v f v).category = v.category := by cases v <;> rfl
theorem hd_has_sub {ls : Array Slot} {n : Nat} {l l' : hd_L} (h : lv_has ls n l) (hs : ∀ q ∈ l', q ∈ l) : lv_has ls n l' := ⟨h.1, h.2.1, fun q hq => h.2.2 q (hs q hq)⟩
theorem hd_has_pick {f : Nat → Nat} {ls : Array Slot} {n : Nat} {lv : hd_L} {is : List Nat} (h : lv_has ls n (hd_lm f lv)) : lv_has ls n (hd_lm f (hd_pick is lv)) := by
  refine hd_has_sub h fun q hq => ?_
  obtain ⟨r, hr, e⟩ := List.mem_map.mp hq
  exact List.mem_map.mpr ⟨r, (List.mem_filter.mp hr).1, e⟩
theorem hd_has_at {f : Nat → Nat} {ls : Array Slot} {n i : Nat} {v : Value} {lv : hd_L} (h : lv_has ls n (hd_lm f lv)) (hl : hd_lk i lv = some v) : ls[i]? = some (.val (hd_v f v)) := h.2.2 (i, hd_v f v) (List.mem_map.mpr ⟨(i, v), hd_lk_mem hl, rfl⟩)
theorem hd_has_sto {f : Nat → Nat} {ls : Array Slot} {n i : Nat} {v : Value} {lv : hd_L} (h : lv_has ls n ((i, hd_v f v) :: (hd_lm f lv).filter (fun q => !(q.1 == i) && !(q.1 + 1 == i && q.2.category == 2)))) : lv_has ls n (hd_lm f (hd_sto i v lv)) := by
  refine hd_has_sub h fun q hq => ?_
  obtain ⟨r, hr, e⟩ := List.mem_map.mp hq
  subst e
  rcases hd_ins_sub hr with rfl | hr
  · exact List.mem_cons_self
  · refine List.mem_cons_of_mem _ (List.mem_filter.mpr ⟨List.mem_map.mpr ⟨r, (hd_del1_sub (hd_del_sub hr).1).1, rfl⟩, ?_⟩)
    have h1 := (hd_del1_sub (hd_del_sub hr).1).2
    have h2 := (hd_del_sub hr).2
    simp only [hd_cat, Bool.and_eq_true, Bool.not_eq_true', beq_eq_false_iff_ne, Bool.and_eq_false_iff, ne_eq]
    refine ⟨h1, ?_⟩
    by_cases h3 : r.1 + 1 = i
    · exact Or.inr fun z => h2 ⟨h3, z⟩
    · exact Or.inl h3
theorem hd_has_stoL {f : Nat → Nat} {ls : Array Slot} {n i : Nat} {v : Value} {lv : hd_L} (h : lv_has ls n ((i, hd_v f v) :: (hd_lm f lv).filter (fun q => !(q.1 == i) && (!(q.1 == i + 1) && !(q.1 + 1 == i && q.2.category == 2))))) : lv_has ls n (hd_lm f (hd_stoL i v lv)) := by
  refine hd_has_sub h fun q hq => ?_
  obtain ⟨r, hr, e⟩ := List.mem_map.mp hq
  subst e
  rcases hd_ins_sub hr with rfl | hr
  · exact List.mem_cons_self
  · have h0 := (hd_del1_sub hr).2
    have hr := (hd_del1_sub hr).1
    refine List.mem_cons_of_mem _ (List.mem_filter.mpr ⟨List.mem_map.mpr ⟨r, (hd_del1_sub (hd_del_sub hr).1).1, rfl⟩, ?_⟩)
    have h1 := (hd_del1_sub (hd_del_sub hr).1).2
    have h2 := (hd_del_sub hr).2
    simp only [hd_cat, Bool.and_eq_true, Bool.not_eq_true', beq_eq_false_iff_ne, Bool.and_eq_false_iff, ne_eq]
    refine ⟨h1, h0, ?_⟩
    by_cases h3 : r.1 + 1 = i
    · exact Or.inr fun z => h2 ⟨h3, z⟩
    · exact Or.inl h3
