def hd_take : Nat → List Value → List Value → Option (List Value × List Value)
  | 0, acc, st => some (acc, st)
  | n + 1, acc, v :: st => hd_take n (v :: acc) st
  | _ + 1, _, [] => none
def hd_sum : List Value → Nat
  | [] => 0
  | v :: r => v.category + hd_sum r
/-- a switch: the first place whose number it is, or the last -/
def hd_sw (x : Int32) (dft : Nat) (k : Nat → Prop) : List (Int32 × Nat) → Prop
  | [] => k dft
  | (v, t) :: r => (x = v → k t) ∧ (¬ x = v → hd_sw x dft k r)
def hd_if0 (c : Jvm.ClassFile.Cond) (x : Int32) (T F : Prop) : Prop := match c with
  | .eq => (x = 0 → T) ∧ (¬ x = 0 → F)
  | .ne => (¬ x = 0 → T) ∧ (x = 0 → F)
  | .lt => (x < 0 → T) ∧ (0 ≤ x → F)
  | .ge => (0 ≤ x → T) ∧ (x < 0 → F)
  | .gt => (0 < x → T) ∧ (x ≤ 0 → F)
  | .le => (x ≤ 0 → T) ∧ (0 < x → F)
def hd_if2 (c : Jvm.ClassFile.Cond) (x y : Int32) (T F : Prop) : Prop := match c with
  | .eq => (x = y → T) ∧ (¬ x = y → F)
  | .ne => (¬ x = y → T) ∧ (x = y → F)
  | .lt => (x < y → T) ∧ (y ≤ x → F)
  | .ge => (y ≤ x → T) ∧ (x < y → F)
  | .gt => (y < x → T) ∧ (x ≤ y → F)
  | .le => (x ≤ y → T) ∧ (y < x → F)
def hd_ret (t : Option FieldType) (v : Int32) (P : Prop) : Prop := match t with
  | some .int => P
  | some .boolean => (v = 0 ∨ v = 1) ∧ P
  | _ => False
def hd_retl (t : Option FieldType) (P : Prop) : Prop := match t with
  | some .long => P
  | _ => False
def hd_reta (t : Option FieldType) (P : Prop) : Prop := match t with
  | some (.object _) => P
  | some (.array _) => P
  | _ => False
def hd_retv (t : Option FieldType) (P : Prop) : Prop := match t with
  | none => P
  | _ => False
/-- a call, by the kind of its answer -/
def hd_call (G : hd_G) (ce : hd_I) (kind : Nat) (sh : hd_S) (as rest : List Value) (σ : hd_M) (k : List Value → hd_M → Prop) : Prop := match kind with
  | 0 => EVi G ce sh as σ (fun x σ' => k (.int x :: rest) σ')
  | 1 => EVl G ce sh as σ (fun x σ' => k (.long x :: rest) σ')
  | 2 => EVv G ce sh as σ (fun σ' => k rest σ')
  | 3 => EVr G ce sh as σ (fun x σ' => k (.ref x :: rest) σ')
  | _ => False
def hd_i1 (st : List Value) (f : Int32 → List Value → Prop) : Prop := match st with
  | .int x :: st => f x st
  | _ => False
def hd_l1 (st : List Value) (f : Int64 → List Value → Prop) : Prop := match st with
  | .long x :: st => f x st
  | _ => False
def hd_r1 (st : List Value) (f : Nat → List Value → Prop) : Prop := match st with
  | .ref x :: st => f x st
  | _ => False
def hd_i2 (st : List Value) (f : Int32 → Int32 → List Value → Prop) : Prop := match st with
  | .int y :: .int x :: st => f y x st
  | _ => False
def hd_l2 (st : List Value) (f : Int64 → Int64 → List Value → Prop) : Prop := match st with
  | .long y :: .long x :: st => f y x st
  | _ => False
def hd_il (st : List Value) (f : Int32 → Int64 → List Value → Prop) : Prop := match st with
  | .int y :: .long x :: st => f y x st
  | _ => False
def hd_ir (st : List Value) (f : Int32 → Nat → List Value → Prop) : Prop := match st with
  | .int y :: .ref x :: st => f y x st
  | _ => False
def hd_r2 (st : List Value) (f : Nat → Nat → List Value → Prop) : Prop := match st with
  | .ref y :: .ref x :: st => f y x st
  | _ => False
def hd_iir (st : List Value) (f : Int32 → Int32 → Nat → List Value → Prop) : Prop := match st with
  | .int z :: .int y :: .ref x :: st => f z y x st
  | _ => False
def hd_lir (st : List Value) (f : Int64 → Int32 → Nat → List Value → Prop) : Prop := match st with
  | .long z :: .int y :: .ref x :: st => f z y x st
  | _ => False
def hd_vr (st : List Value) (f : Value → Nat → List Value → Prop) : Prop := match st with
  | v :: .ref x :: st => f v x st
  | _ => False
def hd_lki (a : Nat) (lv : hd_L) (f : Int32 → Prop) : Prop := match hd_lk a lv with
  | some (.int x) => f x
  | _ => False
def hd_lkl (a : Nat) (lv : hd_L) (f : Int64 → Prop) : Prop := match hd_lk a lv with
  | some (.long x) => f x
  | _ => False
def hd_lkr (a : Nat) (lv : hd_L) (f : Nat → Prop) : Prop := match hd_lk a lv with
  | some (.ref x) => f x
  | _ => False
/-- the cell q is of the kind t: f of its length -/
def hd_k (sh : hd_S) (q t : Nat) (f : Nat → Prop) : Prop := match sh[q]? with
  | some (t', n, _) => bif Nat.beq t' t then f n else False
  | none => False
/-- the cell q is an array: f of its length -/
def hd_al (sh : hd_S) (q : Nat) (f : Nat → Prop) : Prop := match sh[q]? with
  | some (t, n, _) => bif Nat.blt t 5 then f n else False
  | none => False
/-- the same, with its references -/
def hd_kr (sh : hd_S) (q t : Nat) (f : Nat → List Nat → Prop) : Prop := match sh[q]? with
  | some (t', n, rs) => bif Nat.beq t' t then f n rs else False
  | none => False
theorem hd_i1_inv {st : List Value} {f : Int32 → List Value → Prop} (h : hd_i1 st f) : ∃ x r, st = .int x :: r ∧ f x r := by
  unfold hd_i1 at h; split at h
  · exact ⟨_, _, rfl, h⟩
  · exact h.elim
theorem hd_l1_inv {st : List Value} {f : Int64 → List Value → Prop} (h : hd_l1 st f) : ∃ x r, st = .long x :: r ∧ f x r := by
  unfold hd_l1 at h; split at h
  · exact ⟨_, _, rfl, h⟩
  · exact h.elim
theorem hd_r1_inv {st : List Value} {f : Nat → List Value → Prop} (h : hd_r1 st f) : ∃ x r, st = .ref x :: r ∧ f x r := by
  unfold hd_r1 at h; split at h
  · exact ⟨_, _, rfl, h⟩
  · exact h.elim
theorem hd_i2_inv {st : List Value} {f : Int32 → Int32 → List Value → Prop} (h : hd_i2 st f) : ∃ y x r, st = .int y :: .int x :: r ∧ f y x r := by
  unfold hd_i2 at h; split at h
  · exact ⟨_, _, _, rfl, h⟩
  · exact h.elim
theorem hd_l2_inv {st : List Value} {f : Int64 → Int64 → List Value → Prop} (h : hd_l2 st f) : ∃ y x r, st = .long y :: .long x :: r ∧ f y x r := by
  unfold hd_l2 at h; split at h
  · exact ⟨_, _, _, rfl, h⟩
  · exact h.elim
theorem hd_il_inv {st : List Value} {f : Int32 → Int64 → List Value → Prop} (h : hd_il st f) : ∃ y x r, st = .int y :: .long x :: r ∧ f y x r := by
  unfold hd_il at h; split at h
  · exact ⟨_, _, _, rfl, h⟩
  · exact h.elim
theorem hd_ir_inv {st : List Value} {f : Int32 → Nat → List Value → Prop} (h : hd_ir st f) : ∃ y x r, st = .int y :: .ref x :: r ∧ f y x r := by
  unfold hd_ir at h; split at h
  · exact ⟨_, _, _, rfl, h⟩
  · exact h.elim
theorem hd_r2_inv {st : List Value} {f : Nat → Nat → List Value → Prop} (h : hd_r2 st f) : ∃ y x r, st = .ref y :: .ref x :: r ∧ f y x r := by
  unfold hd_r2 at h; split at h
  · exact ⟨_, _, _, rfl, h⟩
  · exact h.elim
theorem hd_iir_inv {st : List Value} {f : Int32 → Int32 → Nat → List Value → Prop} (h : hd_iir st f) : ∃ z y x r, st = .int z :: .int y :: .ref x :: r ∧ f z y x r := by
  unfold hd_iir at h; split at h
  · exact ⟨_, _, _, _, rfl, h⟩
  · exact h.elim
theorem hd_lir_inv {st : List Value} {f : Int64 → Int32 → Nat → List Value → Prop} (h : hd_lir st f) : ∃ z y x r, st = .long z :: .int y :: .ref x :: r ∧ f z y x r := by
  unfold hd_lir at h; split at h
  · exact ⟨_, _, _, _, rfl, h⟩
  · exact h.elim
theorem hd_vr_inv {st : List Value} {f : Value → Nat → List Value → Prop} (h : hd_vr st f) : ∃ v x r, st = v :: .ref x :: r ∧ f v x r := by
  unfold hd_vr at h; split at h
  · exact ⟨_, _, _, rfl, h⟩
  · exact h.elim
theorem hd_lki_inv {a : Nat} {lv : hd_L} {f : Int32 → Prop} (h : hd_lki a lv f) : ∃ x, hd_lk a lv = some (.int x) ∧ f x := by
  unfold hd_lki at h; split at h
  · rename_i x e; exact ⟨_, e, h⟩
  · exact h.elim
theorem hd_lkl_inv {a : Nat} {lv : hd_L} {f : Int64 → Prop} (h : hd_lkl a lv f) : ∃ x, hd_lk a lv = some (.long x) ∧ f x := by
  unfold hd_lkl at h; split at h
  · rename_i x e; exact ⟨_, e, h⟩
  · exact h.elim
theorem hd_lkr_inv {a : Nat} {lv : hd_L} {f : Nat → Prop} (h : hd_lkr a lv f) : ∃ x, hd_lk a lv = some (.ref x) ∧ f x := by
  unfold hd_lkr at h; split at h
  · rename_i x e; exact ⟨_, e, h⟩
  · exact h.elim
theorem hd_bif {b : Bool} {P : Prop} (h : bif b then P else False) : b = true ∧ P := by cases b <;> first | exact h.elim | exact ⟨rfl, h⟩
theorem hd_k_inv {sh : hd_S} {q t : Nat} {f : Nat → Prop} (h : hd_k sh q t f) : ∃ n rs, sh[q]? = some (t, n, rs) ∧ f n := by
  unfold hd_k at h; split at h
  · rename_i t' n rs e
    obtain ⟨h1, h2⟩ := hd_bif h
    cases Nat.eq_of_beq_eq_true h1
    exact ⟨_, _, e, h2⟩
  · exact h.elim
theorem hd_al_inv {sh : hd_S} {q : Nat} {f : Nat → Prop} (h : hd_al sh q f) : ∃ t n rs, sh[q]? = some (t, n, rs) ∧ t < 5 ∧ f n := by
  unfold hd_al at h; split at h
  · rename_i t n rs e
    obtain ⟨h1, h2⟩ := hd_bif h
    exact ⟨t, n, rs, e, Nat.le_of_ble_eq_true h1, h2⟩
  · exact h.elim
theorem hd_kr_inv {sh : hd_S} {q t : Nat} {f : Nat → List Nat → Prop} (h : hd_kr sh q t f) : ∃ n rs, sh[q]? = some (t, n, rs) ∧ f n rs := by
  unfold hd_kr at h; split at h
  · rename_i t' n rs e
    obtain ⟨h1, h2⟩ := hd_bif h
    cases Nat.eq_of_beq_eq_true h1
    exact ⟨_, _, e, h2⟩
  · exact h.elim
/-- Math.max and Math.min, of ints and of longs -/
def hd_inM (a : Nat) (st : List Value) (σ : hd_M) (k : List Value → hd_M → Prop) : Prop := match a with
  | 7 => hd_i2 st (fun y x st => bif Nat.ble (hd_sum st) 8 then k (.int (if x < y then y else x) :: st) σ else False)
  | 8 => hd_i2 st (fun y x st => bif Nat.ble (hd_sum st) 8 then k (.int (if y < x then y else x) :: st) σ else False)
  | 9 => hd_l2 st (fun y x st => bif Nat.ble (hd_sum st) 8 then k (.long (if y < x then x else y) :: st) σ else False)
  | 10 => hd_l2 st (fun y x st => bif Nat.ble (hd_sum st) 8 then k (.long (if y < x then y else x) :: st) σ else False)
  | _ => False
/-- System.arraycopy of ints -/
def hd_inC (sh : hd_S) (b : Nat) (st : List Value) (σ : hd_M) (k : List Value → hd_M → Prop) : Prop := match st with
  | .int n :: .int dp :: .ref q' :: .int sp :: .ref q :: rest => bif Nat.ble (hd_sum rest) 8 && Nat.beq b 5 then hd_k sh q 0 (fun n0 => hd_k sh q' 0 (fun n1 => (0 ≤ sp ∧ 0 ≤ dp ∧ 0 ≤ n ∧ sp.toNatClampNeg + n.toNatClampNeg ≤ n0 ∧ dp.toNatClampNeg + n.toNatClampNeg ≤ n1) ∧ ∀ σ', σ' = (va_up σ.1 q' (va_cpy (σ.1 q) (σ.1 q') sp.toNatClampNeg dp.toNatClampNeg n.toNatClampNeg), σ.2) → k rest σ')) else False
  | _ => False
def hd_inS (G : hd_G) (ce : hd_I) (a b : Nat) (sh : hd_S) (st : List Value) (σ : hd_M) (k : List Value → hd_M → Prop) : Prop := match hd_take b [] st with
  | some (as, rest) => bif Nat.ble (hd_sum rest) 8 then hd_call G ce a sh as rest σ k else False
  | none => False
def hd_inV (G : hd_G) (ce : hd_I) (a b : Nat) (sh : hd_S) (st : List Value) (σ : hd_M) (k : List Value → hd_M → Prop) : Prop := match hd_take (b % 100 + 1) [] st with
  | some (.ref q :: as, rest) => bif Nat.ble (hd_sum rest) 8 then hd_k sh q (10 + b / 100) (fun _ => hd_call G ce a sh (.ref q :: as) rest σ k) else False
  | _ => False
/-- a call on a text constant -/
def hd_inT (G : hd_G) (ce : hd_I) (a b : Nat) (sh : hd_S) (st : List Value) (σ : hd_M) (k : List Value → hd_M → Prop) : Prop := match hd_take (b % 100 + 1) [] st with
  | some (.ref q :: as, rest) => bif Nat.ble (hd_sum rest) 8 then (5000 ≤ q ∧ q < 5015) ∧ hd_call G ce a sh (.ref q :: as) rest σ k else False
  | _ => False
theorem hd_inT_inv {G : hd_G} {ce : hd_I} {a b : Nat} {sh : hd_S} {st : List Value} {σ : hd_M} {k : List Value → hd_M → Prop} (h : hd_inT G ce a b sh st σ k) : ∃ q as rest, hd_take (b % 100 + 1) [] st = some (.ref q :: as, rest) ∧ hd_sum rest ≤ 8 ∧ (5000 ≤ q ∧ q < 5015) ∧ hd_call G ce a sh (.ref q :: as) rest σ k := by
  unfold hd_inT at h
  split at h
  · rename_i q as rest e
    obtain ⟨h1, h2⟩ := hd_bif h
    exact ⟨q, as, rest, e, Nat.le_of_ble_eq_true h1, h2.1, h2.2⟩
  · exact h.elim
theorem hd_inC_inv {sh : hd_S} {b : Nat} {st : List Value} {σ : hd_M} {k : List Value → hd_M → Prop} (h : hd_inC sh b st σ k) : ∃ n dp q' sp q rest n0 n1 rs0 rs1, st = .int n :: .int dp :: .ref q' :: .int sp :: .ref q :: rest ∧ hd_sum rest ≤ 8 ∧ sh[q]? = some (0, n0, rs0) ∧ sh[q']? = some (0, n1, rs1) ∧ (0 ≤ sp ∧ 0 ≤ dp ∧ 0 ≤ n ∧ sp.toNatClampNeg + n.toNatClampNeg ≤ n0 ∧ dp.toNatClampNeg + n.toNatClampNeg ≤ n1) ∧ k rest (va_up σ.1 q' (va_cpy (σ.1 q) (σ.1 q') sp.toNatClampNeg dp.toNatClampNeg n.toNatClampNeg), σ.2) := by
  unfold hd_inC at h
  split at h
  · rename_i n dp q' sp q rest
    obtain ⟨h1, h2⟩ := hd_bif h
    rw [Bool.and_eq_true] at h1
    obtain ⟨n0, rs0, h3, h4⟩ := hd_k_inv h2
    obtain ⟨n1, rs1, h5, h6, h7⟩ := hd_k_inv h4
    exact ⟨n, dp, q', sp, q, rest, n0, n1, rs0, rs1, rfl, Nat.le_of_ble_eq_true h1.1, h3, h5, h6, h7 _ rfl⟩
  · exact h.elim
theorem hd_inS_inv {G : hd_G} {ce : hd_I} {a b : Nat} {sh : hd_S} {st : List Value} {σ : hd_M} {k : List Value → hd_M → Prop} (h : hd_inS G ce a b sh st σ k) : ∃ as rest, hd_take b [] st = some (as, rest) ∧ hd_sum rest ≤ 8 ∧ hd_call G ce a sh as rest σ k := by
  unfold hd_inS at h
  split at h
  · rename_i as rest e
    obtain ⟨h1, h2⟩ := hd_bif h
    exact ⟨as, rest, e, Nat.le_of_ble_eq_true h1, h2⟩
  · exact h.elim
theorem hd_inV_inv {G : hd_G} {ce : hd_I} {a b : Nat} {sh : hd_S} {st : List Value} {σ : hd_M} {k : List Value → hd_M → Prop} (h : hd_inV G ce a b sh st σ k) : ∃ q as rest n rs, hd_take (b % 100 + 1) [] st = some (.ref q :: as, rest) ∧ hd_sum rest ≤ 8 ∧ sh[q]? = some (10 + b / 100, n, rs) ∧ hd_call G ce a sh (.ref q :: as) rest σ k := by
  unfold hd_inV at h
  split at h
  · rename_i q as rest e
    obtain ⟨h1, h2⟩ := hd_bif h
    obtain ⟨n, rs, h3, h4⟩ := hd_k_inv h2
    exact ⟨q, as, rest, n, rs, e, Nat.le_of_ble_eq_true h1, h3, h4⟩
  · exact h.elim
/-- one instruction that makes no cell -/
def hd_step (G : hd_G) (mi : hd_I) (Z : Option Value → hd_M → Prop) (sh : hd_S) (i : hd_Ins) (pc len a b : Nat) (c : Int32) (d : Int64) (sw : List (Int32 × Nat)) (ce : hd_I) (lv : hd_L) (st : List Value) (σ : hd_M) (k : Nat → hd_L → List Value → hd_M → Prop) : Prop := match i with
  | .iconst _ => k (pc + len) lv (.int c :: st) σ
  | .bipush _ => k (pc + len) lv (.int c :: st) σ
  | .sipush _ => k (pc + len) lv (.int c :: st) σ
  | .ldc_w _ => k (pc + len) lv (.int c :: st) σ
  | .ldc _ => bif Nat.beq b 0 then k (pc + len) lv (.int c :: st) σ else k (pc + len) lv (.ref (5000 + a) :: st) σ
  | .lconst _ => k (pc + len) lv (.long d :: st) σ
  | .ldc2_w _ => k (pc + len) lv (.long d :: st) σ
  | .iload _ => hd_lki a lv (fun x => k (pc + len) lv (.int x :: st) σ)
  | .iload_n _ => hd_lki a lv (fun x => k (pc + len) lv (.int x :: st) σ)
  | .lload _ => hd_lkl a lv (fun x => k (pc + len) lv (.long x :: st) σ)
  | .lload_n _ => hd_lkl a lv (fun x => k (pc + len) lv (.long x :: st) σ)
  | .aload _ => hd_lkr a lv (fun x => k (pc + len) lv (.ref x :: st) σ)
  | .aload_n _ => hd_lkr a lv (fun x => k (pc + len) lv (.ref x :: st) σ)
  | .istore _ => hd_i1 st (fun x st => ∀ y, y = x → k (pc + len) (hd_sto a (.int y) lv) st σ)
  | .istore_n _ => hd_i1 st (fun x st => ∀ y, y = x → k (pc + len) (hd_sto a (.int y) lv) st σ)
  | .lstore _ => hd_l1 st (fun x st => ∀ y, y = x → k (pc + len) (hd_stoL a (.long y) lv) st σ)
  | .lstore_n _ => hd_l1 st (fun x st => ∀ y, y = x → k (pc + len) (hd_stoL a (.long y) lv) st σ)
  | .astore _ => hd_r1 st (fun x st => k (pc + len) (hd_sto a (.ref x) lv) st σ)
  | .astore_n _ => hd_r1 st (fun x st => k (pc + len) (hd_sto a (.ref x) lv) st σ)
  | .iinc _ _ => hd_lki a lv (fun x => ∀ y, y = x + c → k (pc + len) (hd_sto a (.int y) lv) st σ)
  | .dup => match st with
    | v :: st => bif Nat.beq v.category 1 then k (pc + len) lv (v :: v :: st) σ else False
    | _ => False
  | .pop => match st with
    | v :: st => bif Nat.beq v.category 1 then k (pc + len) lv st σ else False
    | _ => False
  | .dup_x1 => match st with
    | v :: w :: st => bif Nat.beq v.category 1 && Nat.beq w.category 1 then k (pc + len) lv (v :: w :: v :: st) σ else False
    | _ => False
  | .dup2 => match st with
    | v :: w :: st => bif Nat.beq v.category 1 && Nat.beq w.category 1 then k (pc + len) lv (v :: w :: v :: w :: st) σ else False
    | _ => False
  | .iadd => hd_i2 st (fun y x st => k (pc + len) lv (.int (x + y) :: st) σ)
  | .isub => hd_i2 st (fun y x st => k (pc + len) lv (.int (x - y) :: st) σ)
  | .imul => hd_i2 st (fun y x st => k (pc + len) lv (.int (x * y) :: st) σ)
  | .idiv => hd_i2 st (fun y x st => ¬ y = 0 ∧ k (pc + len) lv (.int (x / y) :: st) σ)
  | .irem => hd_i2 st (fun y x st => ¬ y = 0 ∧ k (pc + len) lv (.int (x - x / y * y) :: st) σ)
  | .ineg => hd_i1 st (fun x st => k (pc + len) lv (.int (-x) :: st) σ)
  | .ishl => hd_i2 st (fun y x st => k (pc + len) lv (.int (x <<< (y &&& 31)) :: st) σ)
  | .ishr => hd_i2 st (fun y x st => k (pc + len) lv (.int (x >>> (y &&& 31)) :: st) σ)
  | .iushr => hd_i2 st (fun y x st => k (pc + len) lv (.int (x.toUInt32 >>> (y.toUInt32 &&& Int32.toUInt32 31)).toInt32 :: st) σ)
  | .iand => hd_i2 st (fun y x st => k (pc + len) lv (.int (x &&& y) :: st) σ)
  | .ior => hd_i2 st (fun y x st => k (pc + len) lv (.int (x ||| y) :: st) σ)
  | .ixor => hd_i2 st (fun y x st => k (pc + len) lv (.int (x ^^^ y) :: st) σ)
  | .i2l => hd_i1 st (fun x st => k (pc + len) lv (.long x.toInt64 :: st) σ)
  | .l2i => hd_l1 st (fun x st => k (pc + len) lv (.int x.toInt32 :: st) σ)
  | .i2b => hd_i1 st (fun x st => k (pc + len) lv (.int x.toInt8.toInt32 :: st) σ)
  | .ladd => hd_l2 st (fun y x st => k (pc + len) lv (.long (x + y) :: st) σ)
  | .lsub => hd_l2 st (fun y x st => k (pc + len) lv (.long (x - y) :: st) σ)
  | .lmul => hd_l2 st (fun y x st => k (pc + len) lv (.long (x * y) :: st) σ)
  | .ldiv => hd_l2 st (fun y x st => ¬ y = 0 ∧ k (pc + len) lv (.long (x / y) :: st) σ)
  | .lneg => hd_l1 st (fun x st => k (pc + len) lv (.long (-x) :: st) σ)
  | .lor => hd_l2 st (fun y x st => k (pc + len) lv (.long (x ||| y) :: st) σ)
  | .lshl => hd_il st (fun y x st => k (pc + len) lv (.long (x <<< (y.toInt64 &&& 63)) :: st) σ)
  | .lcmp => hd_l2 st (fun y x st => k (pc + len) lv (.int (lg_cmp x y) :: st) σ)
  | .goto _ => k a lv st σ
  | .ifCond cd _ => hd_i1 st (fun x st => hd_if0 cd x (k a lv st σ) (k (pc + len) lv st σ))
  | .if_icmp cd _ => hd_i2 st (fun y x st => hd_if2 cd x y (k a lv st σ) (k (pc + len) lv st σ))
  | .if_acmp cd _ => hd_r2 st (fun y x st => (x < 5000 ∧ y < 5000) ∧ (match cd with
      | .eq => (x = y → k a lv st σ) ∧ (¬ x = y → k (pc + len) lv st σ)
      | .ne => (¬ x = y → k a lv st σ) ∧ (x = y → k (pc + len) lv st σ)))
  | .tableswitch _ _ _ _ => hd_i1 st (fun x st => hd_sw x a (fun t => k t lv st σ) sw)
  | .iaload => hd_ir st (fun j q st => hd_k sh q 0 (fun n => vp_in j n ∧ k (pc + len) lv (.int (σ.1 q j.toNatClampNeg) :: st) σ))
  | .baload => hd_ir st (fun j q st => hd_k sh q a (fun n => bif Nat.beq a 1 || Nat.beq a 2 then (vp_in j n ∧ k (pc + len) lv (.int (σ.1 q j.toNatClampNeg) :: st) σ) else False))
  | .laload => hd_ir st (fun j q st => hd_k sh q 3 (fun n => vp_in j n ∧ k (pc + len) lv (.long (σ.2 q j.toNatClampNeg) :: st) σ))
  | .aaload => hd_ir st (fun j q st => hd_kr sh q 4 (fun n rs => vp_in j n ∧ ¬ rs.getD j.toNatClampNeg 0 = 0 ∧ k (pc + len) lv (.ref (rs.getD j.toNatClampNeg 0) :: st) σ))
  | .iastore => hd_iir st (fun x j q st => hd_k sh q 0 (fun n => vp_in j n ∧ ∀ σ', σ' = hd_wI σ q j.toNatClampNeg x → k (pc + len) lv st σ'))
  | .bastore => hd_iir st (fun x j q st => match a with
    | 1 => hd_k sh q 1 (fun n => vp_in j n ∧ ∀ σ', σ' = hd_wI σ q j.toNatClampNeg x.toInt8.toInt32 → k (pc + len) lv st σ')
    | 2 => hd_k sh q 2 (fun n => vp_in j n ∧ (x = 0 ∨ x = 1) ∧ ∀ σ', σ' = hd_wI σ q j.toNatClampNeg x → k (pc + len) lv st σ')
    | _ => False)
  | .lastore => hd_lir st (fun x j q st => hd_k sh q 3 (fun n => vp_in j n ∧ ∀ σ', σ' = hd_wL σ q j.toNatClampNeg x → k (pc + len) lv st σ'))
  | .arraylength => hd_r1 st (fun q st => hd_al sh q (fun n => k (pc + len) lv (.int (Int32.ofNat n) :: st) σ))
  | .getfield _ => hd_r1 st (fun q st => hd_kr sh q (10 + a) (fun _ rs => match b / 100 with
    | 0 => k (pc + len) lv (.int (σ.1 q (b % 100)) :: st) σ
    | 1 => k (pc + len) lv (.long (σ.2 q (b % 100)) :: st) σ
    | 2 => match hd_rv id (rs.getD (b % 100) 0) with
      | .ref r => k (pc + len) lv (.ref r :: st) σ
      | _ => False
    | 3 => ¬ (σ.1 q (b % 100)).toNatClampNeg = 0 ∧ k (pc + len) lv (.ref (σ.1 q (b % 100)).toNatClampNeg :: st) σ
    | 5 => ¬ rs.getD (b % 100) 0 = 0 ∧ k (pc + len) lv (.ref (rs.getD (b % 100) 0) :: st) σ
    | _ => k (pc + len) lv (.int (σ.1 q (b % 100)) :: st) σ))
  | .putfield _ => match b / 100 with
    | 0 => hd_i1 st (fun x st => hd_r1 st (fun q st => hd_k sh q (10 + a) (fun _ => ∀ σ', σ' = hd_wI σ q (b % 100) x → k (pc + len) lv st σ')))
    | 1 => hd_l1 st (fun x st => hd_r1 st (fun q st => hd_k sh q (10 + a) (fun _ => ∀ σ', σ' = hd_wL σ q (b % 100) x → k (pc + len) lv st σ')))
    | 3 => hd_r1 st (fun r st => hd_r1 st (fun q st => hd_k sh q (10 + a) (fun _ => (0 < r ∧ r < 5000) ∧ ∀ σ', σ' = hd_wI σ q (b % 100) (Int32.ofNat r) → k (pc + len) lv st σ')))
    | 4 => hd_i1 st (fun x st => hd_r1 st (fun q st => hd_k sh q (10 + a) (fun _ => (x = 0 ∨ x = 1) ∧ ∀ σ', σ' = hd_wI σ q (b % 100) x → k (pc + len) lv st σ')))
    | _ => False
  | .invokestatic _ => bif Nat.beq a 6 then hd_inC sh b st σ (fun st σ => k (pc + len) lv st σ) else bif Nat.blt 6 a then hd_inM a st σ (fun st σ => k (pc + len) lv st σ) else hd_inS G ce a b sh st σ (fun st σ => k (pc + len) lv st σ)
  | .invokevirtual _ => bif Nat.beq (b / 100) 99 then hd_inT G ce a b sh st σ (fun st σ => k (pc + len) lv st σ) else hd_inV G ce a b sh st σ (fun st σ => k (pc + len) lv st σ)
  | .invokespecial _ => hd_r1 st (fun _ st => bif Nat.ble (hd_sum st) 8 && Nat.beq a 5 then k (pc + len) lv st σ else False)
  | .ireturn => match st with
    | [.int v] => hd_ret mi.2.2.2.1 v (Z (some (.int v)) σ)
    | _ => False
  | .lreturn => match st with
    | [.long v] => hd_retl mi.2.2.2.1 (Z (some (.long v)) σ)
    | _ => False
  | .areturn => match st with
    | [.ref v] => hd_reta mi.2.2.2.1 (Z (some (.ref v)) σ)
    | _ => False
  | .return_ => match st with
    | [] => hd_retv mi.2.2.2.1 (Z none σ)
    | _ => False
  | _ => False
