/-! a row holds: its instruction is the code's, its links are the tables' -/
def hd_tb : Nat → List Cond
  | 0 => k2_sels lw_privs
  | 1 => tables_1_1
  | 2 => tables_1_2
  | 3 => tables_1_3
  | 4 => tables_1_4
  | 5 => tables_1_5
  | 6 => tables_1_6
  | _ => []
theorem hd_tb_sub {c : Nat} {w : Cond} (h : w ∈ hd_tb c) : w ∈ lw_tbl := by
  unfold lw_tbl tables_1
  simp only [List.mem_append]
  match c, h with
  | 0, h => exact Or.inl h
  | 1, h => exact Or.inr (Or.inl h)
  | 2, h => exact Or.inr (Or.inr (Or.inl h))
  | 3, h => exact Or.inr (Or.inr (Or.inr (Or.inl h)))
  | 4, h => exact Or.inr (Or.inr (Or.inr (Or.inr (Or.inl h))))
  | 5, h => exact Or.inr (Or.inr (Or.inr (Or.inr (Or.inr (Or.inl h)))))
  | 6, h => exact Or.inr (Or.inr (Or.inr (Or.inr (Or.inr (Or.inr h)))))
  | n + 7, h => exact absurd h List.not_mem_nil
def hd_at (sw : List (Int32 × Nat)) (j : Nat) (w : Cond) : Bool := (match sw[j]? with
  | some q => decide ((hd_tb (q.2 / 1000))[q.2 % 1000]? = some w)
  | none => false) && goodWord w
theorem hd_at_mem {sw : List (Int32 × Nat)} {j : Nat} {w : Cond} (h : hd_at sw j w = true) : w ∈ lw_g := by
  unfold hd_at at h
  rw [Bool.and_eq_true] at h
  refine List.mem_filter.mpr ⟨?_, h.2⟩
  have h1 := h.1
  split at h1
  · exact hd_tb_sub (List.mem_of_getElem? (of_decide_eq_true h1))
  · cases h1
def hd_lnk (mi : hd_I) (idx : Nat) (sw : List (Int32 × Nat)) (y : MethodName) : Bool := hd_at sw 0 (.methodLink mi.1.cls idx y)
def hd_lnkN (mi : hd_I) (idx : Nat) (sw : List (Int32 × Nat)) (y : MethodName) : Bool := match sw[0]? with
  | some q => decide (hd_nest[q.2]? = some (.methodLinkNest mi.1.cls idx y "HiddenDrawers"))
  | none => false
def hd_isN (sw : List (Int32 × Nat)) : Bool := match sw[0]? with
  | some q => decide (q.1 = 1)
  | none => false
def hd_okm (mi : hd_I) (idx a : Nat) (sw : List (Int32 × Nat)) : Bool := Nat.ble 1 mi.2.2.2.2.1 && Nat.ble 24 mi.2.2.2.2.2.1 && hd_at sw 2 (.initialized "java/lang/Math") && (match a with
  | 7 => hd_lnk mi idx sw Lib.Math.max.name && hd_at sw 1 (.code Lib.Math.max.name Lib.Math.max.code 2 (some .int)) && hd_at sw 3 (.static Lib.Math.max.name)
  | 8 => hd_lnk mi idx sw Lib.Math.min.name && hd_at sw 1 (.code Lib.Math.min.name Lib.Math.min.code 2 (some .int)) && hd_at sw 3 (.static Lib.Math.min.name)
  | 9 => hd_lnk mi idx sw Lib.MathLoose.max_long.x && hd_at sw 1 (.code Lib.MathLoose.max_long.x Lib.MathLoose.max_long.code 4 (some .long)) && hd_at sw 3 (.static Lib.MathLoose.max_long.x)
  | 10 => hd_lnk mi idx sw Lib.MathLoose.min_long.x && hd_at sw 1 (.code Lib.MathLoose.min_long.x Lib.MathLoose.min_long.code 4 (some .long)) && hd_at sw 3 (.static Lib.MathLoose.min_long.x)
  | _ => false)
/-- what a call asks of the callee -/
def hd_cal (mi : hd_I) (n : Nat) (sw : List (Int32 × Nat)) (ce : hd_I) : Bool := Nat.ble (ce.2.2.2.2.1 + 1) mi.2.2.2.2.1 && Nat.ble (8 + (ce.2.2.1 + 11) + ce.2.2.2.2.2.1) mi.2.2.2.2.2.1 && hd_at sw 2 (.initialized ce.1.cls) && decide (ce.1.cls ≠ "java/lang/invoke/MethodHandle" ∧ ce.1.cls ≠ "java/lang/invoke/VarHandle" ∧ (parseMethodDescriptor ce.1.desc).map (fun d => d.parameters.length) = some n)
def hd_fok (mi : hd_I) (idx a b : Nat) (sw : List (Int32 × Nat)) : Bool := match vwCl[a]? with
  | some q => Nat.blt (b % 100) q.2.2 && hd_at sw 0 (.fieldLink mi.1.cls idx (q.2.1 (b % 100)).1 (q.2.1 (b % 100)).2.1 (q.2.1 (b % 100)).2.2.1) && (Nat.beq (hd_fk a (b % 100)) (b / 100) || (Nat.beq (b / 100) 5 && Nat.beq (hd_fk a (b % 100)) 2))
  | none => false
def hd_fin (mi : hd_I) (a b : Nat) : Bool := match vwCl[a]? with
  | some q => !(q.2.1 (b % 100)).2.2.2
  | none => false
def hd_okb (mi : hd_I) (r : hd_R) : Bool := decide (decode mi.2.1 r.1 = .ok (r.2.1, r.2.2.1)) && (match r with
  | (pc, i, len, a, b, c, d, sw, ce) => match i with
    | .iconst n => Nat.beq len 1 && decide (Int32.ofInt n = c)
    | .bipush n => Nat.beq len 2 && decide ((Int8.ofInt n).toInt32 = c)
    | .sipush n => Nat.beq len 3 && decide ((Int16.ofInt n).toInt32 = c)
    | .ldc_w idx => Nat.beq len 3 && hd_at sw 0 (.constant mi.1.cls idx c)
    | .ldc idx => Nat.beq len 2 && (bif Nat.beq b 0 then hd_at sw 0 (.constant mi.1.cls idx c) else (decide (mi.1.cls = RX6) && Nat.blt a 15 && decide (hd_sk.getD a 0 = idx)))
    | .lconst n => Nat.beq len 1 && decide (Int64.ofNat n.val = d)
    | .ldc2_w idx => Nat.beq len 3 && hd_at sw 0 (.constantLong mi.1.cls idx d)
    | .iload j => Nat.beq len 2 && Nat.beq j a
    | .iload_n j => Nat.beq len 1 && Nat.beq j.val a
    | .lload j => Nat.beq len 2 && Nat.beq j a
    | .lload_n j => Nat.beq len 1 && Nat.beq j.val a
    | .aload j => Nat.beq len 2 && Nat.beq j a
    | .aload_n j => Nat.beq len 1 && Nat.beq j.val a
    | .istore j => Nat.beq len 2 && Nat.beq j a && Nat.blt a mi.2.2.1
    | .istore_n j => Nat.beq len 1 && Nat.beq j.val a && Nat.blt a mi.2.2.1
    | .lstore j => Nat.beq len 2 && Nat.beq j a && Nat.blt (a + 1) mi.2.2.1
    | .lstore_n j => Nat.beq len 1 && Nat.beq j.val a && Nat.blt (a + 1) mi.2.2.1
    | .astore j => Nat.beq len 2 && Nat.beq j a && Nat.blt a mi.2.2.1
    | .astore_n j => Nat.beq len 1 && Nat.beq j.val a && Nat.blt a mi.2.2.1
    | .iinc j n => Nat.beq len 3 && Nat.beq j a && Nat.blt a mi.2.2.1 && decide (Int32.ofInt n = c)
    | .goto off => Nat.beq len 3 && decide ((pc : Int) + off = (a : Int))
    | .ifCond _ off => Nat.beq len 3 && decide ((pc : Int) + off = (a : Int))
    | .if_icmp _ off => Nat.beq len 3 && decide ((pc : Int) + off = (a : Int))
    | .if_acmp _ off => Nat.beq len 3 && decide ((pc : Int) + off = (a : Int))
    | .tableswitch dflt lo hi offs => decide ((pc : Int) + dflt = (a : Int)) && decide (-2147483648 ≤ lo) && decide (hi ≤ 2147483647) && decide (hi - lo + 1 = (offs.size : Int)) && decide (sw.map (fun q => (q.1, (q.2 : Int))) = (List.range offs.size).map (fun (j : Nat) => (Int32.ofInt (lo + (j : Int)), (pc : Int) + offs.getD j 0)))
    | .getfield idx => Nat.beq len 3 && hd_fok mi idx a b sw
    | .putfield idx => Nat.beq len 3 && hd_fok mi idx a b sw && hd_fin mi a b
    | .invokestatic idx => Nat.beq len 3 && (bif Nat.beq a 6 then (Nat.beq b 5 && hd_lnk mi idx sw arraycopyName && hd_at sw 1 (.native arraycopyName) && hd_at sw 2 (.static arraycopyName) && hd_at sw 3 (.initialized "java/lang/System") && Nat.ble 1 mi.2.2.2.2.1 && Nat.ble (8 + (nativeFrameWords "java/lang/System" "arraycopy" 5 + 11)) mi.2.2.2.2.2.1) else bif Nat.blt 6 a then hd_okm mi idx a sw else ((bif hd_isN sw then hd_lnkN mi idx sw ce.1 else hd_lnk mi idx sw ce.1) && hd_cal mi b sw ce && hd_at sw 3 (.static ce.1) && Nat.beq ce.2.2.2.2.2.2.1 0 && Nat.beq ce.2.2.2.2.2.2.2 0))
    | .invokevirtual idx => Nat.beq len 3 && hd_lnk mi idx sw ce.1 && hd_cal mi (b % 100) sw ce && hd_at sw 3 (.instanceMethod ce.1) && hd_at sw 4 (.selects ce.1.cls ce.1 ce.1) && Nat.beq ce.2.2.2.2.2.2.1 0 && Nat.beq ce.2.2.2.2.2.2.2 0 && (bif Nat.beq (b / 100) 99 then decide (ce.1.cls = "java/lang/String") else (match vwCl[b / 100]? with
      | some q => decide (q.1 = ce.1.cls)
      | none => false))
    | .invokespecial idx => Nat.beq len 3 && Nat.beq a 5 && hd_lnk mi idx sw objectInit && hd_at sw 1 (.instanceMethod objectInit) && hd_at sw 2 (.code objectInit ⟨#[0xb1]⟩ 1 none) && Nat.ble 1 mi.2.2.2.2.1 && Nat.ble 20 mi.2.2.2.2.2.1
    | _ => Nat.beq len 1)
/-- the callee's code is the tables' -/
def hd_cdc (ce : hd_I) : Prop := Cond.code ce.1 ce.2.1 ce.2.2.1 ce.2.2.2.1 ∈ lw_g
def hd_cd (r : hd_R) : Prop := match r with
  | (_, i, _, a, _, _, _, _, ce) => match i with
    | .invokestatic _ => bif Nat.blt 5 a then True else hd_cdc ce
    | .invokevirtual _ => hd_cdc ce
    | .invokespecial _ => bif Nat.beq a 4 then hd_cdc ce else True
    | _ => True
def hd_cdl : List hd_R → Prop
  | [] => True
  | r :: rs => hd_cd r ∧ hd_cdl rs
theorem hd_cdl_mem : ∀ {rows : List hd_R}, hd_cdl rows → ∀ r ∈ rows, hd_cd r
  | r0 :: rs, h, r, hr => by
    rcases List.mem_cons.mp hr with rfl | hr
    · exact h.1
    · exact hd_cdl_mem h.2 r hr
