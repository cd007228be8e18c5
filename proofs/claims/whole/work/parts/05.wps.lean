def hd_find (pc : Nat) : List hd_R → Option hd_R
  | [] => none
  | r :: rs => bif Nat.beq pc r.1 then some r else hd_find pc rs
def hd_cut (pc : Nat) : List (Nat × List Nat) → Option (List Nat)
  | [] => none
  | r :: rs => bif Nat.beq pc r.1 then some r.2 else hd_cut pc rs
/-- the walk from a place on to the cuts -/
def hd_wps (G : hd_G) (mi : hd_I) (X : hd_X) (Z : Option Value → hd_M → Prop) (rows : List hd_R) (cuts : List (Nat × List Nat)) (sh : hd_S) (ks : Nat × Nat) : Nat → Nat → hd_L → List Value → hd_M → Prop
  | 0, pc, lv, st, σ => hd_J G mi X sh ks pc lv st σ
  | n + 1, pc, lv, st, σ => match hd_find pc rows with
    | none => False
    | some (pc, i, len, a, b, c, d, sw, ce) => hd_step G mi Z sh i pc len a b c d sw ce lv st σ (fun pc lv st σ => match hd_cut pc cuts with
      | some live => hd_J G mi X sh ks pc (hd_pick live lv) st σ
      | none => hd_wps G mi X Z rows cuts sh ks n pc lv st σ)
def hd_Zi (P : Int32 → hd_M → Prop) : Option Value → hd_M → Prop := fun r σ => match r with
  | some (.int x) => P x σ
  | _ => False
def hd_Zl (P : Int64 → hd_M → Prop) : Option Value → hd_M → Prop := fun r σ => match r with
  | some (.long x) => P x σ
  | _ => False
def hd_Zr (P : Nat → hd_M → Prop) : Option Value → hd_M → Prop := fun r σ => match r with
  | some (.ref x) => P x σ
  | _ => False
def hd_Zv (P : hd_M → Prop) : Option Value → hd_M → Prop := fun r σ => match r with
  | none => P σ
  | _ => False
