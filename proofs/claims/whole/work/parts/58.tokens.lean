theorem sX6_advanceX {G : hd_G} {σ : hd_M} {P : hd_M → Prop} {ts : List Tk} {i : Nat} (hN : tkN σ ts i) (h0 : 0 < ts.length) (hi : i ≤ ts.length) (hl : ts.length ≤ 301) (h : ∀ σ', ag [63] σ σ' → P σ') : EVv G mX6_advance SH [.ref 63] σ P := by
  obtain ⟨h4, h3, hc⟩ := hN
  refine wX6_advance (fun v1 e1 => ?_)
  obtain ⟨k, hk, e1⟩ : ∃ k, k < 301 ∧ v1 = nI k := by
    rw [h3, h4, nI_sub1 h0] at e1
    by_cases q : ts.length - 1 < i
    · rw [if_pos (nI_lt q (by omega))] at e1
      exact ⟨_, by omega, e1⟩
    · rw [if_neg (nI_nlt (by omega) (by omega))] at e1
      exact ⟨i, by omega, e1⟩
  rw [e1]
  refine b_lt' (nI_pos' (by omega)) (b_le' (nI_lt (b := 301) (by omega) (by decide)) ⟨hd_vn (by omega) (by decide), fun s2 e2 => ⟨hd_vn (by omega) (by decide), fun s3 e3 => ⟨hd_vn (by omega) (by decide), fun s4 e4 s5 e5 => h s5 ?_⟩⟩⟩)
  rw [e5, e4, e3, e2]
  exact ag_wI (ag_wI (ag_wI (ag_wI ag_rf (by decide)) (by decide)) (by decide)) (by decide)
/-! the reference's tokens -/
def rcK (k : Nat) : Nat := if k = 3 then 59 else if k = 25 then 60 else if k = 26 then 4 else if k = 27 then 62 else if k = 28 then 5 else if k = 29 then 61 else if k = 30 then 35 else if k = 31 then 43 else if k = 32 then 45 else if k = 33 then 42 else if k = 34 then 47 else if k = 36 then 40 else if k = 37 then 41 else 3
def isSg (k : Nat) : Bool := decide (k = 3) || (decide (25 ≤ k) && decide (k ≤ 34)) || decide (k = 36) || decide (k = 37)
def wkL (k : Nat) : List Nat := if 12 ≤ k ∧ k ≤ 17 then [97 + (k - 12)] else if k = 18 then [116, 105, 108, 116] else if k = 19 then [111, 110] else if k = 20 then [112, 97, 114, 116] else if k = 21 then [97, 116] else if k = 22 then [111, 114] else if k = 23 then [97, 110, 100] else if k = 24 then [110, 111, 116] else if k = 6 then [119, 104, 101, 110] else if k = 7 then [119, 105, 116, 104] else if k = 4 then [116, 111] else if k = 5 then [115, 101, 116] else if k = 8 then [115, 111, 117, 110, 100] else if k = 9 then [111, 112, 101, 110] else if k = 10 then [115, 116, 111, 112, 115] else [100, 111]
def pkR : List Nat → Nat
  | [] => 0
  | b :: r => pkR r * 256 + b
def pkN (w : List Nat) : Nat := pkR w.reverse
theorem pkR_inj : ∀ {l m : List Nat}, (∀ b ∈ l, 1 ≤ b ∧ b < 256) → (∀ b ∈ m, 1 ≤ b ∧ b < 256) → pkR l = pkR m → l = m
  | [], [], _, _, _ => rfl
  | [], b :: r, _, hm, h => by
    have := hm b List.mem_cons_self
    have h : 0 = pkR r * 256 + b := h
    omega
  | b :: r, [], hl, _, h => by
    have := hl b List.mem_cons_self
    have h : pkR r * 256 + b = 0 := h
    omega
  | b :: r, c :: t, hl, hm, h => by
    have h1 := hl b List.mem_cons_self
    have h2 := hm c List.mem_cons_self
    have h : pkR r * 256 + b = pkR t * 256 + c := h
    have e1 : b = c := by omega
    have e2 : pkR r = pkR t := by omega
    rw [e1, pkR_inj (fun x hx => hl x (List.mem_cons_of_mem _ hx)) (fun x hx => hm x (List.mem_cons_of_mem _ hx)) e2]
theorem pkN_inj {l m : List Nat} (hl : ∀ b ∈ l, 1 ≤ b ∧ b < 256) (hm : ∀ b ∈ m, 1 ≤ b ∧ b < 256) (h : pkN l = pkN m) : l = m := by
  have := pkR_inj (l := l.reverse) (m := m.reverse) (fun b hb => hl b (List.mem_reverse.mp hb)) (fun b hb => hm b (List.mem_reverse.mp hb)) h
  exact List.reverse_inj.mp this
theorem pkR_lt : ∀ {l : List Nat}, (∀ b ∈ l, b < 256) → pkR l < 256 ^ l.length
  | [], _ => by decide
  | b :: r, h => by
    have h1 := pkR_lt (l := r) (fun x hx => h x (List.mem_cons_of_mem _ hx))
    have h2 := h b List.mem_cons_self
    show pkR r * 256 + b < 256 ^ (r.length + 1)
    rw [Nat.pow_succ]
    omega
theorem pkN_app (l : List Nat) (b : Nat) : pkN (l ++ [b]) = pkN l * 256 + b := by
  unfold pkN
  rw [List.reverse_append]
  rfl
theorem wkL_ok : ∀ k, k < 25 → 4 ≤ k → (∀ b ∈ wkL k, 1 ≤ b ∧ b < 256) ∧ 0 < pkN (wkL k) ∧ pkN (wkL k) < 2 ^ 56 ∧ wdK (wkL k) = k := by decide +kernel
theorem kwF_c (w : List Nat) : ∀ T : List (List Nat × Nat), kwF w T = 1 ∨ ∃ q ∈ T, w = q.1 ∧ kwF w T = q.2
  | [] => Or.inl rfl
  | q :: r => by
    unfold kwF
    by_cases h : w = q.1
    · rw [if_pos h]
      exact Or.inr ⟨q, List.mem_cons_self, h, rfl⟩
    · rw [if_neg h]
      rcases kwF_c w r with z | ⟨p, h1, h2⟩
      · exact Or.inl z
      · exact Or.inr ⟨p, List.mem_cons_of_mem _ h1, h2⟩
theorem kwT_ok : ∀ q ∈ kwT, 4 ≤ q.2 ∧ q.2 < 25 ∧ wkL q.2 = q.1 := by decide +kernel
theorem wdK_iff {w : List Nat} {k : Nat} (h4 : 4 ≤ k) (h24 : k < 25) : wdK w = k ↔ w = wkL k := by
  constructor
  · intro h
    unfold wdK at h
    split at h
    · rename_i h1
      unfold ltK at h
      split at h
      · rename_i h2
        obtain ⟨b, rfl⟩ : ∃ b, w = [b] := by
          match w, h1 with
          | [b], _ => exact ⟨b, rfl⟩
        have h2 : 97 ≤ b ∧ b ≤ 102 := h2
        have h : 12 + (b - 97) = k := h
        unfold wkL
        rw [if_pos (by omega), show 97 + (k - 12) = b by omega]
      · omega
    · rcases kwF_c w kwT with z | ⟨q, h1, h2, h3⟩
      · omega
      · have := kwT_ok q h1
        rw [h2, ← this.2.2, ← h3, h]
  · intro h
    rw [h]
    exact (wkL_ok k h24 h4).2.2.2
theorem wdK_r (w : List Nat) : wdK w = 1 ∨ (4 ≤ wdK w ∧ wdK w < 25) := by
  unfold wdK
  split
  · unfold ltK
    split
    · omega
    · omega
  · rcases kwF_c w kwT with z | ⟨q, h1, h2, h3⟩
    · exact Or.inl z
    · have := kwT_ok q h1
      rw [h3]
      exact Or.inr ⟨this.1, this.2.1⟩
/-- the reference's word -/
def pkW (w : List Nat) : Nat := if w.length ≤ 7 then pkN w else 0
theorem pkW_iff {w : List Nat} {k : Nat} (hw : ∀ b ∈ w, 1 ≤ b ∧ b < 256) (h4 : 4 ≤ k) (h24 : k < 25) : wdK w = k ↔ pkW w = pkN (wkL k) := by
  have ok := wkL_ok k h24 h4
  rw [wdK_iff h4 h24]
  unfold pkW
  constructor
  · intro h
    have hl : ∀ k, k < 25 → 4 ≤ k → (wkL k).length ≤ 7 := by decide +kernel
    rw [h, if_pos (hl k h24 h4)]
  · intro h
    split at h
    · exact pkN_inj hw ok.1 h
    · omega
theorem pkW_lt {w : List Nat} (hw : ∀ b ∈ w, 1 ≤ b ∧ b < 256) : pkW w < 2 ^ 56 := by
  unfold pkW
  split
  · rename_i h
    have := pkR_lt (l := w.reverse) (fun b hb => (hw b (List.mem_reverse.mp hb)).2)
    rw [List.length_reverse] at this
    have h2 : 256 ^ w.length ≤ 256 ^ 7 := Nat.pow_le_pow_right (by decide) h
    exact Nat.lt_of_lt_of_le this h2
  · decide
/-- the current token, in the reference -/
def rTok (σ : hd_M) (t : Tk) : Prop := σ.1 94 8 = nI t.2.2 ∧ ((t.1 = 0 ∧ σ.1 94 9 = 0) ∨ (t.1 = 2 ∧ σ.1 94 9 = 1 ∧ ∃ n, n < 2000000 ∧ σ.1 94 10 = nI n ∧ t.2.1 = min 10000 n) ∨ ((t.1 = 1 ∨ isSg t.1 = true) ∧ σ.1 94 9 = nI (rcK t.1)) ∨ ((t.1 = 1 ∨ (4 ≤ t.1 ∧ t.1 < 25)) ∧ σ.1 94 9 = 2 ∧ ∃ W, W < 2 ^ 56 ∧ σ.2 94 11 = lN W ∧ ∀ k, 4 ≤ k → k < 25 → (t.1 = k ↔ W = pkN (wkL k))))
/-- only the reference's scanner changes -/
def agK (σ σ' : hd_M) : Prop := (∀ k, k ≠ 94 → σ'.1 k = σ.1 k ∧ σ'.2 k = σ.2 k) ∧ ∀ j, j < 7 ∨ 10 < j → σ'.1 94 j = σ.1 94 j
theorem agK_rf {σ : hd_M} : agK σ σ := ⟨fun _ _ => ⟨rfl, rfl⟩, fun _ _ => rfl⟩
theorem agK_tr {σ σ' σ'' : hd_M} (h : agK σ σ') (h' : agK σ' σ'') : agK σ σ'' := ⟨fun k hk => ⟨(h'.1 k hk).1.trans (h.1 k hk).1, (h'.1 k hk).2.trans (h.1 k hk).2⟩, fun j hj => (h'.2 j hj).trans (h.2 j hj)⟩
theorem agK_w {σ σ' : hd_M} {j : Nat} {x : Int32} (h : agK σ σ') (hj : 7 ≤ j ∧ j ≤ 10) : agK σ (hd_wI σ' 94 j x) := ⟨fun k hk => ⟨(wI_ne hk).trans (h.1 k hk).1, (h.1 k hk).2⟩, fun i hi => by rw [wI_eq, if_neg (by omega)]; exact h.2 i hi⟩
theorem agK_l {σ σ' : hd_M} {x : Int64} (h : agK σ σ') : agK σ (hd_wL σ' 94 11 x) := ⟨fun k hk => ⟨(h.1 k hk).1, by show va_up σ'.2 94 _ k = _; rw [hd_up_ne hk]; exact (h.1 k hk).2⟩, h.2⟩
/-- the tape, and where the reference stands in it -/
def rAt (σ : hd_M) (tp : List Nat) (a : Nat) : Prop := rTape σ tp ∧ σ.1 94 7 = nI a
theorem rTape_K {σ σ' : hd_M} {tp : List Nat} (h : rTape σ tp) (ha : agK σ σ') : rTape σ' tp := ⟨by rw [ha.2 4 (by omega)]; exact h.1, fun j hj => by rw [(ha.1 98 (by decide)).1]; exact h.2 j hj⟩
def rTs (σ : hd_M) (tp : List Nat) (ts : List Tk) : Prop := ∃ t rest, ts = t :: rest ∧ rTok σ t ∧ (t.1 ≠ 0 → ∃ a, a ≤ tp.length ∧ σ.1 94 7 = nI a ∧ ∀ f, tp.length - a < f → tkF tp f a = rest)
def btI (tp : List Nat) (a : Nat) : Int32 := if a < tp.length then nI (bt tp a) else -1
theorem sX8_byteAt {G : hd_G} {σ : hd_M} {P : Int32 → hd_M → Prop} {tp : List Nat} {a : Nat} (hT : rTape σ tp) (ht : tok tp) (ha : a ≤ tp.length) (h : P (btI tp a) σ) : EVi G mX8_byteAt SH [.ref 94, .int (nI a)] σ P := by
  have l3 := ht.1
  unfold btI at h
  refine wX8_byteAt _ ?_
  rw [hT.1]
  refine c_le (tp.length : Int) (a : Int) rfl rfl (fun z => ?_) (fun z => ⟨hd_vn (by omega) (by decide), ?_⟩)
  · rwa [if_neg (by omega)] at h
  · rw [if_pos (by omega)] at h
    rw [nI_clamp (by omega), hT.2 a (by omega)]
    exact h
theorem btI_z {tp : List Nat} {a : Nat} (ht : tok tp) : ∃ z : Int, btI tp a = zI z ∧ -1 ≤ z ∧ z < 256 ∧ (a < tp.length → z = bt tp a) ∧ (¬ a < tp.length → z = -1) := by
  unfold btI
  by_cases q : a < tp.length
  · rw [if_pos q]
    have : bt tp a < 256 := ht.2 _ (getD_mem (d := 0) q)
    exact ⟨(bt tp a : Int), rfl, by omega, by omega, fun _ => rfl, fun z => absurd q z⟩
  · rw [if_neg q]
    exact ⟨-1, rfl, by omega, by omega, fun z => absurd z q, fun _ => rfl⟩
theorem sX8_isLetter {G : hd_G} {σ : hd_M} {P : Int32 → hd_M → Prop} {sh : hd_S} {tp : List Nat} {a : Nat} (ht : tok tp) (h : P (zI (cl_bit (decide (a < tp.length) && isL (bt tp a)))) σ) : EVi G mX8_isLetter sh [.int (btI tp a)] σ P := by
  obtain ⟨z, e, z1, z2, z3, z4⟩ := btI_z (a := a) ht
  rw [e]
  unfold isL at h
  have u : (a < tp.length ∧ z = bt tp a) ∨ (¬ a < tp.length ∧ z = -1) := by
    by_cases q : a < tp.length
    · exact Or.inl ⟨q, z3 q⟩
    · exact Or.inr ⟨q, z4 q⟩
  refine wX8_isLetter _ (sX8_isIn (v := z) (a := 97) (b := 122) (by omega) (by omega) (by omega) ?_)
  by_cases q1 : 97 ≤ z ∧ z ≤ 122
  · rw [decide_eq_true q1]
    refine b_ne (by decide) ⟨Or.inr rfl, ?_⟩
    rwa [show (decide (a < tp.length) && (decide (97 ≤ bt tp a) && decide (bt tp a ≤ 122) || decide (65 ≤ bt tp a) && decide (bt tp a ≤ 90))) = true by simp; omega] at h
  · rw [decide_eq_false q1]
    refine b_ne' rfl (sX8_isIn (v := z) (a := 65) (b := 90) (by omega) (by omega) (by omega) ?_)
    by_cases q2 : 65 ≤ z ∧ z ≤ 90
    · rw [decide_eq_true q2]
      refine b_eq' (by decide) ⟨Or.inr rfl, ?_⟩
      rwa [show (decide (a < tp.length) && (decide (97 ≤ bt tp a) && decide (bt tp a ≤ 122) || decide (65 ≤ bt tp a) && decide (bt tp a ≤ 90))) = true by simp; omega] at h
    · rw [decide_eq_false q2]
      refine b_eq rfl ⟨Or.inl rfl, ?_⟩
      rwa [show (decide (a < tp.length) && (decide (97 ≤ bt tp a) && decide (bt tp a ≤ 122) || decide (65 ≤ bt tp a) && decide (bt tp a ≤ 90))) = false by simp; omega] at h
theorem sX8_isDigit {G : hd_G} {σ : hd_M} {P : Int32 → hd_M → Prop} {sh : hd_S} {tp : List Nat} {a : Nat} (ht : tok tp) (h : P (zI (cl_bit (decide (a < tp.length) && isD (bt tp a)))) σ) : EVi G mX8_isDigit sh [.int (btI tp a)] σ P := by
  obtain ⟨z, e, z1, z2, z3, z4⟩ := btI_z (a := a) ht
  rw [e]
  unfold isD at h
  have u : (a < tp.length ∧ z = bt tp a) ∨ (¬ a < tp.length ∧ z = -1) := by
    by_cases q : a < tp.length
    · exact Or.inl ⟨q, z3 q⟩
    · exact Or.inr ⟨q, z4 q⟩
  refine wX8_isDigit _ (sX8_isIn (v := z) (a := 48) (b := 57) (by omega) (by omega) (by omega) ⟨cl_bit_i _, ?_⟩)
  by_cases q1 : 48 ≤ z ∧ z ≤ 57
  · rw [decide_eq_true q1]
    rwa [show (decide (a < tp.length) && (decide (48 ≤ bt tp a) && decide (bt tp a ≤ 57))) = true by simp; omega] at h
  · rw [decide_eq_false q1]
    rwa [show (decide (a < tp.length) && (decide (48 ≤ bt tp a) && decide (bt tp a ≤ 57))) = false by simp; omega] at h
theorem lN_tb (n : Nat) : (lN n).toBitVec = BitVec.ofNat 64 n := rfl
theorem shl8 {x b : Nat} (hx : x < 2 ^ 48) (hb : b < 256) : (lN x <<< ((8 : Int32).toInt64 &&& 63)) ||| (nI b).toInt64 = lN (x * 256 + b) := by
  have e1 : (nI b).toInt64 = lN b := nI_l (by omega)
  have h1 : ((8 : Int32).toInt64 &&& 63) = (8 : Int64) := by decide +kernel
  have h2 : ((8 : Int64).toBitVec.smod 64) = BitVec.ofNat 64 8 := by decide +kernel
  rw [e1, h1]
  refine Int64.toBitVec_inj.mp ?_
  rw [Int64.toBitVec_or, Int64.toBitVec_shiftLeft, lN_tb, lN_tb, lN_tb, h2]
  refine BitVec.eq_of_toNat_eq ?_
  rw [BitVec.toNat_or, BitVec.shiftLeft_eq', BitVec.toNat_shiftLeft, BitVec.toNat_ofNat, BitVec.toNat_ofNat, BitVec.toNat_ofNat, BitVec.toNat_ofNat, Nat.shiftLeft_eq]
  rw [Nat.mod_eq_of_lt (show x < 2 ^ 64 by omega), Nat.mod_eq_of_lt (show 8 < 2 ^ 64 by decide), Nat.mod_eq_of_lt (show b < 2 ^ 64 by omega), Nat.mod_eq_of_lt (show x * 2 ^ 8 < 2 ^ 64 by omega), Nat.mod_eq_of_lt (show x * 256 + b < 2 ^ 64 by omega)]
  rw [← Nat.shiftLeft_eq, ← Nat.shiftLeft_add_eq_or_of_lt (show b < 2 ^ 8 by omega), Nat.shiftLeft_eq]
