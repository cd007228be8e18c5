/-! tokens: kind, value, first byte -/
def isL (b : Nat) : Bool := (decide (97 ≤ b) && decide (b ≤ 122)) || (decide (65 ≤ b) && decide (b ≤ 90))
def isD (b : Nat) : Bool := decide (48 ≤ b) && decide (b ≤ 57)
def isB (b : Nat) : Bool := decide (b = 32) || decide (b = 10)
def bt (tp : List Nat) (i : Nat) : Nat := tp.getD i 0
theorem isB_t {b : Nat} (h : b = 32 ∨ b = 10) : isB b = true := by unfold isB; simpa using h
theorem isB_f {b : Nat} (h1 : b ≠ 32) (h2 : b ≠ 10) : isB b = false := by unfold isB; simp [h1, h2]
def runE (p : Nat → Bool) (tp : List Nat) : Nat → Nat → Nat
  | 0, a => a
  | f + 1, a => if a < tp.length ∧ p (bt tp a) = true then runE p tp f (a + 1) else a
def numV (tp : List Nat) : Nat → Nat → Nat → Nat
  | 0, _, v => v
  | f + 1, a, v => if a < tp.length ∧ isD (bt tp a) = true then numV tp f (a + 1) (min 10000 (v * 10 + (bt tp a - 48))) else v
def kwT : List (List Nat × Nat) := [([116, 105, 108, 116], 18), ([111, 110], 19), ([112, 97, 114, 116], 20), ([97, 116], 21), ([111, 114], 22), ([97, 110, 100], 23), ([110, 111, 116], 24), ([119, 104, 101, 110], 6), ([119, 105, 116, 104], 7), ([116, 111], 4), ([115, 101, 116], 5), ([115, 111, 117, 110, 100], 8), ([111, 112, 101, 110], 9), ([115, 116, 111, 112, 115], 10), ([100, 111], 11)]
def kwF (w : List Nat) : List (List Nat × Nat) → Nat
  | [] => 1
  | q :: r => if w = q.1 then q.2 else kwF w r
def ltK (b : Nat) : Nat := if 97 ≤ b ∧ b ≤ 102 then 12 + (b - 97) else 1
def wdK (w : List Nat) : Nat := if w.length = 1 then ltK (w.getD 0 0) else kwF w kwT
def sgK (b : Nat) : Nat := if b = 35 then 30 else if b = 40 then 36 else if b = 41 then 37 else if b = 42 then 33 else if b = 43 then 31 else if b = 45 then 32 else if b = 47 then 34 else if b = 59 then 3 else if b = 60 then 25 else if b = 61 then 29 else if b = 62 then 27 else 1
abbrev Tk : Type := Nat × Nat × Nat
/-- the token at b: kind, value, where it ends -/
def tokE (tp : List Nat) (b : Nat) : Nat × Nat × Nat :=
  if isL (bt tp b) = true then (wdK ((tp.drop b).take (runE isL tp (tp.length - b) b - b)), 0, runE isL tp (tp.length - b) b)
  else if isD (bt tp b) = true then (2, numV tp (tp.length - (b + 1)) (b + 1) (bt tp b - 48), runE isD tp (tp.length - b) b)
  else if (bt tp b = 60 ∨ bt tp b = 62) ∧ b + 1 < tp.length ∧ bt tp (b + 1) = 61 then (if bt tp b = 60 then 26 else 28, 0, b + 2)
  else (sgK (bt tp b), 0, b + 1)
def tkF (tp : List Nat) : Nat → Nat → List Tk
  | 0, _ => [(0, 0, tp.length)]
  | f + 1, a => if a < tp.length then (if isB (bt tp a) = true then tkF tp f (a + 1) else ((tokE tp a).1, (tokE tp a).2.1, a) :: tkF tp f (tokE tp a).2.2) else [(0, 0, tp.length)]
theorem runE_s {p : Nat → Bool} {tp : List Nat} {a : Nat} (h : a < tp.length) (hp : p (bt tp a) = true) : runE p tp (tp.length - a) a = runE p tp (tp.length - (a + 1)) (a + 1) := by
  rw [show tp.length - a = (tp.length - (a + 1)) + 1 by omega]
  show (if a < tp.length ∧ p (bt tp a) = true then runE p tp (tp.length - (a + 1)) (a + 1) else a) = _
  rw [if_pos ⟨h, hp⟩]
theorem runE_n {p : Nat → Bool} {tp : List Nat} {a : Nat} (h : ¬ (a < tp.length ∧ p (bt tp a) = true)) : runE p tp (tp.length - a) a = a := by
  cases hf : tp.length - a with
  | zero => rfl
  | succ f =>
    show (if a < tp.length ∧ p (bt tp a) = true then runE p tp f (a + 1) else a) = a
    rw [if_neg h]
theorem numV_s {tp : List Nat} {a v : Nat} (h : a < tp.length) (hp : isD (bt tp a) = true) : numV tp (tp.length - a) a v = numV tp (tp.length - (a + 1)) (a + 1) (min 10000 (v * 10 + (bt tp a - 48))) := by
  rw [show tp.length - a = (tp.length - (a + 1)) + 1 by omega]
  show (if a < tp.length ∧ isD (bt tp a) = true then _ else v) = _
  rw [if_pos ⟨h, hp⟩]
theorem numV_n {tp : List Nat} {a v : Nat} (h : ¬ (a < tp.length ∧ isD (bt tp a) = true)) : numV tp (tp.length - a) a v = v := by
  cases hf : tp.length - a with
  | zero => rfl
  | succ f =>
    show (if a < tp.length ∧ isD (bt tp a) = true then _ else v) = v
    rw [if_neg h]
theorem runE_r {p : Nat → Bool} {tp : List Nat} : ∀ (n a : Nat), tp.length - a ≤ n → a ≤ tp.length → a ≤ runE p tp (tp.length - a) a ∧ runE p tp (tp.length - a) a ≤ tp.length
  | 0, a, h, h2 => by
    rw [runE_n (by omega)]
    omega
  | n + 1, a, h, h2 => by
    by_cases q : a < tp.length ∧ p (bt tp a) = true
    · rw [runE_s q.1 q.2]
      have := runE_r (p := p) (tp := tp) n (a + 1) (by omega) (by omega)
      omega
    · rw [runE_n q]
      omega
theorem tokE_end {tp : List Nat} {b : Nat} (h : b < tp.length) : b < (tokE tp b).2.2 ∧ (tokE tp b).2.2 ≤ tp.length := by
  unfold tokE
  split
  · rename_i q
    show b < runE isL tp (tp.length - b) b ∧ runE isL tp (tp.length - b) b ≤ tp.length
    rw [runE_s h q]
    have := runE_r (p := isL) (tp := tp) _ (b + 1) (Nat.le_refl _) (by omega)
    omega
  · split
    · rename_i q
      show b < runE isD tp (tp.length - b) b ∧ runE isD tp (tp.length - b) b ≤ tp.length
      rw [runE_s h q]
      have := runE_r (p := isD) (tp := tp) _ (b + 1) (Nat.le_refl _) (by omega)
      omega
    · split
      · rename_i q
        show b < b + 2 ∧ b + 2 ≤ tp.length
        omega
      · show b < b + 1 ∧ b + 1 ≤ tp.length
        omega
theorem tkF_st {tp : List Nat} : ∀ (f g a : Nat), tp.length - a < f → tp.length - a < g → tkF tp f a = tkF tp g a
  | 0, g, a, h, _ => by omega
  | f + 1, 0, a, _, h => by omega
  | f + 1, g + 1, a, h1, h2 => by
    show (if a < tp.length then _ else _) = (if a < tp.length then _ else _)
    by_cases q : a < tp.length
    · rw [if_pos q, if_pos q]
      have := tokE_end q
      rw [tkF_st f g (a + 1) (by omega) (by omega), tkF_st f g (tokE tp a).2.2 (by omega) (by omega)]
    · rw [if_neg q, if_neg q]
theorem sb_i {b : Nat} (hb : b < 256) : -128 ≤ sb b ∧ sb b < 128 ∧ (b < 128 → sb b = b) ∧ (128 ≤ b → sb b < 0) := by
  unfold sb
  split <;> omega
theorem sX6_isLetter {G : hd_G} {σ : hd_M} {P : Int32 → hd_M → Prop} {sh : hd_S} {b : Nat} (hb : b < 256) (h : P (zI (cl_bit (isL b))) σ) : EVi G mX6_isLetter sh [.int (zI (sb b))] σ P := by
  have hs := sb_i hb
  unfold isL at h
  refine wX6_isLetter _ (c_lt (sb b) 97 rfl rfl (fun z => c_lt (sb b) 65 rfl rfl (fun z2 => ⟨Or.inl rfl, ?_⟩) (fun z2 => c_lt 90 (sb b) rfl rfl (fun z3 => ⟨Or.inl rfl, ?_⟩) (fun z3 => ⟨Or.inr rfl, ?_⟩))) (fun z => c_le (sb b) 122 rfl rfl (fun z2 => ⟨Or.inr rfl, ?_⟩) (fun z2 => c_lt (sb b) 65 rfl rfl (fun z3 => ⟨Or.inl rfl, ?_⟩) (fun z3 => c_lt 90 (sb b) rfl rfl (fun z4 => ⟨Or.inl rfl, ?_⟩) (fun z4 => ⟨Or.inr rfl, ?_⟩)))))
  · rwa [show (decide (97 ≤ b) && decide (b ≤ 122) || decide (65 ≤ b) && decide (b ≤ 90)) = false by simp; omega] at h
  · rwa [show (decide (97 ≤ b) && decide (b ≤ 122) || decide (65 ≤ b) && decide (b ≤ 90)) = false by simp; omega] at h
  · rwa [show (decide (97 ≤ b) && decide (b ≤ 122) || decide (65 ≤ b) && decide (b ≤ 90)) = true by simp; omega] at h
  · rwa [show (decide (97 ≤ b) && decide (b ≤ 122) || decide (65 ≤ b) && decide (b ≤ 90)) = true by simp; omega] at h
  · rwa [show (decide (97 ≤ b) && decide (b ≤ 122) || decide (65 ≤ b) && decide (b ≤ 90)) = false by simp; omega] at h
  · rwa [show (decide (97 ≤ b) && decide (b ≤ 122) || decide (65 ≤ b) && decide (b ≤ 90)) = false by simp; omega] at h
  · omega
theorem sX6_isDigit {G : hd_G} {σ : hd_M} {P : Int32 → hd_M → Prop} {sh : hd_S} {b : Nat} (hb : b < 256) (h : P (zI (cl_bit (isD b))) σ) : EVi G mX6_isDigit sh [.int (zI (sb b))] σ P := by
  have hs := sb_i hb
  unfold isD at h
  refine wX6_isDigit _ (c_lt (sb b) 48 rfl rfl (fun z => ⟨Or.inl rfl, ?_⟩) (fun z => c_lt 57 (sb b) rfl rfl (fun z2 => ⟨Or.inl rfl, ?_⟩) (fun z2 => ⟨Or.inr rfl, ?_⟩)))
  · rwa [show (decide (48 ≤ b) && decide (b ≤ 57)) = false by simp; omega] at h
  · rwa [show (decide (48 ≤ b) && decide (b ≤ 57)) = false by simp; omega] at h
  · rwa [show (decide (48 ≤ b) && decide (b ≤ 57)) = true by simp; omega] at h
theorem c_eqk {A B : Prop} {b : Nat} (k : Nat) (hb : b < 256) (f : b = k → A) (g : b ≠ k → B) (hk : k < 128 := by decide) : (zI (sb b) = nI k → A) ∧ (¬ zI (sb b) = nI k → B) := by
  have hs := sb_i hb
  exact c_eq (sb b) (k : Int) rfl rfl (fun z => f (by omega)) (fun z => g (fun q => z (by omega)))
theorem sX6_kindOfSign {G : hd_G} {σ : hd_M} {P : Int32 → hd_M → Prop} {sh : hd_S} {b : Nat} (hb : b < 256) (h : P (nI (sgK b)) σ) : EVi G mX6_kindOfSign sh [.int (zI (sb b))] σ P := by
  have no : ∀ k : Nat, b = k → sgK k = 1 → P 1 σ := fun k hk h1 => by
    rw [hk, h1] at h
    exact h
  have ye : ∀ (k : Nat) (x : Int32), b = k → nI (sgK k) = x → P x σ := fun k x hk h1 => by
    rw [hk, h1] at h
    exact h
  refine wX6_kindOfSign _ (c_eqk 35 hb (fun z => ye 35 _ z rfl) (fun z1 => c_eqk 36 hb (fun z => ye 36 _ z rfl) (fun z2 => c_eqk 37 hb (fun z => ye 37 _ z rfl) (fun z3 => c_eqk 38 hb (fun z => ye 38 _ z rfl) (fun z4 => c_eqk 39 hb (fun z => ye 39 _ z rfl) (fun z5 => c_eqk 40 hb (fun z => ye 40 _ z rfl) (fun z6 => c_eqk 41 hb (fun z => ye 41 _ z rfl) (fun z7 => c_eqk 42 hb (fun z => ye 42 _ z rfl) (fun z8 => c_eqk 43 hb (fun z => ye 43 _ z rfl) (fun z9 => c_eqk 44 hb (fun z => ye 44 _ z rfl) (fun z10 => c_eqk 45 hb (fun z => ye 45 _ z rfl) (fun z11 => c_eqk 46 hb (fun z => ye 46 _ z rfl) (fun z12 => c_eqk 47 hb (fun z => ye 47 _ z rfl) (fun z13 => c_eqk 48 hb (fun z => ye 48 _ z rfl) (fun z14 => c_eqk 49 hb (fun z => ye 49 _ z rfl) (fun z15 => c_eqk 50 hb (fun z => ye 50 _ z rfl) (fun z16 => c_eqk 51 hb (fun z => ye 51 _ z rfl) (fun z17 => c_eqk 52 hb (fun z => ye 52 _ z rfl) (fun z18 => c_eqk 53 hb (fun z => ye 53 _ z rfl) (fun z19 => c_eqk 54 hb (fun z => ye 54 _ z rfl) (fun z20 => c_eqk 55 hb (fun z => ye 55 _ z rfl) (fun z21 => c_eqk 56 hb (fun z => ye 56 _ z rfl) (fun z22 => c_eqk 57 hb (fun z => ye 57 _ z rfl) (fun z23 => c_eqk 58 hb (fun z => ye 58 _ z rfl) (fun z24 => c_eqk 59 hb (fun z => ye 59 _ z rfl) (fun z25 => c_eqk 60 hb (fun z => ye 60 _ z rfl) (fun z26 => c_eqk 61 hb (fun z => ye 61 _ z rfl) (fun z27 => c_eqk 62 hb (fun z => ye 62 _ z rfl) (fun z28 => ?_)))))))))))))))))))))))))))))
  unfold sgK at h
  simp only [z1, z6, z7, z8, z9, z11, z13, z25, z26, z27, z28, if_false] at h
  exact h
theorem sX6_kindOfLetter {G : hd_G} {σ : hd_M} {P : Int32 → hd_M → Prop} {sh : hd_S} {b : Nat} (hb : b < 256) (h : P (nI (ltK b)) σ) : EVi G mX6_kindOfLetter sh [.int (zI (sb b))] σ P := by
  have hs := sb_i hb
  unfold ltK at h
  refine wX6_kindOfLetter _ (c_lt (sb b) 97 rfl rfl (fun z => ?_) (fun z => c_lt 102 (sb b) rfl rfl (fun z2 => ?_) (fun z2 => ?_)))
  · rwa [if_neg (by omega)] at h
  · rwa [if_neg (by omega)] at h
  · rw [if_pos (by omega)] at h
    refine hd_cvI ?_ h
    rw [show (12 : Int32) = zI 12 from rfl, show (97 : Int32) = zI 97 from rfl, zI_add, zI_sub, nI_z]
    congr 1
    omega
/-- the class's tokens so far -/
def tkC (σ : hd_M) (ts : List Tk) : Prop := σ.1 63 3 = nI ts.length ∧ ∀ j, j < ts.length → σ.1 64 j = nI (ts.getD j (0, 0, 0)).1 ∧ σ.1 65 j = nI (ts.getD j (0, 0, 0)).2.1 ∧ σ.1 66 j = nI (ts.getD j (0, 0, 0)).2.2
def tw : List Nat := [63, 64, 65, 66]
/-- where the class stands in the tape -/
def tkA (σ : hd_M) (tp : List Nat) (a : Nat) : Prop := σ.1 63 5 = 1 ∧ σ.1 63 6 = nI tp.length ∧ σ.1 63 7 = nI a ∧ (∀ j, j < tp.length → σ.1 1 j = zI (sb (bt tp j))) ∧ σ.1 63 4 = 0
theorem tkA_w {σ σ' : hd_M} {tp : List Nat} {a a' : Nat} (h : tkA σ tp a) (hj : ∀ j, j = 4 ∨ j = 5 ∨ j = 6 → σ'.1 63 j = σ.1 63 j) (h7 : σ'.1 63 7 = nI a') (h1 : σ'.1 1 = σ.1 1) : tkA σ' tp a' := ⟨by rw [hj 5 (by omega)]; exact h.1, by rw [hj 6 (by omega)]; exact h.2.1, h7, fun j hj => by rw [h1]; exact h.2.2.2.1 j hj, by rw [hj 4 (by omega)]; exact h.2.2.2.2⟩
theorem tkC_cg {σ σ' : hd_M} {ts : List Tk} (h : tkC σ ts) (h3 : σ'.1 63 3 = σ.1 63 3) (h4 : σ'.1 64 = σ.1 64) (h5 : σ'.1 65 = σ.1 65) (h6 : σ'.1 66 = σ.1 66) : tkC σ' ts := by
  unfold tkC
  rw [h3, h4, h5, h6]
  exact h
theorem sX6_add {G : hd_G} {σ : hd_M} {P : hd_M → Prop} {ts : List Tk} {k v s : Nat} (hC : tkC σ ts) (hl : ts.length < 301) (hs : σ.1 63 10 = nI s) (h : ∀ σ', ag tw σ σ' → (∀ j, j ≠ 3 → σ'.1 63 j = σ.1 63 j) → tkC σ' (ts ++ [(k, v, s)]) → P σ') : EVv G mX6_add SH [.ref 63, .int (nI k), .int (nI v)] σ P := by
  obtain ⟨c1, c2⟩ := hC
  refine wX6_add _ _ ?_
  rw [c1]
  have cl : (nI ts.length).toNatClampNeg = ts.length := nI_clamp (by omega)
  refine b_le' (nI_lt hl (by decide)) ⟨hd_vn hl (by decide), fun s1 e1 => ?_⟩
  rw [cl] at e1
  have f1 : s1.1 63 3 = nI ts.length := by rw [e1, wI_ne (by decide), c1]
  rw [f1, cl]
  refine ⟨hd_vn hl (by decide), fun s2 e2 => ?_⟩
  have f2 : s2.1 63 3 = nI ts.length := by rw [e2, wI_ne (by decide), f1]
  rw [f2, cl]
  refine ⟨hd_vn hl (by decide), fun s3 e3 s4 e4 => ?_⟩
  have g2 : s2.1 63 10 = nI s := by rw [e2, wI_ne (by decide), e1, wI_ne (by decide), hs]
  rw [g2] at e3
  have f3 : s3.1 63 3 = nI ts.length := by rw [e3, wI_ne (by decide), f2]
  rw [f3, nI_1] at e4
  refine h s4 (by rw [e4, e3, e2, e1]; exact ag_wI (ag_wI (ag_wI (ag_wI ag_rf (by decide)) (by decide)) (by decide)) (by decide)) (fun j hj => by rw [e4, wI_eq, if_neg hj, e3, wI_ne (by decide), e2, wI_ne (by decide), e1, wI_ne (by decide)]) ⟨by rw [e4, wI_eq, if_pos rfl]; simp, fun j hj => ?_⟩
  simp only [List.length_append, List.length_singleton] at hj
  have w4 : s4.1 64 j = if j = ts.length then nI k else σ.1 64 j := by rw [e4, wI_ne (by decide), e3, wI_ne (by decide), e2, wI_ne (by decide), e1, wI_eq]
  have w5 : s4.1 65 j = if j = ts.length then nI v else σ.1 65 j := by rw [e4, wI_ne (by decide), e3, wI_ne (by decide), e2, wI_eq, e1, wI_ne (by decide)]
  have w6 : s4.1 66 j = if j = ts.length then nI s else σ.1 66 j := by rw [e4, wI_ne (by decide), e3, wI_eq, e2, wI_ne (by decide), e1, wI_ne (by decide)]
  rw [w4, w5, w6]
  by_cases q : j = ts.length
  · rw [if_pos q, if_pos q, if_pos q, q, getD_app2]
    exact ⟨rfl, rfl, rfl⟩
  · rw [if_neg q, if_neg q, if_neg q, getD_app1 (show j < ts.length by omega)]
    exact c2 j (by omega)
theorem hd_k1 {f : Nat → Prop} (h : f 300) : hd_k SH 1 1 f := h
theorem sX6_findNumber {G : hd_G} {σ : hd_M} {P : hd_M → Prop} {tp : List Nat} {ts : List Tk} {b : Nat} (ht : tok tp) (hA : tkA σ tp (b + 1)) (hC : tkC σ ts) (hl : ts.length ≤ b) (hs : σ.1 63 10 = nI b) (hb : b < tp.length) (hd : isD (bt tp b) = true) (h : ∀ σ', ag tw σ σ' → tkA σ' tp (runE isD tp (tp.length - b) b) → tkC σ' (ts ++ [(2, numV tp (tp.length - (b + 1)) (b + 1) (bt tp b - 48), b)]) → P σ') : EVv G mX6_findNumber SH [.ref 63, .int (zI (sb (bt tp b)))] σ P := by
  have l3 := ht.1
  have bb : ∀ i, i < tp.length → bt tp i < 256 := fun i hi => ht.2 _ (getD_mem (d := 0) hi)
  have hdb : 48 ≤ bt tp b ∧ bt tp b ≤ 57 := by unfold isD at hd; simpa using hd
  refine wX6_findNumber _ (fun X hX v1 e1 => ?_)
  have e1 : v1 = nI (bt tp b - 48) := by
    have := sb_i (bb b hb)
    rw [e1, show (48 : Int32) = zI 48 from rfl, zI_sub, nI_z]
    congr 1
    omega
  rw [runE_s hb hd] at h
  have key : ∀ (n i v : Nat) (s : hd_M), tp.length - i ≤ n → b < i → i ≤ tp.length → v ≤ 10000 → ag tw σ s → tkA s tp i → tkC s ts → s.1 63 10 = nI b → (∀ σ', ag tw σ σ' → tkA σ' tp (runE isD tp (tp.length - i) i) → tkC σ' (ts ++ [(2, numV tp (tp.length - i) i v, b)]) → P σ') → hd_J G mX6_findNumber X SH (0, 0) 5 [(0, .ref 63), (2, .int (nI v))] [] s := by
    have fin : ∀ (i v : Nat) (s : hd_M), b < i → i ≤ tp.length → ag tw σ s → tkA s tp i → tkC s ts → s.1 63 10 = nI b → (∀ σ', ag tw σ σ' → tkA σ' tp i → tkC σ' (ts ++ [(2, v, b)]) → P σ') → EVv G mX6_add SH [.ref 63, .int 2, .int (nI v)] s (fun s1 => P s1) := by
      intro i v s hi hi2 a A C s10 h
      refine sX6_add (k := 2) C (by omega) s10 (fun s1 a1 j1 C1 => h s1 (ag_tr a a1) (tkA_w A (fun j hj => j1 j (by omega)) (by rw [j1 7 (by decide)]; exact A.2.2.1) (a1 1 (by decide)).1) C1)
    intro n
    induction n with
    | zero =>
      intro i v s hn hb2 hi hv a A C s10 h
      rw [runE_n (by omega), numV_n (by omega)] at h
      refine wX6_findNumber_5 hX _ ?_
      rw [A.2.1, A.2.2.1]
      exact b_le (nI_le (by omega) (by omega)) (fin i v s hb2 hi a A C s10 h)
    | succ n ih =>
      intro i v s hn hb2 hi hv a A C s10 h
      refine wX6_findNumber_5 hX _ ?_
      rw [A.2.1, A.2.2.1]
      refine c_le (tp.length : Int) (i : Int) rfl rfl (fun z => ?_) (fun z => ?_)
      · rw [runE_n (by omega), numV_n (by omega)] at h
        exact fin i v s hb2 hi a A C s10 h
      · have hil : i < tp.length := by omega
        rw [A.1, show (1 : Int32).toNatClampNeg = 1 from rfl, nI_clamp (show i < 2 ^ 31 by omega), A.2.2.2.1 i hil]
        refine ⟨by decide, hd_k1 ⟨hd_vn (by omega) (by decide), sX6_isDigit (bb i hil) ?_⟩⟩
        cases hdi : isD (bt tp i) with
        | false =>
          rw [runE_n (by rw [hdi]; simp), numV_n (by rw [hdi]; simp)] at h
          exact b_eq rfl (fin i v s hb2 hi a A C s10 h)
        | true =>
          rw [runE_s hil hdi, numV_s hil hdi] at h
          have hdi2 : 48 ≤ bt tp i ∧ bt tp i ≤ 57 := by unfold isD at hdi; simpa using hdi
          refine b_eq' (by decide) ⟨by rw [A.1]; decide, ?_⟩
          rw [A.1, A.2.2.1, show (1 : Int32).toNatClampNeg = 1 from rfl, nI_clamp (show i < 2 ^ 31 by omega), A.2.2.2.1 i hil]
          refine hd_k1 ⟨hd_vn (by omega) (by decide), fun v5 e5 s6 e6 => ?_⟩
          have e5 : v5 = nI (min 10000 (v * 10 + (bt tp i - 48))) := by
            have hsi := sb_i (bb i hil)
            have hx : nI v * 10 + zI (sb (bt tp i)) - 48 = nI (v * 10 + (bt tp i - 48)) := by
              rw [show (10 : Int32) = nI 10 from rfl, pk_mul, show (48 : Int32) = zI 48 from rfl, nI_z, zI_add, zI_sub, nI_z]
              congr 1
              omega
            rw [e5, hx]
            by_cases q : 10000 < v * 10 + (bt tp i - 48)
            · rw [if_pos (show (10000 : Int32) < _ from nI_lt (a := 10000) q (by omega)), show min 10000 (v * 10 + (bt tp i - 48)) = 10000 by omega]
              rfl
            · rw [if_neg (show ¬ (10000 : Int32) < _ from nI_nlt (a := 10000) (by omega) (by omega)), show min 10000 (v * 10 + (bt tp i - 48)) = v * 10 + (bt tp i - 48) by omega]
          rw [nI_1] at e6
          rw [e5]
          have r6 : ∀ k, k ≠ 63 → s6.1 k = s.1 k := fun k hk => by rw [e6, wI_ne hk]
          have j6 : ∀ j, j ≠ 7 → s6.1 63 j = s.1 63 j := fun j hj => by rw [e6, wI_eq, if_neg hj]
          exact ih (i + 1) _ s6 (by omega) (by omega) (by omega) (by omega) (by rw [e6]; exact ag_wI a (by decide)) (tkA_w A (fun j hj => j6 j (by omega)) (by rw [e6, wI_eq, if_pos rfl]) (r6 1 (by decide))) (tkC_cg C (j6 3 (by decide)) (r6 64 (by decide)) (r6 65 (by decide)) (r6 66 (by decide))) (by rw [j6 10 (by decide)]; exact s10) h
  rw [e1]
  exact key _ (b + 1) (bt tp b - 48) σ (Nat.le_refl _) (by omega) (by omega) (by omega) ag_rf hA hC hs h
