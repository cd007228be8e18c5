/-! the clauses of a text -/
abbrev FP : Type := Nat × Nat
def pT (k : Nat) : List Tk → FP ⊕ List Tk
  | [] => .inl (1, 0)
  | t :: ts => if t.1 = k then .inr ts else .inl (1, t.2.2)
def pN (most : Nat) : List Tk → FP ⊕ (Nat × List Tk)
  | [] => .inl (1, 0)
  | t :: ts => if t.1 = 2 then (if t.2.1 ≤ most then .inr (t.2.1, ts) else .inl (2, t.2.2)) else .inl (1, t.2.2)
def mkC (l : List Nat) : Nat → Nat := fun j => l.getD j 0
def srt (k : Nat) : Option Nat := if k = 6 then some 0 else if k = 7 then some 1 else if k = 18 then some 2 else if k = 8 then some 3 else if k = 9 then some 4 else if k = 10 then some 5 else if k = 11 then some 6 else none
def plc (ts : List Tk) : Nat := match ts with
  | [] => 0
  | t :: _ => t.2.2
abbrev CR : Type := FP ⊕ (List Tk × (Nat → Nat) × List Nat)
def pRule (s r x : Nat) (cd : List Nat) (ts : List Tk) : CR := match pRun r ts (S0 cd) with
  | .inl f => .inl f
  | .inr (ts2, cd') => .inr (ts2, mkC [s, x, cd.length, cd'.length], cd')
def bT (k : Nat) (ts : List Tk) (g : List Tk → CR) : CR := match pT k ts with
  | .inl f => .inl f
  | .inr ts1 => g ts1
def bN (most : Nat) (ts : List Tk) (g : Nat → List Tk → CR) : CR := match pN most ts with
  | .inl f => .inl f
  | .inr (x, ts1) => g x ts1
def pTail (cd : List Nat) (l : List Nat) (ts : List Tk) : CR := bT 5 ts (fun ts => bN 5 ts (fun x ts => bT 4 ts (fun ts => bN 2 ts (fun y ts => bT 3 ts (fun ts => .inr (ts, mkC (l ++ [x, y]), cd))))))
def pClause (K : List (Nat → Nat)) (cd : List Nat) : List Tk → CR
  | [] => .inl (1, 0)
  | t :: ts => match srt t.1 with
    | none => .inl (1, t.2.2)
    | some s =>
      if (3 ≤ s ∧ s ≤ 5) ∧ K.any (isRule (s + 3)) = true then .inl (4, t.2.2)
      else if 24 ≤ K.length then .inl (6, t.2.2)
      else if s = 0 then bN 5 ts (fun p ts1 => if K.any (isRule p) = true then .inl (4, plc ts) else pRule 0 p p cd ts1)
      else if 3 ≤ s ∧ s ≤ 5 then pRule s (s + 3) 0 cd ts
      else if s = 1 then bN 5 ts (fun x ts => bT 4 ts (fun ts => bN 2 ts (fun y ts => pTail cd [1, x, y] ts)))
      else if s = 2 then bN 2 ts (fun x ts => pTail cd [2, x] ts)
      else bN 14 ts (fun x ts => bT 3 ts (fun ts => .inr (ts, mkC [6, x], cd)))
def pText : Nat → List (Nat → Nat) → List Nat → List Tk → FP ⊕ (List (Nat → Nat) × List Nat)
  | 0, _, _, _ => .inl (1, 0)
  | _ + 1, _, _, [] => .inl (1, 0)
  | f + 1, K, cd, t :: ts => if t.1 = 0 then .inr (K, cd) else match pClause K cd (t :: ts) with
    | .inl e => .inl e
    | .inr (ts', c, cd') => pText f (K ++ [c]) cd' ts'
/-! the class -/
theorem ag63_N {σ σ' : hd_M} {ts : List Tk} {i : Nat} (h : ag [62] σ σ') (hN : tkN σ ts i) : tkN σ' ts i := ⟨by rw [(h 63 (by decide)).1]; exact hN.1, tkC_cg hN.2 (by rw [(h 63 (by decide)).1]) (h 64 (by decide)).1 (h 65 (by decide)).1 (h 66 (by decide)).1⟩
def aFl (ts : List Tk) (σ σ' : hd_M) (f p : Nat) : Prop := ag [62, 63] σ σ' ∧ 1 ≤ f ∧ f < 7 ∧ σ'.1 62 2 = nI f ∧ σ'.1 62 3 = nI p ∧ ∃ i', i' ≤ ts.length ∧ tkN σ' ts i'
theorem ag_mono {l l' : List Nat} {σ σ' : hd_M} (h : ag l σ σ') (hs : ∀ k ∈ l, k ∈ l') : ag l' σ σ' := fun k hk => h k (fun z => hk (hs k z))
theorem aFl_b {ts : List Tk} {i : Nat} {σ s s' : hd_M} {f p : Nat} (ha : ag [63] σ s) (hN : tkN s ts i) (hi : i ≤ ts.length) (hf : 1 ≤ f ∧ f < 7) (e : s' = hd_wI (hd_wI s 62 2 (nI f)) 62 3 (nI p)) : aFl ts σ s' f p := by
  have a1 : ag [62] s s' := by rw [e]; exact ag_wI (ag_wI ag_rf (by decide)) (by decide)
  refine ⟨ag_tr (ag_mono ha (by decide)) (ag_mono a1 (by decide)), hf.1, hf.2, ?_, ?_, i, hi, ag63_N a1 hN⟩
  · rw [e, wI_eq, if_neg (by decide), wI_eq, if_pos rfl]
  · rw [e, wI_eq, if_pos rfl]
theorem sX3_takeTokenF {G : hd_G} {σ : hd_M} {P : hd_M → Prop} {x : Int32} (h2 : ¬ σ.1 62 2 = 0) (h : P σ) : EVv G mX3_takeToken SH [.ref 62, .int x] σ P := wX3_takeToken _ (b_ne h2 h)
theorem sX3_takeNumberF {G : hd_G} {σ : hd_M} {P : Int32 → hd_M → Prop} {x : Int32} (h2 : ¬ σ.1 62 2 = 0) (h : P 0 σ) : EVi G mX3_takeNumber SH [.ref 62, .int x] σ P := wX3_takeNumber _ (sX3_takeTokenF h2 (b_ne h2 (b_ne h2 h)))
theorem sX3_takeToken {G : hd_G} {σ : hd_M} {P : hd_M → Prop} {k i : Nat} {ts : List Tk} (hT : tsOK ts) (hi : i < ts.length) (hN : tkN σ ts i) (h2 : σ.1 62 2 = 0) (hk : k < 100) (hF : ∀ σ', pT k (ts.drop i) = .inl (1, plc (ts.drop i)) → aFl ts σ σ' 1 (plc (ts.drop i)) → P σ') (hK : ∀ σ', pT k (ts.drop i) = .inr (ts.drop (i + 1)) → (k ≠ 0 → i + 1 < ts.length) → ag [63] σ σ' → tkN σ' ts (i + 1) → σ'.1 63 9 = nI (ts.getD i (0, 0, 0)).2.1 → σ'.1 63 10 = nI (ts.getD i (0, 0, 0)).2.2 → P σ') : EVv G mX3_takeToken SH [.ref 62, .int (nI k)] σ P := by
  refine wX3_takeToken _ (b_ne' h2 (sX6_advance hN hi hT.2.1 (fun s1 a1 n1 g8 g9 g10 => ?_)))
  have ht := ts_mem hT hi
  have ed := ts_drop hi
  have on := ts_on hT hi
  rw [g8]
  generalize ts.getD i (0, 0, 0) = t at *
  have ep : pT k (ts.drop i) = (if t.1 = k then .inr (ts.drop (i + 1)) else .inl (1, t.2.2)) := by rw [ed]; rfl
  have epl : plc (ts.drop i) = t.2.2 := by rw [ed]; rfl
  rw [epl] at hF
  have := ht.1
  refine c_eq (t.1 : Int) (k : Int) rfl rfl (fun z => ?_) (fun z => ?_)
  · rw [if_pos (by omega)] at ep
    exact hK s1 ep (fun z0 => on (by omega)) a1 n1 g9 g10
  · rw [if_neg (by omega)] at ep
    refine sX3_blame (f := 1) (by rw [(a1 62 (by decide)).1]; exact h2) g10 (fun s2 e2 => hF s2 ep (aFl_b a1 n1 (by omega) (by decide) e2))
theorem sX3_takeNumber {G : hd_G} {σ : hd_M} {P : Int32 → hd_M → Prop} {m i : Nat} {ts : List Tk} (hT : tsOK ts) (hi : i < ts.length) (hN : tkN σ ts i) (h2 : σ.1 62 2 = 0) (hm : m < 100) (hF : ∀ f σ', pN m (ts.drop i) = .inl (f, plc (ts.drop i)) → aFl ts σ σ' f (plc (ts.drop i)) → P 0 σ') (hK : ∀ x σ', pN m (ts.drop i) = .inr (x, ts.drop (i + 1)) → x ≤ m → i + 1 < ts.length → ag [63] σ σ' → tkN σ' ts (i + 1) → σ'.1 63 10 = nI (plc (ts.drop i)) → P (nI x) σ') : EVi G mX3_takeNumber SH [.ref 62, .int (nI m)] σ P := by
  have ed := ts_drop hi
  refine wX3_takeNumber _ (sX3_takeToken (k := 2) hT hi hN h2 (by decide) (fun s1 e1 f1 => ?_) (fun s1 e1 on a1 n1 g9 g10 => ?_))
  · have hz : ¬ s1.1 62 2 = 0 := by rw [f1.2.2.2.1]; exact f_nz f1.2.1 (by decide)
    refine b_ne hz (b_ne hz (hF 1 s1 ?_ f1))
    rw [ed] at e1 ⊢
    have e1 : (if (ts.getD i (0, 0, 0)).1 = 2 then (.inr (ts.drop (i + 1)) : FP ⊕ List Tk) else .inl (1, (ts.getD i (0, 0, 0)).2.2)) = .inl (1, (ts.getD i (0, 0, 0)).2.2) := e1
    show (if (ts.getD i (0, 0, 0)).1 = 2 then _ else _) = _
    split at e1
    · cases e1
    · rename_i z
      rw [if_neg z]
      rfl
  · have hz : s1.1 62 2 = 0 := by rw [(a1 62 (by decide)).1]; exact h2
    have ht := ts_mem hT hi
    have epl : plc (ts.drop i) = (ts.getD i (0, 0, 0)).2.2 := by rw [ed]; rfl
    have ep : pN m (ts.drop i) = (if (ts.getD i (0, 0, 0)).2.1 ≤ m then .inr ((ts.getD i (0, 0, 0)).2.1, ts.drop (i + 1)) else .inl (2, (ts.getD i (0, 0, 0)).2.2)) := by
      rw [ed] at e1 ⊢
      have e1 : (if (ts.getD i (0, 0, 0)).1 = 2 then (.inr (ts.drop (i + 1)) : FP ⊕ List Tk) else .inl (1, (ts.getD i (0, 0, 0)).2.2)) = .inr (ts.drop (i + 1)) := e1
      show (if (ts.getD i (0, 0, 0)).1 = 2 then _ else _) = _
      split at e1
      · rename_i z
        rw [if_pos z]
      · cases e1
    have on := on (by decide)
    rw [epl] at hF hK
    rw [g9]
    generalize ts.getD i (0, 0, 0) = t at *
    have hv := ht.2.1
    refine b_ne' hz (c_le (t.2.1 : Int) (m : Int) rfl rfl (fun z => b_ne' hz ?_) (fun z => ?_))
    · rw [if_pos (by omega)] at ep
      exact hK t.2.1 s1 ep (by omega) on a1 n1 g10
    · rw [if_neg (by omega)] at ep
      refine sX3_blame (f := 2) hz g10 (fun s2 e2 => ?_)
      have fl := aFl_b a1 n1 (by omega) (by decide) e2
      exact b_ne (by rw [fl.2.2.2.1]; exact f_nz (by decide) (by decide)) (hF 2 s2 ep fl)
/-- the law, as far as it has been read -/
def lK (σ : hd_M) (q : Nat) (K : List (Nat → Nat)) (cd : List Nat) : Prop := lC σ q cd ∧ (∀ r, r < 9 → (K.find? (isRule r) = none → σ.1 (q + 2) r = -1) ∧ ∀ c, K.find? (isRule r) = some c → σ.1 (q + 2) r = nI (c 2) ∧ σ.1 (q + 3) r = nI (c 3)) ∧ (σ.1 q 7 = nI (K.filterMap setOf).length ∧ ∀ j, j < (K.filterMap setOf).length → σ.1 (q + 4) j = nI ((K.filterMap setOf).getD j (0, 0, 0)).1 ∧ σ.1 (q + 5) j = nI ((K.filterMap setOf).getD j (0, 0, 0)).2.1 ∧ σ.1 (q + 6) j = nI ((K.filterMap setOf).getD j (0, 0, 0)).2.2) ∧ (σ.1 q 10 = nI (dosOf 0 K).length ∧ ∀ j, j < (dosOf 0 K).length → σ.1 (q + 7) j = nI ((dosOf 0 K).getD j (0, 0)).1 ∧ σ.1 (q + 8) j = nI ((dosOf 0 K).getD j (0, 0)).2)
def KC (K : List (Nat → Nat)) (cd : List Nat) : Prop := cd.length ≤ 300 ∧ K.length ≤ 24 ∧ ∀ c ∈ K, isAs (c 0) = true → c 2 ≤ c 3 ∧ c 3 ≤ cd.length
theorem lK_cg {σ σ' : hd_M} {q : Nat} {K : List (Nat → Nat)} {cd : List Nat} (h : lK σ q K cd) (hc : ∀ k, q ≤ k → k ≤ q + 8 → σ'.1 k = σ.1 k) : lK σ' q K cd := by
  have h0 := hc q (by omega) (by omega)
  have h1 := hc (q + 1) (by omega) (by omega)
  have h2 := hc (q + 2) (by omega) (by omega)
  have h3 := hc (q + 3) (by omega) (by omega)
  have h4 := hc (q + 4) (by omega) (by omega)
  have h5 := hc (q + 5) (by omega) (by omega)
  have h6 := hc (q + 6) (by omega) (by omega)
  have h7 := hc (q + 7) (by omega) (by omega)
  have h8 := hc (q + 8) (by omega) (by omega)
  unfold lK lC
  rw [h0, h1, h2, h3, h4, h5, h6, h7, h8]
  exact h
theorem isRule_As {r : Nat} (hr : r < 9) {c : Nat → Nat} (h : isRule r c = true) : isAs (c 0) = true := by
  unfold isRule at h
  unfold isAs
  split at h
  · simp at h ⊢; omega
  · simp at h ⊢; omega
theorem find_any {K : List (Nat → Nat)} {r : Nat} : (K.find? (isRule r) = none ↔ K.any (isRule r) = false) := by
  rw [List.find?_eq_none, List.any_eq_false]
theorem sX2_hasK {G : hd_G} {σ : hd_M} {P : Int32 → hd_M → Prop} {q r : Nat} {K : List (Nat → Nat)} {cd : List Nat} (hq : hd_law q) (hr : r < 9) (hL : lK σ q K cd) (hC : KC K cd) (h : P (zI (cl_bit (K.any (isRule r)))) σ) : EVi G mX2_has SH [.ref q, .int (nI r)] σ P := by
  refine wX2_has hq _ (b_lt' (nI_le (a := 0) (Nat.zero_le _) (by omega)) (b_le' (nI_lt (b := 9) hr (by decide)) ⟨hd_vn hr (by decide), ?_⟩))
  rw [nI_clamp (by omega)]
  have hl := hL.2.1 r hr
  cases hf : K.find? (isRule r) with
  | none =>
    rw [find_any.mp hf] at h
    exact b_eq (hl.1 hf) ⟨Or.inl rfl, h⟩
  | some c =>
    have e1 := (hl.2 c hf).1
    have hm := List.mem_of_find?_eq_some hf
    have hp := List.find?_some hf
    have e : K.any (isRule r) = true := List.any_eq_true.mpr ⟨c, hm, hp⟩
    have hb := hC.2.2 c hm (isRule_As hr hp)
    have hb2 := hC.1
    rw [e] at h
    refine b_eq' ?_ ⟨Or.inr rfl, h⟩
    rw [e1]
    intro z
    have : (c 2 : Int) = -1 := (zI_eq ⟨by omega, by omega⟩ ⟨by decide, by decide⟩).mp z
    omega
theorem sX2_has0 {G : hd_G} {σ : hd_M} {P : Int32 → hd_M → Prop} {q : Nat} (hq : hd_law q) (h : P 0 σ) : EVi G mX2_has SH [.ref q, .int (-1)] σ P := wX2_has hq _ (b_lt (by decide) ⟨Or.inl rfl, h⟩)
theorem dosOf_app : ∀ (K : List (Nat → Nat)) (i : Nat) (c : Nat → Nat), dosOf i (K ++ [c]) = dosOf i K ++ (if c 0 = 6 then [(c 1, i + K.length)] else [])
  | [], i, c => by
    show (if c 0 = 6 then (c 1, i) :: dosOf (i + 1) [] else dosOf (i + 1) []) = _
    split <;> simp [dosOf]
  | d :: K, i, c => by
    show (if d 0 = 6 then (d 1, i) :: dosOf (i + 1) (K ++ [c]) else dosOf (i + 1) (K ++ [c])) = (if d 0 = 6 then (d 1, i) :: dosOf (i + 1) K else dosOf (i + 1) K) ++ _
    rw [dosOf_app K (i + 1) c, List.length_cons, show i + 1 + K.length = i + (K.length + 1) by omega]
    split <;> simp
theorem dosOf_len : ∀ (K : List (Nat → Nat)) (i : Nat), (dosOf i K).length ≤ K.length
  | [], _ => Nat.le_refl _
  | d :: K, i => by
    have := dosOf_len K (i + 1)
    show (if d 0 = 6 then (d 1, i) :: dosOf (i + 1) K else dosOf (i + 1) K).length ≤ _
    split <;> simp <;> omega
theorem find_app {K : List (Nat → Nat)} {c : Nat → Nat} {r : Nat} (h : K.any (isRule r) = false) : (K ++ [c]).find? (isRule r) = (if isRule r c = true then some c else none) := by
  rw [List.find?_append, find_any.mpr h]
  show (List.find? (isRule r) [c]) = _
  by_cases z : isRule r c = true
  · rw [if_pos z, List.find?_cons_of_pos z]
  · rw [if_neg z, List.find?_cons_of_neg z]; rfl
theorem find_app' {K : List (Nat → Nat)} {c : Nat → Nat} {r : Nat} (h : isRule r c = false) : (K ++ [c]).find? (isRule r) = K.find? (isRule r) := by
  rw [List.find?_append, List.find?_cons_of_neg (by rw [h]; decide)]
  simp
