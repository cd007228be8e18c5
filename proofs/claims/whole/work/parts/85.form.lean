def FM (K : List (Nat → Nat)) (cd : List Nat) : Prop := (∀ c ∈ K, isAs (c 0) = true → c 2 ≤ c 3 ∧ c 3 ≤ cd.length ∧ ∀ r, r < 9 → isRule r c = true → good r (sl cd c)) ∧ KW K
theorem sl_pre {cd w : List Nat} {c : Nat → Nat} (h : c 2 ≤ c 3) (h2 : c 3 ≤ cd.length) : sl (cd ++ w) c = sl cd c := by
  unfold sl
  rw [List.drop_append_of_le_length (by omega), List.take_append_of_le_length (by rw [List.length_drop]; omega)]
theorem pText_form : ∀ (n : Nat) {K K' : List (Nat → Nat)} {cd cd' : List Nat} {ts : List Tk}, FM K cd → pText n K cd ts = .inr (K', cd') → FM K' cd'
  | 0, K, K', cd, cd', ts, _, h => by cases ts <;> cases h
  | n + 1, K, K', cd, cd', [], _, h => by cases h
  | n + 1, K, K', cd, cd', t :: ts, hF, h => by
    have h : (if t.1 = 0 then (.inr (K, cd) : FP ⊕ (List (Nat → Nat) × List Nat)) else match pClause K cd (t :: ts) with
      | .inl e => .inl e
      | .inr (ts', c, cd') => pText n (K ++ [c]) cd' ts') = .inr (K', cd') := h
    split at h
    · injection h with h
      injection h with h1 h2
      rw [← h1, ← h2]
      exact hF
    · split at h
      · cases h
      · rename_i ts2 c cd2 e
        obtain ⟨w, e1, e2, e3⟩ := pClause_inv e
        refine pText_form n ⟨fun d hd ha => ?_, fun d hd => ?_⟩ h
        · rcases List.mem_append.mp hd with z | z
          · obtain ⟨q1, q2, q3⟩ := hF.1 d z ha
            refine ⟨q1, by rw [e1, List.length_append]; omega, fun r hr hi => ?_⟩
            rw [e1, sl_pre q1 q2]
            exact q3 r hr hi
          · rw [List.mem_singleton.mp z] at ha ⊢
            obtain ⟨q1, q2, q3⟩ := e2 ha
            refine ⟨by rw [q1, q2, e1, List.length_append]; omega, by rw [q2]; exact Nat.le_refl _, fun r hr hi => ?_⟩
            have : sl cd2 c = w := by
              unfold sl
              rw [q1, q2, e1, List.drop_left, List.length_append, Nat.add_sub_cancel_left, List.take_length]
            rw [this]
            exact q3 r hr hi
        · rcases List.mem_append.mp hd with z | z
          · exact hF.2 d z
          · exact e3 d z
theorem dosOf_mem : ∀ (K : List (Nat → Nat)) (i : Nat), KW K → ∀ d ∈ dosOf i K, d.1 < 15 ∧ d.2 < i + K.length
  | [], i, _, d, hd => by cases hd
  | c :: K, i, hK, d, hd => by
    have ih := dosOf_mem K (i + 1) (fun x hx => hK x (List.mem_cons_of_mem _ hx))
    have hd : d ∈ (if c 0 = 6 then (c 1, i) :: dosOf (i + 1) K else dosOf (i + 1) K) := hd
    rw [List.length_cons]
    split at hd
    · rename_i h6
      rcases List.mem_cons.mp hd with z | z
      · rw [z]
        exact ⟨(hK c List.mem_cons_self).2.2.2 h6, by show i < _; omega⟩
      · have := ih d z
        omega
    · have := ih d hd
      omega
theorem LW_ok {K : List (Nat → Nat)} {cd : List Nat} (hF : FM K cd) (hC : KC K cd) : LWok (LWof K cd) := by
  refine ⟨fun r cs hr e => ?_, ?_, fun s hs => ?_, ?_, fun d hd => ?_⟩
  · have e : (K.find? (isRule r)).map (sl cd) = some cs := e
    cases hf : K.find? (isRule r) with
    | none => rw [hf] at e; cases e
    | some c =>
      rw [hf] at e
      have e : some (sl cd c) = some cs := e
      injection e with e
      subst e
      have hm := List.mem_of_find?_eq_some hf
      have hp := List.find?_some hf
      obtain ⟨q1, q2, q3⟩ := hF.1 c hm (isRule_As hr hp)
      have g := q3 r hr hp
      refine ⟨?_, g.1, g.2⟩
      unfold sl
      rw [List.length_take, List.length_drop]
      have := hC.1
      omega
  · show (K.filterMap setOf).length ≤ 24
    have := fm_len K
    have := hC.2.1
    omega
  · have hs : s ∈ K.filterMap setOf := hs
    obtain ⟨c, hc, e⟩ := List.mem_filterMap.mp hs
    obtain ⟨k1, k2, k3, k4⟩ := hF.2 c hc
    unfold setOf at e
    split at e
    · rename_i h1
      injection e with e
      have := k2 h1
      rw [← e]
      refine ⟨?_, this.2.2.1, this.2.2.2⟩
      show c 1 * 3 + c 2 < 21
      omega
    · split at e
      · rename_i h2
        injection e with e
        have := k3 h2
        rw [← e]
        refine ⟨?_, this.2.1, this.2.2⟩
        show 18 + c 1 < 21
        omega
      · cases e
  · show (dosOf 0 K).length ≤ 24
    have := dosOf_len K 0
    have := hC.2.1
    omega
  · have := dosOf_mem K 0 hF.2 d hd
    have := hC.2.1
    omega
theorem FM_0 : FM [] [] := ⟨fun c hc => (by cases hc), fun c hc => (by cases hc)⟩
