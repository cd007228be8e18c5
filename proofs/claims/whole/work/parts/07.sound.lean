theorem hd_and {a b : Bool} (h : (a && b) = true) : a = true ∧ b = true := by cases a <;> cases b <;> first | exact ⟨rfl, rfl⟩ | cases h
theorem hd_in0 : ∀ w ∈ u_ws RX0 TX0 8, w ∈ lw_g := by decide +kernel
theorem hd_in1 : ∀ w ∈ u_ws RX1 TX1 14, w ∈ lw_g := by decide +kernel
theorem hd_in2 : ∀ w ∈ u_ws RX2 TX2 11, w ∈ lw_g := by decide +kernel
theorem hd_in3 : ∀ w ∈ u_ws RX3 TX3 12, w ∈ lw_g := by decide +kernel
theorem hd_in4 : ∀ w ∈ u_ws RX4 TX4 4, w ∈ lw_g := by decide +kernel
theorem hd_in5 : ∀ w ∈ u_ws RX5 TX5 11, w ∈ lw_g := by decide +kernel
theorem hd_in6 : ∀ w ∈ u_ws RX6 TX6 11, w ∈ lw_g := by decide +kernel
theorem hd_in7 : ∀ w ∈ u_ws RX7 TX7 14, w ∈ lw_g := by decide +kernel
theorem hd_in8 : ∀ w ∈ u_ws RX8 TX8 41, w ∈ lw_g := by decide +kernel
/-- the classes' tables -/
theorem hd_clok {a : Nat} {q : vw_C} (h : vwCl[a]? = some q) : (∀ w ∈ u_ws q.1 q.2.1 q.2.2, w ∈ lw_g) ∧ (∀ k, k < q.2.2 → parseFieldDescriptor (q.2.1 k).2.2.1 = some (hd_ft a k)) ∧ (∀ a, a < q.2.2 → ∀ b, b < q.2.2 → a ≠ b → (q.2.1 a).2.1 ≠ (q.2.1 b).2.1) ∧ hd_N a = q.2.2 := by
  match a, h with
  | 0, h => cases h; exact ⟨hd_in0, tyX0_ok, nmX0, rfl⟩
  | 1, h => cases h; exact ⟨hd_in1, tyX1_ok, nmX1, rfl⟩
  | 2, h => cases h; exact ⟨hd_in2, tyX2_ok, nmX2, rfl⟩
  | 3, h => cases h; exact ⟨hd_in3, tyX3_ok, nmX3, rfl⟩
  | 4, h => cases h; exact ⟨hd_in4, tyX4_ok, nmX4, rfl⟩
  | 5, h => cases h; exact ⟨hd_in5, tyX5_ok, nmX5, rfl⟩
  | 6, h => cases h; exact ⟨hd_in6, tyX6_ok, nmX6, rfl⟩
  | 7, h => cases h; exact ⟨hd_in7, tyX7_ok, nmX7, rfl⟩
  | 8, h => cases h; exact ⟨hd_in8, tyX8_ok, nmX8, rfl⟩
  | k + 9, h => simp [vwCl] at h
theorem hd_E_obj {G : hd_G} {σ : hd_M} {q a n : Nat} {rs : List Nat} : hd_E G σ q (10 + a, n, rs) = .inr (a, (List.range (hd_N a)).map (fun j => hd_fv (hd_ad G) σ q rs a j)) := by
  have h : 10 + a = (a + 9) + 1 := by omega
  have h2 : 10 + a - 10 = a := by omega
  unfold hd_E
  simp only
  split
  all_goals first | omega | rw [h2]
theorem hd_E_arr {G : hd_G} {σ : hd_M} {q t n : Nat} {rs : List Nat} (ht : t < 3) : hd_E G σ q (t, n, rs) = .inl (G.2.2.1 t, n, .inl (σ.1 q)) := by
  match t, ht with
  | 0, _ => rfl
  | 1, _ => rfl
  | 2, _ => rfl
theorem hd_fs_at {G : hd_G} {σ : hd_M} {q a k : Nat} {rs : List Nat} (h : k < hd_N a) : ((List.range (hd_N a)).map (fun j => hd_fv (hd_ad G) σ q rs a j))[k]? = some (hd_fv (hd_ad G) σ q rs a k) := by simp [h]
theorem hd_fs_set {f : Nat → Nat} {σ σ' : hd_M} {q a k N : Nat} {rs : List Nat} {v : Value} (hk : k < N) (hv : hd_fv f σ' q rs a k = v) (ho : ∀ j, j ≠ k → hd_fv f σ' q rs a j = hd_fv f σ q rs a j) : ((List.range N).map (fun j => hd_fv f σ q rs a j)).set k v = (List.range N).map (fun j => hd_fv f σ' q rs a j) := by
  apply List.ext_getElem?
  intro i
  rw [List.getElem?_set]
  by_cases hi : k = i
  · subst hi
    simp [hk, hv]
  · rw [if_neg hi]
    by_cases hl : i < N
    · simp [hl, ho i (fun z => hi z.symm)]
    · simp [hl]
theorem hd_fv_I {f : Nat → Nat} {σ : hd_M} {q a k j : Nat} {rs : List Nat} {x : Int32} (h : j ≠ k) : hd_fv f (hd_wI σ q k x) q rs a j = hd_fv f σ q rs a j := by
  unfold hd_fv hd_wI
  simp only [hd_up_eq, hd_up_ne h]
theorem hd_fv_L {f : Nat → Nat} {σ : hd_M} {q a k j : Nat} {rs : List Nat} {x : Int64} (h : j ≠ k) : hd_fv f (hd_wL σ q k x) q rs a j = hd_fv f σ q rs a j := by
  unfold hd_fv hd_wL
  simp only [hd_up_eq, hd_up_ne h]
theorem hd_len {sh : hd_S} {q : Nat} {s : Nat × Nat × List Nat} (h : sh[q]? = some s) : q < sh.length := (List.getElem?_eq_some_iff.mp h).1
theorem hd_adq {G : hd_G} {s : State} {sh : hd_S} {σ : hd_M} {H : Heap} {q : Nat} {x : Nat × Nat × List Nat} (hK : hd_K G s) (hP : hd_P G sh σ H) (h : sh[q]? = some x) : hd_ad G q = hd_b G + q := hK.2.2.2.2.2 q (Nat.lt_of_lt_of_le (hd_len h) hP.1)
/-- the world behind a write -/
theorem hd_P_set {G : hd_G} {sh : hd_S} {σ σ' : hd_M} {H H1 : Heap} {q : Nat} {s : Nat × Nat × List Nat} {e : va_E} (hP : hd_P G sh σ H) (hs : sh[q]? = some s) (he : e = hd_E G σ' q s) (ho : ∀ k s', k ≠ q → hd_E G σ' k s' = hd_E G σ k s') (h1 : va_P G.2.1 vwCl ((hd_ws G sh σ).set q (hd_b G + q, e)) H1) : hd_P G sh σ' H1 := by
  refine ⟨hP.1, ?_⟩
  rw [hd_set hs he ho] at h1
  exact h1
