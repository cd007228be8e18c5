theorem bn_rep (j : Nat) : bn (List.replicate j 35) = 0 := by
  induction j with
  | zero => rfl
  | succ j ih =>
    rw [List.replicate_succ]
    show (if isBn 35 = true then 1 else 0) + bn (List.replicate j 35) = 0
    rw [ih, if_neg (by decide)]
theorem b2_le (b : Bool) : b2 b ≤ 1 := by cases b <;> decide
theorem nm_app {r : Nat} {w u : List Nat} (h : ∀ c ∈ w, 10012 ≤ c → c < 10022 → al r (c - 10012) = true) (hu : ∀ c ∈ u, ¬ (10012 ≤ c ∧ c < 10022)) : ∀ c ∈ w ++ u, 10012 ≤ c → c < 10022 → al r (c - 10012) = true := fun c hc h1 h2 => by
  rcases List.mem_append.mp hc with z | z
  · exact h c z h1 h2
  · exact absurd ⟨h1, h2⟩ (hu c z)
/-- an ask's end: sums, the comparison, nots, and -/
theorem GO_ask {w p : List Nat} {c n : Nat} {a o : Bool} (hp : ∀ k ∈ p, 31 ≤ k ∧ k ≤ 35) (hb : bn p ≤ 26) (hc : 25 ≤ c ∧ c ≤ 30) (hw : GO w 0 0 (bn p + 1 + 1) (b2 a + b2 o)) : GO (w ++ em (p ++ ([c] ++ (List.replicate n 24 ++ (if a = true then [23] else []))))) 0 0 0 (b2 o + 1) := by
  have ha := b2_le a
  have ho := b2_le o
  have e : w ++ em (p ++ ([c] ++ (List.replicate n 24 ++ (if a = true then [23] else [])))) = (((w ++ em p) ++ [10000 + c]) ++ List.replicate n 10024) ++ em (if a = true then [23] else []) := by
    simp [em, List.map_replicate]
  rw [e]
  have g1 : GO (w ++ em p) 0 0 2 (b2 a + b2 o) := GO_pop (u := p) (B := 0) (C := 1) hp (by omega) hw
  have g2 := GO_app (GO_app g1 (GO_cmp hc (by omega))) (GO_nots (n := n) (b := b2 a + b2 o) (by omega))
  cases a with
  | false =>
    have g2 : GO _ 0 0 0 (0 + b2 o + 1) := g2
    rw [Nat.zero_add] at g2
    rw [if_neg (by decide), show em [] = ([] : List Nat) from rfl, List.append_nil]
    exact g2
  | true =>
    have g2 : GO _ 0 0 0 (1 + b2 o + 1) := g2
    rw [show 1 + b2 o + 1 = b2 o + 2 by omega] at g2
    rw [if_pos rfl]
    exact GO_app g2 (GO_ao (k := 23) (Or.inr rfl) (by omega))
theorem GO_all {w p : List Nat} {c n : Nat} {a o : Bool} (hp : ∀ k ∈ p, 31 ≤ k ∧ k ≤ 35) (hb : bn p ≤ 26) (hc : 25 ≤ c ∧ c ≤ 30) (hw : GO w 0 0 (bn p + 1 + 1) (b2 a + b2 o)) : GO (w ++ em (p ++ ([c] ++ (List.replicate n 24 ++ (if a = true then [23] else [])))) ++ em (if o = true then [22] else [])) 0 0 0 1 := by
  have q := GO_ask (n := n) hp hb hc hw
  by_cases h : o = true
  · rw [h] at q ⊢
    rw [if_pos rfl]
    exact GO_app q (GO_ao (k := 22) (b := 0) (Or.inl rfl) (by decide))
  · have h : o = false := by simpa using h
    rw [h] at q ⊢
    rw [if_neg (show ¬ (false = true) by decide), show em [] = ([] : List Nat) from rfl, List.append_nil]
    exact q
theorem INV_one {r x : Nat} {cd0 : List Nat} {D : PD} {cd : List Nat} (hS : sOK r (D, true, cd)) (h : INV r cd0 (D, true, cd)) (hx : x < 10000 ∨ (10012 ≤ x ∧ x < 10022)) (hn : 10012 ≤ x → x < 10022 → al r (x - 10012) = true) : INV r cd0 (pOne D cd x) := by
  obtain ⟨w, e, g, nm⟩ := h
  have e : cd = cd0 ++ w := e
  have hb : bn D.1 ≤ 26 := bn_26 hS
  have g : GO w 0 0 (bn D.1 + (if D.2.1 = none then 0 else 1) + 0) (b2 D.2.2.2.1 + b2 D.2.2.2.2) := g
  have ha := b2_le D.2.2.2.1
  have ho := b2_le D.2.2.2.2
  have hcm : (if D.2.1 = none then 0 else 1) ≤ 1 := by split <;> omega
  obtain ⟨j, g1, g2, g3⟩ := rel7 D.1 (cd ++ [x])
  have eb : bn D.1 = bn (rel 7 D.1 (cd ++ [x])).1 := by
    have := congrArg bn g1
    rw [bn_app, bn_rep, Nat.zero_add] at this
    exact this
  refine ⟨w ++ [x] ++ em (List.replicate j 35), ?_, ?_, nm_app (fun c hc h1 h2 => ?_) (em_nm (fun k hk => by rw [List.eq_of_mem_replicate hk]; decide))⟩
  · show (rel 7 D.1 (cd ++ [x])).2 = _
    rw [g2, e, em_rep]
    simp
  · show GO (w ++ [x] ++ em (List.replicate j 35)) 0 0 (bn (rel 7 D.1 (cd ++ [x])).1 + (if D.2.1 = none then 0 else 1) + 1) (b2 D.2.2.2.1 + b2 D.2.2.2.2)
    rw [← eb]
    refine GO_pop (u := List.replicate j 35) (fun k hk => by rw [List.eq_of_mem_replicate hk]; decide) (by rw [bn_rep]; omega) ?_
    rw [bn_rep, Nat.zero_add]
    exact GO_app g (GO_push hx (by omega))
  · rcases List.mem_append.mp hc with z | z
    · exact nm c z h1 h2
    · rw [List.mem_singleton.mp z] at h1 h2 ⊢
      exact hn h1 h2
theorem p35 {p : List Nat} (h : pOK p) (hb : brk p = 0) : ∀ k ∈ p, 31 ≤ k ∧ k ≤ 35 := fun k hk => by
  have h1 := pOK_mem h k hk
  have h2 := brk_0 hb k hk
  omega
theorem ask_nm {p : List Nat} {c n : Nat} {q : List Nat} (hp : ∀ k ∈ p, 31 ≤ k ∧ k ≤ 35) (hc : 25 ≤ c ∧ c ≤ 30) (hq : ∀ k ∈ q, k = 22 ∨ k = 23) : ∀ x ∈ em (p ++ ([c] ++ (List.replicate n 24 ++ q))), ¬ (10012 ≤ x ∧ x < 10022) := em_nm (fun k hk => by
  rcases List.mem_append.mp hk with z | z
  · have := hp k z; omega
  · rcases List.mem_append.mp z with z | z
    · have := List.mem_singleton.mp z; omega
    · rcases List.mem_append.mp z with z | z
      · rw [List.eq_of_mem_replicate z]; decide
      · have := hq k z; omega)
theorem INV_step {r : Nat} {t : Tk} {cd0 : List Nat} {S S' : PS} (hS : sOK r S) (hI : INV r cd0 S) (h : pStep r t S = .inr (.inl S')) : INV r cd0 S' := by
  obtain ⟨⟨p, cm, n, a, o⟩, wn, cd⟩ := S
  have hS0 := hS
  have hb26 : bn p ≤ 26 := bn_26 hS
  obtain ⟨o1, o2, o3, o4, o5⟩ := hS
  have o1 : pOK p := o1
  have o3 : ∀ c, cm = some c → 25 ≤ c ∧ c ≤ 30 := o3
  have ha := b2_le a
  have ho := b2_le o
  by_cases hw : wn = true
  · subst hw
    have hI0 := hI
    obtain ⟨w, e, g, nm⟩ := hI
    unfold pStep at h
    rw [if_pos rfl] at h
    split at h
    · split at h
      · rename_i h2
        injection h with h; injection h with h
        rw [← h]
        have h2 : t.2.1 ≤ 9999 := h2
        exact INV_one hS0 hI0 (Or.inl (by omega)) (fun z => by omega)
      · cases h
    · split at h
      · rename_i h2
        split at h
        · rename_i h3
          injection h with h; injection h with h
          rw [← h]
          exact INV_one hS0 hI0 (Or.inr (by omega)) (fun _ _ => by rw [show 10000 + t.1 - 10012 = t.1 - 12 by omega]; exact h3)
        · cases h
      · split at h
        · split at h
          · cases h
          · injection h with h; injection h with h
            subst h
            refine ⟨w, e, ?_, nm⟩
            show GO w 0 0 ((if isBn 36 = true then 1 else 0) + bn p + _ + _) _
            rw [if_neg (by decide), Nat.zero_add]
            exact g
        · split at h
          · split at h
            · cases h
            · injection h with h; injection h with h
              subst h
              refine ⟨w, e, ?_, nm⟩
              show GO w 0 0 ((if isBn 35 = true then 1 else 0) + bn p + _ + _) _
              rw [if_neg (by decide), Nat.zero_add]
              exact g
          · split at h
            · split at h
              · cases h
              · injection h with h; injection h with h
                subst h
                exact ⟨w, e, g, nm⟩
            · cases h
  · have hw : wn = false := by simpa using hw
    subst hw
    obtain ⟨w, e, g, nm⟩ := hI
    have e : cd = cd0 ++ w := e
    have g : GO w 0 0 (bn p + (if cm = none then 0 else 1) + 1) (b2 a + b2 o) := g
    unfold pStep at h
    rw [if_neg (show ¬ (false = true) by decide)] at h
    by_cases h1 : 31 ≤ t.1 ∧ t.1 ≤ 34
    · rw [if_pos h1] at h
      injection h with h; injection h with h
      subst h
      obtain ⟨u, g1, g2, g3⟩ := rel_suf (s := stg t.1) p cd
      have s5 : 5 ≤ stg t.1 := stg_p (by omega) (by omega)
      have hu : ∀ k ∈ u, 31 ≤ k ∧ k ≤ 35 := fun k hk => by
        have q1 := pOK_mem o1 k (by rw [g1]; exact List.mem_append_left _ hk)
        have q2 := g3 k hk
        have : k ≠ 36 := fun z => by
          rw [z] at q2
          have e0 : stg 36 = 0 := rfl
          omega
        omega
      have eb : bn p = bn u + bn (rel (stg t.1) p cd).1 := by rw [← bn_app, ← g1]
      have hcm : (if cm = none then 0 else 1) ≤ 1 := by split <;> omega
      refine ⟨w ++ em u, ?_, ?_, nm_app nm (em_nm (fun k hk => by have := hu k hk; omega))⟩
      · show (rel (stg t.1) p cd).2 = _
        rw [g2, e, List.append_assoc]
      · show GO (w ++ em u) 0 0 ((if isBn t.1 = true then 1 else 0) + bn (rel (stg t.1) p cd).1 + (if cm = none then 0 else 1) + 0) (b2 a + b2 o)
        have : isBn t.1 = true := by unfold isBn; simp; omega
        rw [if_pos this, show 1 + bn (rel (stg t.1) p cd).1 + (if cm = none then 0 else 1) + 0 = bn (rel (stg t.1) p cd).1 + (if cm = none then 0 else 1) + 1 by omega]
        rw [eb] at g
        exact GO_pop hu (by omega) g
    · rw [if_neg h1] at h
      split at h
      · rename_i h2
        obtain ⟨h21, h22, h23, h24, h25⟩ := h2
        have h25 : cm = none := h25
        have h24 : brk p = 0 := h24
        subst h25
        injection h with h; injection h with h
        subst h
        refine ⟨w ++ em p, ?_, ?_, nm_app nm (em_nm (fun k hk => by have := p35 o1 h24 k hk; omega))⟩
        · show cd ++ em p = _
          rw [show cd = cd0 ++ w from e, List.append_assoc]
        · have q : GO (w ++ em p) 0 0 (0 + 0 + 1) (b2 a + b2 o) := GO_pop (u := p) (B := 0) (C := 0) (p35 o1 h24) (by omega) g
          exact q
      · split at h
        · rename_i h3
          obtain ⟨h31, h32, h33, h34⟩ := h3
          have h33 : brk p = 0 := h33
          have h34 : cm ≠ none := h34
          injection h with h; injection h with h
          subst h
          cases cm with
          | none => exact absurd rfl h34
          | some c =>
            have hc := o3 c rfl
            refine ⟨w ++ em (p ++ ([c] ++ (List.replicate n 24 ++ (if a = true then [23] else [])))), ?_, ?_, nm_app nm (ask_nm (p35 o1 h33) hc (fun k hk => ?_))⟩
            · show cd ++ em (p ++ ([c] ++ (List.replicate n 24 ++ (if a = true then [23] else [])))) = _
              rw [show cd = cd0 ++ w from e, List.append_assoc]
            · have := GO_ask (n := n) (p35 o1 h33) hb26 hc g
              rw [Nat.add_comm] at this
              exact this
            · split at hk
              · exact Or.inr (List.mem_singleton.mp hk)
              · cases hk
        · split at h
          · rename_i h4
            obtain ⟨h41, h42, h43, h44⟩ := h4
            have h43 : brk p = 0 := h43
            have h44 : cm ≠ none := h44
            injection h with h; injection h with h
            subst h
            cases cm with
            | none => exact absurd rfl h44
            | some c =>
              have hc := o3 c rfl
              have ew : em (wO (p, some c, n, a, o)) = em (p ++ ([c] ++ (List.replicate n 24 ++ (if a = true then [23] else [])))) ++ em (if o = true then [22] else []) := by
                simp [em, wO, wR]
              refine ⟨w ++ em (wO (p, some c, n, a, o)), ?_, ?_, ?_⟩
              · show cd ++ em (wO (p, some c, n, a, o)) = _
                rw [show cd = cd0 ++ w from e, List.append_assoc]
              · have q2 := GO_all (n := n) (p35 o1 h43) hb26 hc g
                rw [ew, ← List.append_assoc]
                exact q2
              · rw [ew, ← List.append_assoc]
                refine nm_app (nm_app nm (ask_nm (p35 o1 h43) hc (fun k hk => ?_))) (em_nm (fun k hk => ?_))
                · split at hk
                  · exact Or.inr (List.mem_singleton.mp hk)
                  · cases hk
                · split at hk
                  · rw [List.mem_singleton.mp hk]; decide
                  · cases hk
          · split at h
            · rename_i h5
              injection h with h; injection h with h
              subst h
              obtain ⟨tl, g1, g2, g3⟩ := rel1_b p [] cd h5.2
              obtain ⟨u, i1, i2, i3⟩ := rel_suf (s := 1) p cd
              have e1 : (rel 1 p cd).1 = 36 :: tl := by rw [g1]
              rw [e1] at i1
              have e2 : (rel 1 p cd).1.tail = tl := by rw [e1]; rfl
              obtain ⟨j, k1, k2, k3⟩ := rel7 tl (rel 1 p cd).2
              have hu : ∀ k ∈ u, 31 ≤ k ∧ k ≤ 35 := fun k hk => by
                have q1 := pOK_mem o1 k (by rw [i1]; exact List.mem_append_left _ hk)
                have q2 := i3 k hk
                have : k ≠ 36 := fun z => by
                  rw [z] at q2
                  have e0 : stg 36 = 0 := rfl
                  omega
                omega
              have eb : bn p = bn u + bn tl := by
                rw [i1, bn_app]
                show bn u + ((if isBn 36 = true then 1 else 0) + bn tl) = _
                rw [if_neg (by decide), Nat.zero_add]
              have eb2 : bn tl = bn (rel 7 tl (rel 1 p cd).2).1 := by
                have := congrArg bn k1
                rw [bn_app, bn_rep, Nat.zero_add] at this
                exact this
              have hcm : (if cm = none then 0 else 1) ≤ 1 := by split <;> omega
              refine ⟨w ++ em u ++ em (List.replicate j 35), ?_, ?_, nm_app (nm_app nm (em_nm (fun k hk => by have := hu k hk; omega))) (em_nm (fun k hk => by rw [List.eq_of_mem_replicate hk]; decide))⟩
              · show (rel 7 (rel 1 p cd).1.tail (rel 1 p cd).2).2 = _
                rw [e2, k2, i2, e, em_rep]
                simp
              · show GO _ 0 0 (bn (rel 7 (rel 1 p cd).1.tail (rel 1 p cd).2).1 + (if cm = none then 0 else 1) + 1) (b2 a + b2 o)
                rw [e2, ← eb2]
                refine GO_pop (u := List.replicate j 35) (fun k hk => by rw [List.eq_of_mem_replicate hk]; decide) (by rw [bn_rep]; omega) ?_
                rw [bn_rep, Nat.zero_add]
                rw [eb] at g
                exact GO_pop hu (by omega) g
            · split at h
              · injection h with h; cases h
              · cases h
