theorem rel_suf {s : Nat} : ∀ (w cd : List Nat), ∃ u, w = u ++ (rel s w cd).1 ∧ (rel s w cd).2 = cd ++ em u ∧ ∀ k ∈ u, s ≤ stg k
  | [], cd => ⟨[], rfl, by simp [rel], fun k hk => by cases hk⟩
  | k :: w, cd => by
    by_cases h : s ≤ stg k
    · obtain ⟨u, h1, h2, h3⟩ := rel_suf (s := s) w (cd ++ [10000 + k])
      have e : rel s (k :: w) cd = rel s w (cd ++ [10000 + k]) := by
        show (if s ≤ stg k then _ else _) = _
        rw [if_pos h]
      rw [e]
      refine ⟨k :: u, by rw [List.cons_append, ← h1], by rw [h2]; simp, fun x hx => ?_⟩
      rcases List.mem_cons.mp hx with q | q
      · rw [q]; exact h
      · exact h3 x q
    · rw [rel_stop (by omega)]
      exact ⟨[], rfl, by simp, fun x hx => by cases hx⟩
theorem rel_hd {s : Nat} : ∀ (w cd : List Nat) (k : Nat) (l : List Nat), (rel s w cd).1 = k :: l → stg k < s
  | [], cd, k, l, e => by cases e
  | x :: w, cd, k, l, e => by
    by_cases h : s ≤ stg x
    · have e' : rel s (x :: w) cd = rel s w (cd ++ [10000 + x]) := by
        show (if s ≤ stg x then _ else _) = _
        rw [if_pos h]
      rw [e'] at e
      exact rel_hd w _ k l e
    · rw [rel_stop (by omega)] at e
      injection e with e1 e2
      rw [← e1]
      omega
theorem pOK_suf : ∀ {u w : List Nat}, pOK (u ++ w) → pOK w
  | [], _, h => h
  | _ :: u, _, h => pOK_suf (u := u) h.2.2
theorem pOK_nb {k : Nat} {p : List Nat} (hk : k = 35 ∨ k = 36) (h : pOK p) : pOK (k :: p) := by
  refine ⟨by omega, ?_, h⟩
  cases p with
  | nil => trivial
  | cons l p =>
    intro z
    rcases hk with rfl | rfl <;> exact absurd z (by decide)
theorem em_len (w : List Nat) : (em w).length = w.length := by simp
theorem pOne_ok {r x : Nat} {D : PD} {cd : List Nat} (h : sOK r (D, true, cd)) : sOK r (pOne D cd x) ∧ (wO (pOne D cd x).1).length + (pOne D cd x).2.2.length = (wO D).length + cd.length + 1 ∧ ∃ u, (pOne D cd x).2.2 = cd ++ u := by
  obtain ⟨o1, o2, o3, o4, o5⟩ := h
  obtain ⟨j, g1, g2, g3⟩ := rel7 D.1 (cd ++ [x])
  have ew : wO D = List.replicate j 35 ++ wO ((rel 7 D.1 (cd ++ [x])).1, D.2) := by
    show D.1 ++ wR D = List.replicate j 35 ++ ((rel 7 D.1 (cd ++ [x])).1 ++ wR D)
    rw [← List.append_assoc, ← g1]
  refine ⟨⟨pOK_suf (u := List.replicate j 35) ?_, fun _ => g3, o3, o4, ?_⟩, ?_, [x] ++ List.replicate j 10035, ?_⟩
  · show pOK (List.replicate j 35 ++ (rel 7 D.1 (cd ++ [x])).1)
    rw [← g1]
    exact o1
  · have o5 : nst (wO D) ≤ 8 := o5
    rw [ew, nst_app] at o5
    show nst (wO ((rel 7 D.1 (cd ++ [x])).1, D.2)) ≤ 8
    omega
  · show (wO ((rel 7 D.1 (cd ++ [x])).1, D.2)).length + (rel 7 D.1 (cd ++ [x])).2.length = _
    rw [g2, ew]
    simp only [List.length_append, List.length_replicate, List.length_singleton]
    omega
  · show (rel 7 D.1 (cd ++ [x])).2 = _
    rw [g2, List.append_assoc]
/-- a step keeps the order, and makes little longer -/
theorem pStep_ok {r : Nat} {t : Tk} {S S' : PS} (hS : sOK r S) (h : pStep r t S = .inr (.inl S')) : sOK r S' ∧ (wO S'.1).length + S'.2.2.length ≤ (wO S.1).length + S.2.2.length + 1 ∧ ∃ u, S'.2.2 = S.2.2 ++ u := by
  have hS0 := hS
  obtain ⟨⟨p, cm, n, a, o⟩, wn, cd⟩ := S
  obtain ⟨o1, o2, o3, o4, o5⟩ := hS
  have o1 : pOK p := o1
  have o3 : ∀ c, cm = some c → 25 ≤ c ∧ c ≤ 30 := o3
  have o4 : r = 6 → (cm, n, a, o) = (none, 0, false, false) := o4
  have o5 : nst (wO (p, cm, n, a, o)) ≤ 8 := o5
  by_cases hw : wn = true
  · subst hw
    have hS1 : sOK r ((p, cm, n, a, o), true, cd) := ⟨o1, o2, o3, o4, o5⟩
    unfold pStep at h
    rw [if_pos rfl] at h
    by_cases h1 : t.1 = 2
    · rw [if_pos h1] at h
      split at h
      · injection h with h; injection h with h
        obtain ⟨q1, q2, q3⟩ := pOne_ok (x := t.2.1) hS1
        rw [← h]
        exact ⟨q1, Nat.le_of_eq q2, q3⟩
      · cases h
    · rw [if_neg h1] at h
      by_cases h2 : 12 ≤ t.1 ∧ t.1 ≤ 21
      · rw [if_pos h2] at h
        split at h
        · injection h with h; injection h with h
          obtain ⟨q1, q2, q3⟩ := pOne_ok (x := 10000 + t.1) hS1
          rw [← h]
          exact ⟨q1, Nat.le_of_eq q2, q3⟩
        · cases h
      · rw [if_neg h2] at h
        by_cases h3 : t.1 = 36
        · rw [if_pos h3] at h
          split at h
          · cases h
          · rename_i n8
            injection h with h; injection h with h
            subst h
            refine ⟨⟨pOK_nb (Or.inr rfl) o1, fun z => absurd z (by simp), o3, o4, ?_⟩, ?_, [], by simp⟩
            · show (if isN 36 = true then 1 else 0) + nst (p ++ wR (p, cm, n, a, o)) ≤ 8
              have n8 : ¬ 8 ≤ nst (p ++ wR (p, cm, n, a, o)) := n8
              rw [if_pos (show isN 36 = true from rfl)]
              omega
            · show (36 :: (p ++ wR (p, cm, n, a, o))).length + cd.length ≤ (p ++ wR (p, cm, n, a, o)).length + cd.length + 1
              rw [List.length_cons]
              omega
        · rw [if_neg h3] at h
          by_cases h4 : t.1 = 32
          · rw [if_pos h4] at h
            split at h
            · cases h
            · rename_i n8
              injection h with h; injection h with h
              subst h
              refine ⟨⟨pOK_nb (Or.inl rfl) o1, fun z => absurd z (by simp), o3, o4, ?_⟩, ?_, [], by simp⟩
              · show (if isN 35 = true then 1 else 0) + nst (p ++ wR (p, cm, n, a, o)) ≤ 8
                have n8 : ¬ 8 ≤ nst (p ++ wR (p, cm, n, a, o)) := n8
                rw [if_pos (show isN 35 = true from rfl)]
                omega
              · show (35 :: (p ++ wR (p, cm, n, a, o))).length + cd.length ≤ (p ++ wR (p, cm, n, a, o)).length + cd.length + 1
                rw [List.length_cons]
                omega
          · rw [if_neg h4] at h
            split at h
            · rename_i h5
              obtain ⟨h51, h52, h53, h54⟩ := h5
              have h53 : p = [] := h53
              have h54 : cm = none := h54
              subst h53 h54
              split at h
              · cases h
              · rename_i n8
                injection h with h; injection h with h
                subst h
                have n8 : ¬ 8 ≤ nst (wR ([], none, n, a, o)) := n8
                refine ⟨⟨trivial, fun z => absurd z (by simp), fun c z => absurd z (by simp), fun z => absurd z h52, ?_⟩, ?_, [], by simp⟩
                · show (if isN 24 = true then 1 else 0) + nst (wR ([], none, n, a, o)) ≤ 8
                  rw [if_pos (show isN 24 = true from rfl)]
                  omega
                · show (24 :: wR ([], none, n, a, o)).length + cd.length ≤ (wR ([], none, n, a, o)).length + cd.length + 1
                  rw [List.length_cons]
                  omega
            · cases h
  · have hw : wn = false := by simpa using hw
    subst hw
    unfold pStep at h
    rw [if_neg (show ¬ (false = true) by decide)] at h
    by_cases h1 : 31 ≤ t.1 ∧ t.1 ≤ 34
    · rw [if_pos h1] at h
      injection h with h; injection h with h
      subst h
      obtain ⟨u, g1, g2, g3⟩ := rel_suf (s := stg t.1) p cd
      generalize hz : rel (stg t.1) p cd = z at *
      have g1 : p = u ++ z.1 := g1
      refine ⟨⟨⟨by show 31 ≤ t.1 ∧ t.1 ≤ 36; omega, ?_, ?_⟩, fun z => absurd z (by simp), o3, o4, ?_⟩, ?_, em u, g2⟩
      · show (match z.1 with | [] => True | l :: _ => isBn t.1 = true → stg l < stg t.1)
        cases hq : z.1 with
        | nil => trivial
        | cons l w => exact fun _ => rel_hd p cd l w (by rw [hz]; exact hq)
      · rw [g1] at o1
        exact pOK_suf o1
      · have o5 : nst (p ++ wR (p, cm, n, a, o)) ≤ 8 := o5
        show (if isN t.1 = true then 1 else 0) + nst (z.1 ++ wR (p, cm, n, a, o)) ≤ 8
        have nk : isN t.1 = false := by unfold isN; simp; omega
        rw [nk, if_neg (by decide)]
        rw [nst_app] at o5 ⊢
        rw [g1, nst_app] at o5
        have : nst (wR (u ++ z.1, cm, n, a, o)) = nst (wR (p, cm, n, a, o)) := rfl
        omega
      · show (t.1 :: (z.1 ++ wR (p, cm, n, a, o))).length + z.2.length ≤ (p ++ wR (p, cm, n, a, o)).length + cd.length + 1
        have hl : p.length = u.length + z.1.length := by rw [g1, List.length_append]
        rw [g2]
        simp only [List.length_cons, List.length_append, em_len]
        omega
    · rw [if_neg h1] at h
      split at h
      · rename_i h2
        obtain ⟨h21, h22, h23, h24, h25⟩ := h2
        have h25 : cm = none := h25
        subst h25
        injection h with h; injection h with h
        subst h
        have o5 : nst (p ++ wR (p, none, n, a, o)) ≤ 8 := o5
        refine ⟨⟨trivial, fun z => absurd z (by simp), fun c z => ?_, fun z => absurd z h23, ?_⟩, ?_, em p, rfl⟩
        · injection z with z
          rw [← z]
          exact ⟨h21, h22⟩
        · show (if isN t.1 = true then 1 else 0) + nst (wR (p, none, n, a, o)) ≤ 8
          have nk : isN t.1 = false := by unfold isN; simp; omega
          rw [nk, if_neg (by decide)]
          rw [nst_app] at o5
          omega
        · show (t.1 :: wR (p, none, n, a, o)).length + (cd ++ em p).length ≤ (p ++ wR (p, none, n, a, o)).length + cd.length + 1
          simp only [List.length_cons, List.length_append, em_len]
          omega
      · split at h
        · rename_i h3
          injection h with h; injection h with h
          subst h
          refine ⟨⟨trivial, fun z => absurd z (by simp), fun c z => absurd z (by simp), fun z => absurd z h3.2.1, ?_⟩, ?_, _, rfl⟩
          · show nst (23 :: (if o = true then [22] else [])) ≤ 8
            split <;> decide
          · show (23 :: (if o = true then [22] else [])).length + (cd ++ em (p ++ (cm.toList ++ (List.replicate n 24 ++ (if a = true then [23] else []))))).length ≤ (p ++ (cm.toList ++ (List.replicate n 24 ++ ((if a = true then [23] else []) ++ (if o = true then [22] else []))))).length + cd.length + 1
            simp only [List.length_cons, List.length_append, em_len]
            omega
        · split at h
          · rename_i h4
            injection h with h; injection h with h
            subst h
            refine ⟨⟨trivial, fun z => absurd z (by simp), fun c z => absurd z (by simp), fun z => absurd z h4.2.1, ?_⟩, ?_, _, rfl⟩
            · show nst [22] ≤ 8
              decide
            · show [22].length + (cd ++ em (wO (p, cm, n, a, o))).length ≤ (wO (p, cm, n, a, o)).length + cd.length + 1
              simp only [List.length_singleton, List.length_append, em_len]
              omega
          · split at h
            · rename_i h5
              injection h with h; injection h with h
              subst h
              obtain ⟨tl, g1, g2, g3⟩ := rel1_b p [] cd h5.2
              obtain ⟨u, i1, i2, i3⟩ := rel_suf (s := 1) p cd
              have e1 : (rel 1 p cd).1 = 36 :: tl := by rw [g1]
              rw [e1] at i1
              have e2 : (rel 1 p cd).1.tail = tl := by rw [e1]; rfl
              obtain ⟨j, k1, k2, k3⟩ := rel7 tl (rel 1 p cd).2
              generalize hz : rel 7 tl (rel 1 p cd).2 = z at k1 k2 k3
              have i1 : p = u ++ (36 :: tl) := i1
              refine ⟨⟨?_, fun _ => ?_, o3, o4, ?_⟩, ?_, em u ++ List.replicate j 10035, ?_⟩
              · show pOK (rel 7 (rel 1 p cd).1.tail (rel 1 p cd).2).1
                rw [e2, hz]
                rw [i1] at o1
                have := (pOK_suf o1).2.2
                rw [k1] at this
                exact pOK_suf this
              · show (rel 7 (rel 1 p cd).1.tail (rel 1 p cd).2).1.head? ≠ some 35
                rw [e2, hz]
                exact k3
              · show nst ((rel 7 (rel 1 p cd).1.tail (rel 1 p cd).2).1 ++ wR (p, cm, n, a, o)) ≤ 8
                rw [e2, hz]
                have o5 : nst (p ++ wR (p, cm, n, a, o)) ≤ 8 := o5
                rw [nst_app] at o5 ⊢
                have e3 : nst p = nst u + (1 + nst tl) := by
                  rw [i1, nst_app]
                  rfl
                have e4 : nst tl = nst (List.replicate j 35) + nst z.1 := by rw [← nst_app, ← k1]
                omega
              · show ((rel 7 (rel 1 p cd).1.tail (rel 1 p cd).2).1 ++ wR (p, cm, n, a, o)).length + (rel 7 (rel 1 p cd).1.tail (rel 1 p cd).2).2.length ≤ (p ++ wR (p, cm, n, a, o)).length + cd.length + 1
                rw [e2, hz, k2, i2]
                have e3 : p.length = u.length + (tl.length + 1) := by rw [i1, List.length_append, List.length_cons]
                have e4 : tl.length = j + z.1.length := by
                  have := congrArg List.length k1
                  rw [List.length_append, List.length_replicate] at this
                  exact this
                simp only [List.length_append, em_len, List.length_replicate]
                omega
              · show (rel 7 (rel 1 p cd).1.tail (rel 1 p cd).2).2 = _
                rw [e2, hz, k2, i2, List.append_assoc]
            · split at h
              · injection h with h; cases h
              · cases h
theorem pStep_dn {r : Nat} {t : Tk} {S : PS} {cd : List Nat} (h : pStep r t S = .inr (.inr cd)) : t.1 = 3 ∧ S.2.1 = false ∧ cd = S.2.2 ++ em (wO S.1) ∧ brk S.1.1 = 0 ∧ (S.1.2.1 ≠ none ∨ r = 6) := by
  unfold pStep at h
  split at h
  · repeat' (first | (cases h; done) | split at h)
  · rename_i hw
    split at h
    · cases h
    · split at h
      · cases h
      · split at h
        · cases h
        · split at h
          · cases h
          · split at h
            · cases h
            · split at h
              · rename_i h5
                injection h with h; injection h with h
                exact ⟨h5.1, by simpa using hw, h.symm, h5.2⟩
              · cases h
theorem pStep_0 {r : Nat} {t : Tk} {S : PS} (h : t.1 = 0) : pStep r t S = .inl 1 := by
  unfold pStep
  rw [h]
  split
  · simp
  · simp
theorem pRun_ok {r : Nat} : ∀ {ts : List Tk} {S : PS} {rest : List Tk} {cd : List Nat}, sOK r S → pRun r ts S = .inr (rest, cd) → (∃ k, 0 < k ∧ k ≤ ts.length ∧ rest = ts.drop k) ∧ cd.length + 1 + rest.length ≤ (wO S.1).length + S.2.2.length + ts.length ∧ ∃ u, cd = S.2.2 ++ u
  | [], S, rest, cd, _, h => by cases h
  | t :: ts, S, rest, cd, hS, h => by
    unfold pRun at h
    split at h
    · cases h
    · rename_i S' e
      obtain ⟨q1, q2, q3⟩ := pStep_ok hS e
      obtain ⟨⟨k, k0, k1, k2⟩, z1, u, z2⟩ := pRun_ok q1 h
      obtain ⟨u', q3⟩ := q3
      refine ⟨⟨k + 1, by omega, by rw [List.length_cons]; omega, k2⟩, by rw [List.length_cons]; omega, u' ++ u, by rw [z2, q3, List.append_assoc]⟩
    · rename_i cd' e
      injection h with h
      injection h with h1 h2
      obtain ⟨_, _, q3, _⟩ := pStep_dn e
      subst h1 h2
      refine ⟨⟨1, by decide, by rw [List.length_cons]; omega, rfl⟩, ?_, _, q3⟩
      rw [q3, List.length_cons, List.length_append, em_len]
      omega
