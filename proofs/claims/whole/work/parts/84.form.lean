def good (r : Nat) (cs : List Nat) : Prop := (r ≠ 6 → gdB r cs) ∧ (r = 6 → gdS cs)
theorem gd_of {r a b : Nat} {w : List Nat} (h : GO w 0 0 a b) (nm : ∀ c ∈ w, 10012 ≤ c → c < 10022 → al r (c - 10012) = true) : gdA r w := ⟨nm, fun e _ k s' _ q => by
  obtain ⟨s1, r1, _⟩ := h e ([], []) rfl rfl
  exact RU_pre r1 k s' q⟩
theorem good_run {r : Nat} {cd0 : List Nat} : ∀ {ts : List Tk} {S : PS} {rest : List Tk} {cd : List Nat}, sOK r S → INV r cd0 S → pRun r ts S = .inr (rest, cd) → ∃ w, cd = cd0 ++ w ∧ good r w
  | [], S, rest, cd, _, _, h => by cases h
  | t :: ts, S, rest, cd, hS, hI, h => by
    unfold pRun at h
    split at h
    · cases h
    · rename_i S' e
      exact good_run (pStep_ok hS e).1 (INV_step hS hI e) h
    · rename_i cd' e
      injection h with h
      injection h with h1 h2
      subst h2
      obtain ⟨_, hw, q3, q4, q5⟩ := pStep_dn e
      obtain ⟨⟨p, cm, n, a, o⟩, wn, cd⟩ := S
      have hw : wn = false := hw
      subst hw
      have hb26 : bn p ≤ 26 := bn_26 hS
      obtain ⟨o1, o2, o3, o4, o5⟩ := hS
      have o1 : pOK p := o1
      have o3 : ∀ c, cm = some c → 25 ≤ c ∧ c ≤ 30 := o3
      have o4 : r = 6 → (cm, n, a, o) = (none, 0, false, false) := o4
      have q4 : brk p = 0 := q4
      obtain ⟨w, ew, g, nm⟩ := hI
      have ew : cd = cd0 ++ w := ew
      have g : GO w 0 0 (bn p + (if cm = none then 0 else 1) + 1) (b2 a + b2 o) := g
      have q3 : cd' = cd ++ em (wO (p, cm, n, a, o)) := q3
      refine ⟨w ++ em (wO (p, cm, n, a, o)), by rw [q3, ew, List.append_assoc], ?_, ?_⟩
      · intro hr
        cases cm with
        | none => exact absurd q5 (by simp [hr])
        | some c =>
          have hc := o3 c rfl
          have e2 : em (wO (p, some c, n, a, o)) = em (p ++ ([c] ++ (List.replicate n 24 ++ (if a = true then [23] else [])))) ++ em (if o = true then [22] else []) := by
            simp [em, wO, wR]
          have g2 := GO_all (n := n) (p35 o1 q4) hb26 hc g
          rw [e2, ← List.append_assoc]
          refine ⟨gd_of g2 (nm_app (nm_app nm (ask_nm (p35 o1 q4) hc (fun k hk => ?_))) (em_nm (fun k hk => ?_))), fun e _ => ?_⟩
          · split at hk
            · exact Or.inr (List.mem_singleton.mp hk)
            · cases hk
          · split at hk
            · rw [List.mem_singleton.mp hk]; decide
            · cases hk
          · obtain ⟨⟨vs, bs⟩, r1, l1, l2⟩ := g2 e ([], []) rfl rfl
            match vs, bs, l1, l2 with
            | [], [b], _, _ => exact ⟨b, RU_run r1⟩
      · intro hr
        have hq := o4 hr
        injection hq with z1 hq
        injection hq with z2 hq
        injection hq with z3 z4
        subst z1 z2 z3 z4
        have e2 : em (wO (p, none, 0, false, false)) = em p := by
          simp [em, wO, wR]
        rw [e2]
        have g2 : GO (w ++ em p) 0 0 (0 + 0 + 1) 0 := GO_pop (u := p) (B := 0) (C := 0) (p35 o1 q4) (by omega) g
        refine ⟨?_, fun e _ => ?_⟩
        · have := gd_of (r := r) g2 (nm_app nm (em_nm (fun k hk => by have := p35 o1 q4 k hk; omega)))
          rw [hr] at this
          exact this
        · obtain ⟨⟨vs, bs⟩, r1, l1, l2⟩ := g2 e ([], []) rfl rfl
          match vs, bs, l1, l2 with
          | [z], [], _, _ => exact ⟨z, RU_run r1⟩
theorem INV_0 (r : Nat) (cd : List Nat) : INV r cd (S0 cd) := ⟨[], by simp [S0], GO_nil (by decide), fun c hc => by cases hc⟩
theorem pRule_inv {s r x : Nat} {cd cd' : List Nat} {ts ts' : List Tk} {c : Nat → Nat} (h : pRule s r x cd ts = .inr (ts', c, cd')) : ∃ w, cd' = cd ++ w ∧ good r w ∧ c = mkC [s, x, cd.length, cd'.length] := by
  unfold pRule at h
  split at h
  · cases h
  · rename_i ts2 cd2 e
    injection h with h
    injection h with h1 h2
    injection h2 with h2 h3
    subst h3
    obtain ⟨w, e1, e2⟩ := good_run (S0_ok r cd) (INV_0 r cd) e
    exact ⟨w, e1, e2, h2.symm⟩
theorem pClause_inv {K : List (Nat → Nat)} {cd cd' : List Nat} {ts ts' : List Tk} {c : Nat → Nat} (h : pClause K cd ts = .inr (ts', c, cd')) : ∃ w, cd' = cd ++ w ∧ (isAs (c 0) = true → c 2 = cd.length ∧ c 3 = cd'.length ∧ ∀ r, r < 9 → isRule r c = true → good r w) ∧ KW [c] := by
  have kw : ∀ {c : Nat → Nat}, ((c 0 = 0 → c 1 < 6) ∧ (c 0 = 1 → c 1 < 6 ∧ c 2 < 3 ∧ c 3 < 6 ∧ c 4 < 3) ∧ (c 0 = 2 → c 1 < 3 ∧ c 2 < 6 ∧ c 3 < 3) ∧ (c 0 = 6 → c 1 < 15)) → KW [c] := fun {c} h d hd => by rw [List.mem_singleton.mp hd]; exact h
  cases ts with
  | nil => cases h
  | cons t us =>
    have h : (match srt t.1 with
      | none => .inl (1, t.2.2)
      | some s =>
        if (3 ≤ s ∧ s ≤ 5) ∧ K.any (isRule (s + 3)) = true then .inl (4, t.2.2)
        else if 24 ≤ K.length then .inl (6, t.2.2)
        else if s = 0 then bN 5 us (fun p ts1 => if K.any (isRule p) = true then .inl (4, plc us) else pRule 0 p p cd ts1)
        else if 3 ≤ s ∧ s ≤ 5 then pRule s (s + 3) 0 cd us
        else if s = 1 then bN 5 us (fun x ts => bT 4 ts (fun ts => bN 2 ts (fun y ts => pTail cd [1, x, y] ts)))
        else if s = 2 then bN 2 us (fun x ts => pTail cd [2, x] ts)
        else bN 14 us (fun x ts => bT 3 ts (fun ts => .inr (ts, mkC [6, x], cd))) : CR) = .inr (ts', c, cd') := h
    cases hs : srt t.1 with
    | none => rw [hs] at h; cases h
    | some s =>
      rw [hs] at h
      obtain ⟨s7, _⟩ := srt_lt hs
      have h : (if (3 ≤ s ∧ s ≤ 5) ∧ K.any (isRule (s + 3)) = true then (.inl (4, t.2.2) : CR)
        else if 24 ≤ K.length then .inl (6, t.2.2)
        else if s = 0 then bN 5 us (fun p ts1 => if K.any (isRule p) = true then .inl (4, plc us) else pRule 0 p p cd ts1)
        else if 3 ≤ s ∧ s ≤ 5 then pRule s (s + 3) 0 cd us
        else if s = 1 then bN 5 us (fun x ts => bT 4 ts (fun ts => bN 2 ts (fun y ts => pTail cd [1, x, y] ts)))
        else if s = 2 then bN 2 us (fun x ts => pTail cd [2, x] ts)
        else bN 14 us (fun x ts => bT 3 ts (fun ts => .inr (ts, mkC [6, x], cd)))) = .inr (ts', c, cd') := h
      split at h
      · cases h
      · split at h
        · cases h
        · split at h
          · obtain ⟨p, us1, _, p5, h⟩ := bN_inv h
            split at h
            · cases h
            · obtain ⟨w, e1, e2, e3⟩ := pRule_inv h
              subst e3
              refine ⟨w, e1, fun _ => ⟨rfl, rfl, fun r hr hi => ?_⟩, kw ⟨fun _ => by show p < 6; omega, fun z => absurd z (by show ¬ 0 = 1; omega), fun z => absurd z (by show ¬ 0 = 2; omega), fun z => absurd z (by show ¬ 0 = 6; omega)⟩⟩
              have := (rule_when (by omega) hr).mp hi
              rw [this]
              exact e2
          · split at h
            · rename_i h35
              obtain ⟨w, e1, e2, e3⟩ := pRule_inv h
              subst e3
              refine ⟨w, e1, fun _ => ⟨rfl, rfl, fun r hr hi => ?_⟩, kw ⟨fun z => absurd z (by show ¬ s = 0; omega), fun z => absurd z (by show ¬ s = 1; omega), fun z => absurd z (by show ¬ s = 2; omega), fun z => absurd z (by show ¬ s = 6; omega)⟩⟩
              have := (rule_one h35 hr).mp hi
              rw [this]
              exact e2
            · split at h
              · obtain ⟨e1, e2, _⟩ := pSet_inv (s := 1) (cd := cd) (ts := us) (ts' := ts') (c := c) (cd' := cd') h
                subst e1
                refine ⟨[], by simp, ?_, ?_⟩
                · rcases e2 with ⟨x, y, a, b, _, _, _, _, rfl⟩ | ⟨x, a, b, _, _, _, rfl⟩
                  · exact fun z => absurd z (show ¬ (isAs 1 = true) by decide)
                  · exact fun z => absurd z (show ¬ (isAs 2 = true) by decide)
                · rcases e2 with ⟨x, y, a, b, x5, y2, a5, b2, rfl⟩ | ⟨x, a, b, x2, a5, b2, rfl⟩
                  · exact kw ⟨fun z => absurd z (by show ¬ 1 = 0; omega), fun _ => ⟨by show x < 6; omega, by show y < 3; omega, by show a < 6; omega, by show b < 3; omega⟩, fun z => absurd z (by show ¬ 1 = 2; omega), fun z => absurd z (by show ¬ 1 = 6; omega)⟩
                  · exact kw ⟨fun z => absurd z (by show ¬ 2 = 0; omega), fun z => absurd z (by show ¬ 2 = 1; omega), fun _ => ⟨by show x < 3; omega, by show a < 6; omega, by show b < 3; omega⟩, fun z => absurd z (by show ¬ 2 = 6; omega)⟩
              · split at h
                · obtain ⟨e1, e2, _⟩ := pSet_inv (s := 2) (cd := cd) (ts := us) (ts' := ts') (c := c) (cd' := cd') h
                  subst e1
                  refine ⟨[], by simp, ?_, ?_⟩
                  · rcases e2 with ⟨x, y, a, b, _, _, _, _, rfl⟩ | ⟨x, a, b, _, _, _, rfl⟩
                    · exact fun z => absurd z (show ¬ (isAs 1 = true) by decide)
                    · exact fun z => absurd z (show ¬ (isAs 2 = true) by decide)
                  · rcases e2 with ⟨x, y, a, b, x5, y2, a5, b2, rfl⟩ | ⟨x, a, b, x2, a5, b2, rfl⟩
                    · exact kw ⟨fun z => absurd z (by show ¬ 1 = 0; omega), fun _ => ⟨by show x < 6; omega, by show y < 3; omega, by show a < 6; omega, by show b < 3; omega⟩, fun z => absurd z (by show ¬ 1 = 2; omega), fun z => absurd z (by show ¬ 1 = 6; omega)⟩
                    · exact kw ⟨fun z => absurd z (by show ¬ 2 = 0; omega), fun z => absurd z (by show ¬ 2 = 1; omega), fun _ => ⟨by show x < 3; omega, by show a < 6; omega, by show b < 3; omega⟩, fun z => absurd z (by show ¬ 2 = 6; omega)⟩
                · obtain ⟨x, us1, _, x14, h⟩ := bN_inv h
                  obtain ⟨us2, _, h⟩ := bT_inv h
                  injection h with h
                  injection h with h1 h2
                  injection h2 with h2 h3
                  subst h2 h3
                  exact ⟨[], by simp, fun z => absurd z (show ¬ (isAs 6 = true) by decide), kw ⟨fun z => absurd z (by show ¬ 6 = 0; omega), fun z => absurd z (by show ¬ 6 = 1; omega), fun z => absurd z (by show ¬ 6 = 2; omega), fun _ => by show x < 15; omega⟩⟩
