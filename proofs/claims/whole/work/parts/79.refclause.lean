def srtI (k : Nat) : Int32 := match srt k with
  | some s => nI s
  | none => -1
theorem sX8_sortOf {G : hd_G} {σ : hd_M} {P : Int32 → hd_M → Prop} {k : Tk} (hk : rTok σ k) (h : P (srtI k.1) σ) : EVi G mX8_sortOf SH [.ref 94] σ P := by
  have go : ∀ (m s : Nat), srt m = some s → zI (cl_bit (decide (k.1 = m))) ≠ 0 → P (nI s) σ := fun m s e z => by
    rw [ne_eq, cl_bit_z] at z
    have z : k.1 = m := by simpa using z
    unfold srtI at h
    rw [z, e] at h
    exact h
  have ng : ∀ {m : Nat}, zI (cl_bit (decide (k.1 = m))) = 0 → k.1 ≠ m := fun {m} z => by
    rw [cl_bit_z] at z
    simpa using z
  have i11 : (25711 : Int64) = lN (pkN (wkL 11)) := by decide +kernel
  refine wX8_sortOf (wX8_w4 _ _ _ _ (wX8_w3 _ _ _ (sX8_isWord hk 6 (by decide) (by decide +kernel) ⟨fun y1 => wX8_w4 _ _ _ _ (wX8_w3 _ _ _ (sX8_isWord hk 7 (by decide) (by decide +kernel) ⟨fun y2 => wX8_w4 _ _ _ _ (wX8_w3 _ _ _ (sX8_isWord hk 18 (by decide) (by decide +kernel) ⟨fun y3 => wX8_w5 _ _ _ _ _ (wX8_w3 _ _ _ (sX8_isWord hk 8 (by decide) (by decide +kernel) ⟨fun y4 => wX8_w4 _ _ _ _ (wX8_w3 _ _ _ (sX8_isWord hk 9 (by decide) (by decide +kernel) ⟨fun y5 => wX8_w5 _ _ _ _ _ (wX8_w3 _ _ _ (sX8_isWord hk 10 (by decide) (by decide +kernel) ⟨fun y6 => ?_, fun z => go 10 5 rfl z⟩)), fun z => go 9 4 rfl z⟩)), fun z => go 8 3 rfl z⟩)), fun z => go 18 2 rfl z⟩)), fun z => go 7 1 rfl z⟩)), fun z => go 6 0 rfl z⟩)))
  have no : k.1 ≠ 11 → P (-1) σ := fun n11 => by
    unfold srtI srt at h
    rw [if_neg (ng y1), if_neg (ng y2), if_neg (ng y3), if_neg (ng y4), if_neg (ng y5), if_neg (ng y6), if_neg n11] at h
    exact h
  have yes : k.1 = 11 → P 6 σ := fun z => by
    unfold srtI at h
    rw [z] at h
    exact h
  have cw := c_wd hk 11 (by decide) i11 (A := P (-1) σ) (B := P (-1) σ) no yes no
  exact ⟨cw.1, fun z => ⟨(cw.2 z).1, (cw.2 z).2⟩⟩
theorem sX8_isOnce {G : hd_G} {σ : hd_M} {P : Int32 → hd_M → Prop} {sh : hd_S} {s : Nat} (hs : s < 7) (h : P (zI (cl_bit (decide (3 ≤ s ∧ s ≤ 5)))) σ) : EVi G mX8_isOnce sh [.int (nI s)] σ P := by
  refine wX8_isOnce _ (c_lt (s : Int) 3 rfl rfl (fun z => ⟨Or.inl rfl, ?_⟩) (fun z => c_lt (5 : Int) (s : Int) rfl rfl (fun w => ⟨Or.inl rfl, ?_⟩) (fun w => ⟨Or.inr rfl, ?_⟩)))
  · rw [decide_eq_false (by omega)] at h; exact h
  · rw [decide_eq_false (by omega)] at h; exact h
  · rw [decide_eq_true (by omega)] at h; exact h
theorem sX8_isAsking {G : hd_G} {σ : hd_M} {P : Int32 → hd_M → Prop} {sh : hd_S} {s : Nat} (hs : s < 7) (h : P (zI (cl_bit (decide (s = 0 ∨ (3 ≤ s ∧ s ≤ 5))))) σ) : EVi G mX8_isAsking sh [.int (nI s)] σ P := by
  have yes : (s = 0 ∨ (3 ≤ s ∧ s ≤ 5)) → P 1 σ := fun z => by rw [decide_eq_true z] at h; exact h
  refine wX8_isAsking _ (c_eq (s : Int) 0 rfl rfl (fun z => ⟨Or.inr rfl, yes (by omega)⟩) (fun n0 => c_eq (s : Int) 3 rfl rfl (fun z => ⟨Or.inr rfl, yes (by omega)⟩) (fun n3 => c_eq (s : Int) 4 rfl rfl (fun z => ⟨Or.inr rfl, yes (by omega)⟩) (fun n4 => c_ne (s : Int) 5 rfl rfl (fun n5 => ⟨Or.inl rfl, ?_⟩) (fun z => ⟨Or.inr rfl, yes (by omega)⟩)))))
  rw [decide_eq_false (by omega)] at h
  exact h
def obB (a b c : Bool) : Nat := (if a = true then 8 else 0) + (if b = true then 16 else 0) + (if c = true then 32 else 0)
def ob (K : List (Nat → Nat)) : Nat := obB (K.any (isRule 6)) (K.any (isRule 7)) (K.any (isRule 8))
theorem ob_bit : ∀ (a b c : Bool), (((nI (obB a b c)) >>> (nI 3 &&& 31)) &&& 1 = 1 ↔ a = true) ∧ (((nI (obB a b c)) >>> (nI 4 &&& 31)) &&& 1 = 1 ↔ b = true) ∧ (((nI (obB a b c)) >>> (nI 5 &&& 31)) &&& 1 = 1 ↔ c = true) ∧ nI (obB a b c) ||| ((1 : Int32) <<< (nI 3 &&& 31)) = nI (obB true b c) ∧ nI (obB a b c) ||| ((1 : Int32) <<< (nI 4 &&& 31)) = nI (obB a true c) ∧ nI (obB a b c) ||| ((1 : Int32) <<< (nI 5 &&& 31)) = nI (obB a b true) := by
  intro a b c
  cases a <;> cases b <;> cases c <;> decide +kernel
theorem any_app (K : List (Nat → Nat)) (c : Nat → Nat) (r : Nat) : (K ++ [c]).any (isRule r) = (K.any (isRule r) || isRule r c) := by
  rw [List.any_append]
  simp
/-- a text under way -/
def RT (σ : hd_M) (tp : List Nat) (t : Nat) (K : List (Nat → Nat)) (cd : List Nat) (ts : List Tk) : Prop := rKs σ t K ∧ rC σ t cd ∧ σ.1 94 18 = 0 ∧ σ.1 94 21 = nI (ob K) ∧ rTs σ tp ts ∧ K.length ≤ 24 ∧ cd.length + ts.length ≤ 301
def agX (t : Nat) (σ σ' : hd_M) : Prop := (∀ k, k ≠ 94 → k ≠ 97 → k ≠ 99 → σ'.1 k = σ.1 k ∧ σ'.2 k = σ.2 k) ∧ (∀ j, j < 7 ∨ j = 12 → σ'.1 94 j = σ.1 94 j) ∧ (∀ j, j < 730 * t ∨ 730 * t + 730 ≤ j → σ'.1 97 j = σ.1 97 j)
theorem agX_rf {t : Nat} {σ : hd_M} : agX t σ σ := ⟨fun _ _ _ _ => ⟨rfl, rfl⟩, fun _ _ => rfl, fun _ _ => rfl⟩
theorem agX_tr {t : Nat} {σ σ' σ'' : hd_M} (h : agX t σ σ') (h' : agX t σ' σ'') : agX t σ σ'' := ⟨fun k x y z => ⟨(h'.1 k x y z).1.trans (h.1 k x y z).1, (h'.1 k x y z).2.trans (h.1 k x y z).2⟩, fun j hj => (h'.2.1 j hj).trans (h.2.1 j hj), fun j hj => (h'.2.2 j hj).trans (h.2.2 j hj)⟩
theorem agX_L {t b : Nat} {σ σ' : hd_M} (hb : 730 * t ≤ b) (h : agL t b σ σ') : agX t σ σ' := ⟨h.1, fun j hj => h.2.1 j (by omega), fun j hj => h.2.2 j (by omega)⟩
theorem agX_94 {t j : Nat} {x : Int32} {σ σ' : hd_M} (h : agX t σ σ') (hj : 7 ≤ j ∧ j ≠ 12) : agX t σ (hd_wI σ' 94 j x) := agX_tr h ⟨fun k a _ _ => ⟨wI_ne a, rfl⟩, fun i hi => by rw [wI_eq, if_neg (by omega)], fun i _ => by rw [wI_ne (by decide)]⟩
theorem agX_97 {t j : Nat} {x : Int32} {σ σ' : hd_M} (h : agX t σ σ') (hj : 730 * t ≤ j ∧ j < 730 * t + 730) : agX t σ (hd_wI σ' 97 j x) := agX_tr h ⟨fun k _ a _ => ⟨wI_ne a, rfl⟩, fun i hi => by rw [wI_ne (by decide)], fun i hi => by rw [wI_eq, if_neg (by omega)]⟩
theorem rTape_T {t : Nat} {σ σ' : hd_M} {tp : List Nat} (h : rTape σ tp) (a : agX t σ σ') : rTape σ' tp := ⟨by rw [a.2.1 4 (by omega)]; exact h.1, fun j hj => by rw [(a.1 98 (by decide) (by decide) (by decide)).1]; exact h.2 j hj⟩
theorem rKs_lo {σ σ' : hd_M} {t : Nat} {K : List (Nat → Nat)} (h : rKs σ t K) (he : ∀ j, j < 730 * t + 1 + 5 * K.length → σ'.1 97 j = σ.1 97 j) : rKs σ' t K := ⟨by rw [he _ (by omega)]; exact h.1, fun k hk j hj hu => by rw [he _ (by omega)]; exact h.2 k hk j hj hu⟩
theorem bT_hd {m : Nat} {k : Tk} {ts : List Tk} {g : List Tk → CR} : bT m (k :: ts) g = if k.1 = m then g ts else .inl (1, k.2.2) := by
  unfold bT
  rw [pT_hd]
  by_cases h : k.1 = m
  · rw [if_pos h, if_pos h]
  · rw [if_neg h, if_neg h]
theorem ob_same {K : List (Nat → Nat)} {c : Nat → Nat} (h : c 0 = 0 ∨ c 0 = 1 ∨ c 0 = 2 ∨ c 0 = 6) : ob (K ++ [c]) = ob K := by
  have f : ∀ r, 6 ≤ r → r < 9 → isRule r c = false := fun r h1 h2 => by
    unfold isRule
    rw [if_neg (by omega)]
    simp
    omega
  unfold ob
  rw [any_app, any_app, any_app, f 6 (by omega) (by omega), f 7 (by omega) (by omega), f 8 (by omega) (by omega), Bool.or_false, Bool.or_false, Bool.or_false]
theorem ob_more {K : List (Nat → Nat)} {c : Nat → Nat} {s : Nat} (hs : 3 ≤ s ∧ s ≤ 5) (h : c 0 = s) : nI (ob K) ||| ((1 : Int32) <<< (nI s &&& 31)) = nI (ob (K ++ [c])) := by
  have f : ∀ r, 6 ≤ r → isRule r c = decide (s = r - 3) := fun r h1 => by
    unfold isRule
    rw [if_neg (by omega), h]
  unfold ob
  rw [any_app, any_app, any_app, f 6 (by omega), f 7 (by omega), f 8 (by omega)]
  have q := ob_bit (K.any (isRule 6)) (K.any (isRule 7)) (K.any (isRule 8))
  have : s = 3 ∨ s = 4 ∨ s = 5 := by omega
  rcases this with rfl | rfl | rfl
  · rw [q.2.2.2.1]; simp
  · rw [q.2.2.2.2.1]; simp
  · rw [q.2.2.2.2.2]; simp
theorem ob_has {K : List (Nat → Nat)} {s : Nat} (hs : 3 ≤ s ∧ s ≤ 5) : ((nI (ob K) >>> (nI s &&& 31)) &&& 1 = 1 ↔ K.any (isRule (s + 3)) = true) := by
  have q := ob_bit (K.any (isRule 6)) (K.any (isRule 7)) (K.any (isRule 8))
  have : s = 3 ∨ s = 4 ∨ s = 5 := by omega
  rcases this with rfl | rfl | rfl
  · exact q.1
  · exact q.2.1
  · exact q.2.2.1
