theorem lM_i {n : Nat} (h : n < 2 ^ 60) : (lN n).toInt = n := Int64.toInt_ofNat_of_lt (by omega)
theorem lM_lt {a b : Nat} (ha : a < 2 ^ 60) (hb : b < 2 ^ 60) : lN a < lN b ↔ a < b := by rw [Int64.lt_iff_toInt_lt, lM_i ha, lM_i hb]; omega
theorem lM_le {a b : Nat} (ha : a < 2 ^ 60) (hb : b < 2 ^ 60) : lN a ≤ lN b ↔ a ≤ b := by rw [Int64.le_iff_toInt_le, lM_i ha, lM_i hb]; omega
theorem lM_eq {a b : Nat} (ha : a < 2 ^ 60) (hb : b < 2 ^ 60) : lN a = lN b ↔ a = b := ⟨fun h => by have := lM_i ha; rw [h, lM_i hb] at this; omega, fun h => by rw [h]⟩
theorem rcK_sg : ∀ k, k < 38 → isSg k = true → 3 < rcK k ∧ rcK k < 100 ∧ (∀ j, j < 38 → isSg j = true → (rcK j = rcK k ↔ j = k)) := by decide +kernel
theorem isSg_lt {k : Nat} (h : isSg k = true) : k < 38 ∧ ¬ (4 ≤ k ∧ k < 25) ∧ k ≠ 2 ∧ k ≠ 0 ∧ k ≠ 1 := by
  unfold isSg at h
  simp at h
  omega
theorem rcK_1 : rcK 1 = 3 := rfl
/-- what the reference's cell of kinds says -/
theorem r9 {σ : hd_M} {t : Tk} (h : rTok σ t) : ∃ c, c < 100 ∧ σ.1 94 9 = nI c ∧ (c = 1 ↔ t.1 = 2) ∧ (c = 0 ↔ t.1 = 0) ∧ (∀ k, isSg k = true → (c = rcK k ↔ t.1 = k)) ∧ (c ≠ 2 → ¬ (4 ≤ t.1 ∧ t.1 < 25)) ∧ (c = 2 → ∃ W, W < 2 ^ 56 ∧ σ.2 94 11 = lN W ∧ ∀ k, 4 ≤ k → k < 25 → (t.1 = k ↔ W = pkN (wkL k))) := by
  rcases h.2 with ⟨h1, h2⟩ | ⟨h1, h2, _⟩ | ⟨h1, h2⟩ | ⟨h1, h2, h3⟩
  · refine ⟨0, by decide, h2, by omega, by omega, fun k hk => ?_, by omega, by omega⟩
    have := rcK_sg k (isSg_lt hk).1 hk
    have := isSg_lt hk
    omega
  · refine ⟨1, by decide, h2, by omega, by omega, fun k hk => ?_, by omega, by omega⟩
    have := rcK_sg k (isSg_lt hk).1 hk
    have := isSg_lt hk
    omega
  · rcases h1 with h1 | h1
    · rw [h1, rcK_1] at h2
      refine ⟨3, by decide, h2, by omega, by omega, fun k hk => ?_, by omega, by omega⟩
      have := rcK_sg k (isSg_lt hk).1 hk
      have := isSg_lt hk
      omega
    · have b := rcK_sg t.1 (isSg_lt h1).1 h1
      have c := isSg_lt h1
      refine ⟨rcK t.1, b.2.1, h2, by omega, by omega, fun k hk => ?_, fun _ => c.2.1, by omega⟩
      have := b.2.2 k (isSg_lt hk).1 hk
      omega
  · refine ⟨2, by decide, h2, by omega, by omega, fun k hk => ?_, by omega, fun _ => h3⟩
    have := rcK_sg k (isSg_lt hk).1 hk
    have := isSg_lt hk
    omega
/-- a sign is the current token -/
theorem c_sg {σ : hd_M} {t : Tk} (h : rTok σ t) (k : Nat) (hk : isSg k = true) {A B : Prop} (f : t.1 = k → A) (g : t.1 ≠ k → B) : (σ.1 94 9 = nI (rcK k) → A) ∧ (¬ σ.1 94 9 = nI (rcK k) → B) := by
  obtain ⟨c, c1, c2, _, _, c5, _⟩ := r9 h
  have := rcK_sg k (isSg_lt hk).1 hk
  rw [c2]
  exact c_eq (c : Int) (rcK k : Int) rfl rfl (fun z => f ((c5 k hk).mp (by omega))) (fun z => g (fun w => z (by have := (c5 k hk).mpr w; omega)))
theorem c_sgn {σ : hd_M} {t : Tk} (h : rTok σ t) (k : Nat) (hk : isSg k = true) {A B : Prop} (f : t.1 ≠ k → A) (g : t.1 = k → B) : (¬ σ.1 94 9 = nI (rcK k) → A) ∧ (σ.1 94 9 = nI (rcK k) → B) := ⟨(c_sg h k hk g f).2, (c_sg h k hk g f).1⟩
theorem c_nu {σ : hd_M} {t : Tk} (h : rTok σ t) {A B : Prop} (f : t.1 = 2 → A) (g : t.1 ≠ 2 → B) : (σ.1 94 9 = 1 → A) ∧ (¬ σ.1 94 9 = 1 → B) := by
  obtain ⟨c, c1, c2, c3, _⟩ := r9 h
  rw [c2]
  exact c_eq (c : Int) 1 rfl rfl (fun z => f (c3.mp (by omega))) (fun z => g (fun w => z (by have := c3.mpr w; omega)))
theorem c_en {σ : hd_M} {t : Tk} (h : rTok σ t) {A B : Prop} (f : t.1 = 0 → A) (g : t.1 ≠ 0 → B) : (σ.1 94 9 = 0 → A) ∧ (¬ σ.1 94 9 = 0 → B) := by
  obtain ⟨c, c1, c2, _, c3, _⟩ := r9 h
  rw [c2]
  exact c_eq (c : Int) 0 rfl rfl (fun z => f (c3.mp (by omega))) (fun z => g (fun w => z (by have := c3.mpr w; omega)))
/-- a word is the current token -/
theorem c_wd {σ : hd_M} {t : Tk} (h : rTok σ t) (k : Nat) (hk : 4 ≤ k ∧ k < 25) {A B C : Prop} {y : Int64} (hy : y = lN (pkN (wkL k))) (f : t.1 ≠ k → A) (g : t.1 = k → C) (f2 : t.1 ≠ k → B) : (¬ σ.1 94 9 = 2 → A) ∧ (σ.1 94 9 = 2 → (¬ lg_cmp (σ.2 94 11) y = 0 → B) ∧ (lg_cmp (σ.2 94 11) y = 0 → C)) := by
  obtain ⟨c, c1, c2, _, _, _, c6, c7⟩ := r9 h
  have hw := wkL_ok k hk.2 hk.1
  rw [c2]
  refine c_ne (c : Int) 2 rfl rfl (fun z => f (fun w => c6 (by omega) (by omega))) (fun z => ?_)
  obtain ⟨W, w1, w2, w3⟩ := c7 (by omega)
  rw [w2, hy, lg_cmp_eq, lM_eq (by omega) (by omega), ← w3 k hk.1 hk.2]
  exact ⟨f2, g⟩
theorem sX8_isWord {G : hd_G} {σ : hd_M} {P : Int32 → hd_M → Prop} {t : Tk} {y : Int64} (h : rTok σ t) (k : Nat) (hk : 4 ≤ k ∧ k < 25) (hy : y = lN (pkN (wkL k))) (hp : P (zI (cl_bit (decide (t.1 = k)))) σ) : EVi G mX8_isWord SH [.ref 94, .long y] σ P := by
  refine wX8_isWord _ (c_wd h k hk hy (fun z => ⟨Or.inl rfl, ?_⟩) (fun z => ⟨Or.inr rfl, ?_⟩) (fun z => ⟨Or.inl rfl, ?_⟩))
  · rw [decide_eq_false z] at hp; exact hp
  · rw [decide_eq_true z] at hp; exact hp
  · rw [decide_eq_false z] at hp; exact hp
theorem sX8_nameOf {G : hd_G} {σ : hd_M} {P : Int32 → hd_M → Prop} {t : Tk} (h : rTok σ t) (hp : P (if 12 ≤ t.1 ∧ t.1 ≤ 21 then nI (t.1 - 12) else -1) σ) : EVi G mX8_nameOf SH [.ref 94] σ P := by
  obtain ⟨c, c1, c2, _, _, _, c6, c7⟩ := r9 h
  refine wX8_nameOf ?_
  rw [c2]
  refine c_eq (c : Int) 2 rfl rfl (fun z => ?_) (fun z => ?_)
  · obtain ⟨W, w1, w2, w3⟩ := c7 (by omega)
    have tl : ((((((116 : Int32).toInt64 <<< ((8 : Int32).toInt64 &&& 63)) ||| (105 : Int32).toInt64) <<< ((8 : Int32).toInt64 &&& 63)) ||| (108 : Int32).toInt64) <<< ((8 : Int32).toInt64 &&& 63)) ||| (116 : Int32).toInt64 = lN (pkN (wkL 18)) := by decide +kernel
    have pl : ((((((112 : Int32).toInt64 <<< ((8 : Int32).toInt64 &&& 63)) ||| (97 : Int32).toInt64) <<< ((8 : Int32).toInt64 &&& 63)) ||| (114 : Int32).toInt64) <<< ((8 : Int32).toInt64 &&& 63)) ||| (116 : Int32).toInt64 = lN (pkN (wkL 20)) := by decide +kernel
    have wd : ∀ (k : Nat) (hk : 4 ≤ k ∧ k < 25) {A B : Prop} {y : Int64}, y = lN (pkN (wkL k)) → (t.1 ≠ k → A) → (t.1 = k → B) → (¬ lg_cmp (σ.2 94 11) y = 0 → A) ∧ (lg_cmp (σ.2 94 11) y = 0 → B) := by
      intro k hk A B y hy f g
      have hw := wkL_ok k hk.2 hk.1
      rw [w2, hy, lg_cmp_eq, lM_eq (by omega) (by omega), ← w3 k hk.1 hk.2]
      exact ⟨f, g⟩
    have q1 : pkN (wkL 18) < 2 ^ 60 ∧ pkN (wkL 19) < 2 ^ 60 ∧ pkN (wkL 20) < 2 ^ 60 ∧ pkN (wkL 21) < 2 ^ 60 := by decide +kernel
    have lt : ∀ k, 12 ≤ k → k ≤ 17 → pkN (wkL k) = 97 + (k - 12) := by
      intro k h1 h2
      have : k = 12 ∨ k = 13 ∨ k = 14 ∨ k = 15 ∨ k = 16 ∨ k = 17 := by omega
      rcases this with rfl | rfl | rfl | rfl | rfl | rfl <;> rfl
    have rest : ¬ (97 ≤ W ∧ W ≤ 102) → EVl G mX8_w4 SH [.int 116, .int 105, .int 108, .int 116] σ (fun y2 s1 => (¬ lg_cmp (σ.2 94 11) y2 = 0 → (¬ lg_cmp (s1.2 94 11) 28526 = 0 → EVl G mX8_w4 SH [.int 112, .int 97, .int 114, .int 116] s1 (fun y4 s3 => (¬ lg_cmp (s1.2 94 11) y4 = 0 → (¬ lg_cmp (s3.2 94 11) 24948 = 0 → P (-1) s3) ∧ (lg_cmp (s3.2 94 11) 24948 = 0 → P 9 s3)) ∧ (lg_cmp (s1.2 94 11) y4 = 0 → P 8 s3))) ∧ (lg_cmp (s1.2 94 11) 28526 = 0 → P 7 s1)) ∧ (lg_cmp (σ.2 94 11) y2 = 0 → P 6 s1)) := by
      intro nw
      have nl : ¬ (12 ≤ t.1 ∧ t.1 ≤ 17) := fun w => nw (by
        have := (w3 t.1 (by omega) (by omega)).mp rfl
        rw [lt t.1 w.1 w.2] at this
        omega)
      refine wX8_w4 _ _ _ _ (wX8_w3 _ _ _ (wd 18 (by decide) tl (fun z18 => wd 19 (by decide) rfl (fun z19 => wX8_w4 _ _ _ _ (wX8_w3 _ _ _ (wd 20 (by decide) pl (fun z20 => wd 21 (by decide) rfl (fun z21 => ?_) (fun z21 => ?_)) (fun z20 => ?_)))) (fun z19 => ?_)) (fun z18 => ?_)))
      · rw [if_neg (by omega)] at hp; exact hp
      · rw [if_pos (by omega), z21] at hp; exact hp
      · rw [if_pos (by omega), z20] at hp; exact hp
      · rw [if_pos (by omega), z19] at hp; exact hp
      · rw [if_pos (by omega), z18] at hp; exact hp
    have i97 : (97 : Int64) = lN 97 := rfl
    have i102 : (102 : Int64) = lN 102 := rfl
    refine ⟨fun a => rest ?_, fun a => ⟨fun b => rest ?_, fun b => ?_⟩⟩
    · rw [lg_cmp_lt, w2, i97, lM_lt (by omega) (by decide)] at a
      omega
    · rw [lg_cmp_gt, w2, i102, lM_lt (by decide) (by omega)] at b
      omega
    · rw [lg_cmp_ge, w2, i97, lM_le (by decide) (by omega)] at a
      rw [lg_cmp_le, w2, i102, lM_le (by omega) (by decide)] at b
      have e : t.1 = 12 + (W - 97) := (w3 (12 + (W - 97)) (by omega) (by omega)).mpr (by rw [lt _ (by omega) (by omega)]; omega)
      rw [if_pos (by omega), e, show 12 + (W - 97) - 12 = W - 97 by omega] at hp
      rw [w2]
      have e2 : (lN W).toInt32 - 97 = nI (W - 97) := by
        have hW : W = 97 ∨ W = 98 ∨ W = 99 ∨ W = 100 ∨ W = 101 ∨ W = 102 := by omega
        rcases hW with rfl | rfl | rfl | rfl | rfl | rfl <;> decide +kernel
      rw [e2]
      exact hp
  · rw [if_neg (by have := c6 (by omega); omega)] at hp
    exact hp
/-- the sort of a clause, by its rule -/
def soR (r : Nat) : Nat := if r < 6 then 0 else r - 3
theorem sX8_isBarred {G : hd_G} {σ : hd_M} {P : Int32 → hd_M → Prop} {r k : Nat} (hr : r < 9) (hk : k < 10) (h20 : σ.1 94 20 = nI (soR r)) (hp : P (zI (cl_bit (!al r k))) σ) : EVi G mX8_isBarred SH [.ref 94, .int (nI k)] σ P := by
  have sr : soR r < 6 := by unfold soR; split <;> omega
  have yes : al r k = true → P 0 σ := fun e => by rw [e] at hp; exact hp
  have no : al r k = false → P 1 σ := fun e => by rw [e] at hp; exact hp
  refine wX8_isBarred _ ?_
  rw [h20]
  refine ⟨fun a => ?_, fun a => ⟨Or.inl rfl, yes ?_⟩⟩
  · have a7 : 7 ≤ k := (nI_leI (by decide) (by omega)).mp a
    refine c_ne (k : Int) 7 rfl rfl (fun n7 => c_ne (k : Int) 8 rfl rfl (fun n8 => c_eq (soR r : Int) 5 rfl rfl (fun z => ⟨Or.inl rfl, yes ?_⟩) (fun z => ⟨Or.inr rfl, no ?_⟩)) (fun n8 => c_eq (soR r : Int) 3 rfl rfl (fun z => ⟨Or.inl rfl, yes ?_⟩) (fun z => ⟨Or.inr rfl, no ?_⟩))) (fun n7 => c_eq (soR r : Int) 0 rfl rfl (fun z => ⟨Or.inl rfl, yes ?_⟩) (fun z => c_eq (soR r : Int) 3 rfl rfl (fun z2 => ⟨Or.inl rfl, yes ?_⟩) (fun z2 => ⟨Or.inr rfl, no ?_⟩)))
    all_goals unfold soR at *
    all_goals unfold al
    all_goals simp
    all_goals (split at z <;> first | omega | (simp_all; omega) | skip)
    all_goals (try (split at z2 <;> first | omega | (simp_all; omega)))
  · have a7 : k < 7 := (nI_ltI (by omega) (by decide)).mp a
    unfold al
    simp
    omega
