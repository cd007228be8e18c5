theorem i_le {x : Int32} (a : Nat) (ha : a < 2 ^ 31) : nI a ≤ x ↔ (a : Int) ≤ x.toInt := by rw [Int32.le_iff_toInt_le, nI_toInt ha]
theorem i_ge {x : Int32} (a : Nat) (ha : a < 2 ^ 31) : x ≤ nI a ↔ x.toInt ≤ (a : Int) := by rw [Int32.le_iff_toInt_le, nI_toInt ha]
theorem i_gt {x : Int32} (a : Nat) (ha : a < 2 ^ 31) : nI a < x ↔ (a : Int) < x.toInt := by rw [Int32.lt_iff_toInt_lt, nI_toInt ha]
theorem i_ltn {x : Int32} (a : Nat) (ha : a < 2 ^ 31) : x < nI a ↔ x.toInt < (a : Int) := by rw [Int32.lt_iff_toInt_lt, nI_toInt ha]
theorem i_eqn {x : Int32} (a : Nat) (ha : a < 2 ^ 31) : x = nI a ↔ x.toInt = (a : Int) := by
  constructor
  · intro z
    rw [z, nI_toInt ha]
  · intro z
    rw [nI_z, ← z, zI_of]
theorem i_nn {x : Int32} (h : 0 ≤ x.toInt) : x = nI x.toInt.toNat := by
  rw [nI_z, show ((x.toInt.toNat : Nat) : Int) = x.toInt by omega, zI_of]
theorem jAbout {G : hd_G} {σ : hd_M} {M : MM} {Q : Int32 → Int32 → hd_M → Prop} (hR : REL σ M) (x : Int32) (h : ∀ y s M', REL s M' → Q y y s) : EVi G mX7_about SH [.ref 0, .int x] σ (fun y1 s1 => EVi G mX8_about SH [.ref 94, .int x] s1 (fun y' s2 => Q y1 y' s2)) := by
  have hd := hR.2.2.2.1
  have n6 := hd.1
  have h10 := hd.2.2.2.2.2.2.2.2.2.2.1
  obtain ⟨c1, c2, c3, c4, c5, c6, c7, c8, c9, c10, c11, c12⟩ := hR.1.2.2.1
  obtain ⟨r1, r2, r3, r4, r5, r6, r7, r8, r9, r10, r11, r12, r13⟩ := hR.2.1.2.2.1
  have ct := hR.1.1.1
  have rt := hR.2.1.1.1
  generalize hD : M.2.2.1 = D at *
  have l10 : (10 : Int32) ≤ x ↔ (10 : Int) ≤ x.toInt := i_le 10 (by decide)
  have l20 : (20 : Int32) ≤ x ↔ (20 : Int) ≤ x.toInt := i_le 20 (by decide)
  have t10 : x < (10 : Int32) ↔ x.toInt < (10 : Int) := i_ltn 10 (by decide)
  have t20 : x < (20 : Int32) ↔ x.toInt < (20 : Int) := i_ltn 20 (by decide)
  have a10 : (10 : Int32) + nI (d_n D) = nI (10 + d_n D) := nI_add 10 _
  have a20 : (20 : Int32) + nI (d_ho D).length = nI (20 + (d_ho D).length) := nI_add 20 _
  have b10 : (9 : Int32) + nI (d_n D) = nI (9 + d_n D) := nI_add 9 _
  have b20 : (19 : Int32) + nI (d_ho D).length = nI (19 + (d_ho D).length) := nI_add 19 _
  have e10 : (10 : Int32) + nI (d_n D) ≤ x ↔ ((10 + d_n D : Nat) : Int) ≤ x.toInt := by rw [a10]; exact i_le _ (by omega)
  have e20 : (20 : Int32) + nI (d_ho D).length ≤ x ↔ ((20 + (d_ho D).length : Nat) : Int) ≤ x.toInt := by rw [a20]; exact i_le _ (by omega)
  have g10 : x < (10 : Int32) + nI (d_n D) ↔ x.toInt < ((10 + d_n D : Nat) : Int) := by rw [a10]; exact i_ltn _ (by omega)
  have g20 : x < (20 : Int32) + nI (d_ho D).length ↔ x.toInt < ((20 + (d_ho D).length : Nat) : Int) := by rw [a20]; exact i_ltn _ (by omega)
  have u10 : x ≤ (9 : Int32) + nI (d_n D) ↔ x.toInt ≤ ((9 + d_n D : Nat) : Int) := by rw [b10]; exact i_ge _ (by omega)
  have u20 : x ≤ (19 : Int32) + nI (d_ho D).length ↔ x.toInt ≤ ((19 + (d_ho D).length : Nat) : Int) := by rw [b20]; exact i_ge _ (by omega)
  by_cases hA : 10 ≤ x.toInt ∧ x.toInt < 10 + d_n D
  · have hk : x = nI (10 + (x.toInt - 10).toNat) := by
      rw [nI_z, show ((10 + (x.toInt - 10).toNat : Nat) : Int) = x.toInt by omega, zI_of]
    refine wX7_about _ (fun X hX => b_lt' (l10.mpr hA.1) ?_)
    rw [c1]
    refine b_le' (g10.mpr (by omega)) ?_
    have e1 : x - 10 = nI (x.toInt - 10).toNat := by
      rw [hk, show (10 : Int32) = nI 10 from rfl, pk_sub (by omega)]
      congr 1
      rw [← hk]
      omega
    rw [e1, nI_clamp (by omega), c2 _ (by omega)]
    refine ⟨hd_vn (by omega) (by decide), wX8_about _ ⟨pk_in 0 334 (by decide), sX8_isInG _ _ _ ?_⟩⟩
    rw [show (0 : Int32).toNatClampNeg = 0 from rfl, r1, decide_eq_true ⟨l10.mpr hA.1, u10.mpr (by omega)⟩]
    refine b_eq' (by decide) ?_
    have e2 : (10 : Int32) + x - 10 = nI (10 + (x.toInt - 10).toNat) := by
      rw [← hk]
      rw [Int32.add_comm, Int32.add_sub_cancel]
    rw [e2, nI_clamp (by omega), r2 _ (by omega)]
    exact ⟨hd_vn (by omega) (by decide), h _ _ _ hR⟩
  · by_cases hB : 20 ≤ x.toInt ∧ x.toInt < 20 + (d_ho D).length
    · have hk : x = nI (20 + (x.toInt - 20).toNat) := by
        rw [nI_z, show ((20 + (x.toInt - 20).toNat : Nat) : Int) = x.toInt by omega, zI_of]
      have e1 : x - 20 = nI (x.toInt - 20).toNat := by
        rw [hk, show (20 : Int32) = nI 20 from rfl, pk_sub (by omega)]
        congr 1
        rw [← hk]
        omega
      have e2 : (54 : Int32) + x - 20 = nI (54 + (x.toInt - 20).toNat) := by
        rw [hk, show (54 : Int32) = nI 54 from rfl, show (20 : Int32) = nI 20 from rfl, nI_add, pk_sub (by omega)]
        congr 1
        rw [← hk]
        omega
      refine wX7_about _ (fun X hX => b_lt' (l10.mpr (by omega)) ?_)
      rw [c1, c11]
      refine b_le (e10.mpr (by omega)) (b_lt' (l20.mpr hB.1) (b_le' (g20.mpr (by omega)) ?_))
      rw [e1, nI_clamp (by omega), c12 _ (by omega)]
      refine ⟨hd_vn (by omega) (by decide), wX8_about _ ⟨pk_in 0 334 (by decide), sX8_isInG _ _ _ ?_⟩⟩
      rw [show (0 : Int32).toNatClampNeg = 0 from rfl, r1, decide_eq_false (fun z => hA ⟨l10.mp z.1, by have := u10.mp z.2; omega⟩)]
      refine b_eq (by decide) ⟨pk_in 5 334 (by decide), sX8_isInG _ _ _ ?_⟩
      rw [show (5 : Int32).toNatClampNeg = 5 from rfl, r12, decide_eq_true ⟨l20.mpr hB.1, u20.mpr (by omega)⟩]
      refine b_eq' (by decide) ?_
      rw [e2, nI_clamp (by omega), r13 _ (by omega)]
      exact ⟨hd_vn (by omega) (by decide), h _ _ _ hR⟩
    · have ref : ∀ y : Int32, (EVi G mX8_isIn SH [.int x, .int 0, .int 5] σ (fun y6 s5 => (y6 = 0 → (¬ x = 6 → Q y (-2) s5) ∧ (x = 6 → Q y (s5.1 94 4) s5)) ∧ (¬ y6 = 0 → vp_in x 334 ∧ (Q y (s5.1 95 x.toNatClampNeg) s5)))) → EVi G mX8_about SH [.ref 94, .int x] σ (fun y' s2 => Q y y' s2) := by
        intro y hy
        refine wX8_about _ ⟨pk_in 0 334 (by decide), sX8_isInG _ _ _ ?_⟩
        rw [show (0 : Int32).toNatClampNeg = 0 from rfl, r1, decide_eq_false (fun z => hA ⟨l10.mp z.1, by have := u10.mp z.2; omega⟩)]
        refine b_eq (by decide) ⟨pk_in 5 334 (by decide), sX8_isInG _ _ _ ?_⟩
        rw [show (5 : Int32).toNatClampNeg = 5 from rfl, r12, decide_eq_false (fun z => hB ⟨l20.mp z.1, by have := u20.mp z.2; omega⟩)]
        exact b_eq (by decide) hy
      have lit : ∀ k : Nat, k ≤ 5 → x = nI k → ∀ y, σ.1 95 k = y → EVi G mX8_about SH [.ref 94, .int x] σ (fun y' s2 => Q y y' s2) := by
        intro k hk hx y hy
        refine ref y (sX8_isInG _ _ _ ?_)
        rw [decide_eq_true ⟨by rw [hx]; exact nI_pos' (by omega), by rw [hx]; exact nI_le (b := 5) hk (by decide)⟩]
        refine b_eq' (by decide) ?_
        rw [hx, nI_clamp (by omega), hy]
        exact ⟨hd_vn (by omega) (by decide), h _ _ _ hR⟩
      have c66 : ∀ X, hd_CX G mX7_about X (hd_Zi (fun y1 s1 => EVi G mX8_about SH [.ref 94, .int x] s1 (fun y' s2 => Q y1 y' s2))) SH (0, 0) → hd_J G mX7_about X SH (0, 0) 66 [(0, .ref 0), (1, .int x)] [] σ := by
        intro X hX
        refine wX7_about_66 hX _ ⟨fun n0 => lit 0 (by decide) n0 _ ?_, fun n0 => ⟨fun n1 => lit 1 (by decide) n1 _ ?_, fun n1 => ⟨fun n2 => lit 2 (by decide) n2 _ ?_, fun n2 => ⟨fun n3 => lit 3 (by decide) n3 _ ?_, fun n3 => ⟨fun n4 => lit 4 (by decide) n4 _ ?_, fun n4 => ⟨fun n5 => lit 5 (by decide) n5 _ ?_, fun n5 => ⟨fun n6 => ref _ (sX8_isInG _ _ _ ?_), fun n6 => ref _ (sX8_isInG _ _ _ ?_)⟩⟩⟩⟩⟩⟩⟩
        · rw [c1, r1]
        · rw [c5, r6]
        · rw [c6, r7]
        · rw [c7, r8]
        · rw [c9, r10]
        · rw [c11, r12]
        · rw [n6, decide_eq_false (by decide)]
          refine b_eq (by decide) (b_ne' rfl ?_)
          rw [ct, rt]
          exact h _ _ _ hR
        · rw [decide_eq_false (fun z => ?_)]
          · exact b_eq (by decide) (b_ne n6 (h _ _ _ hR))
          · have z1 : (0 : Int) ≤ x.toInt := (i_le 0 (by decide)).mp z.1
            have z2 : x.toInt ≤ (5 : Int) := (i_ge 5 (by decide)).mp z.2
            have w0 : ¬ x.toInt = 0 := fun w => n0 ((i_eqn 0 (by decide)).mpr w)
            have w1 : ¬ x.toInt = 1 := fun w => n1 ((i_eqn 1 (by decide)).mpr w)
            have w2 : ¬ x.toInt = 2 := fun w => n2 ((i_eqn 2 (by decide)).mpr w)
            have w3 : ¬ x.toInt = 3 := fun w => n3 ((i_eqn 3 (by decide)).mpr w)
            have w4 : ¬ x.toInt = 4 := fun w => n4 ((i_eqn 4 (by decide)).mpr w)
            have w5 : ¬ x.toInt = 5 := fun w => n5 ((i_eqn 5 (by decide)).mpr w)
            omega
      refine wX7_about _ (fun X hX => ?_)
      rw [c1, c11]
      refine ⟨fun z1 => ⟨fun _ => c66 X hX, fun z2 => ?_⟩, fun z1 => ⟨fun z3 => ⟨fun _ => c66 X hX, fun z2 => ⟨fun _ => c66 X hX, fun z4 => ?_⟩⟩, fun z3 => ?_⟩⟩
      · have := t10.mp z1
        have := l20.mp z2
        omega
      · exact absurd ⟨l20.mp z2, by have := g20.mp z4; omega⟩ hB
      · exact absurd ⟨l10.mp z1, by have := g10.mp z3; omega⟩ hA
/-! image and back -/
theorem cpy_ne {σ : hd_M} {p q n k : Nat} (h : k ≠ q) : (hd_cpy σ p q n).1 k = σ.1 k := hd_up_ne h
theorem cpy_eq {σ : hd_M} {p q n i : Nat} : (hd_cpy σ p q n).1 q i = if i < n then σ.1 p i else σ.1 q i := by
  show va_up σ.1 q _ q i = _
  rw [hd_up_eq]
theorem sX1_copyRow {G : hd_G} {σ : hd_M} {P : hd_M → Prop} {p q n : Nat} {rs rs' : List Nat} (hp : SH[p]? = some (0, n, rs)) (hq : SH[q]? = some (0, n, rs')) (hn : n < 1000) (h : P (hd_cpy σ p q n)) : EVv G mX1_copyRow SH [.ref p, .ref q] σ P := by
  have e1 : (if (Int32.ofNat n) < (Int32.ofNat n) then (Int32.ofNat n) else (Int32.ofNat n)) = nI n := by split <;> rfl
  refine wX1_copyRow _ _ (hd_alI hp (by decide) (hd_alI hq (by decide) (hd_kI hp (hd_kI hq ?_))))
  rw [e1, nI_clamp (by omega)]
  refine ⟨⟨by decide, by decide, nI_pos' (by omega), by show 0 + n ≤ n; omega, by show 0 + n ≤ n; omega⟩, fun s3 e3 => ?_⟩
  have : s3 = hd_cpy σ p q n := by
    rw [e3]
    unfold hd_cpy
    refine Prod.ext ?_ rfl
    show va_up σ.1 q _ = va_up σ.1 q _
    congr 1
    funext i
    show va_cpy (σ.1 p) (σ.1 q) 0 0 n i = _
    by_cases hi : i < n
    · rw [if_pos hi, pk_cpy_in (by omega) (by omega), Nat.sub_zero, Nat.zero_add]
    · rw [if_neg hi, pk_cpy_out (by omega)]
  rw [this]
  exact h
theorem sX1_copyFrom {G : hd_G} {σ : hd_M} {P : hd_M → Prop} {e f : Nat} {D : MD} (hq : (e = 2 ∧ f = 9) ∨ (e = 9 ∧ f = 2)) (hD : cDesk σ f D) (hd : dok D) (h : ∀ σ', (∀ k, (k < e ∨ e + 6 < k) → σ'.1 k = σ.1 k ∧ σ'.2 k = σ.2 k) → cDesk σ' e D → P σ') : EVv G mX1_copyFrom SH [.ref e, .ref f] σ P := by
  obtain ⟨c1, c2, c3, c4, c5, c6, c7, c8, c9, c10, c11, c12⟩ := hD
  have s30 := hd.2.2.2.2.2.2.1
  have t12 := hd.2.2.2.2.2.2.2.2.1
  have h10 := hd.2.2.2.2.2.2.2.2.2.2.1
  refine wX1_copyFrom hq ?_
  rcases hq with ⟨rfl, rfl⟩ | ⟨rfl, rfl⟩
  all_goals
    refine sX1_copyRow rfl rfl (by decide) (fun s2 e2 s3 e3 s4 e4 s5 e5 s6 e6 => sX1_copyRow rfl rfl (by decide) (sX1_copyRow rfl rfl (by decide) (fun s9 e9 => sX1_copyRow rfl rfl (by decide) (sX1_copyRow rfl rfl (by decide) (fun s12 e12 => sX1_copyRow rfl rfl (by decide) (fun s14 e14 => ?_))))))
    rw [e14, e12, e9, e6, e5, e4, e3, e2]
    refine h _ (fun k hk => ⟨?_, rfl⟩) ⟨?_, fun p hp => ?_, ?_, ?_, ?_, ?_, ?_, fun j hj => ?_, ?_, fun j hj => ?_, ?_, fun j hj => ?_⟩
    · first | (simp only [wI_ne (show k ≠ 2 by omega), cpy_ne (show k ≠ 3 by omega), cpy_ne (show k ≠ 4 by omega), cpy_ne (show k ≠ 5 by omega), cpy_ne (show k ≠ 6 by omega), cpy_ne (show k ≠ 7 by omega), cpy_ne (show k ≠ 8 by omega)]; done) | (simp only [wI_ne (show k ≠ 9 by omega), cpy_ne (show k ≠ 10 by omega), cpy_ne (show k ≠ 11 by omega), cpy_ne (show k ≠ 12 by omega), cpy_ne (show k ≠ 13 by omega), cpy_ne (show k ≠ 14 by omega), cpy_ne (show k ≠ 15 by omega)]; done)
    · simpa [wI_at, cpy_ne] using c1
    · simpa [wI_at, cpy_ne, cpy_eq, hp] using c2 p hp
    · simpa [wI_at, cpy_ne] using c3
    · simpa [wI_at, cpy_ne] using c4
    · simpa [wI_at, cpy_ne] using c5
    · simpa [wI_at, cpy_ne] using c6
    · simpa [wI_at, cpy_ne] using c7
    · simpa [wI_at, cpy_ne, cpy_eq, show j < 30 by omega] using c8 j hj
    · simpa [wI_at, cpy_ne] using c9
    · simpa [wI_at, cpy_ne, cpy_eq, show j < 12 by omega] using c10 j hj
    · simpa [wI_at, cpy_ne] using c11
    · simpa [wI_at, cpy_ne, cpy_eq, show j < 10 by omega] using c12 j hj
