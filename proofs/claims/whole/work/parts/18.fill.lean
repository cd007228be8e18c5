/-! pure: counters, and the two copying loops -/
theorem hd_vn {k n : Nat} (h : k < n) (hn : n < 2147483648) : vp_in (nI k) n := vp_in_nI h (by omega)
theorem hd_upto {n : Nat} (J : Nat → Prop) (h : ∀ k, k ≤ n → (k < n → J (k + 1)) → J k) : ∀ k, k ≤ n → J k := by
  have key : ∀ m k, k ≤ n → n - k = m → J k := by
    intro m
    induction m with
    | zero => intro k hk e; exact h k hk (fun z => absurd z (by omega))
    | succ m ih => intro k hk e; exact h k hk (fun z => ih (k + 1) z (by omega))
  exact fun k hk => key (n - k) k hk rfl
def hd_fill (σ : hd_M) (q n : Nat) (x : Int32) : hd_M := (va_up σ.1 q (fun i => if i < n then x else σ.1 q i), σ.2)
def hd_cpy (σ : hd_M) (p q n : Nat) : hd_M := (va_up σ.1 q (fun i => if i < n then σ.1 p i else σ.1 q i), σ.2)
theorem hd_fill_0 (σ : hd_M) (q : Nat) (x : Int32) : hd_fill σ q 0 x = σ := by
  unfold hd_fill
  refine Prod.ext ?_ rfl
  funext a
  by_cases h : a = q
  · subst h; simp [va_up]
  · simp [va_up, h]
theorem hd_cpy_0 (σ : hd_M) (p q : Nat) : hd_cpy σ p q 0 = σ := by
  unfold hd_cpy
  refine Prod.ext ?_ rfl
  funext a
  by_cases h : a = q
  · subst h; simp [va_up]
  · simp [va_up, h]
theorem hd_fill_s (σ : hd_M) (q k : Nat) (x : Int32) : hd_wI (hd_fill σ q k x) q k x = hd_fill σ q (k + 1) x := by
  unfold hd_fill hd_wI
  refine Prod.ext ?_ rfl
  funext a
  by_cases h : a = q
  · subst h
    simp only [va_up, if_true]
    funext i
    by_cases h2 : i = k
    · subst h2; simp [va_up]
    · by_cases h3 : i < k
      · simp [va_up, h2, h3, show i < k + 1 by omega]
      · simp [va_up, h2, h3, show ¬ i < k + 1 by omega]
  · simp [va_up, h]
theorem hd_cpy_s (σ : hd_M) {p q : Nat} (k : Nat) (hp : p ≠ q) : hd_wI (hd_cpy σ p q k) q k ((hd_cpy σ p q k).1 p k) = hd_cpy σ p q (k + 1) := by
  unfold hd_cpy hd_wI
  refine Prod.ext ?_ rfl
  funext a
  by_cases h : a = q
  · subst h
    simp only [va_up, if_true, if_neg hp]
    funext i
    by_cases h2 : i = k
    · subst h2; simp [va_up]
    · by_cases h3 : i < k
      · simp [va_up, h2, h3, show i < k + 1 by omega]
      · simp [va_up, h2, h3, show ¬ i < k + 1 by omega]
  · simp [va_up, h]
theorem hd_kI {sh : hd_S} {q t n : Nat} {rs : List Nat} {f : Nat → Prop} (h : sh[q]? = some (t, n, rs)) (hf : f n) : hd_k sh q t f := by
  unfold hd_k
  rw [h]
  show bif Nat.beq t t then f n else False
  rw [Nat.beq_refl]
  exact hf
theorem hd_alI {sh : hd_S} {q t n : Nat} {rs : List Nat} {f : Nat → Prop} (h : sh[q]? = some (t, n, rs)) (ht : t < 5) (hf : f n) : hd_al sh q f := by
  unfold hd_al
  rw [h]
  show bif Nat.blt t 5 then f n else False
  rw [show Nat.blt t 5 = true from Nat.ble_eq_true_of_le ht]
  exact hf
theorem sJ7_fill {G : hd_G} {σ : hd_M} {P : hd_M → Prop} {sh : hd_S} {q n : Nat} {rs : List Nat} {x : Int32} (hq : sh[q]? = some (0, n, rs)) (hn : n < 2147483648) (h : P (hd_fill σ q n x)) : EVv G mJ7_fill_53178 sh [.ref q, .int x] σ P := by
  refine wJ7_fill_53178 _ _ (fun X hX v1 e1 => hd_alI hq (by decide) (fun v3 e3 => ?_))
  have key := hd_upto (n := n) (fun k => hd_J G mJ7_fill_53178 X sh (0, 0) 5 [(0, .ref q), (1, .int x), (2, .int (nI k)), (3, .int (nI n))] [] (hd_fill σ q k x)) (fun k hk ih => ?_) 0 (Nat.zero_le _)
  · rw [hd_fill_0] at key
    rw [e1, e3]
    exact key
  · refine wJ7_fill_53178_5 hX _ _ _ _ ⟨fun c => ?_, fun c => hd_kI hq ⟨?_, fun s1 es v2 ev => ?_⟩⟩
    · have : k = n := by
        have := (nI_leI (by omega) (by omega)).mp c
        omega
      subst this
      exact h
    · exact hd_vn ((nI_ltI (by omega) (by omega)).mp c) hn
    · have hk' : k < n := (nI_ltI (by omega) (by omega)).mp c
      rw [nI_clamp (by omega), hd_fill_s] at es
      rw [es, ev, nI_1]
      exact ih hk'
theorem sX8_copy {G : hd_G} {σ : hd_M} {P : hd_M → Prop} {sh : hd_S} {p q : Nat} {rs rs' : List Nat} (hp : sh[p]? = some (0, 334, rs)) (hq : sh[q]? = some (0, 334, rs')) (hne : p ≠ q) (h : P (hd_cpy σ p q 334)) : EVv G mX8_copy sh [.ref p, .ref q] σ P := by
  refine wX8_copy _ _ (fun X hX v1 e1 => ?_)
  have key := hd_upto (n := 334) (fun k => hd_J G mX8_copy X sh (0, 0) 2 [(0, .ref p), (1, .ref q), (2, .int (nI k))] [] (hd_cpy σ p q k)) (fun k hk ih => ?_) 0 (Nat.zero_le _)
  · rw [hd_cpy_0] at key
    rw [e1]
    exact key
  · refine wX8_copy_2 hX _ _ _ ⟨fun c => ?_, fun c => hd_kI hp ⟨?_, hd_kI hq ⟨?_, fun s1 es v2 ev => ?_⟩⟩⟩
    · have : k = 334 := by
        have := (nI_leI (a := 334) (by omega) (by omega)).mp c
        omega
      subst this
      exact h
    · exact hd_vn ((nI_ltI (b := 334) (by omega) (by omega)).mp c) (by decide)
    · exact hd_vn ((nI_ltI (b := 334) (by omega) (by omega)).mp c) (by decide)
    · have hk' : k < 334 := (nI_ltI (b := 334) (by omega) (by omega)).mp c
      rw [nI_clamp (by omega), hd_cpy_s σ k hne] at es
      rw [es, ev, nI_1]
      exact ih hk'
