/-! what has been read is well formed -/
def RU (e : Nat → Int) : List Nat → cl_S → cl_S → Prop
  | [], s, s' => s' = s ∧ cl_len s ≤ 64
  | c :: w, s, s' => cl_len s ≤ 64 ∧ ∃ s1, cl_op c e s = some s1 ∧ RU e w s1 s'
theorem RU_app {e : Nat → Int} : ∀ {u w : List Nat} {s s1 s2 : cl_S}, RU e u s s1 → RU e w s1 s2 → RU e (u ++ w) s s2
  | [], _, _, _, _, h, h' => by rw [h.1] at h'; exact h'
  | _ :: _, _, _, _, _, h, h' => by
    obtain ⟨h1, s3, h2, h3⟩ := h
    exact ⟨h1, s3, h2, RU_app h3 h'⟩
theorem RU_run {e : Nat → Int} : ∀ {w : List Nat} {s s' : cl_S}, RU e w s s' → cl_run e w s = some s'
  | [], _, _, h => by rw [h.1]; rfl
  | c :: w, s, s', h => by
    obtain ⟨_, s3, h2, h3⟩ := h
    show (match cl_op c e s with | some s' => cl_run e w s' | none => none) = _
    rw [h2]
    exact RU_run h3
theorem RU_pre {e : Nat → Int} : ∀ {w : List Nat} {s s' : cl_S}, RU e w s s' → ∀ k s2, cl_run e (w.take k) s = some s2 → cl_len s2 ≤ 64
  | [], s, s', h, k, s2, r => by
    rw [List.take_nil] at r
    have r : some s = some s2 := r
    injection r with r
    rw [← r]
    exact h.2
  | c :: w, s, s', h, 0, s2, r => by
    have r : some s = some s2 := r
    injection r with r
    rw [← r]
    exact h.1
  | c :: w, s, s', h, k + 1, s2, r => by
    obtain ⟨_, s3, h2, h3⟩ := h
    have r : (match cl_op c e s with | some s' => cl_run e (w.take k) s' | none => none) = some s2 := r
    rw [h2] at r
    exact RU_pre h3 k s2 r
/-- code that turns a values and b truths into a' and b' -/
def GO (w : List Nat) (a b a' b' : Nat) : Prop := ∀ (e : Nat → Int) (s : cl_S), s.1.length = a → s.2.length = b → ∃ s', RU e w s s' ∧ s'.1.length = a' ∧ s'.2.length = b'
theorem GO_nil {a b : Nat} (h : a + b ≤ 64) : GO [] a b a b := fun e s h1 h2 => ⟨s, ⟨rfl, by unfold cl_len; omega⟩, h1, h2⟩
theorem GO_app {u w : List Nat} {a b a1 b1 a2 b2 : Nat} (h : GO u a b a1 b1) (h' : GO w a1 b1 a2 b2) : GO (u ++ w) a b a2 b2 := fun e s h1 h2 => by
  obtain ⟨s1, r1, q1, q2⟩ := h e s h1 h2
  obtain ⟨s2, r2, q3, q4⟩ := h' e s1 q1 q2
  exact ⟨s2, RU_app r1 r2, q3, q4⟩
theorem GO_one {c a b a' b' : Nat} (h0 : a + b ≤ 64) (h1 : a' + b' ≤ 64) (h : ∀ (e : Nat → Int) (s : cl_S), s.1.length = a → s.2.length = b → ∃ s', cl_op c e s = some s' ∧ s'.1.length = a' ∧ s'.2.length = b') : GO [c] a b a' b' := fun e s q1 q2 => by
  obtain ⟨s1, r1, q3, q4⟩ := h e s q1 q2
  exact ⟨s1, ⟨by unfold cl_len; omega, s1, r1, rfl, by unfold cl_len; omega⟩, q3, q4⟩
theorem GO_push {c a b : Nat} (hc : c < 10000 ∨ (10012 ≤ c ∧ c < 10022)) (h : a + b + 1 ≤ 64) : GO [c] a b (a + 1) b := GO_one (by omega) (by omega) (fun e s h1 h2 => by
  unfold cl_op
  rcases hc with hc | hc
  · rw [if_pos hc]
    exact ⟨_, rfl, by simp [h1], h2⟩
  · rw [if_neg (by omega), if_neg (by omega), if_pos hc.2]
    exact ⟨_, rfl, by simp [h1], h2⟩)
theorem GO_neg {a b : Nat} (h : a + 1 + b ≤ 64) : GO [10035] (a + 1) b (a + 1) b := GO_one h h (fun e s h1 h2 => by
  obtain ⟨vs, ts⟩ := s
  cases vs with
  | nil => simp at h1
  | cons x r => exact ⟨(-x :: r, ts), rfl, h1, h2⟩)
theorem GO_bin {k a b : Nat} (hk : 31 ≤ k ∧ k ≤ 34) (h : a + 2 + b ≤ 64) : GO [10000 + k] (a + 2) b (a + 1) b := GO_one h (by omega) (fun e s h1 h2 => by
  obtain ⟨vs, ts⟩ := s
  match vs, h1 with
  | y :: x :: r, h1 =>
    refine ⟨(cl_two (10000 + k) x y :: r, ts), ?_, by simp at h1 ⊢; omega, h2⟩
    unfold cl_op
    rw [if_neg (by omega), if_neg (by omega), if_neg (by omega), if_neg (by omega), if_neg (by omega), if_neg (by omega), if_neg (by omega), if_pos (by omega)])
theorem GO_cmp {k b : Nat} (hk : 25 ≤ k ∧ k ≤ 30) (h : 2 + b ≤ 64) : GO [10000 + k] 2 b 0 (b + 1) := GO_one h (by omega) (fun e s h1 h2 => by
  obtain ⟨vs, ts⟩ := s
  match vs, h1 with
  | [y, x], h1 =>
    refine ⟨([], cl_cmp (10000 + k) x y :: ts), ?_, rfl, by simp at h2 ⊢; omega⟩
    unfold cl_op
    rw [if_neg (by omega), if_neg (by omega), if_neg (by omega), if_neg (by omega), if_neg (by omega), if_neg (by omega), if_pos (by omega)])
theorem GO_not {b : Nat} (h : b + 1 ≤ 64) : GO [10024] 0 (b + 1) 0 (b + 1) := GO_one (by omega) (by omega) (fun e s h1 h2 => by
  obtain ⟨vs, ts⟩ := s
  match vs, ts, h1, h2 with
  | [], t :: r, h1, h2 => exact ⟨([], (!t) :: r), rfl, rfl, h2⟩)
theorem GO_ao {k b : Nat} (hk : k = 22 ∨ k = 23) (h : b + 2 ≤ 64) : GO [10000 + k] 0 (b + 2) 0 (b + 1) := GO_one (by omega) (by omega) (fun e s h1 h2 => by
  obtain ⟨vs, ts⟩ := s
  match vs, ts, h1, h2 with
  | [], u :: t :: r, h1, h2 =>
    rcases hk with rfl | rfl
    · exact ⟨([], (t || u) :: r), rfl, rfl, by simp at h2 ⊢; omega⟩
    · exact ⟨([], (t && u) :: r), rfl, rfl, by simp at h2 ⊢; omega⟩)
def bn : List Nat → Nat
  | [] => 0
  | k :: p => (if isBn k = true then 1 else 0) + bn p
theorem bn_app (u w : List Nat) : bn (u ++ w) = bn u + bn w := by
  induction u with
  | nil => simp [bn]
  | cons k u ih => simp only [List.cons_append, bn, ih]; omega
theorem bn_le : ∀ (p : List Nat), bn p ≤ p.length
  | [] => Nat.le_refl _
  | k :: p => by
    have := bn_le p
    show (if isBn k = true then 1 else 0) + bn p ≤ p.length + 1
    split <;> omega
theorem GO_em : ∀ {u : List Nat} {m b : Nat}, (∀ k ∈ u, 31 ≤ k ∧ k ≤ 35) → bn u + m + 1 + b ≤ 64 → GO (em u) (bn u + m + 1) b (m + 1) b
  | [], m, b, _, h => by
    have h : 0 + m + 1 + b ≤ 64 := h
    show GO [] (0 + m + 1) b (m + 1) b
    rw [Nat.zero_add]
    exact GO_nil (by omega)
  | k :: u, m, b, hk, h => by
    have h1 := hk k List.mem_cons_self
    have ih := GO_em (u := u) (m := m) (b := b) (fun x hx => hk x (List.mem_cons_of_mem _ hx))
    show GO ([10000 + k] ++ em u) _ b _ b
    by_cases h35 : k = 35
    · have e : bn (k :: u) = bn u := by
        show (if isBn k = true then 1 else 0) + bn u = bn u
        rw [h35, if_neg (by decide), Nat.zero_add]
      rw [e] at h ⊢
      rw [h35]
      exact GO_app (GO_neg (by omega)) (ih h)
    · have e : bn (k :: u) = 1 + bn u := by
        show (if isBn k = true then 1 else 0) + bn u = _
        have : isBn k = true := by unfold isBn; simp; omega
        rw [if_pos this]
      rw [e] at h ⊢
      rw [show 1 + bn u + m + 1 = (bn u + m) + 2 by omega]
      refine GO_app (GO_bin (by omega) (by omega)) ?_
      exact ih (by omega)
theorem GO_nots {n b : Nat} (h : b + 1 ≤ 64) : GO (List.replicate n 10024) 0 (b + 1) 0 (b + 1) := by
  induction n with
  | zero => exact GO_nil (by omega)
  | succ n ih =>
    rw [List.replicate_succ]
    exact GO_app (u := [10024]) (GO_not h) ih
def b2 (b : Bool) : Nat := if b = true then 1 else 0
/-- the code of a rule, so far: what it leaves on the stacks -/
def INV (r : Nat) (cd0 : List Nat) (S : PS) : Prop := ∃ w, S.2.2 = cd0 ++ w ∧ GO w 0 0 (bn S.1.1 + (if S.1.2.1 = none then 0 else 1) + (if S.2.1 = true then 0 else 1)) (b2 S.1.2.2.2.1 + b2 S.1.2.2.2.2) ∧ ∀ c ∈ w, 10012 ≤ c → c < 10022 → al r (c - 10012) = true
theorem bn_26 {r : Nat} {S : PS} (hS : sOK r S) : bn S.1.1 ≤ 26 := by
  have h1 := bn_le S.1.1
  have h2 := pOK_26 hS.1 (by have := hS.2.2.2.2; rw [nst_wO] at this; omega)
  omega
theorem em_nm {u : List Nat} (hu : ∀ k ∈ u, 22 ≤ k ∧ k ≤ 36) : ∀ c ∈ em u, ¬ (10012 ≤ c ∧ c < 10022) := by
  intro c hc
  obtain ⟨k, hk, e⟩ := List.mem_map.mp hc
  have := hu k hk
  omega
/-- signs popped off the pile -/
theorem GO_pop {u : List Nat} {B C b : Nat} (hu : ∀ k ∈ u, 31 ≤ k ∧ k ≤ 35) (h : bn u + B + C + 1 + b ≤ 64) {w : List Nat} {a0 b0 : Nat} (hw : GO w a0 b0 (bn u + B + C + 1) b) : GO (w ++ em u) a0 b0 (B + C + 1) b := GO_app hw (by
  have := GO_em (u := u) (m := B + C) (b := b) hu (by omega)
  rw [show bn u + B + C + 1 = bn u + (B + C) + 1 by omega]
  exact this)
