/-! the reference reads a rule -/
def rk (k : Nat) : Nat := if k = 35 then 2 else if k = 36 then 40 else k - 28
def rC (σ : hd_M) (t : Nat) (cd : List Nat) : Prop := σ.1 94 12 = nI (730 * t) ∧ t < 4 ∧ σ.1 94 14 = nI cd.length ∧ ∀ i, i < cd.length → σ.1 97 (730 * t + 125 + 2 * i) = nI (cl_mo (cd.getD i 0)) ∧ (cd.getD i 0 < 10022 → σ.1 97 (730 * t + 125 + 2 * i + 1) = nI (cl_mv (cd.getD i 0)))
def rPl (σ : hd_M) (p : List Nat) : Prop := σ.1 94 17 = nI p.length ∧ ∀ j, j < p.length → σ.1 99 j = nI (rk (p.reverse.getD j 0))
/-- the frame of the reference's reader of rules -/
def agG (t : Nat) (σ σ' : hd_M) : Prop := (∀ k, k ≠ 94 → k ≠ 97 → k ≠ 99 → σ'.1 k = σ.1 k ∧ σ'.2 k = σ.2 k) ∧ (∀ j, j < 7 ∨ j = 12 ∨ 19 < j → σ'.1 94 j = σ.1 94 j) ∧ (∀ j, j < 730 * t + 125 ∨ 730 * t + 730 ≤ j → σ'.1 97 j = σ.1 97 j)
theorem agG_rf {t : Nat} {σ : hd_M} : agG t σ σ := ⟨fun _ _ _ _ => ⟨rfl, rfl⟩, fun _ _ => rfl, fun _ _ => rfl⟩
theorem agG_tr {t : Nat} {σ σ' σ'' : hd_M} (h : agG t σ σ') (h' : agG t σ' σ'') : agG t σ σ'' := ⟨fun k a b c => ⟨(h'.1 k a b c).1.trans (h.1 k a b c).1, (h'.1 k a b c).2.trans (h.1 k a b c).2⟩, fun j hj => (h'.2.1 j hj).trans (h.2.1 j hj), fun j hj => (h'.2.2 j hj).trans (h.2.2 j hj)⟩
theorem agG_K {t : Nat} {σ σ' : hd_M} (h : agK σ σ') : agG t σ σ' := ⟨fun k a _ _ => h.1 k a, fun j hj => h.2 j (by omega), fun j _ => by rw [(h.1 97 (by decide)).1]⟩
theorem agG_94 {t j : Nat} {x : Int32} {σ σ' : hd_M} (h : agG t σ σ') (hj : 7 ≤ j ∧ j ≤ 19 ∧ j ≠ 12) : agG t σ (hd_wI σ' 94 j x) := agG_tr h ⟨fun k a _ _ => ⟨wI_ne a, rfl⟩, fun i hi => by rw [wI_eq, if_neg (by omega)], fun i _ => by rw [wI_ne (by decide)]⟩
theorem agG_99 {t j : Nat} {x : Int32} {σ σ' : hd_M} (h : agG t σ σ') : agG t σ (hd_wI σ' 99 j x) := agG_tr h ⟨fun k _ _ a => ⟨wI_ne a, rfl⟩, fun i hi => by rw [wI_ne (by decide)], fun i _ => by rw [wI_ne (by decide)]⟩
theorem agG_97 {t j : Nat} {x : Int32} {σ σ' : hd_M} (h : agG t σ σ') (hj : 730 * t + 125 ≤ j ∧ j < 730 * t + 730) : agG t σ (hd_wI σ' 97 j x) := agG_tr h ⟨fun k _ a _ => ⟨wI_ne a, rfl⟩, fun i hi => by rw [wI_ne (by decide)], fun i hi => by rw [wI_eq, if_neg (by omega)]⟩
/-- what emit leaves -/
def agEm (σ σ' : hd_M) : Prop := (∀ k, k ≠ 94 → k ≠ 97 → σ'.1 k = σ.1 k) ∧ (∀ j, j ≠ 14 → σ'.1 94 j = σ.1 94 j) ∧ σ'.2 94 = σ.2 94
theorem sX8_emit {G : hd_G} {σ : hd_M} {P : hd_M → Prop} {t c : Nat} {x y : Int32} {cd : List Nat} (hC : rC σ t cd) (hl : cd.length < 300) (hx : x = nI (cl_mo c)) (hy : c < 10022 → y = nI (cl_mv c)) (h : ∀ σ', agG t σ σ' → agEm σ σ' → rC σ' t (cd ++ [c]) → P σ') : EVv G mX8_emit SH [.ref 94, .int x, .int y] σ P := by
  obtain ⟨c1, c2, c3, c4⟩ := hC
  have ei : ((nI (730 * t) + 125) + (2 * nI cd.length)) = nI (730 * t + 125 + 2 * cd.length) := by
    rw [show (2 : Int32) = nI 2 from rfl, show (125 : Int32) = nI 125 from rfl, pk_mul, nI_add, nI_add]
  refine wX8_emit _ _ ?_
  rw [c1, c3, ei]
  refine ⟨hd_vn (by omega) (by decide), fun s1 e1 => ?_⟩
  rw [nI_clamp (by omega)] at e1
  have f1 : s1.1 94 = σ.1 94 := by rw [e1, wI_ne (by decide)]
  rw [f1, c1, c3, ei, nI_1]
  refine ⟨hd_vn (by omega) (by decide), fun s2 e2 s3 e3 => ?_⟩
  rw [nI_clamp (by omega)] at e2
  have f2 : s2.1 94 = σ.1 94 := by rw [e2, wI_ne (by decide), f1]
  rw [f2, c3, nI_1] at e3
  have g97 : ∀ j, s3.1 97 j = if j = 730 * t + 125 + 2 * cd.length + 1 then y else if j = 730 * t + 125 + 2 * cd.length then x else σ.1 97 j := fun j => by
    rw [e3, wI_ne (by decide), e2, wI_eq, e1, wI_eq]
  have g94 : ∀ j, j ≠ 14 → s3.1 94 j = σ.1 94 j := fun j hj => by rw [e3, wI_eq, if_neg hj, f2]
  refine h s3 ?_ ⟨fun k a b => by rw [e3, wI_ne a, e2, wI_ne b, e1, wI_ne b], g94, by rw [e3, e2, e1]; rfl⟩ ⟨by rw [g94 12 (by decide)]; exact c1, c2, by rw [e3, wI_eq, if_pos rfl, List.length_append]; rfl, fun i hi => ?_⟩
  · rw [e3, e2, e1]
    exact agG_94 (agG_97 (agG_97 agG_rf (by omega)) (by omega)) (by decide)
  · rw [List.length_append, List.length_singleton] at hi
    rw [g97, g97]
    by_cases z : i = cd.length
    · subst z
      rw [getD_app2, if_neg (by omega), if_pos rfl, if_pos rfl]
      exact ⟨hx, hy⟩
    · rw [getD_app1 (by omega), if_neg (by omega), if_neg (by omega), if_neg (by omega), if_neg (by omega)]
      exact c4 i (by omega)
theorem sX8_push {G : hd_G} {σ : hd_M} {P : hd_M → Prop} {t k : Nat} {p : List Nat} (hP : rPl σ p) (hl : p.length < 160) (h : ∀ σ', agG t σ σ' → (∀ j, j ≠ 17 → σ'.1 94 j = σ.1 94 j) → σ'.1 97 = σ.1 97 → σ'.2 94 = σ.2 94 → rPl σ' (k :: p) → P σ') : EVv G mX8_push SH [.ref 94, .int (nI (rk k))] σ P := by
  obtain ⟨p1, p2⟩ := hP
  refine wX8_push _ ?_
  rw [p1]
  refine ⟨hd_vn hl (by decide), fun s1 e1 s2 e2 => ?_⟩
  rw [nI_clamp (by omega)] at e1
  have f1 : s1.1 94 17 = nI p.length := by rw [e1, wI_ne (by decide)]; exact p1
  rw [f1, nI_1] at e2
  refine h s2 (by rw [e2, e1]; exact agG_94 (agG_99 agG_rf) (by decide)) (fun j hj => by rw [e2, wI_eq, if_neg hj, e1, wI_ne (by decide)]) (by rw [e2, wI_ne (by decide), e1, wI_ne (by decide)]) (by rw [e2, e1]; rfl) ⟨by rw [e2, wI_eq, if_pos rfl]; rfl, fun j hj => ?_⟩
  rw [List.length_cons] at hj
  rw [e2, wI_ne (by decide), e1, wI_eq]
  by_cases z : j = p.length
  · rw [if_pos z, z, wk_getD_top]
  · rw [if_neg z, wk_getD_lt (by omega)]
    exact p2 j (by omega)
theorem rPl_cg {σ σ' : hd_M} {p : List Nat} (h : rPl σ p) (h1 : σ'.1 94 17 = σ.1 94 17) (h2 : σ'.1 99 = σ.1 99) : rPl σ' p := ⟨by rw [h1]; exact h.1, fun j hj => by rw [h2]; exact h.2 j hj⟩
theorem rC_cg {σ σ' : hd_M} {t : Nat} {cd : List Nat} (h : rC σ t cd) (h1 : σ'.1 94 12 = σ.1 94 12) (h2 : σ'.1 94 14 = σ.1 94 14) (h3 : σ'.1 97 = σ.1 97) : rC σ' t cd := ⟨by rw [h1]; exact h.1, h.2.1, by rw [h2]; exact h.2.2.1, fun i hi => by rw [h3]; exact h.2.2.2 i hi⟩
theorem pOK_len : ∀ {p : List Nat}, pOK p → p.length ≤ 3 * nst p + (match p with | [] => 0 | k :: _ => if k = 33 ∨ k = 34 then 2 else if k = 31 ∨ k = 32 then 1 else 0)
  | [], _ => Nat.le_refl _
  | [k], h => by
    have := h.1
    show 1 ≤ 3 * ((if isN k = true then 1 else 0) + 0) + (if k = 33 ∨ k = 34 then 2 else if k = 31 ∨ k = 32 then 1 else 0)
    have hc : k = 31 ∨ k = 32 ∨ k = 33 ∨ k = 34 ∨ k = 35 ∨ k = 36 := by omega
    rcases hc with rfl | rfl | rfl | rfl | rfl | rfl <;> decide
  | k :: l :: p, h => by
    have ih := pOK_len (p := l :: p) h.2.2
    obtain ⟨h1, h2, h3⟩ := h
    have h2 : isBn k = true → stg l < stg k := h2
    have hl := h3.1
    have ih : (l :: p).length ≤ 3 * nst (l :: p) + (if l = 33 ∨ l = 34 then 2 else if l = 31 ∨ l = 32 then 1 else 0) := ih
    show (l :: p).length + 1 ≤ 3 * ((if isN k = true then 1 else 0) + nst (l :: p)) + (if k = 33 ∨ k = 34 then 2 else if k = 31 ∨ k = 32 then 1 else 0)
    generalize (l :: p).length = a at *
    generalize nst (l :: p) = b at *
    have hk : k = 31 ∨ k = 32 ∨ k = 33 ∨ k = 34 ∨ k = 35 ∨ k = 36 := by omega
    have hl' : l = 31 ∨ l = 32 ∨ l = 33 ∨ l = 34 ∨ l = 35 ∨ l = 36 := by omega
    have n1 : isN 31 = false := rfl
    have n2 : isN 32 = false := rfl
    have n3 : isN 33 = false := rfl
    have n4 : isN 34 = false := rfl
    have n5 : isN 35 = true := rfl
    have n6 : isN 36 = true := rfl
    rcases hk with rfl | rfl | rfl | rfl | rfl | rfl <;> rcases hl' with rfl | rfl | rfl | rfl | rfl | rfl <;> first | (simp [n1, n2, n3, n4, n5, n6] at ih ⊢; omega) | exact absurd (h2 (by decide)) (by decide)
theorem pOK_26 {p : List Nat} (h : pOK p) (hn : nst p ≤ 8) : p.length ≤ 26 := by
  have := pOK_len h
  have : (match p with | [] => 0 | k :: _ => if k = 33 ∨ k = 34 then 2 else if k = 31 ∨ k = 32 then 1 else 0) ≤ 2 := by
    split
    · omega
    · split
      · omega
      · split <;> omega
  omega
/-- minuses whose number has come -/
theorem sX8_whole {G : hd_G} {σ : hd_M} {P : hd_M → Prop} {t n : Nat} {p cd : List Nat} (hC : rC σ t cd) (hP : rPl σ p) (hn : σ.1 94 18 = nI (nst p + n)) (hl : p.length + cd.length ≤ 300) (hp : p.length ≤ 160) (hm : ∀ k ∈ p, 31 ≤ k ∧ k ≤ 36) (h : ∀ σ', agG t σ σ' → (∀ j, j < 14 → σ'.1 94 j = σ.1 94 j) → σ'.2 94 = σ.2 94 → rC σ' t (rel 7 p cd).2 → rPl σ' (rel 7 p cd).1 → σ'.1 94 18 = nI (nst (rel 7 p cd).1 + n) → σ'.1 94 19 = 1 → P σ') : EVv G mX8_whole SH [.ref 94] σ P := by
  refine wX8_whole (fun X hX => ⟨Or.inr rfl, fun s1 e1 => ?_⟩)
  have main : ∀ (p cd : List Nat) (s : hd_M), agG t σ s → (∀ j, j < 14 → s.1 94 j = σ.1 94 j) → s.2 94 = σ.2 94 → rC s t cd → rPl s p → s.1 94 18 = nI (nst p + n) → s.1 94 19 = 1 → p.length + cd.length ≤ 300 → p.length ≤ 160 → (∀ k ∈ p, 31 ≤ k ∧ k ≤ 36) → (∀ σ', agG t σ σ' → (∀ j, j < 14 → σ'.1 94 j = σ.1 94 j) → σ'.2 94 = σ.2 94 → rC σ' t (rel 7 p cd).2 → rPl σ' (rel 7 p cd).1 → σ'.1 94 18 = nI (nst (rel 7 p cd).1 + n) → σ'.1 94 19 = 1 → P σ') → hd_J G mX8_whole X SH (0, 0) 5 [(0, .ref 94)] [] s := by
    intro p
    induction p with
    | nil =>
      intro cd s a j2 l2 hC hP hn h19 hl hp hm h
      refine wX8_whole_5 hX ?_
      rw [hP.1]
      exact b_le (by decide) (h s a j2 l2 hC hP hn h19)
    | cons k p ih =>
      intro cd s a j2 l2 hC hP hn h19 hl hp hm h
      rw [List.length_cons] at hl hp
      have top : s.1 99 p.length = nI (rk k) := by rw [hP.2 p.length (by rw [List.length_cons]; omega), wk_getD_top]
      have h17 : s.1 94 17 = nI (p.length + 1) := hP.1
      refine wX8_whole_5 hX ?_
      rw [h17, nI_pred, nI_clamp (show p.length < 2 ^ 31 by omega), top]
      refine b_le' (nI_lt (a := 0) (by omega) (by omega)) ⟨hd_vn (by omega) (by decide), ?_⟩
      by_cases hk : k = 35
      · subst hk
        have er : rel 7 (35 :: p) cd = rel 7 p (cd ++ [10035]) := rfl
        rw [er] at h
        refine b_ne' rfl (fun s2 e2 s3 e3 => ?_)
        have f2 : ∀ j, j ≠ 17 → s2.1 94 j = s.1 94 j := fun j hj => by rw [e2, wI_eq, if_neg hj]
        have en : nst (35 :: p) = 1 + nst p := rfl
        rw [f2 18 (by decide), hn, en, show 1 + nst p + n = nst p + n + 1 by omega, nI_pred] at e3
        have f3 : ∀ j, j ≠ 17 → j ≠ 18 → s3.1 94 j = s.1 94 j := fun j a b => by rw [e3, wI_eq, if_neg b, f2 j a]
        have r3 : ∀ k, k ≠ 94 → s3.1 k = s.1 k := fun k hk => by rw [e3, wI_ne hk, e2, wI_ne hk]
        refine sX8_emit (c := 10035) (rC_cg hC (f3 12 (by decide) (by decide)) (f3 14 (by decide) (by decide)) (r3 97 (by decide))) (by omega) rfl (fun z => absurd z (by decide)) (fun s4 a4 g4 c4 => ?_)
        refine ih (cd ++ [10035]) s4 (agG_tr (by rw [e3, e2]; exact agG_94 (agG_94 a (by decide)) (by decide)) a4) (fun j hj => by rw [g4.2.1 j (by omega), f3 j (by omega) (by omega)]; exact j2 j hj) (by rw [g4.2.2, e3, e2]; exact l2) c4 ⟨?_, fun j hj => ?_⟩ ?_ ?_ (by rw [List.length_append, List.length_singleton]; omega) (by omega) (fun x hx => hm x (List.mem_cons_of_mem _ hx)) h
        · rw [g4.2.1 17 (by decide), e3, wI_eq, if_neg (by decide), e2, wI_eq, if_pos rfl]
        · rw [g4.1 99 (by decide) (by decide), r3 99 (by decide), hP.2 j (by rw [List.length_cons]; omega), wk_getD_lt hj]
        · rw [g4.2.1 18 (by decide), e3, wI_eq, if_pos rfl]
        · rw [g4.2.1 19 (by decide), f3 19 (by decide) (by decide)]; exact h19
      · have er : rel 7 (k :: p) cd = (k :: p, cd) := by
          refine rel_stop ?_
          unfold stg
          repeat' (first | omega | split)
        rw [er] at h
        refine b_ne ?_ (h s a j2 l2 hC hP hn h19)
        intro z
        have hb := hm k List.mem_cons_self
        have hr : rk k < 1000 := by
          unfold rk
          split
          · omega
          · split <;> omega
        have hz : rk k = 2 := (nI_eq (b := 2) (by omega) (by decide)).mp z
        unfold rk at hz
        rw [if_neg hk] at hz
        split at hz <;> omega
  have r1 : ∀ k, k ≠ 94 → s1.1 k = σ.1 k := fun k hk => by rw [e1, wI_ne hk]
  have j1 : ∀ j, j ≠ 19 → s1.1 94 j = σ.1 94 j := fun j hj => by rw [e1, wI_eq, if_neg hj]
  exact main p cd s1 (by rw [e1]; exact agG_94 agG_rf (by decide)) (fun j hj => j1 j (by omega)) (by rw [e1]; rfl) (rC_cg hC (j1 12 (by decide)) (j1 14 (by decide)) (r1 97 (by decide))) (rPl_cg hP (j1 17 (by decide)) (r1 99 (by decide))) (by rw [j1 18 (by decide)]; exact hn) (by rw [e1, wI_eq, if_pos rfl]) hl hp hm h
