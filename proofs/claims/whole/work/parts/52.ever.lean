/-! for ever -/
def rcN (L : LW) (sz : Nat → Nat) : Nat → Nat → Nat → Prop
  | 0, v, w => v = w
  | n + 1, v, w => ∃ act u, act < 15 ∧ afM L sz v act = some u ∧ rcN L sz n u w
def HP (L : LW) (sz : Nat → Nat) (v : Nat) : Prop := ∃ n w, rcN L sz n v w ∧ opM L (dg w) = true
theorem HP_open {L : LW} {sz : Nat → Nat} {v : Nat} (h : opM L (dg v) = true) : HP L sz v := ⟨0, v, rfl, h⟩
theorem HP_step {L : LW} {sz : Nat → Nat} {v act u : Nat} (ha : act < 15) (h : afM L sz v act = some u) (hu : HP L sz u) : HP L sz v := by
  obtain ⟨n, w, h1, h2⟩ := hu
  exact ⟨n + 1, w, ⟨act, u, ha, h, h1⟩, h2⟩
theorem HP_ind {L : LW} {sz : Nat → Nat} {C F : Nat → Prop} (h0 : ∀ v, C v → opM L (dg v) = true → F v) (h1 : ∀ v act u, C v → act < 15 → afM L sz v act = some u → C u ∧ (F u → F v)) {v : Nat} (hv : C v) (h : HP L sz v) : F v := by
  obtain ⟨n, w, h2, h3⟩ := h
  have key : ∀ n v, C v → rcN L sz n v w → F v := by
    intro n
    induction n with
    | zero =>
      intro v hv hr
      have hr : v = w := hr
      rw [hr] at hv ⊢
      exact h0 w hv h3
    | succ n ih =>
      intro v hv hr
      obtain ⟨act, u, ha, hu, hr⟩ := hr
      have := h1 v act u hv ha hu
      exact this.2 (ih u this.1 hr)
  exact key n v hv h2
noncomputable def hpB (L : LW) (sz : Nat → Nat) (v : Nat) : Bool := @decide (HP L sz v) (Classical.propDecidable _)
theorem hpB_t {L : LW} {sz : Nat → Nat} {v : Nat} : hpB L sz v = true ↔ HP L sz v := by
  unfold hpB
  exact @decide_eq_true_iff _ (Classical.propDecidable _)
noncomputable def fvM (L : LW) (sz : Nat → Nat) (v act : Nat) : Bool := match afM L sz v act with
  | none => false
  | some w => !(hpB L sz w)
def mkI (f : Nat → Bool) : Nat → Int32
  | 0 => 0
  | t + 1 => if f t = true then mkI f t ||| ((1 : Int32) <<< (nI t &&& 31)) else mkI f t
/-! counts -/
theorem cntN_le (T : Nat → Nat) : ∀ n, cntN T n ≤ n
  | 0 => Nat.le_refl _
  | n + 1 => by
    have := cntN_le T n
    unfold cntN
    split <;> omega
theorem cntN_cg {T T' : Nat → Nat} : ∀ {n : Nat}, (∀ i, i < n → (T i = 0 ↔ T' i = 0)) → cntN T n = cntN T' n
  | 0, _ => rfl
  | n + 1, h => by
    have hn := h n (by omega)
    unfold cntN
    rw [cntN_cg (n := n) (fun i hi => h i (by omega))]
    by_cases z : T n = 0
    · rw [if_pos z, if_pos (hn.mp z)]
    · rw [if_neg z, if_neg (fun q => z (hn.mpr q))]
theorem cntN_set {T : Nat → Nat} {s v : Nat} (h0 : T s = 0) (hv : v ≠ 0) : ∀ {n : Nat}, s < n → cntN (up T s v) n = cntN T n + 1
  | 0, h => by omega
  | n + 1, h => by
    unfold cntN
    have hu : up T s v n = if n = s then v else T n := rfl
    rw [hu]
    by_cases hs : n = s
    · rw [if_pos hs, if_neg hv, hs, if_pos h0]
      have : cntN (up T s v) s = cntN T s := cntN_cg (fun i hi => by
        unfold up
        rw [if_neg (by omega)])
      rw [this]
    · rw [if_neg hs, cntN_set h0 hv (n := n) (by omega)]
      omega
theorem cntN_lt {T : Nat → Nat} {s n : Nat} (h : s < n) (h0 : T s = 0) : cntN T n < n := by
  have h1 := cntN_set (v := 1) h0 (by decide) h
  have h2 := cntN_le (up T s 1) n
  omega
/-! edges -/
def ext (R R' : List Nat) : Prop := R.length ≤ R'.length ∧ ∀ k, k < R.length → R'.getD k 0 = R.getD k 0
theorem ext_rf {R : List Nat} : ext R R := ⟨Nat.le_refl _, fun _ _ => rfl⟩
theorem ext_tr {R R' R'' : List Nat} (h : ext R R') (h' : ext R' R'') : ext R R'' := ⟨Nat.le_trans h.1 h'.1, fun k hk => (h'.2 k (Nat.lt_of_lt_of_le hk h.1)).trans (h.2 k hk)⟩
theorem ext_app {R : List Nat} {w : Nat} : ext R (R ++ [w]) := ⟨by simp, fun k hk => getD_app1 hk⟩
def ceL (L : LW) (sz : Nat → Nat) (R : List Nat) (w : Nat) : Nat → List Nat
  | 0 => []
  | j + 1 => if afM L sz (R.getD (j / 15) 0) (j % 15) = some w then (R.getD (j / 15) 0 * 15 + j % 15) :: ceL L sz R w j else ceL L sz R w j
theorem ceL_mem {L : LW} {sz : Nat → Nat} {R : List Nat} {w e : Nat} : ∀ {J : Nat}, e ∈ ceL L sz R w J → ∃ j, j < J ∧ e = R.getD (j / 15) 0 * 15 + j % 15 ∧ afM L sz (R.getD (j / 15) 0) (j % 15) = some w
  | 0, h => by cases h
  | J + 1, h => by
    unfold ceL at h
    split at h
    · rcases List.mem_cons.mp h with h | h
      · exact ⟨J, by omega, h, by assumption⟩
      · obtain ⟨j, h1, h2⟩ := ceL_mem h
        exact ⟨j, by omega, h2⟩
    · obtain ⟨j, h1, h2⟩ := ceL_mem h
      exact ⟨j, by omega, h2⟩
theorem ceL_in {L : LW} {sz : Nat → Nat} {R : List Nat} {w j : Nat} (ha : afM L sz (R.getD (j / 15) 0) (j % 15) = some w) : ∀ {J : Nat}, j < J → R.getD (j / 15) 0 * 15 + j % 15 ∈ ceL L sz R w J
  | 0, h => by omega
  | J + 1, h => by
    unfold ceL
    by_cases hj : j = J
    · subst hj
      rw [if_pos ha]
      exact List.mem_cons_self
    · have := ceL_in ha (J := J) (by omega)
      split
      · exact List.mem_cons_of_mem _ this
      · exact this
theorem ceL_len {L : LW} {sz : Nat → Nat} {R : List Nat} {w : Nat} : ∀ J, (ceL L sz R w J).length ≤ J
  | 0 => Nat.le_refl _
  | J + 1 => by
    have := ceL_len (L := L) (sz := sz) (R := R) (w := w) J
    unfold ceL
    split
    · rw [List.length_cons]
      omega
    · omega
theorem ceL_ext {L : LW} {sz : Nat → Nat} {R R' : List Nat} {w : Nat} (h : ext R R') : ∀ {J : Nat}, J ≤ 15 * R.length → ceL L sz R' w J = ceL L sz R w J
  | 0, _ => rfl
  | J + 1, hJ => by
    unfold ceL
    rw [h.2 (J / 15) (by omega), ceL_ext h (J := J) (by omega)]
def lk2 (σ : hd_M) : Int32 → List Nat → Prop
  | x, [] => x = -1
  | x, e :: r => x = nI e ∧ e < 32805 ∧ lk2 σ (σ.1 92 e) r
theorem lk2_cg {σ σ' : hd_M} : ∀ {l : List Nat} {x : Int32}, (∀ k ∈ l, σ'.1 92 k = σ.1 92 k) → lk2 σ x l → lk2 σ' x l
  | [], _, _, h => h
  | k :: r, x, hc, h => by
    refine ⟨h.1, h.2.1, ?_⟩
    rw [hc k List.mem_cons_self]
    exact lk2_cg (fun j hj => hc j (List.mem_cons_of_mem _ hj)) h.2.2
/-- what the class's rows hold -/
def dP (σ : hd_M) (L : LW) (sz : Nat → Nat) (R H : List Nat) (mk : Nat → Nat) (J : Nat) : Prop := σ.1 87 2 = nI R.length ∧ σ.1 87 4 = nI H.length ∧ (∀ k, k < R.length → σ.1 88 k = nI (R.getD k 0)) ∧ (∀ k, k < H.length → σ.1 89 k = nI (H.getD k 0)) ∧ (∀ w, w < 2187 → σ.1 90 w = nI (mk w)) ∧ ∀ w, w < 2187 → lk2 σ (σ.1 91 w) (ceL L sz R w J)
def dQ (L : LW) (sz : Nat → Nat) (e : Nat) (R H : List Nat) (mk : Nat → Nat) : Prop := cntN mk 2187 = R.length ∧ cntN (fun i => mk i - 1) 2187 = H.length ∧ (∀ k, k < R.length → R.getD k 0 < 2187 ∧ mk (R.getD k 0) ≠ 0) ∧ (∀ w, w < 2187 → mk w ≠ 0 → ∃ k, k < R.length ∧ R.getD k 0 = w) ∧ (∀ k, k < H.length → H.getD k 0 < 2187 ∧ mk (H.getD k 0) = 2 ∧ HP L sz (H.getD k 0)) ∧ (∀ w, w < 2187 → mk w = 2 → ∃ k, k < H.length ∧ H.getD k 0 = w) ∧ (∀ i j, i < R.length → j < R.length → R.getD i 0 = R.getD j 0 → i = j) ∧ (∀ w, w < 2187 → w ≠ e → mk w ≠ 0 → opM L (dg w) = true → mk w = 2) ∧ ∀ w, mk w ≤ 2
def dw : List Nat := [78, 79, 80, 87, 88, 89, 90, 91, 92]
theorem dP_cg {σ σ' : hd_M} {L : LW} {sz : Nat → Nat} {R H : List Nat} {mk : Nat → Nat} {J : Nat} (h : dP σ L sz R H mk J) (hc : ∀ k, 87 ≤ k → k ≤ 92 → σ'.1 k = σ.1 k) : dP σ' L sz R H mk J := by
  obtain ⟨h1, h2, h3, h4, h5, h6⟩ := h
  refine ⟨by rw [hc 87 (by decide) (by decide)]; exact h1, by rw [hc 87 (by decide) (by decide)]; exact h2, fun k hk => by rw [hc 88 (by decide) (by decide)]; exact h3 k hk, fun k hk => by rw [hc 89 (by decide) (by decide)]; exact h4 k hk, fun w hw => by rw [hc 90 (by decide) (by decide)]; exact h5 w hw, fun w hw => ?_⟩
  rw [hc 91 (by decide) (by decide)]
  exact lk2_cg (fun k _ => by rw [hc 92 (by decide) (by decide)]) (h6 w hw)
theorem sX0_hope {G : hd_G} {σ : hd_M} {P : hd_M → Prop} {L : LW} {sz : Nat → Nat} {R H : List Nat} {mk : Nat → Nat} {J w e : Nat} (hP : dP σ L sz R H mk J) (hQ : dQ L sz e R H mk) (he : e = w ∨ e = 2187) (hw : w < 2187) (hm : mk w ≠ 0) (hh : HP L sz w) (h : ∀ σ' H' mk', ag dw σ σ' → (∀ k, k ≤ 80 → σ'.1 k = σ.1 k) → dP σ' L sz R H' mk' J → dQ L sz 2187 R H' mk' → ext H H' → (∀ x, mk x = 2 → mk' x = 2) → (∀ x, mk x = 0 ↔ mk' x = 0) → mk' w = 2 → P σ') : EVv G mX0_hope SH [.ref 87, .int (nI w)] σ P := by
  obtain ⟨p1, p2, p3, p4, p5, p6⟩ := hP
  obtain ⟨q1, q2, q3, q4, q5, q6, q7, q8, q9⟩ := hQ
  have hle := q9 w
  refine wX0_hope _ ⟨hd_vn hw (by decide), ?_⟩
  rw [nI_clamp (show w < 2 ^ 31 by omega), p5 w hw]
  refine c_ne (mk w : Int) 1 rfl rfl (fun z => ?_) (fun z => ?_)
  · exact h σ H mk ag_rf (fun _ _ => rfl) ⟨p1, p2, p3, p4, p5, p6⟩ ⟨q1, q2, q3, q4, q5, q6, q7, fun x hx hx1 hx2 hx3 => by
      by_cases q : x = w
      · rw [q]; omega
      · exact q8 x hx (by rcases he with z | z <;> omega) hx2 hx3, q9⟩ ext_rf (fun _ z => z) (fun _ => Iff.rfl) (by omega)
  · have z : mk w = 1 := by omega
    have hlt : H.length < 2187 := by
      rw [← q2]
      exact cntN_lt hw (show mk w - 1 = 0 by omega)
    rw [p2]
    refine b_le' (nI_lt (b := 2187) hlt (by decide)) ⟨hd_vn hw (by decide), fun s1 e1 => ?_⟩
    have f1 : s1.1 87 4 = nI H.length := by rw [e1, wI_ne (by decide), p2]
    rw [f1, nI_clamp (show H.length < 2 ^ 31 by omega)]
    refine ⟨hd_vn hlt (by decide), fun s2 e2 s3 e3 => ?_⟩
    have f2 : s2.1 87 4 = nI H.length := by rw [e2, wI_ne (by decide), f1]
    rw [f2, nI_1] at e3
    have r : ∀ k, k ≠ 87 → k ≠ 89 → k ≠ 90 → s3.1 k = σ.1 k := fun k h1 h2 h3 => by rw [e3, wI_ne h1, e2, wI_ne h2, e1, wI_ne h3]
    have um : ∀ x, up mk w 2 x = if x = w then 2 else mk x := fun _ => rfl
    have u2 : ∀ x, up mk w 2 x = 2 → x = w ∨ mk x = 2 := fun x hx => by
      rw [um] at hx
      by_cases q : x = w
      · exact Or.inl q
      · rw [if_neg q] at hx
        exact Or.inr hx
    have u0 : ∀ x, mk x = 0 ↔ up mk w 2 x = 0 := fun x => by
      rw [um]
      by_cases q : x = w
      · rw [if_pos q, q]
        omega
      · rw [if_neg q]
    refine h s3 (H ++ [w]) (up mk w 2) ?_ (fun k hk => r k (by omega) (by omega) (by omega)) ⟨?_, ?_, fun k hk => ?_, fun k hk => ?_, fun x hx => ?_, fun x hx => ?_⟩ ⟨?_, ?_, fun k hk => ?_, fun x hx hx2 => ?_, fun k hk => ?_, fun x hx hx2 => ?_, q7, fun x hx hx1 hx2 hx3 => ?_, fun x => ?_⟩ ext_app (fun x hx => ?_) u0 (by rw [um, if_pos rfl])
    · rw [e3, e2, e1]
      exact ag_wI (ag_wI (ag_wI ag_rf (by decide)) (by decide)) (by decide)
    · rw [e3, wI_eq, if_neg (by decide), e2, wI_ne (by decide), e1, wI_ne (by decide), p1]
    · rw [e3, wI_eq, if_pos rfl]
      simp
    · rw [r 88 (by decide) (by decide) (by decide)]
      exact p3 k hk
    · simp only [List.length_append, List.length_singleton] at hk
      rw [e3, wI_ne (by decide), e2, wI_eq]
      by_cases q : k = H.length
      · rw [if_pos q, q, getD_app2]
      · rw [if_neg q, e1, wI_ne (by decide), getD_app1 (show k < H.length by omega)]
        exact p4 k (by omega)
    · rw [e3, wI_ne (by decide), e2, wI_ne (by decide), e1, wI_eq, um]
      by_cases q : x = w
      · rw [if_pos q, if_pos q]; rfl
      · rw [if_neg q, if_neg q]
        exact p5 x hx
    · rw [r 91 (by decide) (by decide) (by decide)]
      exact lk2_cg (fun k _ => by rw [r 92 (by decide) (by decide) (by decide)]) (p6 x hx)
    · rw [← q1]
      exact cntN_cg (fun i _ => (u0 i).symm)
    · rw [List.length_append, List.length_singleton, ← q2]
      have e : cntN (fun i => up mk w 2 i - 1) 2187 = cntN (up (fun i => mk i - 1) w 1) 2187 := cntN_cg (fun i _ => by
        show up mk w 2 i - 1 = 0 ↔ up (fun i => mk i - 1) w 1 i = 0
        rw [um]
        unfold up
        by_cases q : i = w
        · rw [if_pos q, if_pos q]
        · rw [if_neg q, if_neg q])
      rw [e]
      exact cntN_set (T := fun i => mk i - 1) (show mk w - 1 = 0 by omega) (by decide) hw
    · exact ⟨(q3 k hk).1, fun q => (q3 k hk).2 ((u0 _).mpr q)⟩
    · exact q4 x hx (fun q => hx2 ((u0 x).mp q))
    · simp only [List.length_append, List.length_singleton] at hk
      by_cases q : k = H.length
      · rw [q, getD_app2]
        exact ⟨hw, by rw [um, if_pos rfl], hh⟩
      · rw [getD_app1 (show k < H.length by omega)]
        have t := q5 k (by omega)
        refine ⟨t.1, ?_, t.2.2⟩
        rw [um]
        split
        · rfl
        · exact t.2.1
    · rcases u2 x hx2 with q | q
      · exact ⟨H.length, by simp, by rw [getD_app2, q]⟩
      · obtain ⟨k, hk, hk2⟩ := q6 x hx q
        exact ⟨k, by simp; omega, by rw [getD_app1 hk]; exact hk2⟩
    · rw [um]
      split
      · rfl
      · exact q8 x hx (by rcases he with z | z <;> omega) (fun q => hx2 ((u0 x).mp q)) hx3
    · rw [um]
      split
      · omega
      · exact q9 x
    · rw [um]
      split
      · rfl
      · exact hx
theorem dQ_app {L : LW} {sz : Nat → Nat} {R H : List Nat} {mk : Nat → Nat} {w : Nat} (hQ : dQ L sz 2187 R H mk) (hw : w < 2187) (hm : mk w = 0) : dQ L sz w (R ++ [w]) H (up mk w 1) := by
  obtain ⟨q1, q2, q3, q4, q5, q6, q7, q8, q9⟩ := hQ
  have um : ∀ x, up mk w 1 x = if x = w then 1 else mk x := fun _ => rfl
  refine ⟨?_, ?_, fun k hk => ?_, fun x hx hx2 => ?_, fun k hk => ?_, fun x hx hx2 => ?_, fun i j hi hj he => ?_, fun x hx hx1 hx2 hx3 => ?_, fun x => ?_⟩
  · rw [cntN_set hm (by decide) hw, q1]
    simp
  · rw [← q2]
    refine cntN_cg (fun i _ => ?_)
    show up mk w 1 i - 1 = 0 ↔ mk i - 1 = 0
    rw [um]
    by_cases q : i = w
    · rw [if_pos q, q, hm]
    · rw [if_neg q]
  · simp only [List.length_append, List.length_singleton] at hk
    by_cases q : k = R.length
    · rw [q, getD_app2]
      exact ⟨hw, by rw [um, if_pos rfl]; decide⟩
    · rw [getD_app1 (show k < R.length by omega)]
      refine ⟨(q3 k (by omega)).1, ?_⟩
      rw [um]
      split
      · decide
      · exact (q3 k (by omega)).2
  · rw [um] at hx2
    by_cases q : x = w
    · exact ⟨R.length, by simp, by rw [getD_app2, q]⟩
    · rw [if_neg q] at hx2
      obtain ⟨k, hk, hk2⟩ := q4 x hx hx2
      exact ⟨k, by simp; omega, by rw [getD_app1 hk]; exact hk2⟩
  · have t := q5 k hk
    refine ⟨t.1, ?_, t.2.2⟩
    rw [um]
    split
    · rename_i q
      rw [q, hm] at t
      exact absurd t.2.1 (by decide)
    · exact t.2.1
  · rw [um] at hx2
    by_cases q : x = w
    · rw [if_pos q] at hx2
      cases hx2
    · rw [if_neg q] at hx2
      exact q6 x hx hx2
  · simp only [List.length_append, List.length_singleton] at hi hj
    have no : ∀ k, k < R.length → R.getD k 0 ≠ w := fun k hk q => (q3 k hk).2 (by rw [q]; exact hm)
    by_cases qi : i = R.length
    · by_cases qj : j = R.length
      · omega
      · rw [qi, getD_app2, getD_app1 (show j < R.length by omega)] at he
        exact absurd he.symm (no j (by omega))
    · by_cases qj : j = R.length
      · rw [qj, getD_app2, getD_app1 (show i < R.length by omega)] at he
        exact absurd he (no i (by omega))
      · rw [getD_app1 (show i < R.length by omega), getD_app1 (show j < R.length by omega)] at he
        exact q7 i j (by omega) (by omega) he
  · rw [um, if_neg hx1] at hx2 ⊢
    exact q8 x hx (by omega) hx2 hx3
  · rw [um]
    split
    · omega
    · exact q9 x
theorem dQ_w {L : LW} {sz : Nat → Nat} {R H : List Nat} {mk : Nat → Nat} {w : Nat} (hQ : dQ L sz w R H mk) (ho : opM L (dg w) = false) : dQ L sz 2187 R H mk := by
  obtain ⟨q1, q2, q3, q4, q5, q6, q7, q8, q9⟩ := hQ
  refine ⟨q1, q2, q3, q4, q5, q6, q7, fun x hx hx1 hx2 hx3 => ?_, q9⟩
  by_cases q : x = w
  · rw [q, ho] at hx3
    cases hx3
  · exact q8 x hx q hx2 hx3
theorem lq_dw {σ σ' : hd_M} {q : Nat} {L : LW} (h : lq σ q L) (hq : hd_law q) (ha : ag dw σ σ') : lq σ' q L := lq_cg h (fun k h1 h2 => (ha k (by have := law_no hq h1 h2; simp [dw]; omega)).1)
theorem ag_dw {σ σ' : hd_M} (h : ag [78, 79, 80] σ σ') : ag dw σ σ' := ag_mo h (fun k hk => by simp [dw] at hk ⊢; omega)
/-- w is reached: marks of those reached stay -/
theorem sX0_reach {G : hd_G} {σ : hd_M} {P : hd_M → Prop} {q : Nat} {L : LW} {sz : Nat → Nat} {R H : List Nat} {mk : Nat → Nat} {J w : Nat} (hq : hd_law q) (hl : lq σ q L) (hL : LWok L) (hN : NV σ) (hP : dP σ L sz R H mk J) (hQ : dQ L sz 2187 R H mk) (hw : w < 2187) (hJ : J ≤ 15 * R.length) (h : ∀ σ' R' H' mk', ag dw σ σ' → NV σ' → dP σ' L sz R' H' mk' J → dQ L sz 2187 R' H' mk' → ext R R' → mk' w ≠ 0 → (∀ x, mk x ≠ 0 → mk' x ≠ 0) → P σ') : EVv G mX0_reach SH [.ref 87, .ref q, .int (nI w)] σ P := by
  obtain ⟨p1, p2, p3, p4, p5, p6⟩ := hP
  have hQ0 := hQ
  obtain ⟨q1, q2, q3, q4, q5, q6, q7, q8, q9⟩ := hQ
  have hle := q9 w
  refine wX0_reach _ _ ⟨hd_vn hw (by decide), ?_⟩
  rw [nI_clamp (show w < 2 ^ 31 by omega), p5 w hw]
  refine c_ne (mk w : Int) 0 rfl rfl (fun z => ?_) (fun z => ?_)
  · exact h σ R H mk ag_rf hN ⟨p1, p2, p3, p4, p5, p6⟩ hQ0 ext_rf (by omega) (fun _ z => z)
  · have z : mk w = 0 := by omega
    have hlt : R.length < 2187 := by
      rw [← q1]
      exact cntN_lt hw z
    rw [p1]
    refine b_le' (nI_lt (b := 2187) hlt (by decide)) ⟨hd_vn hw (by decide), fun s1 e1 => ?_⟩
    have f1 : s1.1 87 2 = nI R.length := by rw [e1, wI_ne (by decide), p1]
    rw [f1, nI_clamp (show R.length < 2 ^ 31 by omega)]
    refine ⟨hd_vn hlt (by decide), fun s2 e2 s3 e3 => ?_⟩
    have f2 : s2.1 87 2 = nI R.length := by rw [e2, wI_ne (by decide), f1]
    rw [f2, nI_1] at e3
    have r : ∀ k, k ≠ 87 → k ≠ 88 → k ≠ 90 → s3.1 k = σ.1 k := fun k h1 h2 h3 => by rw [e3, wI_ne h1, e2, wI_ne h2, e1, wI_ne h3]
    have um : ∀ x, up mk w 1 x = if x = w then 1 else mk x := fun _ => rfl
    have Q3 := dQ_app hQ0 hw z
    have a3 : ag dw σ s3 := by
      rw [e3, e2, e1]
      exact ag_wI (ag_wI (ag_wI ag_rf (by decide)) (by decide)) (by decide)
    have P3 : dP s3 L sz (R ++ [w]) H (up mk w 1) J := by
      refine ⟨?_, ?_, fun k hk => ?_, fun k hk => ?_, fun x hx => ?_, fun x hx => ?_⟩
      · rw [e3, wI_eq, if_pos rfl]
        simp
      · rw [e3, wI_eq, if_neg (by decide), e2, wI_ne (by decide), e1, wI_ne (by decide), p2]
      · simp only [List.length_append, List.length_singleton] at hk
        rw [e3, wI_ne (by decide), e2, wI_eq]
        by_cases q : k = R.length
        · rw [if_pos q, q, getD_app2]
        · rw [if_neg q, e1, wI_ne (by decide), getD_app1 (show k < R.length by omega)]
          exact p3 k (by omega)
      · rw [r 89 (by decide) (by decide) (by decide)]
        exact p4 k hk
      · rw [e3, wI_ne (by decide), e2, wI_ne (by decide), e1, wI_eq, um]
        by_cases q : x = w
        · rw [if_pos q, if_pos q]; rfl
        · rw [if_neg q, if_neg q]
          exact p5 x hx
      · rw [r 91 (by decide) (by decide) (by decide), ceL_ext ext_app hJ]
        exact lk2_cg (fun k _ => by rw [r 92 (by decide) (by decide) (by decide)]) (p6 x hx)
    have N3 : NV s3 := NV_cg hN (by rw [r 78 (by decide) (by decide) (by decide)]) (r 79 (by decide) (by decide) (by decide))
    have mm : ∀ x, mk x ≠ 0 → up mk w 1 x ≠ 0 := fun x hx => by
      rw [um]
      split
      · decide
      · exact hx
    refine sX4_isOpen hq (lq_dw hl hq a3) hL N3 hw (fun s4 a4 n4 => ?_)
    have P4 := dP_cg P3 (σ' := s4) (fun k h1 h2 => (a4 k (by simp; omega)).1)
    cases ho : opM L (dg w) with
    | false => exact b_eq rfl (h s4 _ H _ (ag_tr a3 (ag_dw a4)) n4 P4 (dQ_w Q3 ho) ext_app (by rw [um, if_pos rfl]; decide) mm)
    | true =>
      refine b_eq' (by decide) (sX0_hope P4 Q3 (Or.inl rfl) hw (by rw [um, if_pos rfl]; decide) (HP_open ho) (fun s6 H' mk' a6 c6 P6 Q6 x6 m6 z6 w6 => ?_))
      exact h s6 _ H' mk' (ag_tr (ag_tr a3 (ag_dw a4)) a6) (NV_cg n4 (by rw [c6 78 (by decide)]) (c6 79 (by decide))) P6 Q6 ext_app (by rw [w6]; decide) (fun x hx q => mm x hx ((z6 x).mpr q))
