def oI : Option Nat → Int32
  | none => -1
  | some w => nI w
def afM (L : LW) (sz : Nat → Nat) (v act : Nat) : Option Nat := if canM L sz (dg v) act = true then some (nm (mvM L sz (dg v) act)) else none
theorem afM_s {L : LW} {sz : Nat → Nat} {v act : Nat} (h : canM L sz (dg v) act = true) : afM L sz v act = some (nm (mvM L sz (dg v) act)) := if_pos h
theorem afM_n {L : LW} {sz : Nat → Nat} {v act : Nat} (h : canM L sz (dg v) act = false) : afM L sz v act = none := if_neg (by rw [h]; decide)
theorem canM_t {L : LW} {sz f : Nat → Nat} {act : Nat} (h : 12 ≤ act) : canM L sz f act = decide (f 6 ≠ act - 12) := if_pos h
theorem canM_p {L : LW} {sz f : Nat → Nat} {act : Nat} (h : act < 12) : canM L sz f act = (isP sz (act / 2) (toP f act) && rB L (act / 2) (en f (act % 2 : Nat) (act / 2 : Nat) 0) true) := if_neg (by omega)
theorem mvM_t {L : LW} {sz f : Nat → Nat} {act : Nat} (h : 12 ≤ act) : mvM L sz f act = setF sz (18 + (act - 12)) L.2.1 (up f 6 (act - 12)) := if_pos h
theorem mvM_p {L : LW} {sz f : Nat → Nat} {act : Nat} (h : act < 12) : mvM L sz f act = setF sz (act / 2 * 3 + (toP f act).toNat) L.2.1 (up f (act / 2) (toP f act).toNat) := if_neg (by omega)
theorem en_he {σ : hd_M} {f : Nat → Nat} {on part at' : Int} {r : Nat} (hN : NI σ f) (h7 : r ≤ 6 → σ.1 79 7 = zI on ∧ cl_m on) (h8 : r = 6 → σ.1 79 8 = zI part ∧ cl_m part) (h9 : r = 8 → σ.1 79 9 = zI at' ∧ cl_m at') : ∀ k, k < 10 → al r k = true → σ.1 79 k = zI (en f on part at' k) ∧ cl_m (en f on part at' k) := by
  intro k hk ha
  unfold al at ha
  simp at ha
  unfold en
  by_cases h : k < 7
  · rw [if_pos h, hN.1 k h]
    exact ⟨rfl, nI_m (hN.2.1 k h)⟩
  · rw [if_neg h]
    by_cases e7 : k = 7
    · rw [if_pos e7, e7]
      exact h7 (by omega)
    · rw [if_neg e7]
      by_cases e8 : k = 8
      · rw [if_pos e8, e8]
        exact h8 (by omega)
      · rw [if_neg e8, show k = 9 by omega]
        exact h9 (by omega)
theorem NV_of {σ : hd_M} {f : Nat → Nat} (hN : NI σ f) : NV (hd_wI σ 78 2 (nI (nm f))) := by
  refine ⟨nm f, nm_lt hN.2.1, by rw [wI_eq, if_pos rfl], ?_⟩
  have : NI (hd_wI σ 78 2 (nI (nm f))) f := by
    unfold NI
    rw [wI_ne (by decide)]
    exact hN
  exact NI_cg this (fun k hk => (dg_nm hN.2.1 k hk).symm)
theorem sX4_tilted {G : hd_G} {σ : hd_M} {P : Int32 → hd_M → Prop} {q t v : Nat} {L : LW} {sz : Nat → Nat} (hq : hd_law q) (hl : lq σ q L) (hL : LWok L) (hS : SZ σ sz) (hN : NI σ (dg v)) (hv : σ.1 78 2 = nI v) (hv2 : v < 2187) (ht : t < 3) (h : ∀ σ', ag [78, 79, 80] σ σ' → NV σ' → P (oI (afM L sz v (12 + t))) σ') : EVi G mX4_tilted SH [.ref 78, .ref q, .int (nI t)] σ P := by
  have h6 := hN.2.1 6 (by decide)
  refine wX4_tilted _ _ ⟨vl_6, ?_⟩
  rw [k_6, hN.1 6 (by decide)]
  refine c_ne (dg v 6 : Int) (t : Int) rfl rfl (fun hne => ⟨vl_6, fun s1 e1 => ?_⟩) (fun heq => ?_)
  · rw [e1]
    refine wX7_causeOfTilt _ ?_
    rw [show (18 : Int32) = nI 18 from rfl, nI_add]
    have a1 : ag [79] σ (hd_wI σ 79 6 (nI t)) := ag_wI ag_rf (by decide)
    refine sX4_setBy hq (lq_ag hl hq (ag79 a1)) hL (SZ_ag hS (ag79 a1)) (NI_set hN (by decide) ht) (by omega) (fun σ2 a2 n2 => ?_)
    refine sX4_gather n2 ?_
    have hc : afM L sz v (12 + t) = some (nm (setF sz (18 + t) L.2.1 (up (dg v) 6 t))) := by
      rw [afM_s (by rw [canM_t (by omega)]; simp; omega), mvM_t (by omega), show 12 + t - 12 = t by omega]
    rw [hc] at h
    exact h _ (ag_wI (ag79 (ag_tr a1 a2)) (by decide)) (NV_of n2)
  · have hc : afM L sz v (12 + t) = none := by
      rw [afM_n (by rw [canM_t (by omega)]; simp; omega)]
    rw [hc] at h
    exact h σ ag_rf ⟨v, hv2, hv, hN⟩
theorem sX4_pushed {G : hd_G} {σ : hd_M} {P : Int32 → hd_M → Prop} {q act v : Nat} {L : LW} {sz : Nat → Nat} (hq : hd_law q) (hl : lq σ q L) (hL : LWok L) (hS : SZ σ sz) (hN : NI σ (dg v)) (hv : σ.1 78 2 = nI v) (hv2 : v < 2187) (ht : act < 12) (h : ∀ σ', ag [78, 79, 80] σ σ' → NV σ' → P (oI (afM L sz v act)) σ') : EVi G mX4_pushed SH [.ref 78, .ref q, .int (nI (act / 2)), .int (nI (act % 2))] σ P := by
  have hp : act / 2 < 6 := by omega
  have h6 := hN.2.1 (act / 2) (by omega)
  refine wX4_pushed _ _ _ (fun X hX => ⟨hd_vn (by omega) (by decide), ?_⟩)
  rw [nI_clamp (by omega), hN.1 _ (by omega)]
  have go : ∀ v1 : Int32, v1 = zI (toP (dg v) act) → EVi G mX4_isPlace SH [.ref 78, .int (nI (act / 2)), .int v1] σ (fun y3 s2 => (¬ y3 = 0 → vp_in 7 10 ∧ (∀ s4, s4 = hd_wI s2 79 ((7 : Int32).toNatClampNeg) (nI (act % 2)) → hd_k SH q 12 (fun _ => EVi G mX2_has SH [.ref q, .int (nI (act / 2))] s4 (fun y6 s5 => (y6 = 0 → hd_J G mX4_pushed X SH (0, 0) 58 [(0, .ref 78), (1, .ref q), (2, .int (nI (act / 2))), (4, .int v1)] [] s5) ∧ (¬ y6 = 0 → EVi G mX4_valueOf SH [.ref 78, .ref q, .int (nI (act / 2))] s5 (fun y8 s7 => (¬ y8 = 0 → hd_J G mX4_pushed X SH (0, 0) 58 [(0, .ref 78), (1, .ref q), (2, .int (nI (act / 2))), (4, .int v1)] [] s7) ∧ (y8 = 0 → P (-1) s7))))))) ∧ (y3 = 0 → P (-1) s2)) := by
    intro v1 e1
    rw [e1]
    have hz : -1000 < toP (dg v) act ∧ toP (dg v) act < 1000 := by unfold toP; split <;> omega
    refine sX4_isPlace hS hp hz ?_
    by_cases hi : isP sz (act / 2) (toP (dg v) act) = true
    · rw [hi]
      refine b_ne (by decide) ⟨vl_7, fun s4 e4 => law_k hq ?_⟩
      have a4 : ag [78, 79, 80] σ s4 := by rw [e4]; exact ag_wI ag_rf (by decide)
      have n4 : NI s4 (dg v) := by rw [e4]; exact NI_nam (z := ((act % 2 : Nat) : Int)) hN (by decide) ⟨by omega, by omega⟩
      have s42 : s4.1 78 2 = nI v := by rw [e4, wI_ne (by decide)]; exact hv
      have s47 : s4.1 79 7 = zI ((act % 2 : Nat) : Int) := by rw [e4, k_7, wI_eq, if_pos rfl]; rfl
      have fin : ∀ s7, ag [80] s4 s7 → rB L (act / 2) (en (dg v) (act % 2 : Nat) (act / 2 : Nat) 0) true = true → hd_J G mX4_pushed X SH (0, 0) 58 [(0, .ref 78), (1, .ref q), (2, .int (nI (act / 2))), (4, .int (zI (toP (dg v) act)))] [] s7 := by
        intro s7 a7 hr
        have hi2 : 0 ≤ toP (dg v) act ∧ toP (dg v) act < sz (act / 2) := by simpa [isP] using hi
        have hs3 := (hS _ hp).2
        have a7' := ag_tr a4 (ag80 a7)
        have n7 := NI_ag n4 a7
        have hto : zI (toP (dg v) act) = nI (toP (dg v) act).toNat := by rw [nI_z]; congr 1; omega
        refine wX4_pushed_58 hX _ _ _ ⟨hd_vn (by omega) (by decide), fun s1 e1 => ?_⟩
        rw [nI_clamp (by omega), hto] at e1
        rw [e1, hto]
        refine wX7_causeOfPush _ _ ?_
        rw [show (3 : Int32) = nI 3 from rfl, pk_mul, nI_add]
        have a1 : ag [78, 79, 80] σ (hd_wI s7 79 (act / 2) (nI (toP (dg v) act).toNat)) := ag_wI a7' (by decide)
        refine sX4_setBy hq (lq_ag hl hq a1) hL (SZ_ag hS a1) (NI_set n7 (by omega) (by omega)) (by omega) (fun σ2 a2 n2 => ?_)
        refine sX4_gather n2 ?_
        have hc : afM L sz v act = some (nm (setF sz (act / 2 * 3 + (toP (dg v) act).toNat) L.2.1 (up (dg v) (act / 2) (toP (dg v) act).toNat))) := by
          rw [afM_s (by rw [canM_p ht, hi, hr]; rfl), mvM_p ht]
        rw [hc] at h
        exact h _ (ag_wI (ag_tr a1 (ag79 a2)) (by decide)) (NV_of n2)
      refine sX2_has hq (by omega) (lq_ag hl hq a4) ?_
      cases hc : L.1 (act / 2) with
      | none => exact b_eq (by decide) (fin s4 ag_rf (by unfold rB; rw [hc]))
      | some cs =>
        refine b_eq' (by show ¬ zI 1 = 0; decide) (sRuleB hq (lq_ag hl hq a4) hL (by omega) (by omega) hc n4 (e := en (dg v) (act % 2 : Nat) (act / 2 : Nat) 0) (en_he n4 (fun _ => ⟨s47, by omega, by omega⟩) (fun z => by omega) (fun z => by omega)) (fun s7 a7 => ?_))
        cases hb : cl_b (en (dg v) (act % 2 : Nat) (act / 2 : Nat) 0) cs with
        | true => exact b_ne (by decide) (fin s7 a7 (by unfold rB; rw [hc]; exact hb))
        | false =>
          refine b_ne' (by decide) ?_
          have hc : afM L sz v act = none := by
            rw [afM_n (by rw [canM_p ht]; unfold rB; rw [hc]; show (_ && cl_b _ _) = _; rw [hb, Bool.and_false])]
          rw [hc] at h
          exact h s7 (ag_tr a4 (ag80 a7)) ⟨v, hv2, by rw [(a7 78 (by decide)).1]; exact s42, NI_ag n4 a7⟩
    · have hi : isP sz (act / 2) (toP (dg v) act) = false := by simpa using hi
      rw [hi]
      refine b_ne' (by decide) ?_
      have hc : afM L sz v act = none := by
        rw [afM_n (by rw [canM_p ht, hi]; rfl)]
      rw [hc] at h
      exact h σ ag_rf ⟨v, hv2, hv, hN⟩
  refine c_ne ((act % 2 : Nat) : Int) 1 rfl rfl (fun hne v1 e1 => ?_) (fun heq v1 e1 => ?_)
  · refine go v1 ?_
    rw [e1, nI_z, show (-1 : Int32) = zI (-1) from rfl, zI_add]
    unfold toP
    rw [if_neg (by omega)]
  · refine go v1 ?_
    rw [e1, nI_z, show (1 : Int32) = zI 1 from rfl, zI_add]
    unfold toP
    rw [if_pos (by omega)]
theorem sX4_standingAfter {G : hd_G} {σ : hd_M} {P : Int32 → hd_M → Prop} {q act v : Nat} {L : LW} {sz : Nat → Nat} (hq : hd_law q) (hl : lq σ q L) (hL : LWok L) (hS : SZ σ sz) (hN : NV σ) (hv : v < 2187) (ha : act < 15) (h : ∀ σ', ag [78, 79, 80] σ σ' → NV σ' → P (oI (afM L sz v act)) σ') : EVi G mX4_standingAfter SH [.ref 78, .ref q, .int (nI act), .int (nI v)] σ P := by
  refine wX4_standingAfter _ _ _ (b_lt' (nI_pos' (by omega)) (b_lt (nI_lt (b := 15) ha (by decide)) ?_))
  refine sX4_show hN hv (fun s1 a1 n1 v1 => ?_)
  have a1 := ag89 a1
  refine c_lt (act : Int) 12 rfl rfl (fun h12 => ⟨by decide, by decide, ?_⟩) (fun h12 => ?_)
  · rw [show nI act / 2 = nI (act / 2) from pk_div (d := 2) (by omega) (by decide) (by decide), show nI act - nI (act / 2) * 2 = nI (act % 2) by rw [← show nI act / 2 = nI (act / 2) from pk_div (d := 2) (by omega) (by decide) (by decide)]; exact pk_rem (d := 2) (by omega) (by decide) (by decide)]
    exact sX4_pushed hq (lq_ag hl hq a1) hL (SZ_ag hS a1) n1 v1 hv (by omega) (fun σ' a' n' => h σ' (ag_tr a1 a') n')
  · rw [show nI act - 12 = nI (act - 12) from pk_sub (b := 12) (by omega)]
    refine sX4_tilted hq (lq_ag hl hq a1) hL (SZ_ag hS a1) n1 v1 hv (by omega) (fun σ' a' n' => ?_)
    have := h σ' (ag_tr a1 a') n'
    rwa [show 12 + (act - 12) = act by omega]
theorem afM_lt {L : LW} {sz : Nat → Nat} {v act w : Nat} (hL : LWok L) (hs : ∀ p, p < 6 → sz p ≤ 3) (hv : v < 2187) (ha : act < 15) (h : afM L sz v act = some w) : w < 2187 := by
  unfold afM at h
  split at h
  · rename_i hc
    cases h
    refine nm_lt ?_
    unfold mvM
    split
    · exact setF_o7 hL.2.2.1 (up_o7 (dg_o7 hv) (by omega))
    · rename_i h12
      refine setF_o7 hL.2.2.1 (up_o7 (dg_o7 hv) ?_)
      unfold canM at hc
      rw [if_neg h12] at hc
      have := hs (act / 2) (by omega)
      simp [isP] at hc
      omega
  · cases h
theorem sX4_standingOrSame {G : hd_G} {σ : hd_M} {P : Int32 → hd_M → Prop} {q act v : Nat} {L : LW} {sz : Nat → Nat} (hq : hd_law q) (hl : lq σ q L) (hL : LWok L) (hS : SZ σ sz) (hN : NV σ) (hv : v < 2187) (ha : act < 15) (h : ∀ σ', ag [78, 79, 80] σ σ' → NV σ' → P (nI ((afM L sz v act).getD v)) σ') : EVi G mX4_standingOrSame SH [.ref 78, .ref q, .int (nI act), .int (nI v)] σ P := by
  refine wX4_standingOrSame _ _ _ (sX4_standingAfter hq hl hL hS hN hv ha (fun σ' a n v3 e3 => ?_))
  rw [e3]
  have h := h σ' a n
  cases hc : afM L sz v act with
  | none =>
    rw [hc] at h
    exact b_ne' rfl h
  | some w =>
    rw [hc] at h
    have := afM_lt hL (fun p hp => (hS p hp).2) hv ha hc
    exact (c_ne (w : Int) (-1) rfl rfl (fun _ => h) (fun z => by omega))
