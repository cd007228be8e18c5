theorem dg_lo {v k : Nat} (h : k < 6) : dg v k = v / 3 ^ k % 3 := if_neg (by omega)
theorem sX4_partsMoved {G : hd_G} {σ : hd_M} {P : Int32 → hd_M → Prop} {sh : hd_S} {v w : Nat} (hv : v < 2187) (hw : w < 2187) (h : P (nI (mvd (dg v) (dg w) 6)) σ) : EVi G mX4_partsMoved sh [.int (nI v), .int (nI w)] σ P := by
  refine wX4_partsMoved _ _ (fun X hX v1 e1 v2 e2 v3 e3 v4 e4 => ?_)
  have key : ∀ k, k ≤ 6 → hd_J G mX4_partsMoved X sh (0, 0) 10 [(2, .int (nI (mvd (dg v) (dg w) k))), (3, .int (nI (v / 3 ^ k))), (4, .int (nI (w / 3 ^ k))), (5, .int (nI k))] [] σ := by
    refine hd_upto (n := 6) (fun k => hd_J G mX4_partsMoved X sh (0, 0) 10 [(2, .int (nI (mvd (dg v) (dg w) k))), (3, .int (nI (v / 3 ^ k))), (4, .int (nI (w / 3 ^ k))), (5, .int (nI k))] [] σ) (fun k hk ih => ?_)
    have hvk : v / 3 ^ k ≤ v := Nat.div_le_self _ _
    have hwk : w / 3 ^ k ≤ w := Nat.div_le_self _ _
    refine wX4_partsMoved_10 hX _ _ _ _ (c_le 6 (k : Int) rfl rfl (fun h6 => ?_) (fun h6 => ⟨by decide, by decide, ?_⟩))
    · have hk6 : k = 6 := by omega
      subst hk6
      exact h
    · have hm : nI (v / 3 ^ k) - nI (v / 3 ^ k) / 3 * 3 = nI (v / 3 ^ k % 3) := pk_rem (d := 3) (by omega) (by decide) (by decide)
      have hm' : nI (w / 3 ^ k) - nI (w / 3 ^ k) / 3 * 3 = nI (w / 3 ^ k % 3) := pk_rem (d := 3) (by omega) (by decide) (by decide)
      have hd : nI (v / 3 ^ k) / 3 = nI (v / 3 ^ (k + 1)) := by
        rw [Nat.pow_succ, ← Nat.div_div_eq_div_mul]
        exact pk_div (d := 3) (by omega) (by decide) (by decide)
      have hd' : nI (w / 3 ^ k) / 3 = nI (w / 3 ^ (k + 1)) := by
        rw [Nat.pow_succ, ← Nat.div_div_eq_div_mul]
        exact pk_div (d := 3) (by omega) (by decide) (by decide)
      have ih := ih (by omega)
      rw [hm, hm', ← dg_lo (by omega), ← dg_lo (v := w) (by omega)]
      have b1 := dg_o7 hv k (by omega)
      have b2 := dg_o7 hw k (by omega)
      have hs : mvd (dg v) (dg w) (k + 1) = mvd (dg v) (dg w) k + (if dg v k ≠ dg w k then 1 else 0) := rfl
      rw [hs] at ih
      refine c_eq (dg v k : Int) (dg w k : Int) rfl rfl (fun he v1 e1 => ⟨by decide, fun v2 e2 => ⟨by decide, fun v3 e3 v4 e4 => ?_⟩⟩) (fun he v1 e1 => ⟨by decide, fun v2 e2 => ⟨by decide, fun v3 e3 v4 e4 => ?_⟩⟩)
      · rw [if_neg (by omega)] at ih
        rw [e1, e2, e3, e4, hd, hd', nI_1, show (0 : Int32) = nI 0 from rfl, nI_add]
        exact ih
      · rw [if_pos (by omega)] at ih
        rw [e1, e2, e3, e4, hd, hd', nI_1, nI_1]
        exact ih
  have k0 := key 0 (by decide)
  rw [Nat.pow_zero, Nat.div_one, Nat.div_one] at k0
  rw [e1, e2, e3, e4]
  exact k0
theorem clamp9_e {z : Int} (hz : cl_m z) : (if (0 : Int32) < (if zI z < (9 : Int32) then zI z else (9 : Int32)) then (if zI z < (9 : Int32) then zI z else (9 : Int32)) else (0 : Int32)) = nI (clamp9 z) := by
  have h1 : zI z < (9 : Int32) ↔ z < 9 := zI_lt (y := 9) (cl_m_r hz) ⟨by decide, by decide⟩
  have h2 : (0 : Int32) < zI z ↔ 0 < z := zI_lt (x := 0) ⟨by decide, by decide⟩ (cl_m_r hz)
  unfold clamp9
  by_cases a : z < 9
  · rw [if_pos (h1.mpr a)]
    by_cases b : 0 < z
    · rw [if_pos (h2.mpr b), if_neg (by omega), if_neg (by omega), nI_z]
      congr 1
      omega
    · rw [if_neg (fun y => b (h2.mp y))]
      by_cases c : z < 0
      · rw [if_pos c]
        rfl
      · have : z = 0 := by omega
        subst this
        rfl
  · rw [if_neg (fun y => a (h1.mp y)), if_pos (by decide), if_neg (by omega)]
    by_cases c : 9 < z
    · rw [if_pos c]
      rfl
    · have : z = 9 := by omega
      subst this
      rfl
theorem sX4_heardOf {G : hd_G} {σ : hd_M} {P : Int32 → hd_M → Prop} {q act v w : Nat} {L : LW} (hq : hd_law q) (hl : lq σ q L) (hL : LWok L) (hN : NV σ) (hv : v < 2187) (hw : w < 2187) (ha : act < 15) (h : ∀ σ', ag [78, 79, 80] σ σ' → NV σ' → P (nI (hrM L (dg v) (dg w) act)) σ') : EVi G mX4_heardOf SH [.ref 78, .ref q, .int (nI act), .int (nI v), .int (nI w)] σ P := by
  refine wX4_heardOf _ _ _ _ (law_k hq (sX2_has (r := 6) hq (by decide) hl ?_))
  cases hc : L.1 6 with
  | none =>
    refine b_ne' (by show zI 0 = 0; decide) (sX4_partsMoved hv hw ?_)
    have h := h σ ag_rf hN
    unfold hrM at h
    rw [hc] at h
    exact h
  | some cs =>
    refine b_ne (by show ¬ zI 1 = 0; decide) ?_
    have core : ∀ (on part : Int), cl_m on → cl_m part → on = (if act < 12 then ((act % 2 : Nat) : Int) else 0) → part = (if act < 12 then ((act / 2 : Nat) : Int) else -1) → ∀ s4, ag [78, 79] σ s4 → NI s4 (dg w) → s4.1 78 2 = nI w → EVi G mX4_valueOf SH [.ref 78, .ref q, .int (nI 6)] (hd_wI (hd_wI s4 79 7 (zI on)) 79 8 (zI part)) (fun y8 s7 => P (if (0 : Int32) < (if y8 < (9 : Int32) then y8 else (9 : Int32)) then (if y8 < (9 : Int32) then y8 else (9 : Int32)) else (0 : Int32)) s7) := by
      intro on part m1 m2 e1 e2 s4 a4 n4 w4
      have a5 : ag [78, 79, 80] σ (hd_wI (hd_wI s4 79 7 (zI on)) 79 8 (zI part)) := ag_wI (ag_wI (ag89 a4) (by decide)) (by decide)
      have n5 : NI (hd_wI (hd_wI s4 79 7 (zI on)) 79 8 (zI part)) (dg w) := NI_nam (NI_nam n4 (by decide) m1) (by decide) m2
      refine sRuleS hq (lq_ag hl hq a5) hL hc n5 (e := en (dg w) on part 0) (en_he n5 (fun _ => ⟨by rw [wI_eq, if_neg (by decide), wI_eq, if_pos rfl], m1⟩) (fun _ => ⟨by rw [wI_eq, if_pos rfl], m2⟩) (fun z => by omega)) (fun s7 z ez mz a7 => ?_)
      rw [clamp9_e mz]
      have h := h s7 (ag_tr a5 (ag80 a7)) ⟨w, hw, by rw [(a7 78 (by decide)).1, wI_ne (by decide), wI_ne (by decide)]; exact w4, NI_ag n5 a7⟩
      unfold hrM at h
      rw [hc] at h
      have h : P (nI (clamp9 (cl_z (en (dg w) (if act < 12 then ((act % 2 : Nat) : Int) else 0) (if act < 12 then ((act / 2 : Nat) : Int) else -1) 0) cs))) s7 := h
      rw [← e1, ← e2, ez] at h
      exact h
    refine c_le 12 (act : Int) rfl rfl (fun h12 v3 e3 => ?_) (fun h12 v3 e3 => ?_)
    · rw [e3]
      refine sX4_show hN hw (fun s4 a4 n4 w4 => b_eq rfl ⟨vl_7, fun s5 e5 => b_eq rfl ⟨vl_8, fun s6 e6 => ?_⟩⟩)
      have e5 : s5 = hd_wI s4 79 7 (zI 0) := e5
      have e6 : s6 = hd_wI s5 79 8 (zI (-1)) := e6
      rw [e6, e5]
      exact core 0 (-1) ⟨by decide, by decide⟩ ⟨by decide, by decide⟩ (by rw [if_neg (by omega)]) (by rw [if_neg (by omega)]) s4 a4 n4 w4
    · rw [e3]
      refine sX4_show hN hw (fun s4 a4 n4 w4 => b_eq' (by decide) ⟨by decide, vl_7, fun s5 e5 => b_eq' (by decide) ⟨by decide, vl_8, fun s6 e6 => ?_⟩⟩)
      rw [show nI act - nI act / 2 * 2 = nI (act % 2) from pk_rem (d := 2) (by omega) (by decide) (by decide), k_7] at e5
      rw [show nI act / 2 = nI (act / 2) from pk_div (d := 2) (by omega) (by decide) (by decide), k_8] at e6
      rw [e6, e5]
      exact core ((act % 2 : Nat) : Int) ((act / 2 : Nat) : Int) ⟨by omega, by omega⟩ ⟨by omega, by omega⟩ (by rw [if_pos (by omega)]) (by rw [if_pos (by omega)]) s4 a4 n4 w4
theorem sX4_isOpen {G : hd_G} {σ : hd_M} {P : Int32 → hd_M → Prop} {q v : Nat} {L : LW} (hq : hd_law q) (hl : lq σ q L) (hL : LWok L) (hN : NV σ) (hv : v < 2187) (h : ∀ σ', ag [78, 79, 80] σ σ' → NV σ' → P (zI (cl_bit (opM L (dg v)))) σ') : EVi G mX4_isOpen SH [.ref 78, .ref q, .int (nI v)] σ P := by
  refine wX4_isOpen _ _ (law_k hq (sX2_has (r := 7) hq (by decide) hl ?_))
  unfold opM rB at h
  cases hc : L.1 7 with
  | none =>
    rw [hc] at h
    exact b_ne' (by show zI 0 = 0; decide) ⟨Or.inl rfl, h σ ag_rf hN⟩
  | some cs =>
    rw [hc] at h
    refine b_ne (by show ¬ zI 1 = 0; decide) (sX4_show hN hv (fun s4 a4 n4 w4 => ?_))
    have a4 := ag89 a4
    refine sRuleB (r := 7) hq (lq_ag hl hq a4) hL (by decide) (by decide) hc n4 (e := en (dg v) 0 (-1) 0) (en_he n4 (fun z => absurd z (by decide)) (fun z => absurd z (by decide)) (fun z => absurd z (by decide))) (fun s7 a7 => ?_)
    have h : P (zI (cl_bit (cl_b (en (dg v) 0 (-1) 0) cs))) s7 := h s7 (ag_tr a4 (ag80 a7)) ⟨v, hv, by rw [(a7 78 (by decide)).1]; exact w4, NI_ag n4 a7⟩
    cases hb : cl_b (en (dg v) 0 (-1) 0) cs with
    | true =>
      rw [hb] at h
      exact b_eq' (by decide) ⟨Or.inr rfl, h⟩
    | false =>
      rw [hb] at h
      exact b_eq (by decide) ⟨Or.inl rfl, h⟩
/-- how far the ball rolls, n places at most -/
def rollM (L : LW) (f : Nat → Nat) (way : Int) : Nat → Int → Int
  | 0, b => b
  | n + 1, b => if 0 ≤ b + way ∧ b + way ≤ 9 ∧ spM L f (b + way) = false then rollM L f way n (b + way) else b
def wayM (f : Nat → Nat) : Int := if f 6 = 0 then 0 else if f 6 = 1 then -1 else 1
def ballM (L : LW) (f : Nat → Nat) (b : Int) : Int := if wayM f = 0 then b else rollM L f (wayM f) 9 b
theorem NV_ag {σ σ' : hd_M} (h : NV σ) (ha : ag [80] σ σ') : NV σ' := by
  obtain ⟨v, h1, h2, h3⟩ := h
  exact ⟨v, h1, by rw [(ha 78 (by decide)).1]; exact h2, NI_ag h3 ha⟩
theorem sX4_ballAfter {G : hd_G} {σ : hd_M} {P : Int32 → hd_M → Prop} {q v : Nat} {b : Int} {L : LW} (hq : hd_law q) (hl : lq σ q L) (hL : LWok L) (hN : NV σ) (hv : v < 2187) (hb : 0 ≤ b ∧ b ≤ 9) (h : ∀ σ', ag [78, 79, 80] σ σ' → NV σ' → P (zI (ballM L (dg v) b)) σ') : EVi G mX4_ballAfter SH [.ref 78, .ref q, .int (nI v), .int (zI b)] σ P := by
  refine wX4_ballAfter _ _ _ (fun X hX => sX4_show hN hv (fun s4 a4 n4 w4 => ⟨vl_6, fun v2 e2 => ?_⟩))
  rw [k_6, n4.1 6 (by decide)] at e2
  have h6 := n4.2.1 6 (by decide)
  have key : ∀ (way : Int), way = -1 ∨ way = 1 → ∀ (n k : Nat) (c : Int) (s : hd_M), k + n = 9 → 0 ≤ c ∧ c ≤ 9 → ag [78, 79, 80] σ s → NI s (dg v) → s.1 78 2 = nI v → (∀ σ', ag [78, 79, 80] σ σ' → NV σ' → P (zI (rollM L (dg v) way n c)) σ') → hd_J G mX4_ballAfter X SH (0, 0) 42 [(0, .ref 78), (1, .ref q), (5, .int (zI way)), (6, .int (zI c)), (7, .int (nI k))] [] s := by
    intro way hway n
    induction n with
    | zero =>
      intro k c s hk hc hs hn hw hp
      refine wX4_ballAfter_42 hX _ _ _ _ (b_le (by rw [show k = 9 by omega]; decide) (hp s hs ⟨v, hv, hw, hn⟩))
    | succ n ih =>
      intro k c s hk hc hs hn hw hp
      have wz : ¬ zI way = 0 := by rcases hway with rfl | rfl <;> decide
      refine wX4_ballAfter_42 hX _ _ _ _ (b_le' (nI_lt (b := 9) (by omega) (by decide)) (b_eq' wz (fun v1 e1 => ⟨vl_9, fun s2 e2 => ?_⟩)))
      rw [zI_add] at e1
      rw [e1, k_9] at e2
      have m2 : cl_m (c + way) := ⟨by omega, by omega⟩
      have a2 : ag [78, 79, 80] σ s2 := by rw [e2]; exact ag_wI hs (by decide)
      have n2 : NI s2 (dg v) := by rw [e2]; exact NI_nam hn (by decide) m2
      have w2 : s2.1 78 2 = nI v := by rw [e2, wI_ne (by decide)]; exact hw
      have r9 : s2.1 79 9 = zI (c + way) := by rw [e2, wI_eq, if_pos rfl]
      have stop : ¬ (0 ≤ c + way ∧ c + way ≤ 9 ∧ spM L (dg v) (c + way) = false) → ∀ σ', ag [78, 79, 80] σ σ' → NV σ' → P (zI c) σ' := by
        intro hn σ' x1 x2
        have := hp σ' x1 x2
        unfold rollM at this
        rw [if_neg hn] at this
        exact this
      have goon : 0 ≤ c + way ∧ c + way ≤ 9 → spM L (dg v) (c + way) = false → ∀ s7, ag [80] s2 s7 → hd_J G mX4_ballAfter X SH (0, 0) 42 [(0, .ref 78), (1, .ref q), (5, .int (zI way)), (6, .int (zI (c + way))), (7, .int (nI k + 1))] [] s7 := by
        intro h1 h2 s7 a7
        rw [nI_1]
        refine ih (k + 1) (c + way) s7 (by omega) h1 (ag_tr a2 (ag80 a7)) (NI_ag n2 a7) (by rw [(a7 78 (by decide)).1]; exact w2) (fun σ' x1 x2 => ?_)
        have := hp σ' x1 x2
        unfold rollM at this
        rw [if_pos ⟨h1.1, h1.2, h2⟩] at this
        exact this
      rw [e1]
      refine c_lt (c + way) 0 rfl rfl (fun h1 => stop (fun z => by omega) s2 a2 ⟨v, hv, w2, n2⟩) (fun h1 => c_lt 9 (c + way) rfl rfl (fun h2 => stop (fun z => by omega) s2 a2 ⟨v, hv, w2, n2⟩) (fun h2 => law_k hq (sX2_has (r := 8) hq (by decide) (lq_ag hl hq a2) ?_)))
      cases hc : L.1 8 with
      | none =>
        refine b_eq (by show zI 0 = 0; decide) (fun v5 e5 v6 e6 => ?_)
        rw [e5, e6]
        exact goon ⟨h1, h2⟩ (by unfold spM rB; rw [hc]) s2 ag_rf
      | some cs =>
        refine b_eq' (by show ¬ zI 1 = 0; decide) (sRuleB (r := 8) hq (lq_ag hl hq a2) hL (by decide) (by decide) hc n2 (e := en (dg v) 0 (-1) (c + way)) (en_he n2 (fun z => absurd z (by decide)) (fun z => absurd z (by decide)) (fun _ => ⟨r9, m2⟩)) (fun s7 a7 => ?_))
        cases hb : cl_b (en (dg v) 0 (-1) (c + way)) cs with
        | true =>
          refine b_eq' (by decide) (stop (fun z => ?_) s7 (ag_tr a2 (ag80 a7)) ⟨v, hv, by rw [(a7 78 (by decide)).1]; exact w2, NI_ag n2 a7⟩)
          have := z.2.2
          unfold spM rB at this
          rw [hc] at this
          have : cl_b (en (dg v) 0 (-1) (c + way)) cs = false := this
          rw [hb] at this
          cases this
        | false =>
          refine b_eq (by decide) (fun v5 e5 v6 e6 => ?_)
          rw [e5, e6]
          exact goon ⟨h1, h2⟩ (by unfold spM rB; rw [hc]; exact hb) s7 a7
  have a4 := ag89 a4
  rw [e2]
  unfold ballM wayM at h
  refine c_ne (dg v 6 : Int) 0 rfl rfl (fun hne => c_ne (dg v 6 : Int) 1 rfl rfl (fun hne1 v3 e3 v4 e4 v5 e5 => ?_) (fun he1 v3 e3 v4 e4 v5 e5 => ?_)) (fun he v3 e3 v4 e4 v5 e5 => ?_)
  · rw [e3, e4, e5]
    rw [if_neg (by omega : ¬ dg v 6 = 0), if_neg (by omega : ¬ dg v 6 = 1), if_neg (by decide)] at h
    exact key 1 (Or.inr rfl) 9 0 b s4 rfl hb a4 n4 w4 h
  · rw [e3, e4, e5]
    rw [if_neg (by omega : ¬ dg v 6 = 0), if_pos (by omega : dg v 6 = 1), if_neg (by decide)] at h
    exact key (-1) (Or.inl rfl) 9 0 b s4 rfl hb a4 n4 w4 h
  · rw [e3, e4, e5]
    rw [if_pos (by omega : dg v 6 = 0), if_pos rfl] at h
    exact wX4_ballAfter_42 hX _ _ _ _ (b_le' (by decide) (b_eq rfl (h s4 a4 ⟨v, hv, w4, n4⟩)))
