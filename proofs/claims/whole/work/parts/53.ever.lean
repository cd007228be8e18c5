def dC (L : LW) (sz : Nat → Nat) (R : List Nat) (mk : Nat → Nat) (J : Nat) : Prop := ∀ j, j < J → ∀ u, afM L sz (R.getD (j / 15) 0) (j % 15) = some u → mk u ≠ 0
theorem sX0_follow {G : hd_G} {σ : hd_M} {P : hd_M → Prop} {q : Nat} {L : LW} {sz : Nat → Nat} {R H : List Nat} {mk : Nat → Nat} {i act : Nat} (hq : hd_law q) (hl : lq σ q L) (hL : LWok L) (hS : SZ σ sz) (hN : NV σ) (hP : dP σ L sz R H mk (15 * i + act)) (hQ : dQ L sz 2187 R H mk) (hC : dC L sz R mk (15 * i + act)) (hi : i < R.length) (ha : act < 15) (h : ∀ σ' R' H' mk', ag dw σ σ' → NV σ' → dP σ' L sz R' H' mk' (15 * i + (act + 1)) → dQ L sz 2187 R' H' mk' → ext R R' → dC L sz R' mk' (15 * i + (act + 1)) → P σ') : EVv G mX0_follow SH [.ref 87, .ref q, .int (nI (R.getD i 0)), .int (nI act)] σ P := by
  have hu := (hQ.2.2.1 i hi).1
  have hR7 : R.length ≤ 2187 := by rw [← hQ.1]; exact cntN_le _ _
  generalize hj : 15 * i + act = j at hP hC
  have hj15 : j / 15 = i := by omega
  have hjm : j % 15 = act := by omega
  have hj1 : 15 * i + (act + 1) = j + 1 := by omega
  rw [hj1] at h
  generalize hud : R.getD i 0 = u at hu
  refine wX0_follow _ _ _ (sX4_standingAfter hq hl hL hS hN hu ha (fun s1 a1 n1 v3 e3 => ?_))
  rw [e3]
  have P1 := dP_cg hP (σ' := s1) (fun k h1 h2 => (a1 k (by simp; omega)).1)
  have ce : ∀ w, ceL L sz R w (j + 1) = if afM L sz u act = some w then (u * 15 + act) :: ceL L sz R w j else ceL L sz R w j := fun w => by
    show (if afM L sz (R.getD (j / 15) 0) (j % 15) = some w then (R.getD (j / 15) 0 * 15 + j % 15) :: ceL L sz R w j else ceL L sz R w j) = _
    rw [hj15, hjm, hud]
  cases haf : afM L sz u act with
  | none =>
    refine b_eq rfl (h s1 R H mk (ag_dw a1) n1 ?_ hQ ext_rf (fun j' hj' x hx => ?_))
    · obtain ⟨p1, p2, p3, p4, p5, p6⟩ := P1
      refine ⟨p1, p2, p3, p4, p5, fun w hw => ?_⟩
      rw [ce w, haf, if_neg (by simp)]
      exact p6 w hw
    · by_cases q : j' = j
      · rw [q, hj15, hjm, hud, haf] at hx
        cases hx
      · exact hC j' (by omega) x hx
  | some w =>
    have hw := afM_lt hL (fun p hp => (hS p hp).2) hu ha haf
    obtain ⟨p1, p2, p3, p4, p5, p6⟩ := P1
    refine c_eq (w : Int) (-1) rfl rfl (fun z => by omega) (fun _ => fun v4 e4 => ?_)
    have e4 : v4 = nI (u * 15 + act) := by rw [e4, show (15 : Int32) = nI 15 from rfl, pk_mul, nI_add]
    rw [e4]
    show vp_in (nI w) 2187 ∧ _
    refine ⟨hd_vn hw (by decide), hd_vn (by omega) (by decide), fun s5 e5 => ⟨hd_vn hw (by decide), fun s6 e6 => ?_⟩⟩
    rw [nI_clamp (by omega), show (oI (some w)).toNatClampNeg = w from nI_clamp (by omega)] at e5
    rw [show (oI (some w)).toNatClampNeg = w from nI_clamp (by omega)] at e6
    have r : ∀ k, k ≠ 91 → k ≠ 92 → s6.1 k = s1.1 k := fun k h1 h2 => by rw [e6, wI_ne h1, e5, wI_ne h2]
    have a6 : ag dw s1 s6 := by
      rw [e6, e5]
      exact ag_wI (ag_wI ag_rf (by decide)) (by decide)
    have N6 : NV s6 := NV_cg n1 (by rw [r 78 (by decide) (by decide)]) (r 79 (by decide) (by decide))
    have c92 : ∀ k, k ≠ u * 15 + act → s6.1 92 k = s1.1 92 k := fun k hk => by rw [e6, wI_ne (by decide), e5, wI_eq, if_neg hk]
    have P6 : dP s6 L sz R H mk (j + 1) := by
      refine ⟨by rw [r 87 (by decide) (by decide)]; exact p1, by rw [r 87 (by decide) (by decide)]; exact p2, fun k hk => by rw [r 88 (by decide) (by decide)]; exact p3 k hk, fun k hk => by rw [r 89 (by decide) (by decide)]; exact p4 k hk, fun x hx => by rw [r 90 (by decide) (by decide)]; exact p5 x hx, fun x hx => ?_⟩
      have old : lk2 s6 (s1.1 91 x) (ceL L sz R x j) := by
        refine lk2_cg (fun k hk => c92 k (fun q => ?_)) (p6 x hx)
        obtain ⟨j', h1, h2, h3⟩ := ceL_mem hk
        rw [q] at h2
        have hl' : j' / 15 < R.length := by omega
        have hm1 : j' % 15 < 15 := Nat.mod_lt _ (by decide)
        have h4 : R.getD (j' / 15) 0 = R.getD i 0 := by rw [hud]; omega
        have h5 := hQ.2.2.2.2.2.2.1 (j' / 15) i hl' hi h4
        rw [h4, hud] at h2
        omega
      rw [ce x, haf]
      have w91 : s6.1 91 x = if x = w then nI (u * 15 + act) else s1.1 91 x := by rw [e6, wI_eq, e5, wI_ne (by decide)]
      rw [w91]
      by_cases q : x = w
      · rw [if_pos q, if_pos (by rw [q])]
        refine ⟨rfl, by omega, ?_⟩
        rw [show s6.1 92 (u * 15 + act) = s1.1 91 w by rw [e6, wI_ne (by decide), e5, wI_eq, if_pos rfl], ← q]
        exact old
      · rw [if_neg q, if_neg (fun z => q (Option.some.inj z).symm)]
        exact old
    have a16 := ag_tr (ag_dw a1) a6
    refine sX0_reach hq (lq_dw hl hq a16) hL N6 P6 hQ hw (by omega) (fun s7 R' H' mk' a7 n7 P7 Q7 x7 w7 m7 => ?_)
    refine h s7 R' H' mk' (ag_tr a16 a7) n7 P7 Q7 x7 (fun j' hj' x hx => ?_)
    rw [x7.2 (j' / 15) (by omega)] at hx
    by_cases q : j' = j
    · rw [q, hj15, hjm, hud, haf] at hx
      cases hx
      exact w7
    · exact m7 x (hC j' (by omega) x hx)
def hdI : List Nat → Int32
  | [] => -1
  | e :: _ => nI e
theorem lk2_hd {σ : hd_M} : ∀ {l : List Nat} {x : Int32}, lk2 σ x l → x = hdI l
  | [], _, h => h
  | _ :: _, _, h => h.1
theorem lk2_suf {σ : hd_M} {l : List Nat} : ∀ {pre : List Nat} {x : Int32}, lk2 σ x (pre ++ l) → lk2 σ (hdI l) l
  | [], x, h => by
    have h : lk2 σ x l := h
    rw [← lk2_hd h]
    exact h
  | _ :: pre, _, h => lk2_suf (pre := pre) h.2.2
theorem sX0_hopeW {G : hd_G} {σ : hd_M} {P : hd_M → Prop} {L : LW} {sz : Nat → Nat} {R H : List Nat} {mk : Nat → Nat} {J w : Nat} (hP : dP σ L sz R H mk J) (hQ : dQ L sz 2187 R H mk) (hw : w < 2187) (hh : HP L sz w) (hJ : J ≤ 15 * R.length) (h : ∀ σ' H' mk', ag dw σ σ' → (∀ k, k ≤ 80 → σ'.1 k = σ.1 k) → dP σ' L sz R H' mk' J → dQ L sz 2187 R H' mk' → ext H H' → (∀ x, mk x = 2 → mk' x = 2) → (∀ x, mk x = 0 ↔ mk' x = 0) → (∀ e ∈ ceL L sz R w J, mk' (e / 15) = 2) → P σ') : EVv G mX0_hopeWhereItCameFrom SH [.ref 87, .int (nI w)] σ P := by
  have hR7 : R.length ≤ 2187 := by rw [← hQ.1]; exact cntN_le _ _
  have hlen := ceL_len (L := L) (sz := sz) (R := R) (w := w) J
  refine wX0_hopeWhereItCameFrom _ (fun X hX => ⟨hd_vn hw (by decide), fun v1 e1 v2 e2 => ?_⟩)
  rw [nI_clamp (by omega)] at e1
  have key : ∀ (l pre : List Nat) (s : hd_M) (H1 : List Nat) (mk1 : Nat → Nat), ceL L sz R w J = pre ++ l → ag dw σ s → (∀ k, k ≤ 80 → s.1 k = σ.1 k) → dP s L sz R H1 mk1 J → dQ L sz 2187 R H1 mk1 → ext H H1 → (∀ x, mk x = 2 → mk1 x = 2) → (∀ x, mk x = 0 ↔ mk1 x = 0) → (∀ e ∈ pre, mk1 (e / 15) = 2) → hd_J G mX0_hopeWhereItCameFrom X SH (0, 0) 9 [(0, .ref 87), (2, .int (hdI l)), (3, .int (nI pre.length))] [] s := by
    intro l
    induction l with
    | nil =>
      intro pre s H1 mk1 hc a c8 P1 Q1 x1 m1 z1 d1
      rw [List.append_nil] at hc
      have fin : P s := h s H1 mk1 a c8 P1 Q1 x1 m1 z1 (by rw [hc]; exact d1)
      exact wX0_hopeWhereItCameFrom_9 hX _ _ ⟨fun _ => fin, fun _ => b_eq rfl fin⟩
    | cons e r ih =>
      intro pre s H1 mk1 hc a c8 P1 Q1 x1 m1 z1 d1
      have hcl : pre.length + (r.length + 1) ≤ J := by
        rw [hc, List.length_append, List.length_cons] at hlen
        exact hlen
      have hlk := P1.2.2.2.2.2 w hw
      rw [hc] at hlk
      have hs := lk2_suf hlk
      have he : e < 32805 := hs.2.1
      obtain ⟨j, j1, j2, j3⟩ := ceL_mem (L := L) (sz := sz) (R := R) (w := w) (e := e) (J := J) (by rw [hc]; simp)
      have jm : j % 15 < 15 := Nat.mod_lt _ (by decide)
      have jR : j / 15 < R.length := by omega
      have eu : e / 15 = R.getD (j / 15) 0 := by omega
      have u7 := Q1.2.2.1 (j / 15) jR
      refine wX0_hopeWhereItCameFrom_9 hX _ _ (b_le' (nI_lt (b := 32805) (by omega) (by decide)) ?_)
      show (nI e = -1 → _) ∧ _
      refine c_eq (e : Int) (-1) rfl rfl (fun z => by omega) (fun _ => ⟨by decide, ?_⟩)
      rw [show hdI (e :: r) / 15 = nI (e / 15) from pk_div (d := 15) (by omega) (by decide) (by decide), eu]
      refine sX0_hope P1 Q1 (Or.inr rfl) u7.1 u7.2 (HP_step jm j3 hh) (fun s1 H2 mk2 a2 c2 P2 Q2 x2 m2 z2 w2 => ⟨hd_vn he (by decide), fun v2 e2 v3 e3 => ?_⟩)
      have hlk2 := P2.2.2.2.2.2 w hw
      rw [hc] at hlk2
      have hs2 := lk2_suf hlk2
      rw [show (hdI (e :: r)).toNatClampNeg = e from nI_clamp (by omega), lk2_hd hs2.2.2] at e2
      rw [e2, e3, nI_1]
      have := ih (pre ++ [e]) s1 H2 mk2 (by rw [hc]; simp) (ag_tr a a2) (fun k hk => (c2 k hk).trans (c8 k hk)) P2 Q2 (ext_tr x1 x2) (fun x hx => m2 x (m1 x hx)) (fun x => (z1 x).trans (z2 x)) (fun e' he' => by
        rcases List.mem_append.mp he' with q | q
        · exact m2 _ (d1 e' q)
        · rw [List.mem_singleton.mp q, eu]
          exact w2)
      rw [List.length_append, List.length_singleton] at this
      exact this
  have hlk := hP.2.2.2.2.2 w hw
  rw [e1, e2, lk2_hd hlk]
  exact key _ [] σ H mk rfl ag_rf (fun _ _ => rfl) hP hQ ext_rf (fun _ z => z) (fun _ => Iff.rfl) (fun e he => by cases he)
theorem sX0_hopeless {G : hd_G} {σ : hd_M} {P : Int32 → hd_M → Prop} {q v : Nat} {L : LW} {sz : Nat → Nat} {mk : Nat → Nat} (hq : hd_law q) (hl : lq σ q L) (hL : LWok L) (hS : SZ σ sz) (hN : NV σ) (hv : v < 2187) (hmk : ∀ w, w < 2187 → σ.1 90 w = nI (mk w)) (hmk2 : ∀ w, mk w ≤ 2) (hF : ∀ act w, act < 15 → afM L sz v act = some w → (mk w = 2 ↔ HP L sz w)) (h : ∀ σ', ag dw σ σ' → NV σ' → P (mkI (fvM L sz v) 15) σ') : EVi G mX0_hopelessActs SH [.ref 87, .ref q, .int (nI v)] σ P := by
  refine wX0_hopelessActs _ _ (fun X hX v1 e1 v2 e2 => ?_)
  have key : ∀ t, t ≤ 15 → ∀ s, ag [78, 79, 80] σ s → NV s → hd_J G mX0_hopelessActs X SH (0, 0) 5 [(0, .ref 87), (1, .ref q), (2, .int (nI v)), (3, .int (mkI (fvM L sz v) t)), (4, .int (nI t))] [] s := by
    refine hd_upto (n := 15) (fun t => ∀ s, ag [78, 79, 80] σ s → NV s → hd_J G mX0_hopelessActs X SH (0, 0) 5 [(0, .ref 87), (1, .ref q), (2, .int (nI v)), (3, .int (mkI (fvM L sz v) t)), (4, .int (nI t))] [] s) (fun t ht ih s a n => ?_)
    refine wX0_hopelessActs_5 hX _ _ _ _ (c_le 15 (t : Int) rfl rfl (fun z => ?_) (fun z => ?_))
    · have : t = 15 := by omega
      subst this
      exact h s (ag_dw a) n
    · have ht15 : t < 15 := by omega
      refine sX4_standingAfter hq (lq_ag hl hq a) hL (SZ_ag hS a) n hv ht15 (fun s1 a1 n1 v3 e3 => ?_)
      have ih := ih ht15 s1 (ag_tr a a1) n1
      have em : mkI (fvM L sz v) (t + 1) = if fvM L sz v t = true then mkI (fvM L sz v) t ||| ((1 : Int32) <<< (nI t &&& 31)) else mkI (fvM L sz v) t := rfl
      rw [e3]
      cases haf : afM L sz v t with
      | none =>
        rw [em, show fvM L sz v t = false by unfold fvM; rw [haf]] at ih
        refine b_eq rfl (fun v4 e4 => ?_)
        rw [e4, nI_1]
        exact ih
      | some w =>
        have hw := afM_lt hL (fun p hp => (hS p hp).2) hv ht15 haf
        have ef : fvM L sz v t = !(hpB L sz w) := by unfold fvM; rw [haf]
        have hF := hF t w ht15 haf
        have h2 := hmk2 w
        refine c_eq (w : Int) (-1) rfl rfl (fun z => by omega) (fun _ => ?_)
        rw [show (oI (some w)).toNatClampNeg = w from nI_clamp (by omega), (a1 90 (by decide)).1, (a 90 (by decide)).1, hmk w hw]
        refine ⟨hd_vn hw (by decide), c_eq (mk w : Int) 2 rfl rfl (fun z2 => fun v5 e5 => ?_) (fun z2 => fun v6 e6 v7 e7 => ?_)⟩
        · rw [em, ef, hpB_t.mpr (hF.mp (by omega))] at ih
          rw [e5, nI_1]
          exact ih
        · have hb : hpB L sz w = false := by
            cases hb : hpB L sz w with
            | false => rfl
            | true => exact absurd (hF.mpr (hpB_t.mp hb)) (by omega)
          rw [em, ef, hb, if_pos (show (!false) = true from rfl)] at ih
          rw [e6, e7, nI_1]
          exact ih
  rw [e1, e2]
  exact key 0 (by omega) σ ag_rf hN
theorem sX0_actsInto {G : hd_G} {σ : hd_M} {P : Int32 → hd_M → Prop} {q v : Nat} {L : LW} {sz : Nat → Nat} (hq : hd_law q) (hl : lq σ q L) (hL : LWok L) (hS : SZ σ sz) (hN : NV σ) (hv : v < 2187) (h : ∀ σ', ag dw σ σ' → NV σ' → P (mkI (fvM L sz v) 15) σ') : EVi G mX0_actsInto SH [.ref 87, .ref q, .int (nI v)] σ P := by
  have hsz : ∀ p, p < 6 → sz p ≤ 3 := fun p hp => (hS p hp).2
  refine wX0_actsInto _ _ (fun X hX => sJ7_fill (n := 2187) (rs := []) rfl (by decide) (sJ7_fill (n := 2187) (rs := []) rfl (by decide) (fun s3 e3 s4 e4 => ?_)))
  have fl : ∀ (s : hd_M) (q n : Nat) (x : Int32) (k : Nat), k ≠ q → (hd_fill s q n x).1 k = s.1 k := fun s q n x k hk => hd_up_ne hk
  have fl2 : ∀ (s : hd_M) (q n : Nat) (x : Int32) (j : Nat), j < n → (hd_fill s q n x).1 q j = x := fun s q n x j hj => by
    show va_up s.1 q _ q j = x
    rw [hd_up_eq]
    exact if_pos hj
  have a4 : ag dw σ s4 := by
    rw [e4, e3]
    refine ag_wI (ag_wI ?_ (by decide)) (by decide)
    intro k hk
    rw [fl _ 91 _ _ k (fun z => hk (by rw [z]; decide)), fl _ 90 _ _ k (fun z => hk (by rw [z]; decide))]
    exact ⟨rfl, rfl⟩
  have N4 : NV s4 := NV_cg hN (by rw [e4, wI_ne (by decide), e3, wI_ne (by decide), fl _ _ _ _ _ (by decide), fl _ _ _ _ _ (by decide)]) (by rw [e4, wI_ne (by decide), e3, wI_ne (by decide), fl _ _ _ _ _ (by decide), fl _ _ _ _ _ (by decide)])
  have P4 : dP s4 L sz [] [] (fun _ => 0) 0 := by
    refine ⟨?_, ?_, fun k hk => absurd hk (by show ¬ k < 0; omega), fun k hk => absurd hk (by show ¬ k < 0; omega), fun w hw => ?_, fun w hw => ?_⟩
    · rw [e4, wI_eq, if_neg (by decide), e3, wI_eq, if_pos rfl]; rfl
    · rw [e4, wI_eq, if_pos rfl]; rfl
    · rw [e4, wI_ne (by decide), e3, wI_ne (by decide), fl _ _ _ _ _ (by decide), fl2 _ _ _ _ _ hw]; rfl
    · show s4.1 91 w = -1
      rw [e4, wI_ne (by decide), e3, wI_ne (by decide), fl2 _ _ _ _ _ hw]
  have Q4 : dQ L sz 2187 [] [] (fun _ => 0) := ⟨cntN_0, cntN_0, fun k hk => absurd hk (by show ¬ k < 0; omega), fun w _ hz => absurd rfl hz, fun k hk => absurd hk (by show ¬ k < 0; omega), fun w _ hz => absurd hz (show ¬ (0 : Nat) = 2 by decide), fun i j hi => absurd hi (by show ¬ i < 0; omega), fun w _ _ hz => absurd rfl hz, fun w => Nat.zero_le _⟩
  have sZ : ∀ s, ag dw σ s → SZ s sz := fun s a p hp => by rw [(a 3 (by decide)).1]; exact hS p hp
  have phase2 : ∀ (n i : Nat) (s : hd_M) (R H : List Nat) (mk : Nat → Nat), 2187 ≤ i + n → i ≤ H.length → ag dw σ s → NV s → dP s L sz R H mk (15 * R.length) → dQ L sz 2187 R H mk → dC L sz R mk (15 * R.length) → mk v ≠ 0 → (∀ i', i' < i → ∀ e ∈ ceL L sz R (H.getD i' 0) (15 * R.length), mk (e / 15) = 2) → hd_J G mX0_actsInto X SH (0, 0) 86 [(0, .ref 87), (1, .ref q), (2, .int (nI v)), (3, .int (nI i))] [] s := by
    have fin : ∀ (i : Nat) (s : hd_M) (R H : List Nat) (mk : Nat → Nat), H.length ≤ i → ag dw σ s → NV s → dP s L sz R H mk (15 * R.length) → dQ L sz 2187 R H mk → dC L sz R mk (15 * R.length) → mk v ≠ 0 → (∀ i', i' < i → ∀ e ∈ ceL L sz R (H.getD i' 0) (15 * R.length), mk (e / 15) = 2) → EVi G mX0_hopelessActs SH [.ref 87, .ref q, .int (nI v)] s (fun y2 s1 => P y2 s1) := by
      intro i s R H mk hi a n P1 Q1 C1 mv d1
      have cl : ∀ u act w, u < 2187 → mk u ≠ 0 → act < 15 → afM L sz u act = some w → mk w ≠ 0 ∧ (mk w = 2 → mk u = 2) := by
        intro u act w hu hmu hact hw
        obtain ⟨k, hk, hk2⟩ := Q1.2.2.2.1 u hu hmu
        have hj : (15 * k + act) / 15 = k := by omega
        have hjm : (15 * k + act) % 15 = act := by omega
        have hw' : afM L sz (R.getD ((15 * k + act) / 15) 0) ((15 * k + act) % 15) = some w := by rw [hj, hjm, hk2]; exact hw
        refine ⟨C1 (15 * k + act) (by omega) w hw', fun m2 => ?_⟩
        obtain ⟨i', hi', hi2⟩ := Q1.2.2.2.2.2.1 w (afM_lt hL hsz hu hact hw) m2
        have hin := ceL_in hw' (J := 15 * R.length) (by omega)
        have := d1 i' (by omega) _ (by rw [hi2]; exact hin)
        rw [hj, hjm, hk2] at this
        rwa [show (u * 15 + act) / 15 = u by omega] at this
      have iff2 : ∀ w, w < 2187 → mk w ≠ 0 → (mk w = 2 ↔ HP L sz w) := by
        intro w hw hm
        refine ⟨fun m2 => ?_, fun hh => ?_⟩
        · obtain ⟨k, hk, hk2⟩ := Q1.2.2.2.2.2.1 w hw m2
          rw [← hk2]
          exact (Q1.2.2.2.2.1 k hk).2.2
        · refine HP_ind (C := fun x => x < 2187 ∧ mk x ≠ 0) (F := fun x => mk x = 2) (fun x hx ho => Q1.2.2.2.2.2.2.2.1 x hx.1 (by omega) hx.2 ho) (fun x act u hx hact hu => ?_) ⟨hw, hm⟩ hh
          have c := cl x act u hx.1 hx.2 hact hu
          exact ⟨⟨afM_lt hL hsz hx.1 hact hu, c.1⟩, c.2⟩
      refine sX0_hopeless hq (lq_dw hl hq a) hL (sZ s a) n hv P1.2.2.2.2.1 Q1.2.2.2.2.2.2.2.2 (fun act w hact hw => ?_) (fun s2 a2 n2 => h s2 (ag_tr a a2) n2)
      exact iff2 w (afM_lt hL hsz hv hact hw) (cl v act w hv mv hact hw).1
    intro n
    induction n with
    | zero =>
      intro i s R H mk hn hi a nv P1 Q1 C1 mv d1
      have hH : H.length ≤ 2187 := by rw [← Q1.2.1]; exact cntN_le _ _
      refine wX0_actsInto_86 hX _ _ _ ?_
      rw [P1.2.1]
      exact b_le (nI_le (by omega) (by omega)) (fin i s R H mk (by omega) a nv P1 Q1 C1 mv d1)
    | succ n ih =>
      intro i s R H mk hn hi a nv P1 Q1 C1 mv d1
      have hH : H.length ≤ 2187 := by rw [← Q1.2.1]; exact cntN_le _ _
      refine wX0_actsInto_86 hX _ _ _ ?_
      rw [P1.2.1]
      refine c_le (H.length : Int) (i : Int) rfl rfl (fun z => fin i s R H mk (by omega) a nv P1 Q1 C1 mv d1) (fun z => b_le' (nI_lt (b := 2187) (by omega) (by decide)) ⟨hd_vn (by omega) (by decide), ?_⟩)
      have hiH : i < H.length := by omega
      have h5 := Q1.2.2.2.2.1 i hiH
      rw [nI_clamp (by omega), P1.2.2.2.1 i hiH]
      refine sX0_hopeW P1 Q1 h5.1 h5.2.2 (Nat.le_refl _) (fun s5 H' mk' a5 c5 P5 Q5 x5 m5 z5 d5 v6 e6 => ?_)
      rw [e6, nI_1]
      refine ih (i + 1) s5 R H' mk' (by omega) (by have := x5.1; omega) (ag_tr a a5) (NV_cg nv (by rw [c5 78 (by decide)]) (c5 79 (by decide))) P5 Q5 (fun j hj u hu hz => C1 j hj u hu ((z5 u).mpr hz)) (fun hz => mv ((z5 v).mpr hz)) (fun i' hi' e he => ?_)
      by_cases qi : i' = i
      · rw [qi, x5.2 i hiH] at he
        exact d5 e he
      · rw [x5.2 i' (by omega)] at he
        exact m5 _ (d1 i' (by omega) e he)
  have phase1 : ∀ (n i : Nat) (s : hd_M) (R H : List Nat) (mk : Nat → Nat), 2187 ≤ i + n → i ≤ R.length → ag dw σ s → NV s → dP s L sz R H mk (15 * i) → dQ L sz 2187 R H mk → dC L sz R mk (15 * i) → (∃ k, k < R.length ∧ R.getD k 0 = v) → hd_J G mX0_actsInto X SH (0, 0) 34 [(0, .ref 87), (1, .ref q), (2, .int (nI v)), (3, .int (nI i))] [] s := by
    have go : ∀ (i : Nat) (s : hd_M) (R H : List Nat) (mk : Nat → Nat), R.length = i → ag dw σ s → NV s → dP s L sz R H mk (15 * i) → dQ L sz 2187 R H mk → dC L sz R mk (15 * i) → (∃ k, k < R.length ∧ R.getD k 0 = v) → ∀ v1 : Int32, v1 = 0 → hd_J G mX0_actsInto X SH (0, 0) 86 [(0, .ref 87), (1, .ref q), (2, .int (nI v)), (3, .int v1)] [] s := by
      intro i s R H mk hi a nv P1 Q1 C1 rv v1 e1
      subst hi
      rw [e1]
      exact phase2 2187 0 s R H mk (by omega) (by omega) a nv P1 Q1 C1 (by obtain ⟨k, k1, k2⟩ := rv; have := (Q1.2.2.1 k k1).2; rwa [k2] at this) (fun i' hi' => absurd hi' (by omega))
    intro n
    induction n with
    | zero =>
      intro i s R H mk hn hi a nv P1 Q1 C1 rv
      have hR : R.length ≤ 2187 := by rw [← Q1.1]; exact cntN_le _ _
      refine wX0_actsInto_34 hX _ _ _ ?_
      rw [P1.1]
      exact b_le (nI_le (by omega) (by omega)) (go i s R H mk (by omega) a nv P1 Q1 C1 rv)
    | succ n ih =>
      intro i s R H mk hn hi a nv P1 Q1 C1 rv
      have hR : R.length ≤ 2187 := by rw [← Q1.1]; exact cntN_le _ _
      refine wX0_actsInto_34 hX _ _ _ ?_
      rw [P1.1]
      refine c_le (R.length : Int) (i : Int) rfl rfl (fun z => go i s R H mk (by omega) a nv P1 Q1 C1 rv) (fun z => b_le' (nI_lt (b := 2187) (by omega) (by decide)) (fun v3 e3 => ?_))
      have inner : ∀ (m act : Nat) (s : hd_M) (R H : List Nat) (mk : Nat → Nat), act + m = 15 → i < R.length → ag dw σ s → NV s → dP s L sz R H mk (15 * i + act) → dQ L sz 2187 R H mk → dC L sz R mk (15 * i + act) → (∃ k, k < R.length ∧ R.getD k 0 = v) → hd_J G mX0_actsInto X SH (0, 0) 52 [(0, .ref 87), (1, .ref q), (2, .int (nI v)), (3, .int (nI i)), (4, .int (nI act))] [] s := by
        intro m
        induction m with
        | zero =>
          intro act s R H mk hact hiR a nv P1 Q1 C1 rv
          refine wX0_actsInto_52 hX _ _ _ _ (b_le (nI_le (a := 15) (by omega) (by omega)) (fun v1 e1 => ?_))
          rw [e1, nI_1]
          have e : 15 * (i + 1) = 15 * i + act := by omega
          exact ih (i + 1) s R H mk (by omega) (by omega) a nv (by rw [e]; exact P1) Q1 (by rw [e]; exact C1) rv
        | succ m ihm =>
          intro act s R H mk hact hiR a nv P1 Q1 C1 rv
          have hR : R.length ≤ 2187 := by rw [← Q1.1]; exact cntN_le _ _
          refine wX0_actsInto_52 hX _ _ _ _ (b_le' (nI_lt (b := 15) (by omega) (by decide)) ⟨hd_vn (by omega) (by decide), ?_⟩)
          rw [nI_clamp (by omega), P1.2.2.1 i hiR]
          refine sX0_follow hq (lq_dw hl hq a) hL (sZ s a) nv P1 Q1 C1 hiR (by omega) (fun s2 R' H' mk' a2 n2 P2 Q2 x2 C2 v3 e3 => ?_)
          rw [e3, nI_1]
          exact ihm (act + 1) s2 R' H' mk' (by omega) (by have := x2.1; omega) (ag_tr a a2) n2 P2 Q2 C2 (by obtain ⟨k, k1, k2⟩ := rv; exact ⟨k, Nat.lt_of_lt_of_le k1 x2.1, by rw [x2.2 k k1]; exact k2⟩)
      rw [e3]
      exact inner 15 0 s R H mk rfl (by omega) a nv P1 Q1 C1 rv
  refine sX0_reach hq (lq_dw hl hq a4) hL N4 P4 Q4 hv (Nat.zero_le _) (fun s5 R' H' mk' a5 n5 P5 Q5 x5 w5 m5 v6 e6 => ?_)
  rw [e6]
  exact phase1 2187 0 s5 R' H' mk' (by omega) (by omega) (ag_tr a4 a5) n5 P5 Q5 (fun j hj => absurd hj (by omega)) (Q5.2.2.2.1 v hv w5)
theorem sX7_forever {G : hd_G} {σ : hd_M} {P : Int32 → hd_M → Prop} {tp : List Nat} {ft : Int32 × Int32} {D D' : MD} {laws : Nat → LW} (hC : CREL σ (tp, ft, D, D', laws)) (hm : mok (tp, ft, D, D', laws)) (h : ∀ σ', fC σ σ' → CREL σ' (tp, ft, D, D', laws) → P (mkI (fvM (ruM (d_r D) laws) (d_sz D) (d_v D)) 15) σ') : EVi G mX7_forever SH [.ref 0] σ P := by
  have hd : dok D := hm.2.1
  have hT4 : d_T D ≤ 4 := hd.2.2.2.2.1
  have hrT := hd.2.2.2.2.2.1
  have hcd : cDesk σ 2 D := hC.2.2.1
  have hv : d_v D < 2187 := hd.2.2.2.1.1
  have hL := ruM_ok hm.2.2.2.2 hrT
  have hq := ruQ_law hT4 hrT
  have hl : lq σ (ruQ (d_r D)) (ruM (d_r D) laws) := ruQ_lq hrT hC.2.2.2.2.1 hC.2.2.2.2.2.1
  refine wX7_forever (sX7_rulingLaw hcd.2.2.2.2.1 hcd.2.2.2.2.2.1 hT4 hrT ?_)
  rw [hcd.2.2.1]
  refine sX0_actsInto hq hl hL (cDesk_SZ hcd hd) hC.2.2.2.2.2.2.1 hv (fun s1 a1 n1 => h s1 (fC_ag a1 (by decide)) ?_)
  have c : ∀ k, k ∉ dw → s1.1 k = σ.1 k := fun k hk => (a1 k hk).1
  exact CREL_desk hC (Nat.le_refl _) hT4 (fun k h1 h2 => c k (by simp [dw]; omega)) (c 1 (by decide)) (fun k hk => by rw [c 0 (by decide)]) n1 (cDesk_cg hcd (fun k h1 h2 => c k (by simp [dw]; omega))) (cSch_cg hC.2.2.2.2.2.2.2 (by rw [c 0 (by decide)]) (c 81 (by decide)) (c 84 (by decide)) (c 85 (by decide)))
