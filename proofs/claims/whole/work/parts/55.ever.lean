def zcN (σ : hd_M) (Q : List Nat) : Nat := cntN (fun k => if σ.1 112 (Q.getD k 0) = 0 then 1 else 0) Q.length
/-- free rows: sound, and what is open is free -/
def eF (σ : hd_M) (L : LW) (sz : Nat → Nat) (Q : List Nat) : Prop := ∀ k, k < Q.length → (σ.1 112 (Q.getD k 0) = 0 ∨ σ.1 112 (Q.getD k 0) = 1) ∧ (¬ σ.1 112 (Q.getD k 0) = 0 → HP L sz (Q.getD k 0)) ∧ (opM L (dg (Q.getD k 0)) = true → ¬ σ.1 112 (Q.getD k 0) = 0)
def eS (σ : hd_M) (L : LW) (sz : Nat → Nat) (u : Nat) : Prop := ¬ σ.1 112 u = 0 ∨ ∀ act, act < 15 → σ.1 112 (mkM L sz u act) = 0
theorem zc_le (σ σ' : hd_M) (Q : List Nat) : ∀ n, (∀ k, k < n → σ'.1 112 (Q.getD k 0) = 0 → σ.1 112 (Q.getD k 0) = 0) → cntN (fun k => if σ'.1 112 (Q.getD k 0) = 0 then 1 else 0) n ≤ cntN (fun k => if σ.1 112 (Q.getD k 0) = 0 then 1 else 0) n
  | 0, _ => Nat.le_refl _
  | n + 1, h => by
    have ih := zc_le σ σ' Q n (fun k hk => h k (by omega))
    have hn := h n (by omega)
    unfold cntN
    by_cases z : σ'.1 112 (Q.getD n 0) = 0
    · simp only [z, hn z, if_true]
      omega
    · simp only [z, if_false]
      show _ + (if (0 : Nat) = 0 then 0 else 1) ≤ _
      rw [if_pos rfl]
      omega
theorem zc_lt (σ σ' : hd_M) (Q : List Nat) (c : Nat) (hc : ¬ σ'.1 112 (Q.getD c 0) = 0) (hc2 : σ.1 112 (Q.getD c 0) = 0) : ∀ n, c < n → (∀ k, k < n → σ'.1 112 (Q.getD k 0) = 0 → σ.1 112 (Q.getD k 0) = 0) → cntN (fun k => if σ'.1 112 (Q.getD k 0) = 0 then 1 else 0) n < cntN (fun k => if σ.1 112 (Q.getD k 0) = 0 then 1 else 0) n
  | 0, h, _ => by omega
  | n + 1, h, hh => by
    by_cases q : c = n
    · subst q
      have := zc_le σ σ' Q c (fun k hk => hh k (by omega))
      unfold cntN
      simp only [hc, hc2, if_true, if_false]
      show _ + (if (0 : Nat) = 0 then 0 else 1) < _ + (if (1 : Nat) = 0 then 0 else 1)
      rw [if_pos rfl, if_neg (by decide)]
      omega
    · have ih := zc_lt σ σ' Q c hc hc2 n (by omega) (fun k hk => hh k (by omega))
      have hn := hh n (by omega)
      unfold cntN
      by_cases z : σ'.1 112 (Q.getD n 0) = 0
      · simp only [z, hn z, if_true]
        omega
      · simp only [z, if_false]
        show _ + (if (0 : Nat) = 0 then 0 else 1) < _
        rw [if_pos rfl]
        omega
theorem mkM_some {L : LW} {sz : Nat → Nat} {v act w : Nat} (h : afM L sz v act = some w) : mkM L sz v act = w := by unfold mkM; rw [h]; rfl
theorem sX8_findFree {G : hd_G} {σ : hd_M} {P : hd_M → Prop} {n : Nat} {x : Int32} {L : LW} {sz : Nat → Nat} {Q : List Nat} {rk : Nat → Nat} (hx : σ.1 95 2 = x) (hT : TL σ x L) (hS : SR σ n sz) (hE : eQ σ L sz Q rk (15 * Q.length)) (h : ∀ σ', agE σ σ' → σ'.1 113 = σ.1 113 → (∀ w, w < 2187 → rk w ≠ 0 → ((¬ σ'.1 112 w = 0) ↔ HP L sz w)) → P σ') : EVv G mX8_findFree SH [.ref 94, .int (nI Q.length)] σ P := by
  have hsz := SR_sz hS
  have hL : LWok L := by obtain ⟨K, cd, a, b, c, d⟩ := hT; exact d
  have hQ7 : Q.length ≤ 2187 := by rw [← hE.2.2.2.1]; exact cntN_le _ _
  refine wX8_findFree _ (fun X hX v1 e1 => ?_)
  -- what is behind a row
  have beh : ∀ k act, k < Q.length → act < 15 → σ.1 113 (15 * Q.getD k 0 + act) = nI (mkM L sz (Q.getD k 0) act) ∧ mkM L sz (Q.getD k 0) act < 2187 ∧ ∃ k', k' < Q.length ∧ Q.getD k' 0 = mkM L sz (Q.getD k 0) act := by
    intro k act hk ha
    have hj := hE.2.2.2.2 (15 * k + act) (by omega)
    rw [show (15 * k + act) / 15 = k by omega, show (15 * k + act) % 15 = act by omega] at hj
    have hlt := mkM_lt hL hsz (hE.1 k hk).2.1 ha
    exact ⟨hj.1, hlt, hE.2.2.1 _ hlt hj.2⟩
  have pass : ∀ (m : Nat) (s : hd_M), zcN s Q ≤ m → agE σ s → s.1 113 = σ.1 113 → s.1 114 = σ.1 114 → eF s L sz Q → ∀ v1 : Int32, v1 = 1 → hd_J G mX8_findFree X SH (0, 0) 42 [(0, .ref 94), (1, .int (nI Q.length)), (2, .int v1)] [] s := by
    intro m
    induction m with
    | zero | succ m ihm =>
      intro s0 hm a0 h3 h4 F0 v1 e1
      rw [e1]
      refine wX8_findFree_42 hX _ _ (b_eq' (by decide) (fun v2 e2 v3 e3 => ?_))
      rw [e2, e3]
      have rows : ∀ (c : Nat) (s : hd_M) (more : Int32), c ≤ Q.length → agE σ s → s.1 113 = σ.1 113 → s.1 114 = σ.1 114 → eF s L sz Q → (∀ k, k < Q.length → s.1 112 (Q.getD k 0) = 0 → s0.1 112 (Q.getD k 0) = 0) → (more = 0 ∧ (∀ k, k < Q.length → s.1 112 (Q.getD k 0) = s0.1 112 (Q.getD k 0)) ∧ (∀ k, c ≤ k → k < Q.length → eS s0 L sz (Q.getD k 0)) ∨ more = 1 ∧ zcN s Q < zcN s0 Q) → hd_J G mX8_findFree X SH (0, 0) 52 [(0, .ref 94), (1, .int (nI Q.length)), (2, .int more), (3, .int (zI ((c : Int) - 1)))] [] s := by
        intro c
        induction c with
        | zero =>
          intro s more hc a g3 g4 F mono hor
          refine wX8_findFree_52 hX _ _ _ (b_lt (by decide) ?_)
          rcases hor with ⟨rfl, same, stab⟩ | ⟨rfl, hlt⟩
          · refine wX8_findFree_42 hX _ _ (b_eq rfl (h s a g3 (fun w hw hr => ?_)))
            obtain ⟨k, hk, rfl⟩ := hE.2.2.1 w hw hr
            refine ⟨(F k hk).2.1, fun hh => ?_⟩
            refine HP_ind (L := L) (sz := sz) (C := fun x => ∃ k, k < Q.length ∧ Q.getD k 0 = x) (F := fun x => ¬ s.1 112 x = 0) (fun x hx ho => ?_) (fun x act u hx ha hu => ?_) ⟨k, hk, rfl⟩ hh
            · obtain ⟨k, hk, rfl⟩ := hx
              exact (F k hk).2.2 ho
            · obtain ⟨k, hk, rfl⟩ := hx
              have b := beh k act hk ha
              rw [mkM_some hu] at b
              refine ⟨b.2.2, fun hu2 => ?_⟩
              obtain ⟨k', hk', hk2⟩ := b.2.2
              rcases stab k (by omega) hk with q | q
              · rwa [same k hk]
              · have := q act ha
                rw [mkM_some hu, ← hk2, ← same k' hk', hk2] at this
                exact absurd this hu2
          · first
              | exact absurd hlt (by omega)
              | exact ihm s (by omega) a g3 g4 F 1 rfl
        | succ c ihc =>
          intro s more hc a g3 g4 F mono hor
          have hcQ : c < Q.length := by omega
          have ec := hE.1 c hcQ
          refine wX8_findFree_52 hX _ _ _ (b_lt' ?_ ?_)
          · exact (zI_le (x := 0) ⟨by decide, by decide⟩ ⟨by omega, by omega⟩).mpr (by omega)
          · have ez : zI (((c + 1 : Nat) : Int) - 1) = nI c := by rw [nI_z]; congr 1; omega
            rw [ez]
            refine ⟨hd_vn (by omega) (by decide), fun v1 e1 v2 e2 => ?_⟩
            rw [nI_clamp (by omega), g4, ec.1] at e1
            rw [e1, e2]
            generalize hu : Q.getD c 0 = u at ec
            have dec : nI c + (-1) = zI ((c : Int) - 1) := by
              rw [nI_z, show (-1 : Int32) = zI (-1) from rfl, zI_add]
              rfl
            have acts : ∀ (m2 act : Nat) (s : hd_M) (more : Int32), act + m2 = 15 → agE σ s → s.1 113 = σ.1 113 → s.1 114 = σ.1 114 → eF s L sz Q → (∀ k, k < Q.length → s.1 112 (Q.getD k 0) = 0 → s0.1 112 (Q.getD k 0) = 0) → (more = 0 ∧ (∀ k, k < Q.length → s.1 112 (Q.getD k 0) = s0.1 112 (Q.getD k 0)) ∧ (∀ k, c + 1 ≤ k → k < Q.length → eS s0 L sz (Q.getD k 0)) ∧ (∀ b, b < act → s0.1 112 (mkM L sz u b) = 0) ∨ more = 1 ∧ zcN s Q < zcN s0 Q) → hd_J G mX8_findFree X SH (0, 0) 67 [(0, .ref 94), (1, .int (nI Q.length)), (2, .int more), (3, .int (nI c)), (4, .int (nI u)), (5, .int (nI act))] [] s := by
              intro m2
              induction m2 with
              | zero =>
                intro act s more hact a g3 g4 F mono hor
                refine wX8_findFree_67 hX _ _ _ _ _ (b_le (nI_le (a := 15) (by omega) (by omega)) (fun v1 e1 => ?_))
                rw [e1, dec]
                refine ihc s more (by omega) a g3 g4 F mono ?_
                rcases hor with ⟨r1, r2, r3, r4⟩ | r
                · refine Or.inl ⟨r1, r2, fun k hk1 hk2 => ?_⟩
                  by_cases q : k = c
                  · rw [q, hu]
                    exact Or.inr (fun b hb => r4 b (by omega))
                  · exact r3 k (by omega) hk2
                · exact Or.inr r
              | succ m2 ihm2 =>
                intro act s more hact a g3 g4 F mono hor
                have ha : act < 15 := by omega
                have b := beh c act hcQ ha
                rw [hu] at b
                obtain ⟨b1, b2, k', hk', hk2⟩ := b
                have Fc := F c hcQ
                have Fk := F k' hk'
                rw [hu] at Fc
                rw [hk2] at Fk
                refine wX8_findFree_67 hX _ _ _ _ _ (b_le' (nI_lt (b := 15) ha (by decide)) ⟨hd_vn ec.2.1 (by decide), ?_⟩)
                rw [nI_clamp (show u < 2 ^ 31 by omega), show (15 : Int32) * nI u + nI act = nI (15 * u + act) by rw [show (15 : Int32) = nI 15 from rfl, pk_mul, nI_add], nI_clamp (show 15 * u + act < 2 ^ 31 by omega), g3, b1, nI_clamp (show mkM L sz u act < 2 ^ 31 by omega)]
                refine ⟨fun zf => fun v2 e2 => ?_, fun zf => ⟨hd_vn (by omega) (by decide), hd_vn b2 (by decide), fun zb => ⟨hd_vn ec.2.1 (by decide), Or.inr rfl, fun s3 e3 v4 e4 v5 e5 => ?_⟩, fun zb => fun v6 e6 => ?_⟩⟩
                · rw [e2, dec]
                  refine ihc s more (by omega) a g3 g4 F mono ?_
                  rcases hor with ⟨r1, r2, r3, r4⟩ | r
                  · refine Or.inl ⟨r1, r2, fun k hk1 hk2 => ?_⟩
                    by_cases q : k = c
                    · rw [q]
                      refine Or.inl ?_
                      rw [← r2 c hcQ, hu]
                      exact zf
                    · exact r3 k (by omega) hk2
                  · exact Or.inr r
                · rw [e4, e5, nI_1]
                  have w3 : ∀ y, s3.1 112 y = if y = u then 1 else s.1 112 y := fun y => by rw [e3, wI_eq]
                  have lt3 : zcN s3 Q < zcN s Q := zc_lt s s3 Q c (by rw [hu, w3, if_pos rfl]; decide) (by rw [hu]; exact zf) Q.length hcQ (fun k hk hz => by
                    rw [w3] at hz
                    split at hz
                    · exact absurd hz (by decide)
                    · exact hz)
                  have le0 : zcN s Q ≤ zcN s0 Q := zc_le s0 s Q Q.length mono
                  refine ihm2 (act + 1) s3 1 (by omega) (by rw [e3]; exact agE_w a (by decide)) (by rw [e3, wI_ne (by decide)]; exact g3) (by rw [e3, wI_ne (by decide)]; exact g4) (fun k hk => ?_) (fun k hk hz => ?_) (Or.inr ⟨rfl, by omega⟩)
                  · rw [w3]
                    by_cases q : Q.getD k 0 = u
                    · rw [if_pos q, q]
                      refine ⟨Or.inr rfl, fun _ => ?_, fun _ => by decide⟩
                      have hb := Fk.2.1 zb
                      unfold mkM at hb
                      cases haf : afM L sz u act with
                      | none =>
                        rw [haf] at hb
                        exact hb
                      | some w =>
                        rw [haf] at hb
                        exact HP_step ha haf hb
                    · rw [if_neg q]
                      exact F k hk
                  · rw [w3] at hz
                    split at hz
                    · exact absurd hz (by decide)
                    · exact mono k hk hz
                · rw [e6, nI_1]
                  refine ihm2 (act + 1) s more (by omega) a g3 g4 F mono ?_
                  rcases hor with ⟨r1, r2, r3, r4⟩ | r
                  · refine Or.inl ⟨r1, r2, r3, fun b hb => ?_⟩
                    by_cases q : b = act
                    · rw [q, ← hk2, ← r2 k' hk', hk2]
                      exact zb
                    · exact r4 b (by omega)
                  · exact Or.inr r
            refine acts 15 0 s more rfl a g3 g4 F mono ?_
            rcases hor with ⟨r1, r2, r3⟩ | r
            · exact Or.inl ⟨r1, r2, r3, fun b hb => absurd hb (by omega)⟩
            · exact Or.inr r
      have e0 : nI Q.length - 1 = zI ((Q.length : Int) - 1) := nI_pm
      rw [e0]
      exact rows Q.length s0 0 (Nat.le_refl _) a0 h3 h4 F0 (fun _ _ z => z) (Or.inl ⟨rfl, fun _ _ => rfl, fun k h1 h2 => absurd h2 (by omega)⟩)
  have first : ∀ k, k ≤ Q.length → ∀ s, agE σ s → s.1 113 = σ.1 113 → s.1 114 = σ.1 114 → (∀ j, j < k → s.1 112 (Q.getD j 0) = zI (cl_bit (opM L (dg (Q.getD j 0))))) → hd_J G mX8_findFree X SH (0, 0) 2 [(0, .ref 94), (1, .int (nI Q.length)), (2, .int (nI k))] [] s := by
    refine hd_upto (n := Q.length) (fun k => ∀ s, agE σ s → s.1 113 = σ.1 113 → s.1 114 = σ.1 114 → (∀ j, j < k → s.1 112 (Q.getD j 0) = zI (cl_bit (opM L (dg (Q.getD j 0))))) → hd_J G mX8_findFree X SH (0, 0) 2 [(0, .ref 94), (1, .int (nI Q.length)), (2, .int (nI k))] [] s) (fun k hk ih s a g3 g4 ho => ?_)
    refine wX8_findFree_2 hX _ _ (c_le (Q.length : Int) (k : Int) rfl rfl (fun z => fun v1 e1 => ?_) (fun z => ?_))
    · refine pass (zcN s Q) s (Nat.le_refl _) a g3 g4 (fun j hj => ?_) v1 e1
      rw [ho j (by omega)]
      refine ⟨cl_bit_i _, fun hz => HP_open ?_, fun hz => ?_⟩
      · cases hb : opM L (dg (Q.getD j 0)) with
        | false => rw [hb] at hz; exact absurd rfl hz
        | true => rfl
      · rw [hz]
        decide
    · have hkQ : k < Q.length := by omega
      have ek := hE.1 k hkQ
      rw [show (2 : Int32).toNatClampNeg = 2 from rfl, agE_c a (k := 95) (by decide), hx, nI_clamp (show k < 2 ^ 31 by omega), g4, ek.1, nI_clamp (show Q.getD k 0 < 2 ^ 31 by omega)]
      refine ⟨hd_vn (by omega) (by decide), pk_in 2 334 (by decide), hd_vn (by omega) (by decide), ?_⟩
      refine sX8_isOpenAt (TL_E hT a) ek.2.1 (fun s2 a2 => ⟨hd_vn ek.2.1 (by decide), cl_bit_i _, fun s4 e4 v5 e5 => ?_⟩)
      rw [e5, nI_1]
      have r2 : ∀ k, 105 ≤ k → s2.1 k = s.1 k := fun k hk => agR_c a2 (by simp; omega)
      refine ih (by omega) s4 (by rw [e4]; exact agE_w (agE_tr a (agE_R a2)) (by decide)) (by rw [e4, wI_ne (by decide), r2 113 (by decide)]; exact g3) (by rw [e4, wI_ne (by decide), r2 114 (by decide)]; exact g4) (fun j hj => ?_)
      rw [e4, wI_eq]
      by_cases q : Q.getD j 0 = Q.getD k 0
      · rw [if_pos q, q]
      · rw [if_neg q, r2 112 (by decide)]
        refine ho j ?_
        by_cases q2 : j = k
        · rw [q2] at q
          exact absurd rfl q
        · omega
  rw [e1]
  exact first 0 (Nat.zero_le _) σ agE_rf rfl rfl (fun j hj => absurd hj (by omega))
theorem sX8_forever {G : hd_G} {σ : hd_M} {P : Int32 → hd_M → Prop} {tp : List Nat} {ft : Int32 × Int32} {D D' : MD} {laws : Nat → LW} (hR : RREL σ (tp, ft, D, D', laws)) (hm : mok (tp, ft, D, D', laws)) (h : ∀ σ', fR σ σ' → RREL σ' (tp, ft, D, D', laws) → P (mkI (fvM (ruM (d_r D) laws) (d_sz D) (d_v D)) 15) σ') : EVi G mX8_forever SH [.ref 94] σ P := by
  have hd : dok D := hm.2.1
  have hrT := hd.2.2.2.2.2.1
  have hrd : rDesk σ 95 D := hR.2.2.1
  have hv : d_v D < 2187 := hd.2.2.2.1.1
  have hL := ruM_ok hm.2.2.2.2 hrT
  refine wX8_forever (fun X hX => sX8_standNow (rDesk_SR hrd hd) (rDesk_PL hrd hd) (fun s1 a1 r1 => sX8_standing r1 (fun v4 e4 => ?_)))
  have R1 := RREL_R hR a1
  have D1 : rDesk s1 95 D := R1.2.2.1
  have r2 : s1.1 95 2 = zI (d_r D) := D1.2.2.2.2.2.2.1
  have rT : rTexts s1 (d_T D) laws := R1.2.2.2.2
  rw [e4, nm_dg hv]
  obtain ⟨K, cd, t1, t2, t3, t4⟩ := TX_r rT hrT
  have tl : TL s1 (zI (d_r D)) (ruM (d_r D) laws) := ⟨K, cd, t1, t2, t3, by rw [← t3]; exact t4⟩
  refine sX8_reachAll r2 tl (rDesk_SR D1 hd) hv (fun s5 Q rk a5 E5 rv => ?_)
  have r5 : s5.1 95 2 = zI (d_r D) := by rw [agE_c a5 (by decide)]; exact r2
  refine sX8_findFree r5 (TL_E tl a5) (SR_E (rDesk_SR D1 hd) a5) E5 (fun s7 a7 c7 F7 v8 e8 v9 e9 => ?_)
  have a57 := agE_tr a5 a7
  generalize hLL : ruM (d_r D) laws = L at *
  have behv : ∀ act w, act < 15 → afM L (d_sz D) (d_v D) act = some w → s7.1 113 (15 * d_v D + act) = nI w ∧ w < 2187 ∧ ((¬ s7.1 112 w = 0) ↔ HP L (d_sz D) w) := by
    intro act w ha hw
    obtain ⟨k, hk, hk2⟩ := E5.2.2.1 (d_v D) hv rv
    have hj := E5.2.2.2.2 (15 * k + act) (by omega)
    rw [show (15 * k + act) / 15 = k by omega, show (15 * k + act) % 15 = act by omega, hk2, mkM_some hw] at hj
    have hw7 := afM_lt hL (dok_sz hd) hv ha hw
    exact ⟨by rw [c7]; exact hj.1, hw7, F7 w hw7 hj.2⟩
  have key : ∀ t, t ≤ 15 → ∀ s, agE s1 s → s.1 112 = s7.1 112 → s.1 113 = s7.1 113 → hd_J G mX8_forever X SH (0, 0) 22 [(0, .ref 94), (1, .int (nI (d_v D))), (2, .int (mkI (fvM L (d_sz D) (d_v D)) t)), (3, .int (nI t))] [] s := by
    refine hd_upto (n := 15) (fun t => ∀ s, agE s1 s → s.1 112 = s7.1 112 → s.1 113 = s7.1 113 → hd_J G mX8_forever X SH (0, 0) 22 [(0, .ref 94), (1, .int (nI (d_v D))), (2, .int (mkI (fvM L (d_sz D) (d_v D)) t)), (3, .int (nI t))] [] s) (fun t ht ih s a g2 g3 => ?_)
    refine wX8_forever_22 hX _ _ _ (c_le 15 (t : Int) rfl rfl (fun z => ?_) (fun z => ?_))
    · have : t = 15 := by omega
      subst this
      exact h s (fR_tr (fR_R a1) (fR_ag a.1 (by decide))) (RREL_E R1 a)
    · have ht15 : t < 15 := by omega
      refine sX8_stand hv (fun s2 a2 r2' => ⟨pk_in 2 334 (by decide), ?_⟩)
      have a12 := agE_tr a (agE_R a2)
      have R2 := RREL_E R1 a12
      have D2 : rDesk s2 95 D := R2.2.2.1
      have x2 : s2.1 95 2 = zI (d_r D) := D2.2.2.2.2.2.2.1
      rw [show (2 : Int32).toNatClampNeg = 2 from rfl, x2]
      refine sX8_canBe (TX_cg t1 (agE_c a12 (by decide))) t4 (rDesk_SR D2 hd) r2' ht15 (fun s3 a3 r3 => ?_)
      have r23 : ∀ k, 105 ≤ k → s3.1 k = s.1 k := fun k hk => agR_c (agR_tr a2 a3) (by simp; omega)
      have ih := ih ht15 s3 (agE_tr a12 (agE_R a3)) (by rw [r23 112 (by decide)]; exact g2) (by rw [r23 113 (by decide)]; exact g3)
      have em : mkI (fvM L (d_sz D) (d_v D)) (t + 1) = if fvM L (d_sz D) (d_v D) t = true then mkI (fvM L (d_sz D) (d_v D)) t ||| ((1 : Int32) <<< (nI t &&& 31)) else mkI (fvM L (d_sz D) (d_v D)) t := rfl
      rw [t3, canM_af]
      cases haf : afM L (d_sz D) (d_v D) t with
      | none =>
        rw [em, show fvM L (d_sz D) (d_v D) t = false by unfold fvM; rw [haf]] at ih
        refine b_eq rfl (fun v4 e4 => ?_)
        rw [e4, nI_1]
        exact ih
      | some w =>
        have ef : fvM L (d_sz D) (d_v D) t = !(hpB L (d_sz D) w) := by unfold fvM; rw [haf]
        have bh := behv t w ht15 haf
        refine b_eq' (show ¬ zI (cl_bit true) = 0 by decide) ?_
        rw [show (15 : Int32) * nI (d_v D) + nI t = nI (15 * d_v D + t) by rw [show (15 : Int32) = nI 15 from rfl, pk_mul, nI_add], nI_clamp (show 15 * d_v D + t < 2 ^ 31 by omega), r23 113 (by decide), g3, bh.1, nI_clamp (show w < 2 ^ 31 by omega), r23 112 (by decide), g2]
        refine ⟨hd_vn (by omega) (by decide), hd_vn bh.2.1 (by decide), fun zf => fun v5 e5 => ?_, fun zf => fun v6 e6 v7 e7 => ?_⟩
        · rw [em, ef, hpB_t.mpr (bh.2.2.mp zf)] at ih
          rw [e5, nI_1]
          exact ih
        · have hb : hpB L (d_sz D) w = false := by
            cases hb : hpB L (d_sz D) w with
            | false => rfl
            | true => exact absurd zf (bh.2.2.mpr (hpB_t.mp hb))
          rw [em, ef, hb, if_pos (show (!false) = true from rfl)] at ih
          rw [e6, e7, nI_1]
          exact ih
  rw [e8, e9]
  exact key 0 (by omega) s7 a57 rfl rfl
theorem jForever {G : hd_G} {σ : hd_M} {M : MM} {Q : Int32 → Int32 → hd_M → Prop} (hR : REL σ M) (h : ∀ y s M', REL s M' → Q y y s) : EVi G mX7_forever SH [.ref 0] σ (fun y1 s1 => EVi G mX8_forever SH [.ref 94] s1 (fun y' s2 => Q y1 y' s2)) := by
  obtain ⟨tp, ft, D, D', laws⟩ := M
  exact jOf (M' := (tp, ft, D, D', laws)) hR hR.2.2 (fun P hp => sX7_forever hR.1 hR.2.2 hp) (fun s P hs hp => sX8_forever hs hR.2.2 hp) h
