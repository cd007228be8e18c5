theorem hd_EV_up {G : hd_G} {mi : hd_I} {sh : hd_S} {as : List Value} {σ : hd_M} {P P' : Option Value → hd_S → hd_M → Prop} (h : hd_EV G mi sh as σ P) (hp : ∀ r sh' σ', P r sh' σ' → P' r sh' σ') : hd_EV G mi sh as σ P' := by
  intro p e ha hc hk s m args below hf hfit hP hT
  obtain ⟨n, o, h1, h2, h3, ⟨⟨r, sh', σ', q1, q2, q3⟩, q4⟩, q5⟩ := h p e ha hc hk s m args below hf hfit hP hT
  exact ⟨n, o, h1, h2, h3, ⟨⟨r, sh', σ', q1, hp _ _ _ q2, q3⟩, q4⟩, q5⟩
theorem EVi_up {G : hd_G} {mi : hd_I} {sh : hd_S} {as : List Value} {σ : hd_M} {P P' : Int32 → hd_M → Prop} (h : EVi G mi sh as σ P) (hp : ∀ y s, P y s → P' y s) : EVi G mi sh as σ P' := hd_EV_up h (fun r sh' σ' q => ⟨q.1, q.2.choose, q.2.choose_spec.1, hp _ _ q.2.choose_spec.2⟩)
theorem law_loop {G : hd_G} {X : hd_X} {L : Nat} {xs : Nat → Int32} (hX : hd_CA G mL X hd_Zw) (hs : hd_scr G X L xs) (hL : L ≤ 3072) : ∀ (n k : Nat) (σ : hd_M) (M : MM), 3078 ≤ k + n → k ≤ 3078 → REL σ M → hd_J G mL X SH (116, 129556) 18 [(0, .ref 6000), (1, .ref 0), (2, .ref 94), (3, .int (nI k))] [] σ := by
  have z6 : (Int32.ofNat L) - 6 = zI ((L : Int) - 6) := by
    show zI L - zI 6 = _
    rw [zI_sub]
  intro n
  induction n with
  | zero =>
    intro k σ M h1 h2 hR
    refine wL_18 hX hs _ (c_lt ((L : Int) - 6) (k : Int) z6 rfl (fun _ => wL_729 hX hs ⟨Or.inr rfl, rfl, by decide, by decide⟩) (fun z => by omega))
  | succ n ih =>
    intro k σ M h1 h2 hR
    refine wL_18 hX hs _ (c_lt ((L : Int) - 6) (k : Int) z6 rfl (fun _ => wL_729 hX hs ⟨Or.inr rfl, rfl, by decide, by decide⟩) (fun z => ?_))
    have v0 : vp_in (nI k) L := hd_vn (by omega) (by omega)
    have v1 : vp_in (nI k + 1) L := by rw [nI_1]; exact hd_vn (by omega) (by omega)
    have v2 : vp_in (nI k + 2) L := by rw [show (2 : Int32) = nI 2 from rfl, nI_add]; exact hd_vn (by omega) (by omega)
    have v3 : vp_in (nI k + 3) L := by rw [show (3 : Int32) = nI 3 from rfl, nI_add]; exact hd_vn (by omega) (by omega)
    have v4 : vp_in (nI k + 4) L := by rw [show (4 : Int32) = nI 4 from rfl, nI_add]; exact hd_vn (by omega) (by omega)
    have v5 : vp_in (nI k + 5) L := by rw [show (5 : Int32) = nI 5 from rfl, nI_add]; exact hd_vn (by omega) (by omega)
    have nx : ∀ (v : Int32) (s : hd_M) (M' : MM), v = nI k + 6 → REL s M' → hd_J G mL X SH (116, 129556) 18 [(0, .ref 6000), (1, .ref 0), (2, .ref 94), (3, .int v)] [] s := fun v s M' e hR' => by
      rw [e, show (6 : Int32) = nI 6 from rfl, nI_add]
      exact ih (k + 6) s M' (by omega) (by omega) hR'
    have on : ∀ {R : Int32 → hd_M → Prop} (y : Int32) (s : hd_M) (M' : MM), REL s M' → (y = y → ∀ v, v = nI k + 6 → hd_J G mL X SH (116, 129556) 18 [(0, .ref 6000), (1, .ref 0), (2, .ref 94), (3, .int v)] [] s) ∧ (¬ y = y → R y s) := fun y s M' hR' => ⟨fun _ v e => nx v s M' e hR', fun z => absurd rfl z⟩
    refine ⟨v0, ⟨fun _ => ⟨v1, EVi_up (jPart hR _ on) (fun _ _ q => ⟨v1, q⟩)⟩, fun _ => ?_⟩⟩
    refine ⟨fun _ => ⟨v1, v2, v3, v4, v5, EVi_up (jFeed hR _ _ _ _ _ on) (fun _ _ q => ⟨v1, v2, v3, v4, v5, q⟩)⟩, fun _ => ?_⟩
    refine ⟨fun _ => ⟨v1, EVi_up (jEnd hR _ on) (fun _ _ q => ⟨v1, q⟩)⟩, fun _ => ?_⟩
    refine ⟨fun _ => jText hR on, fun _ => ?_⟩
    refine ⟨fun _ => ⟨v1, EVi_up (jFault hR _ on) (fun _ _ q => ⟨v1, q⟩)⟩, fun _ => ?_⟩
    refine ⟨fun _ => ⟨v1, EVi_up (jBy hR _ on) (fun _ _ q => ⟨v1, q⟩)⟩, fun _ => ?_⟩
    refine ⟨fun _ => ⟨v1, EVi_up (jCan hR _ on) (fun _ _ q => ⟨v1, q⟩)⟩, fun _ => ?_⟩
    refine ⟨fun _ => ⟨v1, EVi_up (jAct hR _ on) (fun _ _ q => ⟨v1, q⟩)⟩, fun _ => ?_⟩
    refine ⟨fun _ => ⟨v1, EVi_up (jPlayed hR _ on) (fun _ _ q => ⟨v1, q⟩)⟩, fun _ => ?_⟩
    refine ⟨fun _ => ⟨v1, v2, EVi_up (jCarts hR _ _ on) (fun _ _ q => ⟨v1, v2, q⟩)⟩, fun _ => ?_⟩
    refine ⟨fun _ => jUndo hR on, fun _ => ?_⟩
    refine ⟨fun _ => ⟨v1, EVi_up (jPlace hR _ on) (fun _ _ q => ⟨v1, q⟩)⟩, fun _ => ?_⟩
    refine ⟨fun _ => ⟨v1, EVi_up (jNow hR _ on) (fun _ _ q => ⟨v1, q⟩)⟩, fun _ => ?_⟩
    refine ⟨fun _ => ⟨v1, EVi_up (jFewest hR _ on) (fun _ _ q => ⟨v1, q⟩)⟩, fun _ => ?_⟩
    refine ⟨fun _ => jForever hR on, fun _ => ?_⟩
    refine ⟨fun _ => ⟨v1, v2, EVi_up (jTried hR _ _ on) (fun _ _ q => ⟨v1, v2, q⟩)⟩, fun _ => ?_⟩
    refine ⟨fun _ => jForget hR on, fun _ => ?_⟩
    refine ⟨fun _ => jFits hR on, fun _ => ?_⟩
    refine ⟨fun _ => jNext hR on, fun _ => ?_⟩
    refine ⟨fun _ => ⟨v1, v2, EVi_up (jWhatever hR _ _ on) (fun _ _ q => ⟨v1, v2, q⟩)⟩, fun _ => ?_⟩
    refine ⟨fun _ => ⟨v1, EVi_up (jHollow hR _ on) (fun _ _ q => ⟨v1, q⟩)⟩, fun _ => ?_⟩
    refine ⟨fun _ => ⟨v1, v2, EVi_up (jMeasure hR _ _ on) (fun _ _ q => ⟨v1, v2, q⟩)⟩, fun _ => ?_⟩
    refine ⟨fun _ => jImage hR on, fun _ => ?_⟩
    refine ⟨fun _ => jBack hR on, fun _ => ?_⟩
    exact ⟨fun _ => ⟨v1, EVi_up (jAbout hR _ on) (fun _ _ q => ⟨v1, q⟩)⟩, fun _ v e => nx v σ M e hR⟩
