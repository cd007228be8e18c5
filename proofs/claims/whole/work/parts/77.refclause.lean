/-! the reference reads a clause -/
def agL (t b : Nat) (σ σ' : hd_M) : Prop := (∀ k, k ≠ 94 → k ≠ 97 → k ≠ 99 → σ'.1 k = σ.1 k ∧ σ'.2 k = σ.2 k) ∧ (∀ j, j < 7 ∨ j = 12 ∨ 19 < j → σ'.1 94 j = σ.1 94 j) ∧ (∀ j, j < b ∨ 730 * t + 730 ≤ j → σ'.1 97 j = σ.1 97 j)
theorem agL_rf {t b : Nat} {σ : hd_M} : agL t b σ σ := ⟨fun _ _ _ _ => ⟨rfl, rfl⟩, fun _ _ => rfl, fun _ _ => rfl⟩
theorem agL_tr {t b : Nat} {σ σ' σ'' : hd_M} (h : agL t b σ σ') (h' : agL t b σ' σ'') : agL t b σ σ'' := ⟨fun k x y z => ⟨(h'.1 k x y z).1.trans (h.1 k x y z).1, (h'.1 k x y z).2.trans (h.1 k x y z).2⟩, fun j hj => (h'.2.1 j hj).trans (h.2.1 j hj), fun j hj => (h'.2.2 j hj).trans (h.2.2 j hj)⟩
theorem agL_G {t b : Nat} {σ σ' : hd_M} (hb : b ≤ 730 * t + 125) (h : agG t σ σ') : agL t b σ σ' := ⟨h.1, h.2.1, fun j hj => h.2.2 j (by omega)⟩
theorem agL_K {t b : Nat} {σ σ' : hd_M} (h : agK σ σ') : agL t b σ σ' := ⟨fun k x _ _ => h.1 k x, fun j hj => h.2 j (by omega), fun j _ => by rw [(h.1 97 (by decide)).1]⟩
theorem agL_97 {t b j : Nat} {x : Int32} {σ σ' : hd_M} (h : agL t b σ σ') (hj : b ≤ j ∧ j < 730 * t + 730) : agL t b σ (hd_wI σ' 97 j x) := agL_tr h ⟨fun k _ y _ => ⟨wI_ne y, rfl⟩, fun i hi => by rw [wI_ne (by decide)], fun i hi => by rw [wI_eq, if_neg (by omega)]⟩
theorem rTape_L {t b : Nat} {σ σ' : hd_M} {tp : List Nat} (h : rTape σ tp) (a : agL t b σ σ') : rTape σ' tp := ⟨by rw [a.2.1 4 (by omega)]; exact h.1, fun j hj => by rw [(a.1 98 (by decide) (by decide) (by decide)).1]; exact h.2 j hj⟩
def FL (σ : hd_M) (b : Nat) (l : List Nat) : Prop := ∀ i, i < l.length → σ.1 97 (b + 1 + i) = nI (l.getD i 0)
/-- a clause under way: what it holds so far -/
def LSt (σ0 σ : hd_M) (tp : List Nat) (t b : Nat) (cd l : List Nat) (ts : List Tk) : Prop := agL t b σ0 σ ∧ rC σ t cd ∧ σ.1 94 18 = 0 ∧ rTs σ tp ts ∧ FL σ b l
def rFl (σ : hd_M) (f p : Nat) : Prop := 1 ≤ f ∧ f < 7 ∧ σ.1 94 8 = nI p
theorem num_of {σ : hd_M} {k : Tk} (hk : rTok σ k) (z : k.1 = 2) : ∃ n, n < 2000000 ∧ σ.1 94 10 = nI n ∧ k.2.1 = min 10000 n := by
  rcases hk.2 with ⟨h1, _⟩ | ⟨_, _, h⟩ | ⟨h1, _⟩ | ⟨h1, _⟩
  · omega
  · exact h
  · rcases h1 with h1 | h1
    · omega
    · have := isSg_lt h1
      omega
  · omega
theorem LSt_next {G : hd_G} {σ0 σ : hd_M} {P : hd_M → Prop} {tp : List Nat} {t b : Nat} {cd l : List Nat} {k : Tk} {ts : List Tk} (ht : tok tp) (hT : rTape σ0 tp) (hb : b + 4 < 730 * t + 125) (hL : LSt σ0 σ tp t b cd l (k :: ts)) (k0 : k.1 ≠ 0) (h : ∀ σ', agK σ σ' → LSt σ0 σ' tp t b cd l ts → P σ') : EVv G mX8_nextToken SH [.ref 94] σ P := by
  obtain ⟨l1, l2, l3, l4, l5⟩ := hL
  refine sX8_nextT ht (rTape_L hT l1) l4 k0 (fun s1 a1 t1 => h s1 a1 ⟨agL_tr l1 (agL_K a1), rC_K l2 a1, by rw [a1.2 18 (by omega)]; exact l3, t1, fun i hi => by rw [(a1.1 97 (by decide)).1]; exact l5 i hi⟩)
theorem sX8_figure {G : hd_G} {σ0 σ : hd_M} {P : Int32 → hd_M → Prop} {tp : List Nat} {t b m : Nat} {cd l : List Nat} {ts : List Tk} (ht : tok tp) (hT : rTape σ0 tp) (hb : b + 4 < 730 * t + 125) (hl : l.length < 4) (hL : LSt σ0 σ tp t b cd l ts) (hm : m < 100) (hF : ∀ f, pN m ts = .inl (f, plc ts) → rFl σ f (plc ts) → P (nI f) σ) (hK : ∀ x ts' σ', pN m ts = .inr (x, ts') → ts'.length < ts.length → x ≤ m → LSt σ0 σ' tp t b cd (l ++ [x]) ts' → P 0 σ') : EVi G mX8_figure SH [.ref 94, .int (nI (b + 1 + l.length)), .int (nI m)] σ P := by
  have t4 := hL.2.1.2.1
  obtain ⟨k, us, e⟩ := rTs_ne hL.2.2.2.1
  subst e
  have hk := rTs_hd hL.2.2.2.1
  have ep : pN m (k :: us) = (if k.1 = 2 then (if k.2.1 ≤ m then .inr (k.2.1, us) else .inl (2, k.2.2)) else .inl (1, k.2.2)) := rfl
  refine wX8_figure _ _ (c_nu hk (fun z => ?_) (fun z => ?_))
  · rw [if_pos z] at ep
    obtain ⟨n, n1, n2, n3⟩ := num_of hk z
    rw [n2]
    refine c_le (n : Int) (m : Int) rfl rfl (fun w => ?_) (fun w => ?_)
    · have e : k.2.1 = n := by omega
      rw [if_pos (by omega)] at ep
      refine ⟨hd_vn (by omega) (by decide), fun s1 e1 => ?_⟩
      rw [nI_clamp (by omega)] at e1
      have L1 : LSt σ0 s1 tp t b cd (l ++ [k.2.1]) (k :: us) := by
        obtain ⟨l1, l2, l3, l4, l5⟩ := hL
        have e94 : s1.1 94 = σ.1 94 := by rw [e1, wI_ne (by decide)]
        refine ⟨by rw [e1]; exact agL_97 l1 (by omega), ⟨by rw [e94]; exact l2.1, l2.2.1, by rw [e94]; exact l2.2.2.1, fun i hi => ?_⟩, by rw [e94]; exact l3, rTs_cg l4 (fun j _ _ => by rw [e94]) (by rw [e1]; rfl), fun i hi => ?_⟩
        · rw [e1, wI_eq, wI_eq, if_neg (by omega), if_neg (by omega)]
          exact l2.2.2.2 i hi
        · rw [List.length_append, List.length_singleton] at hi
          rw [e1, wI_eq]
          by_cases zi : i = l.length
          · rw [if_pos (by omega), zi, getD_app2, e]
          · rw [if_neg (by omega), getD_app1 (by omega)]
            exact l5 i (by omega)
      exact LSt_next ht hT hb L1 (by omega) (fun s2 a2 L2 => hK k.2.1 us s2 ep (by rw [List.length_cons]; omega) (by omega) L2)
    · rw [if_neg (by omega)] at ep
      exact hF 2 ep ⟨by decide, by decide, hk.1⟩
  · rw [if_neg z] at ep
    exact hF 1 ep ⟨by decide, by decide, hk.1⟩
def pPl (ts : List Tk) (g : Nat → Nat → List Tk → CR) : CR := bN 5 ts (fun x ts => bT 4 ts (fun ts => bN 2 ts (fun y ts => g x y ts)))
theorem pT_hd {k : Nat} {t : Tk} {ts : List Tk} : pT k (t :: ts) = if t.1 = k then .inr ts else .inl (1, t.2.2) := rfl
theorem sX8_placed {G : hd_G} {σ0 σ : hd_M} {P : Int32 → hd_M → Prop} {tp : List Nat} {t b : Nat} {cd l : List Nat} {ts : List Tk} (ht : tok tp) (hT : rTape σ0 tp) (hb : b + 4 < 730 * t + 125) (hl : l.length < 3) (hL : LSt σ0 σ tp t b cd l ts) (hF : ∀ f p σ', (∀ g, pPl ts g = .inl (f, p)) → agL t b σ0 σ' → rFl σ' f p → P (nI f) σ') (hK : ∀ x y ts' σ', (∀ g, pPl ts g = g x y ts') → ts'.length < ts.length → x ≤ 5 → y ≤ 2 → LSt σ0 σ' tp t b cd (l ++ [x, y]) ts' → P 0 σ') : EVi G mX8_placed SH [.ref 94, .int (nI (b + 1 + l.length))] σ P := by
  refine wX8_placed _ (sX8_figure (m := 5) ht hT hb (by omega) hL (by decide) (fun f e fl v3 e3 => ?_) (fun x us s1 e le x5 L1 v3 e3 => b_eq e3 ?_))
  · rw [e3]
    exact b_eq' (f_nz fl.1 (by have := fl.2.1; omega)) (hF f _ σ (fun g => bN_f e) hL.1 fl)
  · obtain ⟨k, us', eu⟩ := rTs_ne L1.2.2.2.1
    subst eu
    have hk := rTs_hd L1.2.2.2.1
    have i4 : (29807 : Int64) = lN (pkN (wkL 4)) := by decide +kernel
    have bad : k.1 ≠ 4 → P 1 s1 := fun z => hF 1 k.2.2 s1 (fun g => (bN_k e).trans (bT_f (by rw [pT_hd, if_neg z]))) L1.1 ⟨by decide, by decide, hk.1⟩
    have go : k.1 = 4 → EVv G mX8_nextToken SH [.ref 94] s1 (fun s4 => EVi G mX8_figure SH [.ref 94, .int (nI (b + 1 + l.length) + 1), .int 2] s4 (fun y6 s5 => P y6 s5)) := by
      intro z
      refine LSt_next ht hT hb L1 (by omega) (fun s2 a2 L2 => ?_)
      have ei : nI (b + 1 + l.length) + 1 = nI (b + 1 + (l ++ [x]).length) := by rw [nI_1, List.length_append, List.length_singleton]; rfl
      rw [ei]
      refine sX8_figure (m := 2) ht hT hb (by rw [List.length_append, List.length_singleton]; omega) L2 (by decide) (fun f e2 fl => hF f _ s2 (fun g => (bN_k e).trans ((bT_k (by rw [pT_hd, if_pos z])).trans (bN_f e2))) L2.1 fl) (fun y us2 s3 e2 le2 y2 L3 => ?_)
      rw [List.append_assoc] at L3
      rw [List.length_cons] at le
      exact hK x y us2 s3 (fun g => (bN_k e).trans ((bT_k (by rw [pT_hd, if_pos z])).trans (bN_k e2))) (by omega) x5 y2 L3
    have cw := c_wd hk 4 (by decide) i4 (A := P 1 s1) (B := P 1 s1) bad go bad
    exact ⟨cw.1, fun z => ⟨(cw.2 z).2, (cw.2 z).1⟩⟩
theorem w3_set : ((((115 : Int32).toInt64 <<< ((8 : Int32).toInt64 &&& 63)) ||| (101 : Int32).toInt64) <<< ((8 : Int32).toInt64 &&& 63)) ||| (116 : Int32).toInt64 = lN (pkN (wkL 5)) := by decide +kernel
theorem sX8_setting {G : hd_G} {σ0 σ : hd_M} {P : Int32 → hd_M → Prop} {tp : List Nat} {t b : Nat} {cd l : List Nat} {ts : List Tk} (ht : tok tp) (hT : rTape σ0 tp) (hb : b + 4 < 730 * t + 125) (hl : l.length < 3) (hL : LSt σ0 σ tp t b cd l ts) (hF : ∀ f p σ', (∀ g, bT 5 ts (fun ts => pPl ts g) = .inl (f, p)) → agL t b σ0 σ' → rFl σ' f p → P (nI f) σ') (hK : ∀ x y ts' σ', (∀ g, bT 5 ts (fun ts => pPl ts g) = g x y ts') → ts'.length < ts.length → x ≤ 5 → y ≤ 2 → LSt σ0 σ' tp t b cd (l ++ [x, y]) ts' → P 0 σ') : EVi G mX8_setting SH [.ref 94, .int (nI (b + 1 + l.length))] σ P := by
  obtain ⟨k, us', eu⟩ := rTs_ne hL.2.2.2.1
  subst eu
  have hk := rTs_hd hL.2.2.2.1
  refine wX8_setting _ (wX8_w3 _ _ _ (sX8_isWord hk 5 (by decide) w3_set ⟨fun y => ?_, fun y => ?_⟩))
  · rw [cl_bit_z] at y
    have y : k.1 = 5 := by simpa using y
    refine LSt_next ht hT hb hL (by omega) (fun s2 a2 L2 => sX8_placed ht hT hb hl L2 (fun f p s3 e a fl => hF f p s3 (fun g => (bT_k (by rw [pT_hd, if_pos y])).trans (e g)) a fl) (fun x y' ts' s3 e le x5 y2 L3 => hK x y' ts' s3 (fun g => (bT_k (by rw [pT_hd, if_pos y])).trans (e g)) (by rw [List.length_cons]; omega) x5 y2 L3))
  · rw [cl_bit_z] at y
    have y : k.1 ≠ 5 := by simpa using y
    exact hF 1 k.2.2 σ (fun g => bT_f (by rw [pT_hd, if_neg y])) hL.1 ⟨by decide, by decide, hk.1⟩
def LINE (s : Nat) (ts : List Tk) (g : List Nat → List Tk → CR) : CR := if s = 1 then pPl ts (fun x y ts => bT 5 ts (fun ts => pPl ts (fun z w ts => g [x, y, z, w] ts))) else if s = 2 then bN 2 ts (fun x ts => bT 5 ts (fun ts => pPl ts (fun z w ts => g [x, z, w] ts))) else bN 14 ts (fun x ts => g [x] ts)
/-- what a line's numbers may be -/
def lnOK (s : Nat) (l : List Nat) : Prop := (s = 1 ∧ ∃ x y z w, l = [x, y, z, w] ∧ x ≤ 5 ∧ y ≤ 2 ∧ z ≤ 5 ∧ w ≤ 2) ∨ (s = 2 ∧ ∃ x z w, l = [x, z, w] ∧ x ≤ 2 ∧ z ≤ 5 ∧ w ≤ 2) ∨ (s = 6 ∧ ∃ x, l = [x] ∧ x ≤ 14)
theorem sX8_line {G : hd_G} {σ0 σ : hd_M} {P : Int32 → hd_M → Prop} {tp : List Nat} {t b s : Nat} {cd : List Nat} {ts : List Tk} (ht : tok tp) (hT : rTape σ0 tp) (hb : b + 4 < 730 * t + 125) (hs : s = 1 ∨ s = 2 ∨ s = 6) (hL : LSt σ0 σ tp t b cd [] ts) (hF : ∀ f p σ', (∀ g, LINE s ts g = .inl (f, p)) → agL t b σ0 σ' → rFl σ' f p → P (nI f) σ') (hK : ∀ l ts' σ', (∀ g, LINE s ts g = g l ts') → ts'.length < ts.length → lnOK s l → LSt σ0 σ' tp t b cd l ts' → P 0 σ') : EVi G mX8_line SH [.ref 94, .int (nI b), .int (nI s)] σ P := by
  have e1 : nI b + 1 = nI (b + 1 + ([] : List Nat).length) := by rw [nI_1]; rfl
  refine wX8_line _ _ (c_ne (s : Int) 6 rfl rfl (fun n6 => c_ne (s : Int) 2 rfl rfl (fun n2 => ?_) (fun n2 => ?_)) (fun n6 => ?_))
  · have hs1 : s = 1 := by omega
    subst hs1
    rw [e1]
    refine sX8_placed ht hT hb (by show 0 < 3; omega) hL (fun f p s1 e a fl v3 e3 => ?_) (fun x y us s1 e le x5 y2 L1 v3 e3 => b_eq e3 (b_ne (by decide) ?_))
    · rw [e3]
      exact b_eq' (f_nz fl.1 (by have := fl.2.1; omega)) (hF f p s1 (fun g => e _) a fl)
    · have e4 : nI b + 3 = nI (b + 1 + ([] ++ [x, y]).length) := by
        rw [show (3 : Int32) = nI 3 from rfl, nI_add]
        rfl
      rw [e4]
      exact sX8_setting ht hT hb (by show 2 < 3; omega) L1 (fun f p s2 e2 a fl => hF f p s2 (fun g => (e _).trans (e2 _)) a fl) (fun z w us2 s2 e2 le2 z5 w2 L2 => hK [x, y, z, w] us2 s2 (fun g => (e _).trans (e2 _)) (by omega) (Or.inl ⟨rfl, x, y, z, w, rfl, x5, y2, z5, w2⟩) L2)
  · have hs1 : s = 2 := by omega
    subst hs1
    rw [e1]
    refine sX8_figure (m := 2) ht hT hb (by show 0 < 4; omega) hL (by decide) (fun f e fl v3 e3 => ?_) (fun x us s1 e le x2 L1 v3 e3 => b_eq e3 (b_ne' rfl ?_))
    · rw [e3]
      exact b_eq' (f_nz fl.1 (by have := fl.2.1; omega)) (hF f _ σ (fun g => bN_f e) hL.1 fl)
    · have e4 : nI b + 2 = nI (b + 1 + ([] ++ [x]).length) := by
        rw [show (2 : Int32) = nI 2 from rfl, nI_add]
        rfl
      rw [e4]
      exact sX8_setting ht hT hb (by show 1 < 3; omega) L1 (fun f p s2 e2 a fl => hF f p s2 (fun g => (bN_k e).trans (e2 _)) a fl) (fun z w us2 s2 e2 le2 z5 w2 L2 => hK [x, z, w] us2 s2 (fun g => (bN_k e).trans (e2 _)) (by omega) (Or.inr (Or.inl ⟨rfl, x, z, w, rfl, x2, z5, w2⟩)) L2)
  · have hs1 : s = 6 := by omega
    subst hs1
    rw [e1]
    refine sX8_figure (m := 14) ht hT hb (by show 0 < 4; omega) hL (by decide) (fun f e fl => ?_) (fun x us s1 e le x14 L1 => ?_)
    · exact hF f _ σ (fun g => bN_f e) hL.1 fl
    · exact hK [x] us s1 (fun g => bN_k e) le (Or.inr (Or.inr ⟨rfl, x, rfl, x14⟩)) L1
