def agY (t : Nat) (σ σ' : hd_M) : Prop := (∀ k, k ≠ 94 → k ≠ 97 → k ≠ 99 → σ'.1 k = σ.1 k ∧ σ'.2 k = σ.2 k) ∧ (∀ j, j < 7 → σ'.1 94 j = σ.1 94 j) ∧ (∀ j, j < 730 * t ∨ 730 * t + 730 ≤ j → σ'.1 97 j = σ.1 97 j)
theorem agY_tr {t : Nat} {σ σ' σ'' : hd_M} (h : agY t σ σ') (h' : agX t σ' σ'') : agY t σ σ'' := ⟨fun k x y z => ⟨(h'.1 k x y z).1.trans (h.1 k x y z).1, (h'.1 k x y z).2.trans (h.1 k x y z).2⟩, fun j hj => (h'.2.1 j (by omega)).trans (h.2.1 j hj), fun j hj => (h'.2.2 j hj).trans (h.2.2 j hj)⟩
theorem rTape_Y {t : Nat} {σ σ' : hd_M} {tp : List Nat} (h : rTape σ tp) (a : agY t σ σ') : rTape σ' tp := ⟨by rw [a.2.1 4 (by omega)]; exact h.1, fun j hj => by rw [(a.1 98 (by decide) (by decide) (by decide)).1]; exact h.2 j hj⟩
theorem sX8_readText {G : hd_G} {σ : hd_M} {P : Int32 → hd_M → Prop} {tp : List Nat} {t : Nat} (ht : tok tp) (hT : rTape σ tp) (h95 : σ.1 95 1 = nI t) (t4 : t < 4) (hl : (tkF tp 301 0).length ≤ 301) (hF : ∀ f p σ', pText 25 [] [] (tkF tp 301 0) = .inl (f, p) → agY t σ σ' → rFl σ' f p → P (nI f) σ') (hD : ∀ K cd σ', pText 25 [] [] (tkF tp 301 0) = .inr (K, cd) → agY t σ σ' → rKs σ' t K → rC σ' t cd → K.length ≤ 24 → P 0 σ') : EVi G mX8_readText SH [.ref 94] σ P := by
  refine wX8_readText (fun X hX => ⟨hd_vn (k := 1) (by decide) (by decide), fun s1 e1 => ?_⟩)
  rw [show (1 : Int32).toNatClampNeg = 1 from rfl, h95, show (730 : Int32) = nI 730 from rfl, pk_mul] at e1
  have g1 : s1.1 94 12 = nI (730 * t) := by rw [e1, wI_eq, if_pos rfl]
  rw [g1, nI_clamp (by omega)]
  refine ⟨hd_vn (by omega) (by decide), fun s2 e2 s3 e3 s4 e4 s5 e5 s6 e6 => ?_⟩
  have r6 : ∀ k, k ≠ 94 → k ≠ 97 → s6.1 k = σ.1 k := fun k a b => by rw [e6, wI_ne a, e5, wI_ne a, e4, wI_ne a, e3, wI_ne a, e2, wI_ne b, e1, wI_ne a]
  have l6 : s6.2 = σ.2 := by rw [e6, e5, e4, e3, e2, e1]; rfl
  have j6 : ∀ j, j < 7 → s6.1 94 j = σ.1 94 j := fun j hj => by rw [e6, wI_eq, if_neg (by omega), e5, wI_eq, if_neg (by omega), e4, wI_eq, if_neg (by omega), e3, wI_eq, if_neg (by omega), e2, wI_ne (by decide), e1, wI_eq, if_neg (by omega)]
  have v97 : ∀ j, s6.1 97 j = if j = 730 * t then 0 else σ.1 97 j := fun j => by rw [e6, wI_ne (by decide), e5, wI_ne (by decide), e4, wI_ne (by decide), e3, wI_ne (by decide), e2, wI_eq, e1, wI_ne (by decide)]
  have a6 : agY t σ s6 := ⟨fun k a b _ => ⟨r6 k a b, by rw [l6]⟩, j6, fun j hj => by rw [v97, if_neg (by omega)]⟩
  refine sX8_nextToken (a0 := 0) (ts := tkF tp 301 0) ht (rTape_Y hT a6) (Nat.zero_le _) (by rw [e6, wI_eq, if_pos rfl]; rfl) (fun f hf => tkF_st f 301 0 hf (by have := ht.1; omega)) (fun s7 a7 t7 => ?_)
  have A7 : agY t σ s7 := agY_tr a6 (agX_L (b := 730 * t) (Nat.le_refl _) (agL_K a7))
  have R7 : RT s7 tp t [] [] (tkF tp 301 0) := by
    refine ⟨⟨?_, fun k hk => absurd hk (by simp)⟩, ⟨?_, t4, ?_, fun i hi => absurd hi (by simp)⟩, ?_, ?_, t7, by simp, by simpa using hl⟩
    · rw [(a7.1 97 (by decide)).1, v97, if_pos rfl]; rfl
    · rw [a7.2 12 (by omega), e6, wI_eq, if_neg (by decide), e5, wI_eq, if_neg (by decide), e4, wI_eq, if_neg (by decide), e3, wI_eq, if_neg (by decide), e2, wI_ne (by decide)]; exact g1
    · rw [a7.2 14 (by omega), e6, wI_eq, if_neg (by decide), e5, wI_eq, if_neg (by decide), e4, wI_eq, if_neg (by decide), e3, wI_eq, if_pos rfl]; rfl
    · rw [a7.2 18 (by omega), e6, wI_eq, if_neg (by decide), e5, wI_eq, if_neg (by decide), e4, wI_eq, if_pos rfl]
    · rw [a7.2 21 (by omega), e6, wI_eq, if_neg (by decide), e5, wI_eq, if_pos rfl]; rfl
  have main : ∀ (n : Nat) (K : List (Nat → Nat)) (cd : List Nat) (ts : List Tk) (s : hd_M), K.length + n = 25 → agY t σ s → RT s tp t K cd ts → pText 25 [] [] (tkF tp 301 0) = pText n K cd ts → hd_J G mX8_readText X SH (0, 0) 48 [(0, .ref 94)] [] s := by
    intro n
    induction n with
    | zero =>
      intro K cd ts s hn a R
      have := R.2.2.2.2.2.1
      omega
    | succ n ih =>
      intro K cd ts s hn a R er
      obtain ⟨k, us', eu⟩ := rTs_ne R.2.2.2.2.1
      subst eu
      have hk := rTs_hd R.2.2.2.2.1
      have ep : ∀ {v : CR}, k.1 ≠ 0 → pClause K cd (k :: us') = v → pText (n + 1) K cd (k :: us') = (match v with | .inl e => .inl e | .inr (ts', c, cd') => pText n (K ++ [c]) cd' ts') := by
        intro v h0 e
        show (if k.1 = 0 then _ else _) = _
        rw [if_neg h0, e]
        cases v with
        | inl e => rfl
        | inr x => obtain ⟨x1, x2, x3⟩ := x; rfl
      refine wX8_readText_48 hX (c_en hk (fun z => ?_) (fun z => ?_))
      · refine hD K cd s (er.trans ?_) a R.1 R.2.1 R.2.2.2.2.2.1
        show (if k.1 = 0 then _ else _) = _
        rw [if_pos z]
      · refine sX8_clause ht (rTape_Y hT a) R (fun f p s8 e a8 fl v3 e3 => ?_) (fun ts' c cd' s8 e a8 R8 v3 e3 => b_eq e3 ?_)
        · rw [e3]
          exact b_eq' (f_nz fl.1 (by have := fl.2.1; omega)) (hF f p s8 (er.trans (ep z e)) (agY_tr a a8) fl)
        · exact ih (K ++ [c]) cd' ts' s8 (by rw [List.length_append, List.length_singleton]; omega) (agY_tr a a8) R8 (er.trans (ep z e))
  exact main 25 [] [] _ s7 rfl A7 R7 rfl
theorem tq_of {σ : hd_M} {t : Nat} {K : List (Nat → Nat)} {cd : List Nat} (h1 : rKs σ t K) (h2 : rC σ t cd) (hC : KC K cd) : tq σ t K cd := by
  refine ⟨h2.2.1, h1.1, hC.2.1, hC.1, fun k hk j hj hu => h1.2 k hk j hj hu, fun k hk ha => hC.2.2 _ (kg_mem hk) ha, fun i hi => h2.2.2.2 i hi⟩
theorem tkF_len {tp : List Nat} : ∀ (f a : Nat), (tkF tp f a).length ≤ tp.length - a + 1
  | 0, a => by show 1 ≤ _; omega
  | f + 1, a => by
    by_cases h : a < tp.length
    · by_cases hB : isB (bt tp a) = true
      · rw [tkF_b h hB]
        have := tkF_len (tp := tp) f (a + 1)
        omega
      · rw [tkF_t h (by simpa using hB), List.length_cons]
        have := tkF_len (tp := tp) f (tokE tp a).2.2
        have := tokE_end h
        omega
    · rw [tkF_e h]
      show 1 ≤ _
      omega
