/-! the reference's evaluator -/
theorem sX8_clip {G : hd_G} {σ : hd_M} {P : Int64 → hd_M → Prop} {sh : hd_S} {z : Int} (hz : zR z) (h : P (zL (cl_clip z)) σ) : EVl G mX8_clip sh [.long (zL z)] σ P := by
  have r1 : zR 1000000 := ⟨by decide, by decide⟩
  have r2 : zR (-1000000) := ⟨by decide, by decide⟩
  refine wX8_clip _ ⟨fun a => ⟨fun b => ?_, fun b => ?_⟩, fun a => ?_⟩
  · have a1 := (zL_le hz r1).mp ((lg_cmp_le _ _).mp a)
    have b1 := (zL_le r2 hz).mp ((lg_cmp_ge _ _).mp b)
    have e : cl_clip z = z := by unfold cl_clip; rw [if_neg (by omega), if_neg (by omega)]
    rw [e] at h
    exact h
  · have b1 := (zL_lt hz r2).mp ((lg_cmp_lt _ _).mp b)
    have e : cl_clip z = -1000000 := by unfold cl_clip; rw [if_pos (by omega)]
    rw [e] at h
    exact h
  · have a1 := (zL_lt r1 hz).mp ((lg_cmp_gt _ _).mp a)
    have e : cl_clip z = 1000000 := by unfold cl_clip; rw [if_neg (by omega), if_pos (by omega)]
    rw [e] at h
    exact h
theorem cl_add_R {x y : Int} (hx : cl_m x) (hy : cl_m y) : zR (x + y) := ⟨by have := hx.1; have := hy.1; omega, by have := hx.2; have := hy.2; omega⟩
theorem cl_sub_R {x y : Int} (hx : cl_m x) (hy : cl_m y) : zR (x - y) := ⟨by have := hx.1; have := hy.2; omega, by have := hx.2; have := hy.1; omega⟩
theorem sX8_two {G : hd_G} {σ : hd_M} {P : Int64 → hd_M → Prop} {sh : hd_S} {o : Nat} {x y : Int} (hc : 3 ≤ o ∧ o < 7) (hx : cl_m x) (hy : cl_m y) (h : P (zL (cl_two (o + 10028) x y)) σ) : EVl G mX8_two sh [.int (nI o), .long (zL x), .long (zL y)] σ P := by
  have rx := zr_R (cl_m_r hx)
  have ry := zr_R (cl_m_r hy)
  have hc' : o = 3 ∨ o = 4 ∨ o = 5 ∨ o = 6 := by omega
  refine wX8_two _ _ _ ?_
  rcases hc' with rfl | rfl | rfl | rfl
  · refine b_eq rfl ?_
    rw [zL_add]
    exact sX8_clip (cl_add_R hx hy) (by simpa [cl_two] using h)
  · refine b_eq' (by decide) (b_eq rfl ?_)
    rw [zL_sub]
    exact sX8_clip (cl_sub_R hx hy) (by simpa [cl_two] using h)
  · refine b_eq' (by decide) (b_eq' (by decide) (b_eq rfl ?_))
    rw [zL_mul]
    exact sX8_clip (cl_mul_R hx hy) (by simpa [cl_two] using h)
  · refine b_eq' (by decide) (b_eq' (by decide) (b_eq' (by decide) ⟨fun a => ⟨fun z => ?_, ?_⟩, fun a => ?_⟩))
    · rw [lg_cmp_eq] at a
      exact a z
    · rw [lg_cmp_eq] at a
      have hy0 : ¬ y = 0 := fun z => a (by rw [z]; rfl)
      rw [zL_div rx ry]
      refine sX8_clip (zr_R (cl_tdiv_m hx)) ?_
      simpa [cl_two, hy0] using h
    · rw [lg_cmp_eq] at a
      have hy0 : y = 0 := (zL_eq ry (y := 0) ⟨by decide, by decide⟩).mp a
      have e0 : (0 : Int64) = zL 0 := rfl
      rw [e0]
      simpa [cl_two, hy0] using h
theorem sX8_isAsked {G : hd_G} {σ : hd_M} {P : Int32 → hd_M → Prop} {sh : hd_S} {o : Nat} {x y : Int} (hc : 10 ≤ o ∧ o < 16) (hx : cl_m x) (hy : cl_m y) (h : P (zI (cl_bit (cl_cmp (o + 10015) x y))) σ) : EVi G mX8_isAsked sh [.int (nI o), .long (zL x), .long (zL y)] σ P := by
  have rx := zr_R (cl_m_r hx)
  have ry := zr_R (cl_m_r hy)
  have hc' : o = 10 ∨ o = 11 ∨ o = 12 ∨ o = 13 ∨ o = 14 ∨ o = 15 := by omega
  refine wX8_isAsked _ _ _ ?_
  simp only [lg_cmp_le, lg_cmp_ge, lg_cmp_lt, lg_cmp_gt, lg_cmp_eq, zL_lt rx ry, zL_le rx ry, zL_eq rx ry, zL_lt ry rx, zL_le ry rx]
  rcases hc' with rfl | rfl | rfl | rfl | rfl | rfl
  · refine b_ne' rfl ⟨fun z => ⟨by simp, ?_⟩, fun z => ⟨by simp, ?_⟩⟩
    · simpa [cl_cmp, cl_bit, zI_0, Int.not_lt.mpr z] using h
    · simpa [cl_cmp, cl_bit, zI_1, z] using h
  · refine b_ne (by decide) (b_ne' rfl ⟨fun z => ⟨by simp, ?_⟩, fun z => ⟨by simp, ?_⟩⟩)
    · simpa [cl_cmp, cl_bit, zI_0, Int.not_le.mpr z] using h
    · simpa [cl_cmp, cl_bit, zI_1, z] using h
  · refine b_ne (by decide) (b_ne (by decide) (b_ne' rfl ⟨fun z => ⟨by simp, ?_⟩, fun z => ⟨by simp, ?_⟩⟩))
    · simpa [cl_cmp, cl_bit, zI_0, Int.not_lt.mpr z] using h
    · simpa [cl_cmp, cl_bit, zI_1, z] using h
  · refine b_ne (by decide) (b_ne (by decide) (b_ne (by decide) (b_ne' rfl ⟨fun z => ⟨by simp, ?_⟩, fun z => ⟨by simp, ?_⟩⟩)))
    · simpa [cl_cmp, cl_bit, zI_0, Int.not_le.mpr z] using h
    · simpa [cl_cmp, cl_bit, zI_1, z] using h
  · refine b_ne (by decide) (b_ne (by decide) (b_ne (by decide) (b_ne (by decide) (b_ne' rfl ⟨fun z => ⟨by simp, ?_⟩, fun z => ⟨by simp, ?_⟩⟩))))
    · simpa [cl_cmp, cl_bit, zI_0, z] using h
    · simpa [cl_cmp, cl_bit, zI_1, z] using h
  · refine b_ne (by decide) (b_ne (by decide) (b_ne (by decide) (b_ne (by decide) (b_ne (by decide) ⟨fun z => ⟨by simp, ?_⟩, fun z => ⟨by simp, ?_⟩⟩))))
    · simpa [cl_cmp, cl_bit, zI_0, z] using h
    · simpa [cl_cmp, cl_bit, zI_1, z] using h
