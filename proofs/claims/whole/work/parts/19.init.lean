set_option maxRecDepth 100000 in
set_option maxHeartbeats 4000000 in
theorem iX1_init_3 {G : hd_G} {σ : hd_M} {P : hd_S → hd_M → Prop} (h : P hs2 (hd_zer (hd_zer (hd_zer (hd_zer (hd_zer (hd_wI (hd_zer σ 3) 2 5 (-1)) 4) 5) 6) 7) 8)) : EVc G nX1_init hs1 [.ref 2] σ P := by
  refine cX1_init_3 ?_
  refine ⟨by decide, ?_⟩
  intro s1 e_s1; subst e_s1
  refine ⟨by decide, ?_⟩
  refine ⟨by decide, ?_⟩
  refine ⟨by decide, ?_⟩
  refine ⟨by decide, ?_⟩
  refine ⟨by decide, ?_⟩
  refine ⟨⟨rfl, by decide, by decide⟩, ?_⟩
  exact h
set_option maxRecDepth 100000 in
set_option maxHeartbeats 4000000 in
theorem iX1_init_10 {G : hd_G} {σ : hd_M} {P : hd_S → hd_M → Prop} (h : P hs4 (hd_zer (hd_zer (hd_zer (hd_zer (hd_zer (hd_wI (hd_zer σ 10) 9 5 (-1)) 11) 12) 13) 14) 15)) : EVc G nX1_init hs3 [.ref 9] σ P := by
  refine cX1_init_10 ?_
  refine ⟨by decide, ?_⟩
  intro s1 e_s1; subst e_s1
  refine ⟨by decide, ?_⟩
  refine ⟨by decide, ?_⟩
  refine ⟨by decide, ?_⟩
  refine ⟨by decide, ?_⟩
  refine ⟨by decide, ?_⟩
  refine ⟨⟨rfl, by decide, by decide⟩, ?_⟩
  exact h
set_option maxRecDepth 100000 in
set_option maxHeartbeats 4000000 in
theorem iX2_init_18 {G : hd_G} {σ : hd_M} {P : hd_S → hd_M → Prop} (h : P hs7 (hd_fill (hd_zer (hd_zer (hd_zer (hd_zer (hd_zer (hd_zer (hd_zer (hd_zer σ 18) 19) 20) 21) 22) 23) 24) 25) 19 9 (-1))) : EVc G nX2_init hs6 [.ref 17] σ P := by
  refine cX2_init_18 ?_
  refine ⟨by decide, ?_⟩
  refine ⟨by decide, ?_⟩
  refine ⟨by decide, ?_⟩
  refine ⟨by decide, ?_⟩
  refine ⟨by decide, ?_⟩
  refine ⟨by decide, ?_⟩
  refine ⟨by decide, ?_⟩
  refine ⟨by decide, ?_⟩
  refine sJ7_fill (n := 9) rfl (by decide) ?_
  refine ⟨⟨rfl, by decide, by decide⟩, ?_⟩
  exact h
set_option maxRecDepth 100000 in
set_option maxHeartbeats 4000000 in
theorem iX2_init_27 {G : hd_G} {σ : hd_M} {P : hd_S → hd_M → Prop} (h : P hs10 (hd_fill (hd_zer (hd_zer (hd_zer (hd_zer (hd_zer (hd_zer (hd_zer (hd_zer σ 27) 28) 29) 30) 31) 32) 33) 34) 28 9 (-1))) : EVc G nX2_init hs9 [.ref 26] σ P := by
  refine cX2_init_27 ?_
  refine ⟨by decide, ?_⟩
  refine ⟨by decide, ?_⟩
  refine ⟨by decide, ?_⟩
  refine ⟨by decide, ?_⟩
  refine ⟨by decide, ?_⟩
  refine ⟨by decide, ?_⟩
  refine ⟨by decide, ?_⟩
  refine ⟨by decide, ?_⟩
  refine sJ7_fill (n := 9) rfl (by decide) ?_
  refine ⟨⟨rfl, by decide, by decide⟩, ?_⟩
  exact h
set_option maxRecDepth 100000 in
set_option maxHeartbeats 4000000 in
theorem iX2_init_36 {G : hd_G} {σ : hd_M} {P : hd_S → hd_M → Prop} (h : P hs13 (hd_fill (hd_zer (hd_zer (hd_zer (hd_zer (hd_zer (hd_zer (hd_zer (hd_zer σ 36) 37) 38) 39) 40) 41) 42) 43) 37 9 (-1))) : EVc G nX2_init hs12 [.ref 35] σ P := by
  refine cX2_init_36 ?_
  refine ⟨by decide, ?_⟩
  refine ⟨by decide, ?_⟩
  refine ⟨by decide, ?_⟩
  refine ⟨by decide, ?_⟩
  refine ⟨by decide, ?_⟩
  refine ⟨by decide, ?_⟩
  refine ⟨by decide, ?_⟩
  refine ⟨by decide, ?_⟩
  refine sJ7_fill (n := 9) rfl (by decide) ?_
  refine ⟨⟨rfl, by decide, by decide⟩, ?_⟩
  exact h
set_option maxRecDepth 100000 in
set_option maxHeartbeats 4000000 in
theorem iX2_init_45 {G : hd_G} {σ : hd_M} {P : hd_S → hd_M → Prop} (h : P hs16 (hd_fill (hd_zer (hd_zer (hd_zer (hd_zer (hd_zer (hd_zer (hd_zer (hd_zer σ 45) 46) 47) 48) 49) 50) 51) 52) 46 9 (-1))) : EVc G nX2_init hs15 [.ref 44] σ P := by
  refine cX2_init_45 ?_
  refine ⟨by decide, ?_⟩
  refine ⟨by decide, ?_⟩
  refine ⟨by decide, ?_⟩
  refine ⟨by decide, ?_⟩
  refine ⟨by decide, ?_⟩
  refine ⟨by decide, ?_⟩
  refine ⟨by decide, ?_⟩
  refine ⟨by decide, ?_⟩
  refine sJ7_fill (n := 9) rfl (by decide) ?_
  refine ⟨⟨rfl, by decide, by decide⟩, ?_⟩
  exact h
set_option maxRecDepth 100000 in
set_option maxHeartbeats 4000000 in
theorem iX2_init_54 {G : hd_G} {σ : hd_M} {P : hd_S → hd_M → Prop} (h : P hs19 (hd_fill (hd_zer (hd_zer (hd_zer (hd_zer (hd_zer (hd_zer (hd_zer (hd_zer σ 54) 55) 56) 57) 58) 59) 60) 61) 55 9 (-1))) : EVc G nX2_init hs18 [.ref 53] σ P := by
  refine cX2_init_54 ?_
  refine ⟨by decide, ?_⟩
  refine ⟨by decide, ?_⟩
  refine ⟨by decide, ?_⟩
  refine ⟨by decide, ?_⟩
  refine ⟨by decide, ?_⟩
  refine ⟨by decide, ?_⟩
  refine ⟨by decide, ?_⟩
  refine ⟨by decide, ?_⟩
  refine sJ7_fill (n := 9) rfl (by decide) ?_
  refine ⟨⟨rfl, by decide, by decide⟩, ?_⟩
  exact h
set_option maxRecDepth 100000 in
set_option maxHeartbeats 4000000 in
theorem iX6_init_64 {G : hd_G} {σ : hd_M} {P : hd_S → hd_M → Prop} (h : P hs22 (hd_wI (hd_zer (hd_zer (hd_zer (hd_zer σ 64) 65) 66) 67) 63 5 (Int32.ofNat 67))) : EVc G nX6_init hs21 [.ref 63] σ P := by
  refine cX6_init_64 ?_
  refine ⟨by decide, ?_⟩
  refine ⟨by decide, ?_⟩
  refine ⟨by decide, ?_⟩
  refine ⟨by decide, ?_⟩
  refine ⟨by decide, ?_⟩
  intro s1 e_s1; subst e_s1
  refine ⟨⟨rfl, by decide, by decide⟩, ?_⟩
  exact h
set_option maxRecDepth 100000 in
set_option maxHeartbeats 4000000 in
theorem iX2_init_69 {G : hd_G} {σ : hd_M} {P : hd_S → hd_M → Prop} (h : P hs24 (hd_fill (hd_zer (hd_zer (hd_zer (hd_zer (hd_zer (hd_zer (hd_zer (hd_zer σ 69) 70) 71) 72) 73) 74) 75) 76) 70 9 (-1))) : EVc G nX2_init hs23 [.ref 68] σ P := by
  refine cX2_init_69 ?_
  refine ⟨by decide, ?_⟩
  refine ⟨by decide, ?_⟩
  refine ⟨by decide, ?_⟩
  refine ⟨by decide, ?_⟩
  refine ⟨by decide, ?_⟩
  refine ⟨by decide, ?_⟩
  refine ⟨by decide, ?_⟩
  refine ⟨by decide, ?_⟩
  refine sJ7_fill (n := 9) rfl (by decide) ?_
  refine ⟨⟨rfl, by decide, by decide⟩, ?_⟩
  exact h
set_option maxRecDepth 100000 in
set_option maxHeartbeats 4000000 in
theorem iX3_init_63 {G : hd_G} {σ : hd_M} {P : hd_S → hd_M → Prop} (h : P hs25 (hd_zer (hd_wI (hd_fill (hd_zer (hd_zer (hd_zer (hd_zer (hd_zer (hd_zer (hd_zer (hd_zer (hd_zer (hd_wI (hd_zer (hd_zer (hd_zer (hd_zer (hd_zer σ 63) 64) 65) 66) 67) 63 5 (Int32.ofNat 67)) 68) 69) 70) 71) 72) 73) 74) 75) 76) 70 9 (-1)) 62 1 (Int32.ofNat 68)) 77)) : EVc G nX3_init hs20 [.ref 62] σ P := by
  refine cX3_init_63 (fun X hX => ?_)
  refine iX6_init_64 ?_
  refine cX3_init_63_12_68 hX ?_
  refine iX2_init_69 ?_
  refine cX3_init_63_23_77 hX ?_
  refine ⟨by decide, ?_⟩
  intro s1 e_s1; subst e_s1
  refine ⟨by decide, ?_⟩
  refine ⟨⟨rfl, by decide, by decide⟩, ?_⟩
  exact h
set_option maxRecDepth 100000 in
set_option maxHeartbeats 4000000 in
theorem iX4_init_79 {G : hd_G} {σ : hd_M} {P : hd_S → hd_M → Prop} (h : P hs27 (hd_zer (hd_zer σ 79) 80)) : EVc G nX4_init hs26 [.ref 78, .ref 3] σ P := by
  refine cX4_init_79 ?_
  refine ⟨by decide, ?_⟩
  refine ⟨by decide, ?_⟩
  refine ⟨⟨rfl, by decide, by decide⟩, ?_⟩
  exact h
set_option maxRecDepth 100000 in
set_option maxHeartbeats 4000000 in
theorem iX5_init_82 {G : hd_G} {σ : hd_M} {P : hd_S → hd_M → Prop} (h : P hs29 (hd_wI (hd_wI (hd_zer (hd_zer (hd_zer (hd_zer (hd_zer σ 82) 83) 84) 85) 86) 81 7 (Int32.ofNat 53)) 81 8 (Int32.ofNat 53))) : EVc G nX5_init hs28 [.ref 81, .ref 78, .ref 53] σ P := by
  refine cX5_init_82 ?_
  refine ⟨by decide, ?_⟩
  refine ⟨by decide, ?_⟩
  refine ⟨by decide, ?_⟩
  refine ⟨by decide, ?_⟩
  refine ⟨by decide, ?_⟩
  refine ⟨by decide, ?_⟩
  intro s1 e_s1; subst e_s1
  refine ⟨by decide, ?_⟩
  intro s2 e_s2; subst e_s2
  refine ⟨⟨rfl, by decide, by decide⟩, ?_⟩
  exact h
set_option maxRecDepth 100000 in
set_option maxHeartbeats 4000000 in
theorem iX0_init_88 {G : hd_G} {σ : hd_M} {P : hd_S → hd_M → Prop} (h : P hs31 (hd_zer (hd_zer (hd_zer (hd_zer (hd_zer σ 88) 89) 90) 91) 92)) : EVc G nX0_init hs30 [.ref 87, .ref 78] σ P := by
  refine cX0_init_88 ?_
  refine ⟨by decide, ?_⟩
  refine ⟨by decide, ?_⟩
  refine ⟨by decide, ?_⟩
  refine ⟨by decide, ?_⟩
  refine ⟨by decide, ?_⟩
  refine ⟨⟨rfl, by decide, by decide⟩, ?_⟩
  exact h
set_option maxRecDepth 100000 in
set_option maxHeartbeats 4000000 in
theorem iX7_init_0 {G : hd_G} {σ : hd_M} {P : hd_S → hd_M → Prop} (h : P hs32 (hd_wI (hd_zer (hd_zer (hd_zer (hd_zer (hd_zer (hd_zer (hd_zer (hd_wI (hd_wI (hd_zer (hd_zer (hd_zer (hd_zer (hd_zer (hd_zer (hd_zer (hd_zer (hd_zer (hd_zer (hd_wI (hd_fill (hd_zer (hd_zer (hd_zer (hd_zer (hd_zer (hd_zer (hd_zer (hd_zer (hd_zer (hd_wI (hd_zer (hd_zer (hd_zer (hd_zer (hd_zer (hd_zer (hd_fill (hd_zer (hd_zer (hd_zer (hd_zer (hd_zer (hd_zer (hd_zer (hd_zer (hd_zer (hd_fill (hd_zer (hd_zer (hd_zer (hd_zer (hd_zer (hd_zer (hd_zer (hd_zer (hd_zer (hd_fill (hd_zer (hd_zer (hd_zer (hd_zer (hd_zer (hd_zer (hd_zer (hd_zer (hd_zer (hd_fill (hd_zer (hd_zer (hd_zer (hd_zer (hd_zer (hd_zer (hd_zer (hd_zer (hd_zer (hd_fill (hd_zer (hd_zer (hd_zer (hd_zer (hd_zer (hd_zer (hd_zer (hd_zer (hd_zer (hd_zer (hd_zer (hd_zer (hd_zer (hd_zer (hd_zer (hd_wI (hd_zer (hd_zer (hd_zer (hd_zer (hd_zer (hd_zer (hd_zer (hd_wI (hd_zer (hd_zer (hd_wI (hd_wI (hd_zer σ 1) 0 2 (-1)) 0 3 (-1)) 2) 3) 2 5 (-1)) 4) 5) 6) 7) 8) 9) 10) 9 5 (-1)) 11) 12) 13) 14) 15) 16) 17) 18) 19) 20) 21) 22) 23) 24) 25) 19 9 (-1)) 26) 27) 28) 29) 30) 31) 32) 33) 34) 28 9 (-1)) 35) 36) 37) 38) 39) 40) 41) 42) 43) 37 9 (-1)) 44) 45) 46) 47) 48) 49) 50) 51) 52) 46 9 (-1)) 53) 54) 55) 56) 57) 58) 59) 60) 61) 55 9 (-1)) 62) 63) 64) 65) 66) 67) 63 5 (Int32.ofNat 67)) 68) 69) 70) 71) 72) 73) 74) 75) 76) 70 9 (-1)) 62 1 (Int32.ofNat 68)) 77) 78) 79) 80) 81) 82) 83) 84) 85) 86) 81 7 (Int32.ofNat 53)) 81 8 (Int32.ofNat 53)) 87) 88) 89) 90) 91) 92) 93) 0 13 (-1))) : EVc G nX7_init hs0 [.ref 0] σ P := by
  refine cX7_init_0 (fun X hX => ?_)
  refine ⟨by decide, ?_⟩
  intro s1 e_s1; subst e_s1
  intro s2 e_s2; subst e_s2
  refine iX1_init_3 ?_
  refine cX7_init_0_31_9 hX ?_
  refine iX1_init_10 ?_
  refine cX7_init_0_42_16 hX ?_
  refine ⟨by decide, ?_⟩
  intro v1 e_v1; subst e_v1
  refine cX7_init_0_55_17 hX ?_
  refine ⟨fun z => absurd z (by decide), fun _ => ?_⟩
  refine iX2_init_18 ?_
  refine cX7_init_0_76_26 hX ?_
  refine ⟨by unfold vp_in; decide, ?_⟩
  intro v1 e_v1; subst e_v1
  refine cX7_init_0_55_26 hX ?_
  refine ⟨fun z => absurd z (by decide), fun _ => ?_⟩
  refine iX2_init_27 ?_
  refine cX7_init_0_76_35 hX ?_
  refine ⟨by unfold vp_in; decide, ?_⟩
  intro v1 e_v1; subst e_v1
  refine cX7_init_0_55_35 hX ?_
  refine ⟨fun z => absurd z (by decide), fun _ => ?_⟩
  refine iX2_init_36 ?_
  refine cX7_init_0_76_44 hX ?_
  refine ⟨by unfold vp_in; decide, ?_⟩
  intro v1 e_v1; subst e_v1
  refine cX7_init_0_55_44 hX ?_
  refine ⟨fun z => absurd z (by decide), fun _ => ?_⟩
  refine iX2_init_45 ?_
  refine cX7_init_0_76_53 hX ?_
  refine ⟨by unfold vp_in; decide, ?_⟩
  intro v1 e_v1; subst e_v1
  refine cX7_init_0_55_53 hX ?_
  refine ⟨fun _ => ?_, fun z => absurd z (by decide)⟩
  refine cX7_init_0_83_53 hX ?_
  refine iX2_init_54 ?_
  refine cX7_init_0_91_62 hX ?_
  refine iX3_init_63 ?_
  refine cX7_init_0_102_78 hX ?_
  refine iX4_init_79 ?_
  refine cX7_init_0_120_81 hX ?_
  refine iX5_init_82 ?_
  refine cX7_init_0_139_87 hX ?_
  refine iX0_init_88 ?_
  refine cX7_init_0_154_93 hX ?_
  refine ⟨by decide, ?_⟩
  intro s1 e_s1; subst e_s1
  refine ⟨⟨rfl, by decide, by decide⟩, ?_⟩
  exact h
set_option maxRecDepth 100000 in
set_option maxHeartbeats 4000000 in
theorem iX8_init_0 {G : hd_G} {σ : hd_M} {P : hd_S → hd_M → Prop} (h : P hs34 (hd_cpy (hd_wI (hd_zer (hd_zer (hd_zer (hd_zer (hd_zer (hd_zer (hd_zer (hd_zer (hd_zer (hd_zer (hd_zer (hd_zer (hd_zer (hd_zer (hd_zer (hd_zer (hd_zer (hd_wI (hd_wI (hd_zer (hd_zer (hd_zer (hd_zer σ 95) 96) 97) 98) 94 5 (-1)) 94 6 (-1)) 99) 100) 101) 102) 103) 104) 105) 106) 107) 108) 109) 110) 111) 112) 113) 114) 115) 95 ((2 : Int32).toNatClampNeg) (-1)) 95 96 334)) : EVc G nX8_init hs33 [.ref 94] σ P := by
  refine cX8_init_0 ?_
  refine ⟨by decide, ?_⟩
  refine ⟨by decide, ?_⟩
  refine ⟨by decide, ?_⟩
  refine ⟨by decide, ?_⟩
  intro s1 e_s1; subst e_s1
  intro s2 e_s2; subst e_s2
  refine ⟨by decide, ?_⟩
  refine ⟨by decide, ?_⟩
  refine ⟨by decide, ?_⟩
  refine ⟨by decide, ?_⟩
  refine ⟨by decide, ?_⟩
  refine ⟨by decide, ?_⟩
  refine ⟨by decide, ?_⟩
  refine ⟨by decide, ?_⟩
  refine ⟨by decide, ?_⟩
  refine ⟨by decide, ?_⟩
  refine ⟨by decide, ?_⟩
  refine ⟨by decide, ?_⟩
  refine ⟨by decide, ?_⟩
  refine ⟨by decide, ?_⟩
  refine ⟨by decide, ?_⟩
  refine ⟨by decide, ?_⟩
  refine ⟨by decide, ?_⟩
  refine ⟨by unfold vp_in; decide, ?_⟩
  intro s3 e_s3; subst e_s3
  refine sX8_copy rfl rfl (by decide) ?_
  refine ⟨⟨rfl, by decide, by decide⟩, ?_⟩
  exact h
set_option maxRecDepth 100000 in
/-- what the cells hold behind the two constructors -/
def hd_S0 (σ : hd_M) : hd_M := (hd_cpy (hd_wI (hd_zer (hd_zer (hd_zer (hd_zer (hd_zer (hd_zer (hd_zer (hd_zer (hd_zer (hd_zer (hd_zer (hd_zer (hd_zer (hd_zer (hd_zer (hd_zer (hd_zer (hd_wI (hd_wI (hd_zer (hd_zer (hd_zer (hd_zer (hd_zer (hd_wI (hd_zer (hd_zer (hd_zer (hd_zer (hd_zer (hd_zer (hd_zer (hd_wI (hd_wI (hd_zer (hd_zer (hd_zer (hd_zer (hd_zer (hd_zer (hd_zer (hd_zer (hd_zer (hd_zer (hd_wI (hd_fill (hd_zer (hd_zer (hd_zer (hd_zer (hd_zer (hd_zer (hd_zer (hd_zer (hd_zer (hd_wI (hd_zer (hd_zer (hd_zer (hd_zer (hd_zer (hd_zer (hd_fill (hd_zer (hd_zer (hd_zer (hd_zer (hd_zer (hd_zer (hd_zer (hd_zer (hd_zer (hd_fill (hd_zer (hd_zer (hd_zer (hd_zer (hd_zer (hd_zer (hd_zer (hd_zer (hd_zer (hd_fill (hd_zer (hd_zer (hd_zer (hd_zer (hd_zer (hd_zer (hd_zer (hd_zer (hd_zer (hd_fill (hd_zer (hd_zer (hd_zer (hd_zer (hd_zer (hd_zer (hd_zer (hd_zer (hd_zer (hd_fill (hd_zer (hd_zer (hd_zer (hd_zer (hd_zer (hd_zer (hd_zer (hd_zer (hd_zer (hd_zer (hd_zer (hd_zer (hd_zer (hd_zer (hd_zer (hd_wI (hd_zer (hd_zer (hd_zer (hd_zer (hd_zer (hd_zer (hd_zer (hd_wI (hd_zer (hd_zer (hd_wI (hd_wI (hd_zer (hd_zer σ 0) 1) 0 2 (-1)) 0 3 (-1)) 2) 3) 2 5 (-1)) 4) 5) 6) 7) 8) 9) 10) 9 5 (-1)) 11) 12) 13) 14) 15) 16) 17) 18) 19) 20) 21) 22) 23) 24) 25) 19 9 (-1)) 26) 27) 28) 29) 30) 31) 32) 33) 34) 28 9 (-1)) 35) 36) 37) 38) 39) 40) 41) 42) 43) 37 9 (-1)) 44) 45) 46) 47) 48) 49) 50) 51) 52) 46 9 (-1)) 53) 54) 55) 56) 57) 58) 59) 60) 61) 55 9 (-1)) 62) 63) 64) 65) 66) 67) 63 5 (Int32.ofNat 67)) 68) 69) 70) 71) 72) 73) 74) 75) 76) 70 9 (-1)) 62 1 (Int32.ofNat 68)) 77) 78) 79) 80) 81) 82) 83) 84) 85) 86) 81 7 (Int32.ofNat 53)) 81 8 (Int32.ofNat 53)) 87) 88) 89) 90) 91) 92) 93) 0 13 (-1)) 94) 95) 96) 97) 98) 94 5 (-1)) 94 6 (-1)) 99) 100) 101) 102) 103) 104) 105) 106) 107) 108) 109) 110) 111) 112) 113) 114) 115) 95 ((2 : Int32).toNatClampNeg) (-1)) 95 96 334)
set_option maxRecDepth 100000 in
set_option maxHeartbeats 4000000 in
theorem hd_law_head {G : hd_G} {X : hd_X} {L : Nat} {xs : Nat → Int32} {Z : hd_S → Nat × Nat → Option Value → hd_M → Prop} (hX : hd_CA G mL X Z) (hs : hd_scr G X L xs) (σ : hd_M) (h : hd_J G mL X SH (116, 129556) 18 [(0, .ref 6000), (1, .ref 0), (2, .ref 94), (3, .int 0)] [] (hd_S0 σ)) : hd_J G mL X hs35 (0, 0) 0 [(0, .ref 6000)] [] σ := by
  refine wL_0 hX hs ?_
  refine iX7_init_0 ?_
  refine wL_7 hX hs ?_
  refine iX8_init_0 ?_
  refine wL_15 hX hs (fun v1 e1 => ?_)
  subst e1
  exact h
