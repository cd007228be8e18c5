theorem hd_g_tbl {w : Cond} (h : w ∈ lw_g) : w ∈ lw_tbl := (List.mem_filter.mp h).1
theorem hd_arrT {args : Array Value} {s : State} {ty : FieldType} (h : (Cond.arrayClass ty).before args s = true) : ∃ c, ArrOfT s c ty ∧ s.vm.findClass ("[" ++ ty.toString) = some c := by
  obtain ⟨c, k, comp, h1, h2, h3⟩ := Cond.arrayClass_spec h
  exact ⟨c, fun n z => ⟨fun k h => (by cases h), k, h2, comp, h3⟩, h1⟩
set_option maxRecDepth 100000 in
theorem hd_known {args : Array Value} {s : State} (hts : ∀ w ∈ lw_tbl, w.before args s = true) : ∃ D : va_G, ∀ (k : Nat) (q : vw_C), vwCl[k]? = some q → u_Kn s q.1 q.2.1 q.2.2 (D.1 k) (D.2 k) := by
  have h : ∀ k : Nat, ∃ x : ClassId × (Nat → Nat), ∀ q : vw_C, vwCl[k]? = some q → u_Kn s q.1 q.2.1 q.2.2 x.1 x.2 := by
    intro k
    match k with
    | 0 => obtain ⟨c, i, h⟩ := u_known (C := RX0) (T := TX0) (N := 8) (n := 8) hts (fun w hw => hd_g_tbl (hd_in0 w hw)) (hts (.instantiable RX0 8) (hd_tb_sub (c := 2) (List.mem_of_getElem? (i := 55) rfl))); exact ⟨(c, i), fun q hq => by cases hq; exact h⟩
    | 1 => obtain ⟨c, i, h⟩ := u_known (C := RX1) (T := TX1) (N := 14) (n := 14) hts (fun w hw => hd_g_tbl (hd_in1 w hw)) (hts (.instantiable RX1 14) (hd_tb_sub (c := 1) (List.mem_of_getElem? (i := 27) rfl))); exact ⟨(c, i), fun q hq => by cases hq; exact h⟩
    | 2 => obtain ⟨c, i, h⟩ := u_known (C := RX2) (T := TX2) (N := 11) (n := 11) hts (fun w hw => hd_g_tbl (hd_in2 w hw)) (hts (.instantiable RX2 11) (hd_tb_sub (c := 1) (List.mem_of_getElem? (i := 91) rfl))); exact ⟨(c, i), fun q hq => by cases hq; exact h⟩
    | 3 => obtain ⟨c, i, h⟩ := u_known (C := RX3) (T := TX3) (N := 12) (n := 12) hts (fun w hw => hd_g_tbl (hd_in3 w hw)) (hts (.instantiable RX3 12) (hd_tb_sub (c := 1) (List.mem_of_getElem? (i := 147) rfl))); exact ⟨(c, i), fun q hq => by cases hq; exact h⟩
    | 4 => obtain ⟨c, i, h⟩ := u_known (C := RX4) (T := TX4) (N := 4) (n := 4) hts (fun w hw => hd_g_tbl (hd_in4 w hw)) (hts (.instantiable RX4 4) (hd_tb_sub (c := 1) (List.mem_of_getElem? (i := 236) rfl))); exact ⟨(c, i), fun q hq => by cases hq; exact h⟩
    | 5 => obtain ⟨c, i, h⟩ := u_known (C := RX5) (T := TX5) (N := 11) (n := 11) hts (fun w hw => hd_g_tbl (hd_in5 w hw)) (hts (.instantiable RX5 11) (hd_tb_sub (c := 2) (List.mem_of_getElem? (i := 15) rfl))); exact ⟨(c, i), fun q hq => by cases hq; exact h⟩
    | 6 => obtain ⟨c, i, h⟩ := u_known (C := RX6) (T := TX6) (N := 11) (n := 11) hts (fun w hw => hd_g_tbl (hd_in6 w hw)) (hts (.instantiable RX6 11) (hd_tb_sub (c := 1) (List.mem_of_getElem? (i := 153) rfl))); exact ⟨(c, i), fun q hq => by cases hq; exact h⟩
    | 7 => obtain ⟨c, i, h⟩ := u_known (C := RX7) (T := TX7) (N := 14) (n := 14) hts (fun w hw => hd_g_tbl (hd_in7 w hw)) (hts (.instantiable RX7 14) (hd_tb_sub (c := 1) (List.mem_of_getElem? (i := 19) rfl))); exact ⟨(c, i), fun q hq => by cases hq; exact h⟩
    | 8 => obtain ⟨c, i, h⟩ := u_known (C := RX8) (T := TX8) (N := 41) (n := 41) hts (fun w hw => hd_g_tbl (hd_in8 w hw)) (hts (.instantiable RX8 41) (hd_tb_sub (c := 4) (List.mem_of_getElem? (i := 142) rfl))); exact ⟨(c, i), fun q hq => by cases hq; exact h⟩
    | k + 9 => exact ⟨(0, fun _ => 0), fun q hq => by simp [vwCl] at hq⟩
  exact ⟨(fun k => (Classical.choose (h k)).1, fun k => (Classical.choose (h k)).2), fun k q hq => Classical.choose_spec (h k) q hq⟩
set_option maxRecDepth 100000 in
theorem hd_nest_tbl : ∀ w ∈ hd_nest, w ∈ lw_tbl := by
  intro w hw
  simp only [hd_nest, List.mem_cons, List.not_mem_nil, or_false] at hw
  rcases hw with rfl | rfl | rfl | rfl | rfl | rfl | rfl
  · exact hd_tb_sub (c := 1) (List.mem_of_getElem? (i := 28) rfl)
  · exact hd_tb_sub (c := 1) (List.mem_of_getElem? (i := 148) rfl)
  · exact hd_tb_sub (c := 1) (List.mem_of_getElem? (i := 154) rfl)
  · exact hd_tb_sub (c := 3) (List.mem_of_getElem? (i := 108) rfl)
  · exact hd_tb_sub (c := 3) (List.mem_of_getElem? (i := 111) rfl)
  · exact hd_tb_sub (c := 3) (List.mem_of_getElem? (i := 150) rfl)
  · exact hd_tb_sub (c := 3) (List.mem_of_getElem? (i := 183) rfl)
set_option maxRecDepth 100000 in
theorem hd_ao_tbl : Cond.arrayOver (.object "HiddenDrawers$Law") ∈ lw_tbl := hd_tb_sub (c := 1) (List.mem_of_getElem? (i := 90) rfl)
set_option maxRecDepth 100000 in
theorem hd_cs_tbl : Cond.laysStatic "java/lang/String" "COMPACT_STRINGS" "Z" ∈ lw_tbl := hd_tb_sub (c := 2) (List.mem_of_getElem? (i := 192) rfl)
set_option maxRecDepth 100000 in
theorem hd_si_tbl : Cond.initialized "java/lang/String" ∈ lw_tbl := hd_tb_sub (c := 1) (List.mem_of_getElem? (i := 12) rfl)
set_option maxRecDepth 100000 in
theorem hd_sf_tbl : Cond.laysStatic "jdk/internal/util/Preconditions" "SIOOBE_FORMATTER" "Ljava/util/function/BiFunction;" ∈ lw_tbl := hd_tb_sub (c := 2) (List.mem_of_getElem? (i := 208) rfl)
set_option maxRecDepth 100000 in
theorem hd_sp_tbl : Cond.initialized "jdk/internal/util/Preconditions" ∈ lw_tbl := hd_tb_sub (c := 1) (List.mem_of_getElem? (i := 14) rfl)
set_option maxRecDepth 100000 in
theorem hd_sr_tbl : ∀ i, i < 15 → Cond.stringRef RX6 (hd_sk.getD i 0) (hd_stx.getD i "") ∈ lw_tbl := by
  intro i hi
  match i, hi with
  | 0, _ => exact hd_tb_sub (c := 2) (List.mem_of_getElem? (i := 178) rfl)
  | 1, _ => exact hd_tb_sub (c := 2) (List.mem_of_getElem? (i := 231) rfl)
  | 2, _ => exact hd_tb_sub (c := 2) (List.mem_of_getElem? (i := 232) rfl)
  | 3, _ => exact hd_tb_sub (c := 2) (List.mem_of_getElem? (i := 233) rfl)
  | 4, _ => exact hd_tb_sub (c := 2) (List.mem_of_getElem? (i := 234) rfl)
  | 5, _ => exact hd_tb_sub (c := 2) (List.mem_of_getElem? (i := 235) rfl)
  | 6, _ => exact hd_tb_sub (c := 2) (List.mem_of_getElem? (i := 236) rfl)
  | 7, _ => exact hd_tb_sub (c := 2) (List.mem_of_getElem? (i := 237) rfl)
  | 8, _ => exact hd_tb_sub (c := 2) (List.mem_of_getElem? (i := 238) rfl)
  | 9, _ => exact hd_tb_sub (c := 2) (List.mem_of_getElem? (i := 239) rfl)
  | 10, _ => exact hd_tb_sub (c := 3) (List.mem_of_getElem? (i := 0) rfl)
  | 11, _ => exact hd_tb_sub (c := 3) (List.mem_of_getElem? (i := 1) rfl)
  | 12, _ => exact hd_tb_sub (c := 3) (List.mem_of_getElem? (i := 2) rfl)
  | 13, _ => exact hd_tb_sub (c := 3) (List.mem_of_getElem? (i := 3) rfl)
  | 14, _ => exact hd_tb_sub (c := 3) (List.mem_of_getElem? (i := 4) rfl)
theorem hd_tys_tbl : Cond.arrayClass .int ∈ lw_tbl ∧ Cond.arrayClass .byte ∈ lw_tbl ∧ Cond.arrayClass .boolean ∈ lw_tbl ∧ Cond.arrayClass .long ∈ lw_tbl := ⟨hd_tb_sub (c := 1) (List.mem_of_getElem? (i := 88) rfl), hd_tb_sub (c := 1) (List.mem_of_getElem? (i := 87) rfl), hd_tb_sub (c := 5) (List.mem_of_getElem? (i := 34) rfl), hd_tb_sub (c := 5) (List.mem_of_getElem? (i := 33) rfl)⟩
def hd_tm (i : Nat) : Term := .string RX6 (hd_sk.getD i 0)
/-- what the Statement says of the text constants -/
def hd_req : List Cond := (List.range 15).flatMap (fun i => [Cond.exactly (hd_tm i) "java/lang/String", .eq (.field (hd_tm i) "java/lang/String" "coder" "B") (.int 0), .arrayOf (.field (hd_tm i) "java/lang/String" "value" "[B") .byte, .eq (.length (.field (hd_tm i) "java/lang/String" "value" "[B")) (.int (Int32.ofNat (hd_sl.getD i 0)))] ++ (List.range (hd_sl.getD i 0)).map (fun j => .eq (.elem (.field (hd_tm i) "java/lang/String" "value" "[B") (.int (Int32.ofNat j))) (.int ((hd_sb.getD i []).getD j 0)))) ++ [.eq (.static "java/lang/String" "COMPACT_STRINGS" "Z") (.int 1), .isRef (.static "jdk/internal/util/Preconditions" "SIOOBE_FORMATTER" "Ljava/util/function/BiFunction;")]
def hd_req2 : List Cond := (List.range 15).flatMap (fun i => (List.range i).map (fun j => .not (.eq (hd_tm j) (hd_tm i))))

set_option maxRecDepth 100000 in
theorem hd_req_in : ∀ w ∈ hd_req, w ∈ flatC (Jvm.Cond.and given_1 narrow_1) := by decide +kernel
set_option maxRecDepth 100000 in
theorem hd_req2_in : ∀ w ∈ hd_req2, w ∈ flatC (Jvm.Cond.and given_1 narrow_1) := by decide +kernel
theorem hd_reqAt {i : Nat} (hi : i < 15) {w : Cond} (h : w ∈ ([Cond.exactly (hd_tm i) "java/lang/String", .eq (.field (hd_tm i) "java/lang/String" "coder" "B") (.int 0), .arrayOf (.field (hd_tm i) "java/lang/String" "value" "[B") .byte, .eq (.length (.field (hd_tm i) "java/lang/String" "value" "[B")) (.int (Int32.ofNat (hd_sl.getD i 0)))] ++ (List.range (hd_sl.getD i 0)).map (fun j => .eq (.elem (.field (hd_tm i) "java/lang/String" "value" "[B") (.int (Int32.ofNat j))) (.int ((hd_sb.getD i []).getD j 0))) : List Cond)) : w ∈ hd_req := List.mem_append_left _ (List.mem_flatMap.mpr ⟨i, List.mem_range.mpr hi, h⟩)
def hd_cAf (c0 c1 c2 c3 c4 : ClassId) : Nat → ClassId := fun t => match t with
  | 0 => c0
  | 1 => c1
  | 2 => c2
  | 3 => c3
  | _ => c4
def hd_adf (n b t : Nat) (adK adV : Nat → Nat) : Nat → Nat := fun k => if k < 5000 then n + k else if k < 5100 then adK (k - 5000) else if k < 5200 then adV (k - 5100) else if k < 5400 then t else b
theorem hd_adf_C {n b t k : Nat} {adK adV : Nat → Nat} (h : k < 5000) : hd_adf n b t adK adV k = n + k := by
  unfold hd_adf
  rw [if_pos h]
theorem hd_adf_K {n b t j : Nat} {adK adV : Nat → Nat} (h : j < 100) : hd_adf n b t adK adV (5000 + j) = adK j := by
  unfold hd_adf
  rw [if_neg (by omega), if_pos (by omega), Nat.add_sub_cancel_left]
theorem hd_adf_V {n b t j : Nat} {adK adV : Nat → Nat} (h : j < 100) : hd_adf n b t adK adV (5100 + j) = adV j := by
  unfold hd_adf
  rw [if_neg (by omega), if_neg (by omega), if_pos (by omega), Nat.add_sub_cancel_left]
theorem hd_start {l : Launch} {args : Array Value} {s : State} (hts : ∀ w ∈ lw_tbl, w.before args s = true) (hgv : (Jvm.Cond.and given_1 narrow_1).before args s = true) (b : Nat) : ∃ G : hd_G, G.1 = l ∧ G.2.2.2.1 = s ∧ hd_ad G 6000 = b ∧ hd_K G s := by
  have hfl := flat_of_before _ hgv
  have hrq : ∀ w ∈ hd_req, w.before args s = true := fun w h => hfl w (hd_req_in w h)
  have hrq2 : ∀ w ∈ hd_req2, w.before args s = true := fun w h => hfl w (hd_req2_in w h)
  obtain ⟨D, hD⟩ := hd_known hts
  obtain ⟨c0, a0, f0⟩ := hd_arrT (hts _ hd_tys_tbl.1)
  obtain ⟨c1, a1, f1⟩ := hd_arrT (hts _ hd_tys_tbl.2.1)
  obtain ⟨c2, a2, f2⟩ := hd_arrT (hts _ hd_tys_tbl.2.2.1)
  obtain ⟨c3, a3, f3⟩ := hd_arrT (hts _ hd_tys_tbl.2.2.2)
  obtain ⟨comp, c4, k4, g1, g2, g3, g4, g5⟩ := Cond.arrayOver_spec (hts _ hd_ao_tbl)
  have hA : ∀ a : Nat, a < s.heap.size → ¬ (fun q : Nat => s.heap.size ≤ q) a := fun a h => Nat.not_le.mpr h
  obtain ⟨adK, adV, hS, hev⟩ := vk_Sof (N := 15) (tm := hd_tm) (len := hd_sl) (byt := hd_sb) (A := fun q : Nat => s.heap.size ≤ q) (args := args) (s := s) (by decide)
    (fun i hi => hrq _ (hd_reqAt hi (by simp)))
    (fun i hi => hrq _ (hd_reqAt hi (by simp)))
    (fun i hi => hrq _ (hd_reqAt hi (by simp)))
    (fun i hi => hrq _ (hd_reqAt hi (by simp)))
    (fun i hi j hj => hrq _ (hd_reqAt hi (List.mem_append_right _ (List.mem_map.mpr ⟨j, List.mem_range.mpr hj, rfl⟩))))
    (fun i j hi hj hne => by
      rcases Nat.lt_or_gt_of_ne hne with h | h
      · exact Or.inl (hrq2 _ (List.mem_flatMap.mpr ⟨j, List.mem_range.mpr hj, List.mem_map.mpr ⟨i, List.mem_range.mpr h, rfl⟩⟩))
      · exact Or.inr (hrq2 _ (List.mem_flatMap.mpr ⟨i, List.mem_range.mpr hi, List.mem_map.mpr ⟨j, List.mem_range.mpr h, rfl⟩⟩))) hA
  have hZq := va_Zqof (A := fun q : Nat => s.heap.size ≤ q) (hts _ hd_sf_tbl) (hts _ hd_sp_tbl) (hrq (.isRef (.static "jdk/internal/util/Preconditions" "SIOOBE_FORMATTER" "Ljava/util/function/BiFunction;")) (List.mem_append_right _ (by simp))) hA
  obtain ⟨t, hZt⟩ : ∃ t : Nat, va_Z "jdk/internal/util/Preconditions" "SIOOBE_FORMATTER" "Ljava/util/function/BiFunction;" .null (fun q : Nat => s.heap.size ≤ q) s s.heap ∨ va_Z "jdk/internal/util/Preconditions" "SIOOBE_FORMATTER" "Ljava/util/function/BiFunction;" (.ref t) (fun q : Nat => s.heap.size ≤ q) s s.heap := by
    rcases hZq with q | ⟨t, q⟩
    · exact ⟨0, Or.inl q⟩
    · exact ⟨t, Or.inr q⟩
  refine ⟨(l, D, hd_cAf c0 c1 c2 c3 c4, s, hd_adf s.heap.size b t adK adV), rfl, rfl, rfl, ⟨hD, ?_⟩, fun w hw => va_Nw.of (by simp only [hd_nest, List.mem_cons, List.not_mem_nil, or_false] at hw; rcases hw with rfl | rfl | rfl | rfl | rfl | rfl | rfl <;> rfl) (hts w (hd_nest_tbl w hw)), va_AO.of (hts _ hd_ao_tbl), ⟨fun j hj => ?_, ?_, ?_, ?_⟩, Nat.le_refl _, fun k hk => hd_adf_C hk⟩
  · intro k q hq
    match k, hq with
    | 0, hq => cases hq; exact ⟨a0, f0⟩
    | 1, hq => cases hq; exact ⟨a1, f1⟩
    | 2, hq => cases hq; exact ⟨a2, f2⟩
    | 3, hq => cases hq; exact ⟨a3, f3⟩
    | 4, hq => cases hq; exact ⟨fun n z => ⟨fun k h => (by cases h), k4, g3, comp, g4⟩, k4, comp, g3, g4, g1, g5⟩
    | k + 5, hq => simp [hd_tys] at hq
  · have h1 := hev j hj
    show vk_R _ _ _ (hd_adf s.heap.size b t adK adV (5000 + j)) s
    rw [hd_adf_K (by omega)]
    exact vk_R.of (hts _ (hd_sr_tbl j hj)) h1
  · refine ⟨fun i hi => ?_, fun i j hi hj e => hS.2 i j hi hj ?_⟩
    · have h1 := hS.1 i hi
      rw [← hd_adf_K (n := s.heap.size) (b := b) (t := t) (adK := adK) (adV := adV) (j := i) (by omega), ← hd_adf_V (n := s.heap.size) (b := b) (t := t) (adK := adK) (adV := adV) (j := i) (by omega)] at h1
      exact h1
    · have e : hd_adf s.heap.size b t adK adV (5000 + i) = hd_adf s.heap.size b t adK adV (5000 + j) := e
      rw [hd_adf_K (by omega), hd_adf_K (by omega)] at e
      exact e
  · have h1 := hrq (.eq (.static "java/lang/String" "COMPACT_STRINGS" "Z") (.int 1)) (List.mem_append_right _ (by simp))
    obtain ⟨w, e1, e2⟩ := Cond.eq_one (show (Cond.eq (.static "java/lang/String" "COMPACT_STRINGS" "Z") (.int 1)).holds args s none s [] = true from h1)
    cases (show some (Value.int 1) = some w from e2)
    exact va_Zof (hts _ hd_cs_tbl) (hts _ hd_si_tbl) e1 hA
  · exact hZt
