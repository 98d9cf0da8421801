noncomputable def pa_of (v1 : Int64) (v3 : Int32) (x_psize : Int32) (a_pcells : Nat → Int64) (a_pnear : Nat → Int32) (a_table : Nat → Int32) (a_matrix : Nat → Int64) : Option (Int64 × Int32 × (Nat → Int64) × (Nat → Int32) × (Nat → Int32) × (Nat → Int64)) :=
  bd3 (pa_index v1 x_psize a_pcells a_pnear) fun x_psize_1 a_pcells_2 a_pnear_3 =>
  if v3 = 0 then (bd2 (pa_orders x_psize_1 a_pnear_3 a_table) fun r_5 a_table_6 =>
  some (r_5, x_psize_1, a_pcells_2, a_pnear_3, a_table_6, a_matrix)) else
  if v3 = 1 then (bd2 (pa_pairings x_psize_1 a_pnear_3 a_table) fun r_8 a_table_9 =>
  some (r_8, x_psize_1, a_pcells_2, a_pnear_3, a_table_9, a_matrix)) else
  if v3 = 2 then (bd1 (pa_halvings v1 0 x_psize_1 a_pcells_2) fun r_11 =>
  some (r_11, x_psize_1, a_pcells_2, a_pnear_3, a_table, a_matrix)) else
  if v3 = 3 then (bd1 (pa_halvings v1 1 x_psize_1 a_pcells_2) fun r_13 =>
  some (r_13, x_psize_1, a_pcells_2, a_pnear_3, a_table, a_matrix)) else
  if v3 = 4 then (bd1 (pa_halvings v1 2 x_psize_1 a_pcells_2) fun r_15 =>
  some (r_15, x_psize_1, a_pcells_2, a_pnear_3, a_table, a_matrix)) else
  if v3 = 5 then (bd1 (pa_longestWay v1 x_psize_1 a_pcells_2) fun r_17 =>
  some (r_17, x_psize_1, a_pcells_2, a_pnear_3, a_table, a_matrix)) else
  if v3 = 6 then (bd2 (pa_trees x_psize_1 a_pnear_3 a_matrix) fun r_19 a_matrix_20 =>
  some (r_19, x_psize_1, a_pcells_2, a_pnear_3, a_table, a_matrix_20)) else
  bd1 (jl_bitCount (v1 &&& (((-6172840429334713771) : Int64)))) fun r_22 =>
  bd1 (jl_bitCount (v1 &&& (6172840429334713770 : Int64))) fun r_24 =>
  some ((abI (r_22 - r_24)).toInt64, x_psize_1, a_pcells_2, a_pnear_3, a_table, a_matrix)
set_option maxHeartbeats 4000000 in
set_option maxRecDepth 100000 in
theorem c_pa_of (l : Launch) (D : va_G) (ct : Nat → ClassId) (ad : Nat → Nat) (hI : cI ad) {x_fed x_tk x_col x_line x_rcells x_rsize x_len x_cuts x_bare x_place x_lA x_lB x_lC x_fX x_fY x_sX x_sY x_made x_fsize x_psize x_over x_touch x_most x_mU x_mV x_area : Int32} {x_board : Int64} {a_tape a_letters a_oneSided a_free a_ends a_crowds a_wmade a_firsts a_widths a_heights a_places a_next a_pnear a_table a_overlaps : Nat → Int32} {a_drawers a_kept a_items a_numbers a_marks a_near a_figures a_covered a_pcells a_matrix : Nat → Int64} (v1 : Int64) (v3 : Int32) (r : Int64) (z_x_psize : Int32) (z_a_pcells : Nat → Int64) (z_a_pnear : Nat → Int32) (z_a_table : Nat → Int32) (z_a_matrix : Nat → Int64) (h : pa_of v1 v3 x_psize a_pcells a_pnear a_table a_matrix = some (r, z_x_psize, z_a_pcells, z_a_pnear, z_a_table, z_a_matrix)) : Met l yX6_of (wm yX6_of cX6_of 4 (some .long)) (rmm 6 147) (va_Pc [.ref (ad 27), .long v1, .int v3] (cB D ct ad x_fed x_tk x_col x_line x_rcells x_rsize x_len x_cuts x_bare x_place x_lA x_lB x_lC x_fX x_fY x_sX x_sY x_made x_fsize x_psize x_over x_touch x_most x_mU x_mV x_area x_board a_tape a_letters a_oneSided a_free a_ends a_crowds a_wmade a_firsts a_widths a_heights a_places a_next a_pnear a_table a_overlaps a_drawers a_kept a_items a_numbers a_marks a_near a_figures a_covered a_pcells a_matrix)) (va_Ql (fun z (_ : Unit) => z = r) (fun _ t => cP D ct ad x_fed x_tk x_col x_line x_rcells x_rsize x_len x_cuts x_bare x_place x_lA x_lB x_lC x_fX x_fY x_sX x_sY x_made x_fsize z_x_psize x_over x_touch x_most x_mU x_mV x_area x_board a_tape a_letters a_oneSided a_free a_ends a_crowds a_wmade a_firsts a_widths a_heights a_places a_next z_a_pnear z_a_table a_overlaps a_drawers a_kept a_items a_numbers a_marks a_near a_figures a_covered z_a_pcells z_a_matrix t.heap) (cA ad)) 0 0 (cA ad) := by
  refine met_s (y := yX6_of) (rm := rmm 6 147) (by decide) (Nat.le_of_ble_eq_true rfl) ?_
  intro p e s m below meth c hx hb hr hw hown hlocks _ hml hB ls hl
  obtain ⟨hN, hK, hP⟩ := hB
  replace hl : lv_has ls 4 [(0, .ref (ad 27)), (1, .long v1), (3, .int v3)] := hl
  have hS : va_S (cA ad) s.heap s.heap [] := va_S.rf
  generalize (([.ref (ad 27), .long v1, .int v3] : List Value).toArray) = av at hw ⊢
  rw [pa_of] at h
  refine lv_aload_n hx hb dX6_of_0 rfl (lv_at hl 0 rfl) ?_
  refine lv_lload_n hx hb dX6_of_1 rfl (lv_at hl 1 rfl) ?_
  obtain ⟨x_psize_26, a_pcells_27, a_pnear_28, hr_29, h⟩ := bd3_s h
  refine hv_v hx hb hml hown hw cB_bl (cB_of hN hK hP) (cr_PA hK hP) (c_pa_index l D ct ad hI v1 x_psize_26 a_pcells_27 a_pnear_28 hr_29) g_RX6_25 ⟨rfl, hd_X6_index⟩ (rest := []) hl.1 hS (fun q h => h) dX6_of_2 rfl rfl ⟨Nat.le_of_ble_eq_true rfl, Nat.le_of_ble_eq_true rfl⟩ rfl rfl (Nat.le_of_ble_eq_true rfl) ⟨Nat.zero_le _, Nat.zero_le _⟩ (fun H locs hP _ hS => ?_)
  refine lv_iload_n hx hb dX6_of_5 rfl (lv_at hl 2 rfl) ?_
  by_cases hc0 : v3 = 0
  · replace h := ifp h hc0
    refine lv_tableIn hx hb dX6_of_6 (by rw [hc0]; decide) (by rw [hc0]; decide) (by rw [hc0]; rfl) (tgt := 48) rfl ?_
    refine lv_aload_n hx hb dX6_of_48 rfl (lv_at hl 0 rfl) ?_
    obtain ⟨r_30, a_table_31, hr_32, h⟩ := bd2_s h
    refine hv_l hx hb hml hown hw cB_bl (cB_of hN hK hP) (cr_PA hK hP) (c_pa_orders l D ct ad hI r_30 a_table_31 hr_32) g_RX6_29 ⟨rfl, hd_X6_orders⟩ (rest := []) hl.1 hS (fun q h => h) dX6_of_49 rfl rfl ⟨Nat.le_of_ble_eq_true rfl, Nat.le_of_ble_eq_true rfl⟩ rfl rfl (Nat.le_of_ble_eq_true rfl) ⟨Nat.zero_le _, Nat.zero_le _⟩ (fun H locs hP _ hS => ?_)
    simp only [Option.some.injEq, Prod.mk.injEq] at h
    obtain ⟨rfl, rfl, rfl, rfl, rfl, rfl⟩ := h
    exact rc_l hx hb hr hlocks hS dX6_of_52 rfl hP
  replace h := ifn h hc0
  by_cases hc1 : v3 = 1
  · replace h := ifp h hc1
    refine lv_tableIn hx hb dX6_of_6 (by rw [hc1]; decide) (by rw [hc1]; decide) (by rw [hc1]; rfl) (tgt := 53) rfl ?_
    refine lv_aload_n hx hb dX6_of_53 rfl (lv_at hl 0 rfl) ?_
    obtain ⟨r_33, a_table_34, hr_35, h⟩ := bd2_s h
    refine hv_l hx hb hml hown hw cB_bl (cB_of hN hK hP) (cr_PA hK hP) (c_pa_pairings l D ct ad hI r_33 a_table_34 hr_35) g_RX6_33 ⟨rfl, hd_X6_pairings⟩ (rest := []) hl.1 hS (fun q h => h) dX6_of_54 rfl rfl ⟨Nat.le_of_ble_eq_true rfl, Nat.le_of_ble_eq_true rfl⟩ rfl rfl (Nat.le_of_ble_eq_true rfl) ⟨Nat.zero_le _, Nat.zero_le _⟩ (fun H locs hP _ hS => ?_)
    simp only [Option.some.injEq, Prod.mk.injEq] at h
    obtain ⟨rfl, rfl, rfl, rfl, rfl, rfl⟩ := h
    exact rc_l hx hb hr hlocks hS dX6_of_57 rfl hP
  replace h := ifn h hc1
  by_cases hc2 : v3 = 2
  · replace h := ifp h hc2
    refine lv_tableIn hx hb dX6_of_6 (by rw [hc2]; decide) (by rw [hc2]; decide) (by rw [hc2]; rfl) (tgt := 58) rfl ?_
    refine lv_aload_n hx hb dX6_of_58 rfl (lv_at hl 0 rfl) ?_
    refine lv_lload_n hx hb dX6_of_59 rfl (lv_at hl 1 rfl) ?_
    refine lv_iconst (v := 0) hx hb dX6_of_60 ki_0 ?_
    obtain ⟨r_36, hr_37, h⟩ := bd1_s h
    refine hv_l hx hb hml hown hw cB_bl (cB_of hN hK hP) (cr_PA hK hP) (c_pa_halvings l D ct ad hI v1 0 r_36 hr_37) g_RX6_36 ⟨rfl, hd_X6_halvings⟩ (rest := []) hl.1 hS (fun q h => h) dX6_of_61 rfl rfl ⟨Nat.le_of_ble_eq_true rfl, Nat.le_of_ble_eq_true rfl⟩ rfl rfl (Nat.le_of_ble_eq_true rfl) ⟨Nat.zero_le _, Nat.zero_le _⟩ (fun H locs hP _ hS => ?_)
    simp only [Option.some.injEq, Prod.mk.injEq] at h
    obtain ⟨rfl, rfl, rfl, rfl, rfl, rfl⟩ := h
    exact rc_l hx hb hr hlocks hS dX6_of_64 rfl hP
  replace h := ifn h hc2
  by_cases hc3 : v3 = 3
  · replace h := ifp h hc3
    refine lv_tableIn hx hb dX6_of_6 (by rw [hc3]; decide) (by rw [hc3]; decide) (by rw [hc3]; rfl) (tgt := 65) rfl ?_
    refine lv_aload_n hx hb dX6_of_65 rfl (lv_at hl 0 rfl) ?_
    refine lv_lload_n hx hb dX6_of_66 rfl (lv_at hl 1 rfl) ?_
    refine lv_iconst (v := 1) hx hb dX6_of_67 ki_1 ?_
    obtain ⟨r_38, hr_39, h⟩ := bd1_s h
    refine hv_l hx hb hml hown hw cB_bl (cB_of hN hK hP) (cr_PA hK hP) (c_pa_halvings l D ct ad hI v1 1 r_38 hr_39) g_RX6_36 ⟨rfl, hd_X6_halvings⟩ (rest := []) hl.1 hS (fun q h => h) dX6_of_68 rfl rfl ⟨Nat.le_of_ble_eq_true rfl, Nat.le_of_ble_eq_true rfl⟩ rfl rfl (Nat.le_of_ble_eq_true rfl) ⟨Nat.zero_le _, Nat.zero_le _⟩ (fun H locs hP _ hS => ?_)
    simp only [Option.some.injEq, Prod.mk.injEq] at h
    obtain ⟨rfl, rfl, rfl, rfl, rfl, rfl⟩ := h
    exact rc_l hx hb hr hlocks hS dX6_of_71 rfl hP
  replace h := ifn h hc3
  by_cases hc4 : v3 = 4
  · replace h := ifp h hc4
    refine lv_tableIn hx hb dX6_of_6 (by rw [hc4]; decide) (by rw [hc4]; decide) (by rw [hc4]; rfl) (tgt := 72) rfl ?_
    refine lv_aload_n hx hb dX6_of_72 rfl (lv_at hl 0 rfl) ?_
    refine lv_lload_n hx hb dX6_of_73 rfl (lv_at hl 1 rfl) ?_
    refine lv_iconst (v := 2) hx hb dX6_of_74 ki_2 ?_
    obtain ⟨r_40, hr_41, h⟩ := bd1_s h
    refine hv_l hx hb hml hown hw cB_bl (cB_of hN hK hP) (cr_PA hK hP) (c_pa_halvings l D ct ad hI v1 2 r_40 hr_41) g_RX6_36 ⟨rfl, hd_X6_halvings⟩ (rest := []) hl.1 hS (fun q h => h) dX6_of_75 rfl rfl ⟨Nat.le_of_ble_eq_true rfl, Nat.le_of_ble_eq_true rfl⟩ rfl rfl (Nat.le_of_ble_eq_true rfl) ⟨Nat.zero_le _, Nat.zero_le _⟩ (fun H locs hP _ hS => ?_)
    simp only [Option.some.injEq, Prod.mk.injEq] at h
    obtain ⟨rfl, rfl, rfl, rfl, rfl, rfl⟩ := h
    exact rc_l hx hb hr hlocks hS dX6_of_78 rfl hP
  replace h := ifn h hc4
  by_cases hc5 : v3 = 5
  · replace h := ifp h hc5
    refine lv_tableIn hx hb dX6_of_6 (by rw [hc5]; decide) (by rw [hc5]; decide) (by rw [hc5]; rfl) (tgt := 79) rfl ?_
    refine lv_aload_n hx hb dX6_of_79 rfl (lv_at hl 0 rfl) ?_
    refine lv_lload_n hx hb dX6_of_80 rfl (lv_at hl 1 rfl) ?_
    obtain ⟨r_42, hr_43, h⟩ := bd1_s h
    refine hv_l hx hb hml hown hw cB_bl (cB_of hN hK hP) (cr_PA hK hP) (c_pa_longestWay l D ct ad hI v1 r_42 hr_43) g_RX6_40 ⟨rfl, hd_X6_longestWay⟩ (rest := []) hl.1 hS (fun q h => h) dX6_of_81 rfl rfl ⟨Nat.le_of_ble_eq_true rfl, Nat.le_of_ble_eq_true rfl⟩ rfl rfl (Nat.le_of_ble_eq_true rfl) ⟨Nat.zero_le _, Nat.zero_le _⟩ (fun H locs hP _ hS => ?_)
    simp only [Option.some.injEq, Prod.mk.injEq] at h
    obtain ⟨rfl, rfl, rfl, rfl, rfl, rfl⟩ := h
    exact rc_l hx hb hr hlocks hS dX6_of_84 rfl hP
  replace h := ifn h hc5
  by_cases hc6 : v3 = 6
  · replace h := ifp h hc6
    refine lv_tableIn hx hb dX6_of_6 (by rw [hc6]; decide) (by rw [hc6]; decide) (by rw [hc6]; rfl) (tgt := 85) rfl ?_
    refine lv_aload_n hx hb dX6_of_85 rfl (lv_at hl 0 rfl) ?_
    obtain ⟨r_44, a_matrix_45, hr_46, h⟩ := bd2_s h
    refine hv_l hx hb hml hown hw cB_bl (cB_of hN hK hP) (cr_PA hK hP) (c_pa_trees l D ct ad hI r_44 a_matrix_45 hr_46) g_RX6_44 ⟨rfl, hd_X6_trees⟩ (rest := []) hl.1 hS (fun q h => h) dX6_of_86 rfl rfl ⟨Nat.le_of_ble_eq_true rfl, Nat.le_of_ble_eq_true rfl⟩ rfl rfl (Nat.le_of_ble_eq_true rfl) ⟨Nat.zero_le _, Nat.zero_le _⟩ (fun H locs hP _ hS => ?_)
    simp only [Option.some.injEq, Prod.mk.injEq] at h
    obtain ⟨rfl, rfl, rfl, rfl, rfl, rfl⟩ := h
    exact rc_l hx hb hr hlocks hS dX6_of_89 rfl hP
  replace h := ifn h hc6
  have q0 := lv_neT (k := 0) hc0 (a := 0) (by decide)
  have q1 := lv_neT (k := 1) hc1 (a := 1) (by decide)
  have q2 := lv_neT (k := 2) hc2 (a := 2) (by decide)
  have q3 := lv_neT (k := 3) hc3 (a := 3) (by decide)
  have q4 := lv_neT (k := 4) hc4 (a := 4) (by decide)
  have q5 := lv_neT (k := 5) hc5 (a := 5) (by decide)
  have q6 := lv_neT (k := 6) hc6 (a := 6) (by decide)
  refine lv_tableOut hx hb dX6_of_6 (by omega) (tgt := 90) rfl ?_
  refine lv_lload_n hx hb dX6_of_90 rfl (lv_at hl 1 rfl) ?_
  refine lv_ldc2 hx hb hown (hw _ tw_43_21) dX6_of_91 ?_
  refine lv_land hx hb dX6_of_94 ?_
  obtain ⟨r_47, hr_48, h⟩ := bd1_s h
  refine sc_i hx hb hml hown hw hN (c_jl_bitCount l (v1 &&& (((-6172840429334713771) : Int64))) r_47 hr_48) g_RX6_49 hd_J13_bitCount_95d88 (rest := []) hl.1 hS dX6_of_95 rfl rfl ⟨Nat.le_of_ble_eq_true rfl, Nat.le_of_ble_eq_true rfl⟩ rfl rfl (Nat.le_of_ble_eq_true rfl) ⟨Nat.zero_le _, Nat.zero_le _⟩ (fun H locs hk hS => ?_)
  have hP := cP_kept hP hk
  refine lv_lload_n hx hb dX6_of_98 rfl (lv_at hl 1 rfl) ?_
  refine lv_ldc2 hx hb hown (hw _ tw_43_22) dX6_of_99 ?_
  refine lv_land hx hb dX6_of_102 ?_
  obtain ⟨r_49, hr_50, h⟩ := bd1_s h
  refine sc_i hx hb hml hown hw hN (c_jl_bitCount l (v1 &&& (6172840429334713770 : Int64)) r_49 hr_50) g_RX6_49 hd_J13_bitCount_95d88 (rest := [.int r_47]) hl.1 hS dX6_of_103 rfl rfl ⟨Nat.le_of_ble_eq_true rfl, Nat.le_of_ble_eq_true rfl⟩ rfl rfl (Nat.le_of_ble_eq_true rfl) ⟨Nat.zero_le _, Nat.zero_le _⟩ (fun H locs hk hS => ?_)
  have hP := cP_kept hP hk
  refine lv_isub hx hb dX6_of_106 ?_
  refine va_mabs hx hb (hml.trans hl.1.symm) hown (hw _ tw_43_23) (hw _ tw_42_3) (hw _ tw_19_23) (hw _ tw_42_4) (Nat.le_of_ble_eq_true rfl) (Nat.le_of_ble_eq_true rfl) (Nat.zero_le _) (Nat.zero_le _) dX6_of_107 ?_
  refine nmI (v := abI (r_47 - r_49)) rfl ?_
  refine lv_i2l hx hb (v := (abI (r_47 - r_49)).toInt64) dX6_of_110 rfl ?_
  simp only [Option.some.injEq, Prod.mk.injEq] at h
  obtain ⟨rfl, rfl, rfl, rfl, rfl, rfl⟩ := h
  exact rc_l hx hb hr hlocks hS dX6_of_111 rfl hP
noncomputable def rd_endRow (x_col : Int32) (x_line : Int32) : Option (Int32 × Int32 × Int32) :=
  if x_line < 6 then (nm (x_line + 1 : Int32) fun x_line_1 =>
  some (0, 0, x_line_1)) else
  some (3, x_col, x_line)
set_option maxHeartbeats 4000000 in
set_option maxRecDepth 100000 in
theorem c_rd_endRow (l : Launch) (D : va_G) (ct : Nat → ClassId) (ad : Nat → Nat) (hI : cI ad) {x_fed x_tk x_col x_line x_rcells x_rsize x_len x_cuts x_bare x_place x_lA x_lB x_lC x_fX x_fY x_sX x_sY x_made x_fsize x_psize x_over x_touch x_most x_mU x_mV x_area : Int32} {x_board : Int64} {a_tape a_letters a_oneSided a_free a_ends a_crowds a_wmade a_firsts a_widths a_heights a_places a_next a_pnear a_table a_overlaps : Nat → Int32} {a_drawers a_kept a_items a_numbers a_marks a_near a_figures a_covered a_pcells a_matrix : Nat → Int64}  (r : Int32) (z_x_col : Int32) (z_x_line : Int32) (h : rd_endRow x_col x_line = some (r, z_x_col, z_x_line)) : Met l yX7_endRow (wm yX7_endRow cX7_endRow 1 (some .int)) (rmm 0 0) (va_Pc [.ref (ad 4)] (cB D ct ad x_fed x_tk x_col x_line x_rcells x_rsize x_len x_cuts x_bare x_place x_lA x_lB x_lC x_fX x_fY x_sX x_sY x_made x_fsize x_psize x_over x_touch x_most x_mU x_mV x_area x_board a_tape a_letters a_oneSided a_free a_ends a_crowds a_wmade a_firsts a_widths a_heights a_places a_next a_pnear a_table a_overlaps a_drawers a_kept a_items a_numbers a_marks a_near a_figures a_covered a_pcells a_matrix)) (va_Qi (fun z (_ : Unit) => z = r) (fun _ t => cP D ct ad x_fed x_tk z_x_col z_x_line x_rcells x_rsize x_len x_cuts x_bare x_place x_lA x_lB x_lC x_fX x_fY x_sX x_sY x_made x_fsize x_psize x_over x_touch x_most x_mU x_mV x_area x_board a_tape a_letters a_oneSided a_free a_ends a_crowds a_wmade a_firsts a_widths a_heights a_places a_next a_pnear a_table a_overlaps a_drawers a_kept a_items a_numbers a_marks a_near a_figures a_covered a_pcells a_matrix t.heap) (cA ad)) 0 0 (cA ad) := by
  refine met_s (y := yX7_endRow) (rm := rmm 0 0) (by decide) (Nat.le_of_ble_eq_true rfl) ?_
  intro p e s m below meth c hx hb hr hw hown hlocks _ hml hB ls hl
  obtain ⟨hN, hK, hP⟩ := hB
  replace hl : lv_has ls 1 [(0, .ref (ad 4))] := hl
  have hS : va_S (cA ad) s.heap s.heap [] := va_S.rf
  generalize (([.ref (ad 4)] : List Value).toArray) = av at hw ⊢
  rw [rd_endRow] at h
  refine lv_aload_n hx hb dX7_endRow_0 rfl (lv_at hl 0 rfl) ?_
  refine cg_RD_2 hx hb hw hown hK hP dX7_endRow_1 ?_
  refine lv_bipush (v := 6) hx hb dX7_endRow_4 kb_6 ?_
  refine lv_icmp_lt hx hb dX7_endRow_6 (tgt := 11) rfl (fun hc => ?_) (fun hc => ?_)
  · replace h := ifp h hc
    refine lv_aload_n hx hb dX7_endRow_11 rfl (lv_at hl 0 rfl) ?_
    refine lv_dup hx hb dX7_endRow_12 rfl ?_
    refine cg_RD_2 hx hb hw hown hK hP dX7_endRow_13 ?_
    refine lv_iconst (v := 1) hx hb dX7_endRow_16 ki_1 ?_
    refine lv_iadd hx hb dX7_endRow_17 ?_
    obtain ⟨x_line_2, ex_line_2, h⟩ := nm_s h
    refine nmI ex_line_2 ?_
    refine cp_RD_2 hx hb hw hown hK hP hI hS dX7_endRow_18 (fun H locs hP hS => ?_)
    refine lv_aload_n hx hb dX7_endRow_21 rfl (lv_at hl 0 rfl) ?_
    refine lv_iconst (v := 0) hx hb dX7_endRow_22 ki_0 ?_
    refine cp_RD_1 hx hb hw hown hK hP hI hS dX7_endRow_23 (fun H locs hP hS => ?_)
    refine lv_iconst (v := 0) hx hb dX7_endRow_26 ki_0 ?_
    simp only [Option.some.injEq, Prod.mk.injEq] at h
    obtain ⟨rfl, rfl, rfl⟩ := h
    exact rc_i hx hb hr hlocks hS dX7_endRow_27 rfl hP
  · replace h := ifn h hc
    refine lv_iconst (v := 3) hx hb dX7_endRow_9 ki_3 ?_
    simp only [Option.some.injEq, Prod.mk.injEq] at h
    obtain ⟨rfl, rfl, rfl⟩ := h
    exact rc_i hx hb hr hlocks hS dX7_endRow_10 rfl hP
noncomputable def rd_accept_J94  (x_board : Int64) (x_col : Int32) (x_line : Int32) (x_rcells : Int32)  : Option (Int32 × Int64 × Int32 × Int32 × Int32) :=
  nm (x_col + 1 : Int32) fun x_col_1 =>
  some (0, x_board, x_col_1, x_line, x_rcells)
noncomputable def rd_accept_J33  (v1 : Int32) (x_board : Int64) (x_col : Int32) (x_line : Int32) (x_rcells : Int32)  : Option (Int32 × Int64 × Int32 × Int32 × Int32) :=
  if x_col < 7 then (if v1 = 35 then (if x_rcells < 12 then (nm (x_board ||| (sl 1 ((8 * x_line) + x_col)) : Int64) fun x_board_2 =>
  nm (x_rcells + 1 : Int32) fun x_rcells_3 =>
  rd_accept_J94 x_board_2 x_col x_line x_rcells_3) else
  some (4, x_board, x_col, x_line, x_rcells)) else
  rd_accept_J94 x_board x_col x_line x_rcells) else
  some (2, x_board, x_col, x_line, x_rcells)
noncomputable def rd_accept (v1 : Int32) (x_board : Int64) (x_col : Int32) (x_line : Int32) (x_rcells : Int32) : Option (Int32 × Int64 × Int32 × Int32 × Int32) :=
  if v1 = 32 then (some (0, x_board, x_col, x_line, x_rcells)) else
  if v1 = 47 then (bd3 (rd_endRow x_col x_line) fun r_4 x_col_5 x_line_6 =>
  some (r_4, x_board, x_col_5, x_line_6, x_rcells)) else
  if v1 = 35 then (rd_accept_J33 v1 x_board x_col x_line x_rcells) else
  if v1 = 46 then (rd_accept_J33 v1 x_board x_col x_line x_rcells) else
  some (1, x_board, x_col, x_line, x_rcells)
set_option maxHeartbeats 4000000 in
set_option maxRecDepth 100000 in
theorem c_rd_accept (l : Launch) (D : va_G) (ct : Nat → ClassId) (ad : Nat → Nat) (hI : cI ad) {x_fed x_tk x_col x_line x_rcells x_rsize x_len x_cuts x_bare x_place x_lA x_lB x_lC x_fX x_fY x_sX x_sY x_made x_fsize x_psize x_over x_touch x_most x_mU x_mV x_area : Int32} {x_board : Int64} {a_tape a_letters a_oneSided a_free a_ends a_crowds a_wmade a_firsts a_widths a_heights a_places a_next a_pnear a_table a_overlaps : Nat → Int32} {a_drawers a_kept a_items a_numbers a_marks a_near a_figures a_covered a_pcells a_matrix : Nat → Int64} (v1 : Int32) (r : Int32) (z_x_board : Int64) (z_x_col : Int32) (z_x_line : Int32) (z_x_rcells : Int32) (h : rd_accept v1 x_board x_col x_line x_rcells = some (r, z_x_board, z_x_col, z_x_line, z_x_rcells)) : Met l yX7_accept (wm yX7_accept cX7_accept 2 (some .int)) (rmm 1 20) (va_Pc [.ref (ad 4), .int v1] (cB D ct ad x_fed x_tk x_col x_line x_rcells x_rsize x_len x_cuts x_bare x_place x_lA x_lB x_lC x_fX x_fY x_sX x_sY x_made x_fsize x_psize x_over x_touch x_most x_mU x_mV x_area x_board a_tape a_letters a_oneSided a_free a_ends a_crowds a_wmade a_firsts a_widths a_heights a_places a_next a_pnear a_table a_overlaps a_drawers a_kept a_items a_numbers a_marks a_near a_figures a_covered a_pcells a_matrix)) (va_Qi (fun z (_ : Unit) => z = r) (fun _ t => cP D ct ad x_fed x_tk z_x_col z_x_line z_x_rcells x_rsize x_len x_cuts x_bare x_place x_lA x_lB x_lC x_fX x_fY x_sX x_sY x_made x_fsize x_psize x_over x_touch x_most x_mU x_mV x_area z_x_board a_tape a_letters a_oneSided a_free a_ends a_crowds a_wmade a_firsts a_widths a_heights a_places a_next a_pnear a_table a_overlaps a_drawers a_kept a_items a_numbers a_marks a_near a_figures a_covered a_pcells a_matrix t.heap) (cA ad)) 0 0 (cA ad) := by
  refine met_s (y := yX7_accept) (rm := rmm 1 20) (by decide) (Nat.le_of_ble_eq_true rfl) ?_
  intro p e s m below meth c hx hb hr hw hown hlocks _ hml hB ls hl
  obtain ⟨hN, hK, hP⟩ := hB
  replace hl : lv_has ls 2 [(0, .ref (ad 4)), (1, .int v1)] := hl
  have hS : va_S (cA ad) s.heap s.heap [] := va_S.rf
  generalize (([.ref (ad 4), .int v1] : List Value).toArray) = av at hw ⊢
  rw [rd_accept] at h
  have hJ94 : ∀ (H : Heap) (locs : List Loc) (ls : Array Slot) (x_board : Int64) (x_col : Int32) (x_line : Int32) (x_rcells : Int32) , lv_has ls 2 [(0, .ref (ad 4))] → cP D ct ad x_fed x_tk x_col x_line x_rcells x_rsize x_len x_cuts x_bare x_place x_lA x_lB x_lC x_fX x_fY x_sX x_sY x_made x_fsize x_psize x_over x_touch x_most x_mU x_mV x_area x_board a_tape a_letters a_oneSided a_free a_ends a_crowds a_wmade a_firsts a_widths a_heights a_places a_next a_pnear a_table a_overlaps a_drawers a_kept a_items a_numbers a_marks a_near a_figures a_covered a_pcells a_matrix H → va_S (cA ad) s.heap H locs → rd_accept_J94 x_board x_col x_line x_rcells = some (r, z_x_board, z_x_col, z_x_line, z_x_rcells) → W p l e (rmm 1 20) s m av below meth c H locs 0 0 (MQ below (va_Qi (fun z (_ : Unit) => z = r) (fun _ t => cP D ct ad x_fed x_tk z_x_col z_x_line z_x_rcells x_rsize x_len x_cuts x_bare x_place x_lA x_lB x_lC x_fX x_fY x_sX x_sY x_made x_fsize x_psize x_over x_touch x_most x_mU x_mV x_area z_x_board a_tape a_letters a_oneSided a_free a_ends a_crowds a_wmade a_firsts a_widths a_heights a_places a_next a_pnear a_table a_overlaps a_drawers a_kept a_items a_numbers a_marks a_near a_figures a_covered a_pcells a_matrix t.heap) (cA ad)) av s 0 0 (cA ad)) (F0 m 94 ls []) := by
    intro H locs ls x_board x_col x_line x_rcells  hl hP hS h
    rw [rd_accept_J94] at h
    refine lv_aload_n hx hb dX7_accept_94 rfl (lv_at hl 0 rfl) ?_
    refine lv_dup hx hb dX7_accept_95 rfl ?_
    refine cg_RD_1 hx hb hw hown hK hP dX7_accept_96 ?_
    refine lv_iconst (v := 1) hx hb dX7_accept_99 ki_1 ?_
    refine lv_iadd hx hb dX7_accept_100 ?_
    obtain ⟨x_col_8, ex_col_8, h⟩ := nm_s h
    refine nmI ex_col_8 ?_
    refine cp_RD_1 hx hb hw hown hK hP hI hS dX7_accept_101 (fun H locs hP hS => ?_)
    refine lv_iconst (v := 0) hx hb dX7_accept_104 ki_0 ?_
    simp only [Option.some.injEq, Prod.mk.injEq] at h
    obtain ⟨rfl, rfl, rfl, rfl, rfl⟩ := h
    exact rc_i hx hb hr hlocks hS dX7_accept_105 rfl hP
  have hJ33 : ∀ (H : Heap) (locs : List Loc) (ls : Array Slot) (v1 : Int32) (x_board : Int64) (x_col : Int32) (x_line : Int32) (x_rcells : Int32) , lv_has ls 2 [(0, .ref (ad 4)), (1, .int v1)] → cP D ct ad x_fed x_tk x_col x_line x_rcells x_rsize x_len x_cuts x_bare x_place x_lA x_lB x_lC x_fX x_fY x_sX x_sY x_made x_fsize x_psize x_over x_touch x_most x_mU x_mV x_area x_board a_tape a_letters a_oneSided a_free a_ends a_crowds a_wmade a_firsts a_widths a_heights a_places a_next a_pnear a_table a_overlaps a_drawers a_kept a_items a_numbers a_marks a_near a_figures a_covered a_pcells a_matrix H → va_S (cA ad) s.heap H locs → rd_accept_J33 v1 x_board x_col x_line x_rcells = some (r, z_x_board, z_x_col, z_x_line, z_x_rcells) → W p l e (rmm 1 20) s m av below meth c H locs 0 0 (MQ below (va_Qi (fun z (_ : Unit) => z = r) (fun _ t => cP D ct ad x_fed x_tk z_x_col z_x_line z_x_rcells x_rsize x_len x_cuts x_bare x_place x_lA x_lB x_lC x_fX x_fY x_sX x_sY x_made x_fsize x_psize x_over x_touch x_most x_mU x_mV x_area z_x_board a_tape a_letters a_oneSided a_free a_ends a_crowds a_wmade a_firsts a_widths a_heights a_places a_next a_pnear a_table a_overlaps a_drawers a_kept a_items a_numbers a_marks a_near a_figures a_covered a_pcells a_matrix t.heap) (cA ad)) av s 0 0 (cA ad)) (F0 m 33 ls []) := by
    intro H locs ls v1 x_board x_col x_line x_rcells  hl hP hS h
    rw [rd_accept_J33] at h
    refine lv_aload_n hx hb dX7_accept_33 rfl (lv_at hl 0 rfl) ?_
    refine cg_RD_1 hx hb hw hown hK hP dX7_accept_34 ?_
    refine lv_bipush (v := 7) hx hb dX7_accept_37 kb_7 ?_
    refine lv_icmp_lt hx hb dX7_accept_39 (tgt := 44) rfl (fun hc => ?_) (fun hc => ?_)
    · replace h := ifp h hc
      refine lv_iload_n hx hb dX7_accept_44 rfl (lv_at hl 1 rfl) ?_
      refine lv_bipush (v := 35) hx hb dX7_accept_45 kb_35 ?_
      refine lv_icmp_ne hx hb dX7_accept_47 (tgt := 94) rfl (fun hc => ?_) (fun hc => ?_)
      · replace h := ifn h hc
        exact hJ94 _ _ _ x_board x_col x_line x_rcells (lv_sub hl [0] rfl) hP hS h
      · replace h := ifp h hc
        refine lv_aload_n hx hb dX7_accept_50 rfl (lv_at hl 0 rfl) ?_
        refine cg_RD_3 hx hb hw hown hK hP dX7_accept_51 ?_
        refine lv_bipush (v := 12) hx hb dX7_accept_54 kb_12 ?_
        refine lv_icmp_lt hx hb dX7_accept_56 (tgt := 61) rfl (fun hc => ?_) (fun hc => ?_)
        · replace h := ifp h hc
          refine lv_aload_n hx hb dX7_accept_61 rfl (lv_at hl 0 rfl) ?_
          refine lv_dup hx hb dX7_accept_62 rfl ?_
          refine cg_RD_0 hx hb hw hown hK hP dX7_accept_63 ?_
          refine lv_lconst (v := 1) hx hb dX7_accept_66 kl_1 ?_
          refine lv_bipush (v := 8) hx hb dX7_accept_67 kb_8 ?_
          refine lv_aload_n hx hb dX7_accept_69 rfl (lv_at hl 0 rfl) ?_
          refine cg_RD_2 hx hb hw hown hK hP dX7_accept_70 ?_
          refine lv_imul hx hb dX7_accept_73 ?_
          refine lv_aload_n hx hb dX7_accept_74 rfl (lv_at hl 0 rfl) ?_
          refine cg_RD_1 hx hb hw hown hK hP dX7_accept_75 ?_
          refine lv_iadd hx hb dX7_accept_78 ?_
          refine lv_lshl hx hb (v := sl 1 ((8 * x_line) + x_col)) dX7_accept_79 rfl ?_
          refine lv_lor hx hb dX7_accept_80 ?_
          obtain ⟨x_board_9, ex_board_9, h⟩ := nm_s h
          refine nmL ex_board_9 ?_
          refine cp_RD_0 hx hb hw hown hK hP hI hS dX7_accept_81 (fun H locs hP hS => ?_)
          refine lv_aload_n hx hb dX7_accept_84 rfl (lv_at hl 0 rfl) ?_
          refine lv_dup hx hb dX7_accept_85 rfl ?_
          refine cg_RD_3 hx hb hw hown hK hP dX7_accept_86 ?_
          refine lv_iconst (v := 1) hx hb dX7_accept_89 ki_1 ?_
          refine lv_iadd hx hb dX7_accept_90 ?_
          obtain ⟨x_rcells_10, ex_rcells_10, h⟩ := nm_s h
          refine nmI ex_rcells_10 ?_
          refine cp_RD_3 hx hb hw hown hK hP hI hS dX7_accept_91 (fun H locs hP hS => ?_)
          exact hJ94 _ _ _ x_board_9 x_col x_line x_rcells_10 (lv_sub hl [0] rfl) hP hS h
        · replace h := ifn h hc
          refine lv_iconst (v := 4) hx hb dX7_accept_59 ki_4 ?_
          simp only [Option.some.injEq, Prod.mk.injEq] at h
          obtain ⟨rfl, rfl, rfl, rfl, rfl⟩ := h
          exact rc_i hx hb hr hlocks hS dX7_accept_60 rfl hP
    · replace h := ifn h hc
      refine lv_iconst (v := 2) hx hb dX7_accept_42 ki_2 ?_
      simp only [Option.some.injEq, Prod.mk.injEq] at h
      obtain ⟨rfl, rfl, rfl, rfl, rfl⟩ := h
      exact rc_i hx hb hr hlocks hS dX7_accept_43 rfl hP
  refine lv_iload_n hx hb dX7_accept_0 rfl (lv_at hl 1 rfl) ?_
  refine lv_bipush (v := 32) hx hb dX7_accept_1 kb_32 ?_
  refine lv_icmp_ne hx hb dX7_accept_3 (tgt := 8) rfl (fun hc => ?_) (fun hc => ?_)
  · replace h := ifn h hc
    refine lv_iload_n hx hb dX7_accept_8 rfl (lv_at hl 1 rfl) ?_
    refine lv_bipush (v := 47) hx hb dX7_accept_9 kb_47 ?_
    refine lv_icmp_ne hx hb dX7_accept_11 (tgt := 19) rfl (fun hc => ?_) (fun hc => ?_)
    · replace h := ifn h hc
      refine lv_iload_n hx hb dX7_accept_19 rfl (lv_at hl 1 rfl) ?_
      refine lv_bipush (v := 35) hx hb dX7_accept_20 kb_35 ?_
      refine lv_icmp_eq hx hb dX7_accept_22 (tgt := 33) rfl (fun hc => ?_) (fun hc => ?_)
      · replace h := ifp h hc
        exact hJ33 _ _ _ v1 x_board x_col x_line x_rcells (lv_sub hl [0, 1] rfl) hP hS h
      · replace h := ifn h hc
        refine lv_iload_n hx hb dX7_accept_25 rfl (lv_at hl 1 rfl) ?_
        refine lv_bipush (v := 46) hx hb dX7_accept_26 kb_46 ?_
        refine lv_icmp_eq hx hb dX7_accept_28 (tgt := 33) rfl (fun hc => ?_) (fun hc => ?_)
        · replace h := ifp h hc
          exact hJ33 _ _ _ v1 x_board x_col x_line x_rcells (lv_sub hl [0, 1] rfl) hP hS h
        · replace h := ifn h hc
          refine lv_iconst (v := 1) hx hb dX7_accept_31 ki_1 ?_
          simp only [Option.some.injEq, Prod.mk.injEq] at h
          obtain ⟨rfl, rfl, rfl, rfl, rfl⟩ := h
          exact rc_i hx hb hr hlocks hS dX7_accept_32 rfl hP
    · replace h := ifp h hc
      refine lv_aload_n hx hb dX7_accept_14 rfl (lv_at hl 0 rfl) ?_
      obtain ⟨r_11, x_col_12, x_line_13, hr_14, h⟩ := bd3_s h
      refine hv_i hx hb hml hown hw cB_bl (cB_of hN hK hP) (cr_RD hK hP) (c_rd_endRow l D ct ad hI r_11 x_col_12 x_line_13 hr_14) g_RX7_35 ⟨rfl, hd_X7_endRow⟩ (rest := []) hl.1 hS (fun q h => h) dX7_accept_15 rfl rfl ⟨Nat.le_of_ble_eq_true rfl, Nat.le_of_ble_eq_true rfl⟩ rfl rfl (Nat.le_of_ble_eq_true rfl) ⟨Nat.zero_le _, Nat.zero_le _⟩ (fun H locs hP _ hS => ?_)
      simp only [Option.some.injEq, Prod.mk.injEq] at h
      obtain ⟨rfl, rfl, rfl, rfl, rfl⟩ := h
      exact rc_i hx hb hr hlocks hS dX7_accept_18 rfl hP
  · replace h := ifp h hc
    refine lv_iconst (v := 0) hx hb dX7_accept_6 ki_0 ?_
    simp only [Option.some.injEq, Prod.mk.injEq] at h
    obtain ⟨rfl, rfl, rfl, rfl, rfl⟩ := h
    exact rc_i hx hb hr hlocks hS dX7_accept_7 rfl hP
noncomputable def rd_read_J62  (a_tape : Nat → Int32) (v2 : Int32) (x_board : Int64) (x_col : Int32) (x_line : Int32) (x_rcells : Int32)  : Option (Int32 × Int64 × Int32 × Int32 × Int32) :=
  bd1 (gr_hangs x_board) fun r_1 =>
  if r_1 = 0 then (some ((-5000) - v2, x_board, x_col, x_line, x_rcells)) else
  some (0, x_board, x_col, x_line, x_rcells)
noncomputable def rd_read_B22 (v2 : Int32) (a_tape : Nat → Int32)  (k22 : Int32 → Int64 → Int32 → Int32 → Int32 → Option (Int32 × Int64 × Int32 × Int32 × Int32)) (v3 : Int32) (x_board : Int64) (x_col : Int32) (x_line : Int32) (x_rcells : Int32) : Option (Int32 × Int64 × Int32 × Int32 × Int32) :=
  if v2 ≤ v3 then (rd_read_J62 a_tape v2 x_board x_col x_line x_rcells) else
  if 120 ≤ v3 then (rd_read_J62 a_tape v2 x_board x_col x_line x_rcells) else
  ck v3 120 <|
  bd5 (rd_accept (a_tape v3.toNatClampNeg) x_board x_col x_line x_rcells) fun r_3 x_board_4 x_col_5 x_line_6 x_rcells_7 =>
  if r_3 = 0 then (nm (v3 + Int32.ofInt 1) fun v3_9 =>
  k22 v3_9 x_board_4 x_col_5 x_line_6 x_rcells_7) else
  some (((-1000) * r_3) - v3, x_board_4, x_col_5, x_line_6, x_rcells_7)
noncomputable def rd_read (v2 : Int32) (a_tape : Nat → Int32) (x_board : Int64) (x_col : Int32) (x_line : Int32) (x_rcells : Int32) : Option (Int32 × Int64 × Int32 × Int32 × Int32) :=
  fl5 (rd_read_B22 v2 a_tape) FU 0 0 0 0 0
set_option maxHeartbeats 4000000 in
set_option maxRecDepth 100000 in
theorem c_rd_read (l : Launch) (D : va_G) (ct : Nat → ClassId) (ad : Nat → Nat) (hI : cI ad) {x_fed x_tk x_col x_line x_rcells x_rsize x_len x_cuts x_bare x_place x_lA x_lB x_lC x_fX x_fY x_sX x_sY x_made x_fsize x_psize x_over x_touch x_most x_mU x_mV x_area : Int32} {x_board : Int64} {a_tape a_letters a_oneSided a_free a_ends a_crowds a_wmade a_firsts a_widths a_heights a_places a_next a_pnear a_table a_overlaps : Nat → Int32} {a_drawers a_kept a_items a_numbers a_marks a_near a_figures a_covered a_pcells a_matrix : Nat → Int64} (v2 : Int32) (r : Int32) (z_x_board : Int64) (z_x_col : Int32) (z_x_line : Int32) (z_x_rcells : Int32) (h : rd_read v2 a_tape x_board x_col x_line x_rcells = some (r, z_x_board, z_x_col, z_x_line, z_x_rcells)) : Met l yX7_read (wm yX7_read cX7_read 5 (some .int)) (rmm 3 70) (va_Pc [.ref (ad 4), .ref (ad 1), .int v2] (cB D ct ad x_fed x_tk x_col x_line x_rcells x_rsize x_len x_cuts x_bare x_place x_lA x_lB x_lC x_fX x_fY x_sX x_sY x_made x_fsize x_psize x_over x_touch x_most x_mU x_mV x_area x_board a_tape a_letters a_oneSided a_free a_ends a_crowds a_wmade a_firsts a_widths a_heights a_places a_next a_pnear a_table a_overlaps a_drawers a_kept a_items a_numbers a_marks a_near a_figures a_covered a_pcells a_matrix)) (va_Qi (fun z (_ : Unit) => z = r) (fun _ t => cP D ct ad x_fed x_tk z_x_col z_x_line z_x_rcells x_rsize x_len x_cuts x_bare x_place x_lA x_lB x_lC x_fX x_fY x_sX x_sY x_made x_fsize x_psize x_over x_touch x_most x_mU x_mV x_area z_x_board a_tape a_letters a_oneSided a_free a_ends a_crowds a_wmade a_firsts a_widths a_heights a_places a_next a_pnear a_table a_overlaps a_drawers a_kept a_items a_numbers a_marks a_near a_figures a_covered a_pcells a_matrix t.heap) (cA ad)) 0 0 (cA ad) := by
  refine met_s (y := yX7_read) (rm := rmm 3 70) (by decide) (Nat.le_of_ble_eq_true rfl) ?_
  intro p e s m below meth c hx hb hr hw hown hlocks _ hml hB ls hl
  obtain ⟨hN, hK, hP⟩ := hB
  replace hl : lv_has ls 5 [(0, .ref (ad 4)), (1, .ref (ad 1)), (2, .int v2)] := hl
  have hS : va_S (cA ad) s.heap s.heap [] := va_S.rf
  generalize (([.ref (ad 4), .ref (ad 1), .int v2] : List Value).toArray) = av at hw ⊢
  rw [rd_read] at h
  have hJ62 : ∀ (H : Heap) (locs : List Loc) (ls : Array Slot) (a_tape : Nat → Int32) (v2 : Int32) (x_board : Int64) (x_col : Int32) (x_line : Int32) (x_rcells : Int32) , lv_has ls 5 [(0, .ref (ad 4)), (2, .int v2)] → cP D ct ad x_fed x_tk x_col x_line x_rcells x_rsize x_len x_cuts x_bare x_place x_lA x_lB x_lC x_fX x_fY x_sX x_sY x_made x_fsize x_psize x_over x_touch x_most x_mU x_mV x_area x_board a_tape a_letters a_oneSided a_free a_ends a_crowds a_wmade a_firsts a_widths a_heights a_places a_next a_pnear a_table a_overlaps a_drawers a_kept a_items a_numbers a_marks a_near a_figures a_covered a_pcells a_matrix H → va_S (cA ad) s.heap H locs → rd_read_J62 a_tape v2 x_board x_col x_line x_rcells = some (r, z_x_board, z_x_col, z_x_line, z_x_rcells) → W p l e (rmm 3 70) s m av below meth c H locs 0 0 (MQ below (va_Qi (fun z (_ : Unit) => z = r) (fun _ t => cP D ct ad x_fed x_tk z_x_col z_x_line z_x_rcells x_rsize x_len x_cuts x_bare x_place x_lA x_lB x_lC x_fX x_fY x_sX x_sY x_made x_fsize x_psize x_over x_touch x_most x_mU x_mV x_area z_x_board a_tape a_letters a_oneSided a_free a_ends a_crowds a_wmade a_firsts a_widths a_heights a_places a_next a_pnear a_table a_overlaps a_drawers a_kept a_items a_numbers a_marks a_near a_figures a_covered a_pcells a_matrix t.heap) (cA ad)) av s 0 0 (cA ad)) (F0 m 62 ls []) := by
    intro H locs ls a_tape v2 x_board x_col x_line x_rcells  hl hP hS h
    rw [rd_read_J62] at h
    refine lv_aload_n hx hb dX7_read_62 rfl (lv_at hl 0 rfl) ?_
    refine cg_RD_0 hx hb hw hown hK hP dX7_read_63 ?_
    obtain ⟨r_10, hr_11, h⟩ := bd1_s h
    refine sc_i hx hb hml hown hw hN (c_gr_hangs l x_board r_10 hr_11) g_RX7_29 hd_X2_hangs (rest := []) hl.1 hS dX7_read_66 rfl rfl ⟨Nat.le_of_ble_eq_true rfl, Nat.le_of_ble_eq_true rfl⟩ rfl rfl (Nat.le_of_ble_eq_true rfl) ⟨Nat.zero_le _, Nat.zero_le _⟩ (fun H locs hk hS => ?_)
    have hP := cP_kept hP hk
    refine lv_if_eq hx hb dX7_read_69 (tgt := 76) rfl (fun hc => ?_) (fun hc => ?_)
    · replace h := ifp h hc
      refine lv_sipush (v := (-5000)) hx hb dX7_read_76 ks_m5000 ?_
      refine lv_iload_n hx hb dX7_read_79 rfl (lv_at hl 1 rfl) ?_
      refine lv_isub hx hb dX7_read_80 ?_
      simp only [Option.some.injEq, Prod.mk.injEq] at h
      obtain ⟨rfl, rfl, rfl, rfl, rfl⟩ := h
      exact rc_i hx hb hr hlocks hS dX7_read_81 rfl hP
    · replace h := ifn h hc
      refine lv_iconst (v := 0) hx hb dX7_read_72 ki_0 ?_
      refine lv_goto hx hb dX7_read_73 (tgt := 81) rfl ?_
      simp only [Option.some.injEq, Prod.mk.injEq] at h
      obtain ⟨rfl, rfl, rfl, rfl, rfl⟩ := h
      exact rc_i hx hb hr hlocks hS dX7_read_81 rfl hP
  have hL22 : ∀ (v2 : Int32), ∀ (a_tape : Nat → Int32), ∀ (n22 : Nat) (H : Heap) (locs : List Loc) (ls : Array Slot) (v3 : Int32) (x_board : Int64) (x_col : Int32) (x_line : Int32) (x_rcells : Int32), lv_has ls 5 [(0, .ref (ad 4)), (1, .ref (ad 1)), (2, .int v2), (3, .int v3)] → cP D ct ad x_fed x_tk x_col x_line x_rcells x_rsize x_len x_cuts x_bare x_place x_lA x_lB x_lC x_fX x_fY x_sX x_sY x_made x_fsize x_psize x_over x_touch x_most x_mU x_mV x_area x_board a_tape a_letters a_oneSided a_free a_ends a_crowds a_wmade a_firsts a_widths a_heights a_places a_next a_pnear a_table a_overlaps a_drawers a_kept a_items a_numbers a_marks a_near a_figures a_covered a_pcells a_matrix H → va_S (cA ad) s.heap H locs → fl5 (rd_read_B22 v2 a_tape) n22 v3 x_board x_col x_line x_rcells = some (r, z_x_board, z_x_col, z_x_line, z_x_rcells) → W p l e (rmm 3 70) s m av below meth c H locs 0 0 (MQ below (va_Qi (fun z (_ : Unit) => z = r) (fun _ t => cP D ct ad x_fed x_tk z_x_col z_x_line z_x_rcells x_rsize x_len x_cuts x_bare x_place x_lA x_lB x_lC x_fX x_fY x_sX x_sY x_made x_fsize x_psize x_over x_touch x_most x_mU x_mV x_area z_x_board a_tape a_letters a_oneSided a_free a_ends a_crowds a_wmade a_firsts a_widths a_heights a_places a_next a_pnear a_table a_overlaps a_drawers a_kept a_items a_numbers a_marks a_near a_figures a_covered a_pcells a_matrix t.heap) (cA ad)) av s 0 0 (cA ad)) (F0 m 22 ls []) := by
    intro v2 a_tape n22
    induction n22 with
    | zero => intro H locs ls v3 x_board x_col x_line x_rcells hl hP hS h; cases h
    | succ n22 ih22 =>
      intro H locs ls v3 x_board x_col x_line x_rcells hl hP hS h
      replace h : rd_read_B22 v2 a_tape (fl5 (rd_read_B22 v2 a_tape) n22) v3 x_board x_col x_line x_rcells = some (r, z_x_board, z_x_col, z_x_line, z_x_rcells) := h
      generalize fl5 (rd_read_B22 v2 a_tape) n22 = k22 at h ih22
      rw [rd_read_B22] at h
      refine lv_iload_n hx hb dX7_read_22 rfl (lv_at hl 3 rfl) ?_
      refine lv_iload_n hx hb dX7_read_23 rfl (lv_at hl 2 rfl) ?_
      refine lv_icmp_ge hx hb dX7_read_24 (tgt := 62) rfl (fun hc => ?_) (fun hc => ?_)
      · replace h := ifp h hc
        exact hJ62 _ _ _ a_tape v2 x_board x_col x_line x_rcells (lv_sub hl [0, 2] rfl) hP hS h
      · replace h := ifn h hc
        refine lv_iload_n hx hb dX7_read_27 rfl (lv_at hl 3 rfl) ?_
        refine lv_aload_n hx hb dX7_read_28 rfl (lv_at hl 1 rfl) ?_
        refine cl_tape hx hb hK hP dX7_read_29 ?_
        refine lv_icmp_ge hx hb dX7_read_30 (tgt := 62) rfl (fun hc => ?_) (fun hc => ?_)
        · replace h := ifp h hc
          exact hJ62 _ _ _ a_tape v2 x_board x_col x_line x_rcells (lv_sub hl [0, 2] rfl) hP hS h
        · replace h := ifn h hc
          refine lv_aload_n hx hb dX7_read_33 rfl (lv_at hl 0 rfl) ?_
          refine lv_aload_n hx hb dX7_read_34 rfl (lv_at hl 1 rfl) ?_
          refine lv_iload_n hx hb dX7_read_35 rfl (lv_at hl 3 rfl) ?_
          obtain ⟨hin, h⟩ := ck_s h
          refine cd_tape hx hb hK hP hin dX7_read_36 ?_
          obtain ⟨r_12, x_board_13, x_col_14, x_line_15, x_rcells_16, hr_17, h⟩ := bd5_s h
          refine hv_i hx hb hml hown hw cB_bl (cB_of hN hK hP) (cr_RD hK hP) (c_rd_accept l D ct ad hI (a_tape v3.toNatClampNeg) r_12 x_board_13 x_col_14 x_line_15 x_rcells_16 hr_17) g_RX7_25 ⟨rfl, hd_X7_accept⟩ (rest := []) hl.1 hS (fun q h => h) dX7_read_37 rfl rfl ⟨Nat.le_of_ble_eq_true rfl, Nat.le_of_ble_eq_true rfl⟩ rfl rfl (Nat.le_of_ble_eq_true rfl) ⟨Nat.zero_le _, Nat.zero_le _⟩ (fun H locs hP _ hS => ?_)
          refine lv_istore hx hb dX7_read_40 hl (Nat.le_of_ble_eq_true rfl) (lv' := [(4, .int r_12), (0, .ref (ad 4)), (1, .ref (ad 1)), (2, .int v2), (3, .int v3)]) rfl (fun ls hl => ?_)
          refine lv_iload hx hb dX7_read_42 (lv_at hl 0 rfl) ?_
          refine lv_if_eq hx hb dX7_read_44 (tgt := 56) rfl (fun hc => ?_) (fun hc => ?_)
          · replace h := ifp h hc
            obtain ⟨v3_18, ev3_18, h⟩ := nm_s h
            refine lv_iinc hx hb dX7_read_56 hl (k := 4) rfl ev3_18.symm (Nat.le_of_ble_eq_true rfl) (lv' := [(3, .int v3_18), (4, .int r_12), (0, .ref (ad 4)), (1, .ref (ad 1)), (2, .int v2)]) rfl (fun ls hl => ?_)
            refine lv_goto hx hb dX7_read_59 (tgt := 22) rfl ?_
            exact ih22 _ _ _ v3_18 x_board_13 x_col_14 x_line_15 x_rcells_16 (lv_sub hl [2, 3, 4, 0] rfl) hP hS h
          · replace h := ifn h hc
            refine lv_sipush (v := (-1000)) hx hb dX7_read_47 ks_m1000 ?_
            refine lv_iload hx hb dX7_read_50 (lv_at hl 0 rfl) ?_
            refine lv_imul hx hb dX7_read_52 ?_
            refine lv_iload_n hx hb dX7_read_53 rfl (lv_at hl 4 rfl) ?_
            refine lv_isub hx hb dX7_read_54 ?_
            simp only [Option.some.injEq, Prod.mk.injEq] at h
            obtain ⟨rfl, rfl, rfl, rfl, rfl⟩ := h
            exact rc_i hx hb hr hlocks hS dX7_read_55 rfl hP
  refine lv_aload_n hx hb dX7_read_0 rfl (lv_at hl 0 rfl) ?_
  refine lv_lconst (v := 0) hx hb dX7_read_1 kl_0 ?_
  refine cp_RD_0 hx hb hw hown hK hP hI hS dX7_read_2 (fun H locs hP hS => ?_)
  refine lv_aload_n hx hb dX7_read_5 rfl (lv_at hl 0 rfl) ?_
  refine lv_iconst (v := 0) hx hb dX7_read_6 ki_0 ?_
  refine cp_RD_1 hx hb hw hown hK hP hI hS dX7_read_7 (fun H locs hP hS => ?_)
  refine lv_aload_n hx hb dX7_read_10 rfl (lv_at hl 0 rfl) ?_
  refine lv_iconst (v := 0) hx hb dX7_read_11 ki_0 ?_
  refine cp_RD_2 hx hb hw hown hK hP hI hS dX7_read_12 (fun H locs hP hS => ?_)
  refine lv_aload_n hx hb dX7_read_15 rfl (lv_at hl 0 rfl) ?_
  refine lv_iconst (v := 0) hx hb dX7_read_16 ki_0 ?_
  refine cp_RD_3 hx hb hw hown hK hP hI hS dX7_read_17 (fun H locs hP hS => ?_)
  refine lv_iconst (v := 0) hx hb dX7_read_20 ki_0 ?_
  refine lv_istore_n hx hb dX7_read_21 rfl hl (Nat.le_of_ble_eq_true rfl) (lv' := [(3, .int 0), (0, .ref (ad 4)), (1, .ref (ad 1)), (2, .int v2)]) rfl (fun ls hl => ?_)
  exact hL22 v2 a_tape FU _ _ _ 0 0 0 0 0 (lv_sub hl [1, 2, 3, 0] rfl) hP hS h
noncomputable def rd_board (x_board : Int64) : Option (Int64) :=
  some (x_board)
set_option maxHeartbeats 4000000 in
set_option maxRecDepth 100000 in
theorem c_rd_board (l : Launch) (D : va_G) (ct : Nat → ClassId) (ad : Nat → Nat) (hI : cI ad) {x_fed x_tk x_col x_line x_rcells x_rsize x_len x_cuts x_bare x_place x_lA x_lB x_lC x_fX x_fY x_sX x_sY x_made x_fsize x_psize x_over x_touch x_most x_mU x_mV x_area : Int32} {x_board : Int64} {a_tape a_letters a_oneSided a_free a_ends a_crowds a_wmade a_firsts a_widths a_heights a_places a_next a_pnear a_table a_overlaps : Nat → Int32} {a_drawers a_kept a_items a_numbers a_marks a_near a_figures a_covered a_pcells a_matrix : Nat → Int64}  (r : Int64)  (h : rd_board x_board = some (r)) : Met l yX7_board (wm yX7_board cX7_board 1 (some .long)) (rmm 0 0) (va_Pc [.ref (ad 4)] (cB D ct ad x_fed x_tk x_col x_line x_rcells x_rsize x_len x_cuts x_bare x_place x_lA x_lB x_lC x_fX x_fY x_sX x_sY x_made x_fsize x_psize x_over x_touch x_most x_mU x_mV x_area x_board a_tape a_letters a_oneSided a_free a_ends a_crowds a_wmade a_firsts a_widths a_heights a_places a_next a_pnear a_table a_overlaps a_drawers a_kept a_items a_numbers a_marks a_near a_figures a_covered a_pcells a_matrix)) (va_Ql (fun z (_ : Unit) => z = r) (fun _ t => cP D ct ad x_fed x_tk x_col x_line x_rcells x_rsize x_len x_cuts x_bare x_place x_lA x_lB x_lC x_fX x_fY x_sX x_sY x_made x_fsize x_psize x_over x_touch x_most x_mU x_mV x_area x_board a_tape a_letters a_oneSided a_free a_ends a_crowds a_wmade a_firsts a_widths a_heights a_places a_next a_pnear a_table a_overlaps a_drawers a_kept a_items a_numbers a_marks a_near a_figures a_covered a_pcells a_matrix t.heap) (cA ad)) 0 0 (cA ad) := by
  refine met_s (y := yX7_board) (rm := rmm 0 0) (by decide) (Nat.le_of_ble_eq_true rfl) ?_
  intro p e s m below meth c hx hb hr hw hown hlocks _ hml hB ls hl
  obtain ⟨hN, hK, hP⟩ := hB
  replace hl : lv_has ls 1 [(0, .ref (ad 4))] := hl
  have hS : va_S (cA ad) s.heap s.heap [] := va_S.rf
  generalize (([.ref (ad 4)] : List Value).toArray) = av at hw ⊢
  rw [rd_board] at h
  refine lv_aload_n hx hb dX7_board_0 rfl (lv_at hl 0 rfl) ?_
  refine cg_RD_0 hx hb hw hown hK hP dX7_board_1 ?_
  replace h := Option.some.inj h
  subst h
  exact rc_l hx hb hr hlocks hS dX7_board_4 rfl hP
noncomputable def wy_setOf (v1 : Int32) (v2 : Int64) (a_numbers : Nat → Int64) (a_oneSided : Nat → Int32) (a_free : Nat → Int32) (a_ends : Nat → Int32) : Option (Int64) :=
  bd1 (gr_least v2 2) fun r_1 =>
  bd1 (ca_indexOf v1 2 r_1 a_numbers a_oneSided a_free a_ends) fun r_3 =>
  if 0 ≤ r_3 then (some (sl 1 r_3)) else
  some (0)
set_option maxHeartbeats 4000000 in
set_option maxRecDepth 100000 in
theorem c_wy_setOf (l : Launch) (D : va_G) (ct : Nat → ClassId) (ad : Nat → Nat) (hI : cI ad) {x_fed x_tk x_col x_line x_rcells x_rsize x_len x_cuts x_bare x_place x_lA x_lB x_lC x_fX x_fY x_sX x_sY x_made x_fsize x_psize x_over x_touch x_most x_mU x_mV x_area : Int32} {x_board : Int64} {a_tape a_letters a_oneSided a_free a_ends a_crowds a_wmade a_firsts a_widths a_heights a_places a_next a_pnear a_table a_overlaps : Nat → Int32} {a_drawers a_kept a_items a_numbers a_marks a_near a_figures a_covered a_pcells a_matrix : Nat → Int64} (v1 : Int32) (v2 : Int64) (r : Int64)  (h : wy_setOf v1 v2 a_numbers a_oneSided a_free a_ends = some (r)) : Met l yX10_setOf (wm yX10_setOf cX10_setOf 5 (some .long)) (rmm 4 96) (va_Pc [.ref (ad 16), .int v1, .long v2] (cB D ct ad x_fed x_tk x_col x_line x_rcells x_rsize x_len x_cuts x_bare x_place x_lA x_lB x_lC x_fX x_fY x_sX x_sY x_made x_fsize x_psize x_over x_touch x_most x_mU x_mV x_area x_board a_tape a_letters a_oneSided a_free a_ends a_crowds a_wmade a_firsts a_widths a_heights a_places a_next a_pnear a_table a_overlaps a_drawers a_kept a_items a_numbers a_marks a_near a_figures a_covered a_pcells a_matrix)) (va_Ql (fun z (_ : Unit) => z = r) (fun _ t => cP D ct ad x_fed x_tk x_col x_line x_rcells x_rsize x_len x_cuts x_bare x_place x_lA x_lB x_lC x_fX x_fY x_sX x_sY x_made x_fsize x_psize x_over x_touch x_most x_mU x_mV x_area x_board a_tape a_letters a_oneSided a_free a_ends a_crowds a_wmade a_firsts a_widths a_heights a_places a_next a_pnear a_table a_overlaps a_drawers a_kept a_items a_numbers a_marks a_near a_figures a_covered a_pcells a_matrix t.heap) (cA ad)) 0 0 (cA ad) := by
  refine met_s (y := yX10_setOf) (rm := rmm 4 96) (by decide) (Nat.le_of_ble_eq_true rfl) ?_
  intro p e s m below meth c hx hb hr hw hown hlocks _ hml hB ls hl
  obtain ⟨hN, hK, hP⟩ := hB
  replace hl : lv_has ls 5 [(0, .ref (ad 16)), (1, .int v1), (2, .long v2)] := hl
  have hS : va_S (cA ad) s.heap s.heap [] := va_S.rf
  generalize (([.ref (ad 16), .int v1, .long v2] : List Value).toArray) = av at hw ⊢
  rw [wy_setOf] at h
  refine lv_aload_n hx hb dX10_setOf_0 rfl (lv_at hl 0 rfl) ?_
  refine cg_WY_0 hx hb hw hown hK hP dX10_setOf_1 ?_
  refine lv_iload_n hx hb dX10_setOf_4 rfl (lv_at hl 1 rfl) ?_
  refine lv_iconst (v := 2) hx hb dX10_setOf_5 ki_2 ?_
  refine lv_lload_n hx hb dX10_setOf_6 rfl (lv_at hl 2 rfl) ?_
  refine lv_iconst (v := 2) hx hb dX10_setOf_7 ki_2 ?_
  obtain ⟨r_5, hr_6, h⟩ := bd1_s h
  refine sc_l hx hb hml hown hw hN (c_gr_least l v2 2 r_5 hr_6) g_RX10_60 hd_X2_least (rest := [.int 2, .int v1, .ref (ad 9)]) hl.1 hS dX10_setOf_8 rfl rfl ⟨Nat.le_of_ble_eq_true rfl, Nat.le_of_ble_eq_true rfl⟩ rfl rfl (Nat.le_of_ble_eq_true rfl) ⟨Nat.zero_le _, Nat.zero_le _⟩ (fun H locs hk hS => ?_)
  have hP := cP_kept hP hk
  obtain ⟨r_7, hr_8, h⟩ := bd1_s h
  refine hv_i hx hb hml hown hw cB_bl (cB_of hN hK hP) (cr_CA hK hP) (c_ca_indexOf l D ct ad hI v1 2 r_5 r_7 hr_8) g_RX10_66 ⟨rfl, hd_X0_indexOf⟩ (rest := []) hl.1 hS (fun q h => h) dX10_setOf_11 rfl rfl ⟨Nat.le_of_ble_eq_true rfl, Nat.le_of_ble_eq_true rfl⟩ rfl rfl (Nat.le_of_ble_eq_true rfl) ⟨Nat.zero_le _, Nat.zero_le _⟩ (fun H locs hP _ hS => ?_)
  refine lv_istore hx hb dX10_setOf_14 hl (Nat.le_of_ble_eq_true rfl) (lv' := [(4, .int r_7), (0, .ref (ad 16)), (1, .int v1), (2, .long v2)]) rfl (fun ls hl => ?_)
  refine lv_iload hx hb dX10_setOf_16 (lv_at hl 0 rfl) ?_
  refine lv_if_ge hx hb dX10_setOf_18 (tgt := 25) rfl (fun hc => ?_) (fun hc => ?_)
  · replace h := ifp h hc
    refine lv_lconst (v := 1) hx hb dX10_setOf_25 kl_1 ?_
    refine lv_iload hx hb dX10_setOf_26 (lv_at hl 0 rfl) ?_
    refine lv_lshl hx hb (v := sl 1 r_7) dX10_setOf_28 rfl ?_
    replace h := Option.some.inj h
    subst h
    exact rc_l hx hb hr hlocks hS dX10_setOf_29 rfl hP
  · replace h := ifn h hc
    refine lv_lconst (v := 0) hx hb dX10_setOf_21 kl_0 ?_
    refine lv_goto hx hb dX10_setOf_22 (tgt := 29) rfl ?_
    replace h := Option.some.inj h
    subst h
    exact rc_l hx hb hr hlocks hS dX10_setOf_29 rfl hP
noncomputable def wy_beyond_J55 (k6 : Int64 → Int32 → Option (Int64)) (a_near : Nat → Int64) (v1 : Int32) (v2 : Int64) (v4 : Int64) (v6 : Int32)  : Option (Int64) :=
  nm (v6 + Int32.ofInt 1) fun v6_1 =>
  k6 v4 v6_1
noncomputable def wy_beyond_B6 (v1 : Int32) (v2 : Int64) (a_near : Nat → Int64)  (k6 : Int64 → Int32 → Option (Int64)) (v4 : Int64) (v6 : Int32) : Option (Int64) :=
  if 35 ≤ v6 then (some (v4)) else
  nm ((v1 * 35) + v6 : Int32) fun v7_2 =>
  if ((su v2 v6) &&& 1) = 0 then (wy_beyond_J55 k6 a_near v1 v2 v4 v6) else
  if 245 ≤ v7_2 then (wy_beyond_J55 k6 a_near v1 v2 v4 v6) else
  ck v7_2 245 <|
  nm (v4 ||| (a_near v7_2.toNatClampNeg) : Int64) fun v4_3 =>
  wy_beyond_J55 k6 a_near v1 v2 v4_3 v6
noncomputable def wy_beyond (v1 : Int32) (v2 : Int64) (a_near : Nat → Int64) : Option (Int64) :=
  fl2 (wy_beyond_B6 v1 v2 a_near) FU 0 0
set_option maxHeartbeats 4000000 in
set_option maxRecDepth 100000 in
theorem c_wy_beyond (l : Launch) (D : va_G) (ct : Nat → ClassId) (ad : Nat → Nat) (hI : cI ad) {x_fed x_tk x_col x_line x_rcells x_rsize x_len x_cuts x_bare x_place x_lA x_lB x_lC x_fX x_fY x_sX x_sY x_made x_fsize x_psize x_over x_touch x_most x_mU x_mV x_area : Int32} {x_board : Int64} {a_tape a_letters a_oneSided a_free a_ends a_crowds a_wmade a_firsts a_widths a_heights a_places a_next a_pnear a_table a_overlaps : Nat → Int32} {a_drawers a_kept a_items a_numbers a_marks a_near a_figures a_covered a_pcells a_matrix : Nat → Int64} (v1 : Int32) (v2 : Int64) (r : Int64)  (h : wy_beyond v1 v2 a_near = some (r)) : Met l yX10_beyond (wm yX10_beyond cX10_beyond 8 (some .long)) (rmm 0 0) (va_Pc [.ref (ad 16), .int v1, .long v2] (cB D ct ad x_fed x_tk x_col x_line x_rcells x_rsize x_len x_cuts x_bare x_place x_lA x_lB x_lC x_fX x_fY x_sX x_sY x_made x_fsize x_psize x_over x_touch x_most x_mU x_mV x_area x_board a_tape a_letters a_oneSided a_free a_ends a_crowds a_wmade a_firsts a_widths a_heights a_places a_next a_pnear a_table a_overlaps a_drawers a_kept a_items a_numbers a_marks a_near a_figures a_covered a_pcells a_matrix)) (va_Ql (fun z (_ : Unit) => z = r) (fun _ t => cP D ct ad x_fed x_tk x_col x_line x_rcells x_rsize x_len x_cuts x_bare x_place x_lA x_lB x_lC x_fX x_fY x_sX x_sY x_made x_fsize x_psize x_over x_touch x_most x_mU x_mV x_area x_board a_tape a_letters a_oneSided a_free a_ends a_crowds a_wmade a_firsts a_widths a_heights a_places a_next a_pnear a_table a_overlaps a_drawers a_kept a_items a_numbers a_marks a_near a_figures a_covered a_pcells a_matrix t.heap) (cA ad)) 0 0 (cA ad) := by
  refine met_s (y := yX10_beyond) (rm := rmm 0 0) (by decide) (Nat.le_of_ble_eq_true rfl) ?_
  intro p e s m below meth c hx hb hr hw hown hlocks _ hml hB ls hl
  obtain ⟨hN, hK, hP⟩ := hB
  replace hl : lv_has ls 8 [(0, .ref (ad 16)), (1, .int v1), (2, .long v2)] := hl
  have hS : va_S (cA ad) s.heap s.heap [] := va_S.rf
  generalize (([.ref (ad 16), .int v1, .long v2] : List Value).toArray) = av at hw ⊢
  rw [wy_beyond] at h
  have hL6 : ∀ (v1 : Int32), ∀ (v2 : Int64), ∀ (a_near : Nat → Int64), ∀ (n6 : Nat) (H : Heap) (locs : List Loc) (ls : Array Slot) (v4 : Int64) (v6 : Int32), lv_has ls 8 [(0, .ref (ad 16)), (1, .int v1), (2, .long v2), (4, .long v4), (6, .int v6)] → cP D ct ad x_fed x_tk x_col x_line x_rcells x_rsize x_len x_cuts x_bare x_place x_lA x_lB x_lC x_fX x_fY x_sX x_sY x_made x_fsize x_psize x_over x_touch x_most x_mU x_mV x_area x_board a_tape a_letters a_oneSided a_free a_ends a_crowds a_wmade a_firsts a_widths a_heights a_places a_next a_pnear a_table a_overlaps a_drawers a_kept a_items a_numbers a_marks a_near a_figures a_covered a_pcells a_matrix H → va_S (cA ad) s.heap H locs → fl2 (wy_beyond_B6 v1 v2 a_near) n6 v4 v6 = some (r) → W p l e (rmm 0 0) s m av below meth c H locs 0 0 (MQ below (va_Ql (fun z (_ : Unit) => z = r) (fun _ t => cP D ct ad x_fed x_tk x_col x_line x_rcells x_rsize x_len x_cuts x_bare x_place x_lA x_lB x_lC x_fX x_fY x_sX x_sY x_made x_fsize x_psize x_over x_touch x_most x_mU x_mV x_area x_board a_tape a_letters a_oneSided a_free a_ends a_crowds a_wmade a_firsts a_widths a_heights a_places a_next a_pnear a_table a_overlaps a_drawers a_kept a_items a_numbers a_marks a_near a_figures a_covered a_pcells a_matrix t.heap) (cA ad)) av s 0 0 (cA ad)) (F0 m 6 ls []) := by
    intro v1 v2 a_near n6
    induction n6 with
    | zero => intro H locs ls v4 v6 hl hP hS h; cases h
    | succ n6 ih6 =>
      intro H locs ls v4 v6 hl hP hS h
      replace h : wy_beyond_B6 v1 v2 a_near (fl2 (wy_beyond_B6 v1 v2 a_near) n6) v4 v6 = some (r) := h
      generalize fl2 (wy_beyond_B6 v1 v2 a_near) n6 = k6 at h ih6
      have hJ55 : ∀ (H : Heap) (locs : List Loc) (ls : Array Slot) (v4 : Int64) (v6 : Int32) , lv_has ls 8 [(0, .ref (ad 16)), (1, .int v1), (2, .long v2), (4, .long v4), (6, .int v6)] → cP D ct ad x_fed x_tk x_col x_line x_rcells x_rsize x_len x_cuts x_bare x_place x_lA x_lB x_lC x_fX x_fY x_sX x_sY x_made x_fsize x_psize x_over x_touch x_most x_mU x_mV x_area x_board a_tape a_letters a_oneSided a_free a_ends a_crowds a_wmade a_firsts a_widths a_heights a_places a_next a_pnear a_table a_overlaps a_drawers a_kept a_items a_numbers a_marks a_near a_figures a_covered a_pcells a_matrix H → va_S (cA ad) s.heap H locs → wy_beyond_J55 k6 a_near v1 v2 v4 v6 = some (r) → W p l e (rmm 0 0) s m av below meth c H locs 0 0 (MQ below (va_Ql (fun z (_ : Unit) => z = r) (fun _ t => cP D ct ad x_fed x_tk x_col x_line x_rcells x_rsize x_len x_cuts x_bare x_place x_lA x_lB x_lC x_fX x_fY x_sX x_sY x_made x_fsize x_psize x_over x_touch x_most x_mU x_mV x_area x_board a_tape a_letters a_oneSided a_free a_ends a_crowds a_wmade a_firsts a_widths a_heights a_places a_next a_pnear a_table a_overlaps a_drawers a_kept a_items a_numbers a_marks a_near a_figures a_covered a_pcells a_matrix t.heap) (cA ad)) av s 0 0 (cA ad)) (F0 m 55 ls []) := by
        intro H locs ls v4 v6  hl hP hS h
        rw [wy_beyond_J55] at h
        obtain ⟨v6_4, ev6_4, h⟩ := nm_s h
        refine lv_iinc hx hb dX10_beyond_55 hl (k := 4) rfl ev6_4.symm (Nat.le_of_ble_eq_true rfl) (lv' := [(6, .int v6_4), (0, .ref (ad 16)), (1, .int v1), (2, .long v2), (4, .long v4)]) rfl (fun ls hl => ?_)
        refine lv_goto hx hb dX10_beyond_58 (tgt := 6) rfl ?_
        exact ih6 _ _ _ v4 v6_4 (lv_sub hl [1, 2, 3, 4, 0] rfl) hP hS h
      rw [wy_beyond_B6] at h
      refine lv_iload hx hb dX10_beyond_6 (lv_at hl 4 rfl) ?_
      refine lv_bipush (v := 35) hx hb dX10_beyond_8 kb_35 ?_
      refine lv_icmp_ge hx hb dX10_beyond_10 (tgt := 61) rfl (fun hc => ?_) (fun hc => ?_)
      · replace h := ifp h hc
        refine lv_lload hx hb dX10_beyond_61 (lv_at hl 3 rfl) ?_
        replace h := Option.some.inj h
        subst h
        exact rc_l hx hb hr hlocks hS dX10_beyond_63 rfl hP
      · replace h := ifn h hc
        refine lv_iload_n hx hb dX10_beyond_13 rfl (lv_at hl 1 rfl) ?_
        refine lv_bipush (v := 35) hx hb dX10_beyond_14 kb_35 ?_
        refine lv_imul hx hb dX10_beyond_16 ?_
        refine lv_iload hx hb dX10_beyond_17 (lv_at hl 4 rfl) ?_
        refine lv_iadd hx hb dX10_beyond_19 ?_
        obtain ⟨v7_5, ev7_5, h⟩ := nm_s h
        refine nmI ev7_5 ?_
        refine lv_istore hx hb dX10_beyond_20 hl (Nat.le_of_ble_eq_true rfl) (lv' := [(7, .int v7_5), (0, .ref (ad 16)), (1, .int v1), (2, .long v2), (4, .long v4), (6, .int v6)]) rfl (fun ls hl => ?_)
        refine lv_lload_n hx hb dX10_beyond_22 rfl (lv_at hl 3 rfl) ?_
        refine lv_iload hx hb dX10_beyond_23 (lv_at hl 5 rfl) ?_
        refine lv_lushr hx hb (v := su v2 v6) dX10_beyond_25 rfl ?_
        refine lv_lconst (v := 1) hx hb dX10_beyond_26 kl_1 ?_
        refine lv_land hx hb dX10_beyond_27 ?_
        refine lv_lconst (v := 0) hx hb dX10_beyond_28 kl_0 ?_
        refine W.lcmp hx hb dX10_beyond_29 ?_
        refine lv_if_eq hx hb dX10_beyond_30 (tgt := 55) rfl (fun hc => ?_) (fun hc => ?_)
        · replace h := ifp h ((lg_cmp_eq _ _).mp hc)
          exact hJ55 _ _ _ v4 v6 (lv_sub hl [1, 2, 3, 4, 5] rfl) hP hS h
        · replace h := ifn h (fun q => hc ((lg_cmp_eq _ _).mpr q))
          refine lv_iload hx hb dX10_beyond_33 (lv_at hl 0 rfl) ?_
          refine lv_aload_n hx hb dX10_beyond_35 rfl (lv_at hl 1 rfl) ?_
          refine cg_WY_1 hx hb hw hown hK hP dX10_beyond_36 ?_
          refine cl_near hx hb hK hP dX10_beyond_39 ?_
          refine lv_icmp_ge hx hb dX10_beyond_40 (tgt := 55) rfl (fun hc => ?_) (fun hc => ?_)
          · replace h := ifp h hc
            exact hJ55 _ _ _ v4 v6 (lv_sub hl [1, 2, 3, 4, 5] rfl) hP hS h
          · replace h := ifn h hc
            refine lv_lload hx hb dX10_beyond_43 (lv_at hl 4 rfl) ?_
            refine lv_aload_n hx hb dX10_beyond_45 rfl (lv_at hl 1 rfl) ?_
            refine cg_WY_1 hx hb hw hown hK hP dX10_beyond_46 ?_
            refine lv_iload hx hb dX10_beyond_49 (lv_at hl 0 rfl) ?_
            obtain ⟨hin, h⟩ := ck_s h
            refine cd_near hx hb hK hP hin dX10_beyond_51 ?_
            refine lv_lor hx hb dX10_beyond_52 ?_
            obtain ⟨v4_6, ev4_6, h⟩ := nm_s h
            refine nmL ev4_6 ?_
            refine lv_lstore hx hb dX10_beyond_53 hl (Nat.le_of_ble_eq_true rfl) (lv' := [(4, .long v4_6), (7, .int v7_5), (0, .ref (ad 16)), (1, .int v1), (2, .long v2), (6, .int v6)]) rfl (fun ls hl => ?_)
            exact hJ55 _ _ _ v4_6 v6 (lv_sub hl [2, 3, 4, 0, 5] rfl) hP hS h
  refine lv_lconst (v := 0) hx hb dX10_beyond_0 kl_0 ?_
  refine lv_lstore hx hb dX10_beyond_1 hl (Nat.le_of_ble_eq_true rfl) (lv' := [(4, .long 0), (0, .ref (ad 16)), (1, .int v1), (2, .long v2)]) rfl (fun ls hl => ?_)
  refine lv_iconst (v := 0) hx hb dX10_beyond_3 ki_0 ?_
  refine lv_istore hx hb dX10_beyond_4 hl (Nat.le_of_ble_eq_true rfl) (lv' := [(6, .int 0), (4, .long 0), (0, .ref (ad 16)), (1, .int v1), (2, .long v2)]) rfl (fun ls hl => ?_)
  exact hL6 v1 v2 a_near FU _ _ _ 0 0 (lv_sub hl [2, 3, 4, 1, 0] rfl) hP hS h
noncomputable def wy_steps_B20 (v1 : Int32) (v6 : Int64) (a_numbers : Nat → Int64) (a_oneSided : Nat → Int32) (a_free : Nat → Int32) (a_ends : Nat → Int32) (a_near : Nat → Int64)  (k20 : Int64 → Int32 → Option (Int32)) (v8 : Int64) (v10 : Int32) : Option (Int32) :=
  if 35 < v10 then (some ((-1))) else
  if (v8 &&& v6) = 0 then (bd1 (wy_beyond v1 v8 a_near) fun r_1 =>
  nm (v8 ||| r_1 : Int64) fun v8_3 =>
  nm (v10 + Int32.ofInt 1) fun v10_4 =>
  k20 v8_3 v10_4) else
  some (v10)
noncomputable def wy_steps (v1 : Int32) (v2 : Int64) (v4 : Int64) (a_numbers : Nat → Int64) (a_oneSided : Nat → Int32) (a_free : Nat → Int32) (a_ends : Nat → Int32) (a_near : Nat → Int64) : Option (Int32) :=
  bd1 (wy_setOf v1 v4 a_numbers a_oneSided a_free a_ends) fun r_5 =>
  bd1 (wy_setOf v1 v2 a_numbers a_oneSided a_free a_ends) fun r_7 =>
  fl2 (wy_steps_B20 v1 r_5 a_numbers a_oneSided a_free a_ends a_near) FU r_7 0
set_option maxHeartbeats 4000000 in
set_option maxRecDepth 100000 in
theorem c_wy_steps (l : Launch) (D : va_G) (ct : Nat → ClassId) (ad : Nat → Nat) (hI : cI ad) {x_fed x_tk x_col x_line x_rcells x_rsize x_len x_cuts x_bare x_place x_lA x_lB x_lC x_fX x_fY x_sX x_sY x_made x_fsize x_psize x_over x_touch x_most x_mU x_mV x_area : Int32} {x_board : Int64} {a_tape a_letters a_oneSided a_free a_ends a_crowds a_wmade a_firsts a_widths a_heights a_places a_next a_pnear a_table a_overlaps : Nat → Int32} {a_drawers a_kept a_items a_numbers a_marks a_near a_figures a_covered a_pcells a_matrix : Nat → Int64} (v1 : Int32) (v2 : Int64) (v4 : Int64) (r : Int32)  (h : wy_steps v1 v2 v4 a_numbers a_oneSided a_free a_ends a_near = some (r)) : Met l yX10_steps (wm yX10_steps cX10_steps 11 (some .int)) (rmm 5 120) (va_Pc [.ref (ad 16), .int v1, .long v2, .long v4] (cB D ct ad x_fed x_tk x_col x_line x_rcells x_rsize x_len x_cuts x_bare x_place x_lA x_lB x_lC x_fX x_fY x_sX x_sY x_made x_fsize x_psize x_over x_touch x_most x_mU x_mV x_area x_board a_tape a_letters a_oneSided a_free a_ends a_crowds a_wmade a_firsts a_widths a_heights a_places a_next a_pnear a_table a_overlaps a_drawers a_kept a_items a_numbers a_marks a_near a_figures a_covered a_pcells a_matrix)) (va_Qi (fun z (_ : Unit) => z = r) (fun _ t => cP D ct ad x_fed x_tk x_col x_line x_rcells x_rsize x_len x_cuts x_bare x_place x_lA x_lB x_lC x_fX x_fY x_sX x_sY x_made x_fsize x_psize x_over x_touch x_most x_mU x_mV x_area x_board a_tape a_letters a_oneSided a_free a_ends a_crowds a_wmade a_firsts a_widths a_heights a_places a_next a_pnear a_table a_overlaps a_drawers a_kept a_items a_numbers a_marks a_near a_figures a_covered a_pcells a_matrix t.heap) (cA ad)) 0 0 (cA ad) := by
  refine met_s (y := yX10_steps) (rm := rmm 5 120) (by decide) (Nat.le_of_ble_eq_true rfl) ?_
  intro p e s m below meth c hx hb hr hw hown hlocks _ hml hB ls hl
  obtain ⟨hN, hK, hP⟩ := hB
  replace hl : lv_has ls 11 [(0, .ref (ad 16)), (1, .int v1), (2, .long v2), (4, .long v4)] := hl
  have hS : va_S (cA ad) s.heap s.heap [] := va_S.rf
  generalize (([.ref (ad 16), .int v1, .long v2, .long v4] : List Value).toArray) = av at hw ⊢
  rw [wy_steps] at h
  have hL20 : ∀ (v1 : Int32), ∀ (v6 : Int64), ∀ (a_numbers : Nat → Int64), ∀ (a_oneSided : Nat → Int32), ∀ (a_free : Nat → Int32), ∀ (a_ends : Nat → Int32), ∀ (a_near : Nat → Int64), ∀ (n20 : Nat) (H : Heap) (locs : List Loc) (ls : Array Slot) (v8 : Int64) (v10 : Int32), lv_has ls 11 [(0, .ref (ad 16)), (1, .int v1), (6, .long v6), (8, .long v8), (10, .int v10)] → cP D ct ad x_fed x_tk x_col x_line x_rcells x_rsize x_len x_cuts x_bare x_place x_lA x_lB x_lC x_fX x_fY x_sX x_sY x_made x_fsize x_psize x_over x_touch x_most x_mU x_mV x_area x_board a_tape a_letters a_oneSided a_free a_ends a_crowds a_wmade a_firsts a_widths a_heights a_places a_next a_pnear a_table a_overlaps a_drawers a_kept a_items a_numbers a_marks a_near a_figures a_covered a_pcells a_matrix H → va_S (cA ad) s.heap H locs → fl2 (wy_steps_B20 v1 v6 a_numbers a_oneSided a_free a_ends a_near) n20 v8 v10 = some (r) → W p l e (rmm 5 120) s m av below meth c H locs 0 0 (MQ below (va_Qi (fun z (_ : Unit) => z = r) (fun _ t => cP D ct ad x_fed x_tk x_col x_line x_rcells x_rsize x_len x_cuts x_bare x_place x_lA x_lB x_lC x_fX x_fY x_sX x_sY x_made x_fsize x_psize x_over x_touch x_most x_mU x_mV x_area x_board a_tape a_letters a_oneSided a_free a_ends a_crowds a_wmade a_firsts a_widths a_heights a_places a_next a_pnear a_table a_overlaps a_drawers a_kept a_items a_numbers a_marks a_near a_figures a_covered a_pcells a_matrix t.heap) (cA ad)) av s 0 0 (cA ad)) (F0 m 20 ls []) := by
    intro v1 v6 a_numbers a_oneSided a_free a_ends a_near n20
    induction n20 with
    | zero => intro H locs ls v8 v10 hl hP hS h; cases h
    | succ n20 ih20 =>
      intro H locs ls v8 v10 hl hP hS h
      replace h : wy_steps_B20 v1 v6 a_numbers a_oneSided a_free a_ends a_near (fl2 (wy_steps_B20 v1 v6 a_numbers a_oneSided a_free a_ends a_near) n20) v8 v10 = some (r) := h
      generalize fl2 (wy_steps_B20 v1 v6 a_numbers a_oneSided a_free a_ends a_near) n20 = k20 at h ih20
      rw [wy_steps_B20] at h
      refine lv_iload hx hb dX10_steps_20 (lv_at hl 4 rfl) ?_
      refine lv_bipush (v := 35) hx hb dX10_steps_22 kb_35 ?_
      refine lv_icmp_gt hx hb dX10_steps_24 (tgt := 58) rfl (fun hc => ?_) (fun hc => ?_)
      · replace h := ifp h hc
        refine lv_iconst (v := (-1)) hx hb dX10_steps_58 ki_m1 ?_
        replace h := Option.some.inj h
        subst h
        exact rc_i hx hb hr hlocks hS dX10_steps_59 rfl hP
      · replace h := ifn h hc
        refine lv_lload hx hb dX10_steps_27 (lv_at hl 3 rfl) ?_
        refine lv_lload hx hb dX10_steps_29 (lv_at hl 2 rfl) ?_
        refine lv_land hx hb dX10_steps_31 ?_
        refine lv_lconst (v := 0) hx hb dX10_steps_32 kl_0 ?_
        refine W.lcmp hx hb dX10_steps_33 ?_
        refine lv_if_eq hx hb dX10_steps_34 (tgt := 40) rfl (fun hc => ?_) (fun hc => ?_)
        · replace h := ifp h ((lg_cmp_eq _ _).mp hc)
          refine lv_lload hx hb dX10_steps_40 (lv_at hl 3 rfl) ?_
          refine lv_aload_n hx hb dX10_steps_42 rfl (lv_at hl 0 rfl) ?_
          refine lv_iload_n hx hb dX10_steps_43 rfl (lv_at hl 1 rfl) ?_
          refine lv_lload hx hb dX10_steps_44 (lv_at hl 3 rfl) ?_
          obtain ⟨r_9, hr_10, h⟩ := bd1_s h
          refine hv_l hx hb hml hown hw cB_bl (cB_of hN hK hP) (cr_WY hK hP) (c_wy_beyond l D ct ad hI v1 v8 r_9 hr_10) g_RX10_27 ⟨rfl, hd_X10_beyond⟩ (rest := [.long v8]) hl.1 hS (fun q h => h) dX10_steps_46 rfl rfl ⟨Nat.le_of_ble_eq_true rfl, Nat.le_of_ble_eq_true rfl⟩ rfl rfl (Nat.le_of_ble_eq_true rfl) ⟨Nat.zero_le _, Nat.zero_le _⟩ (fun H locs hP _ hS => ?_)
          refine lv_lor hx hb dX10_steps_49 ?_
          obtain ⟨v8_11, ev8_11, h⟩ := nm_s h
          refine nmL ev8_11 ?_
          refine lv_lstore hx hb dX10_steps_50 hl (Nat.le_of_ble_eq_true rfl) (lv' := [(8, .long v8_11), (0, .ref (ad 16)), (1, .int v1), (6, .long v6), (10, .int v10)]) rfl (fun ls hl => ?_)
          obtain ⟨v10_12, ev10_12, h⟩ := nm_s h
          refine lv_iinc hx hb dX10_steps_52 hl (k := 4) rfl ev10_12.symm (Nat.le_of_ble_eq_true rfl) (lv' := [(10, .int v10_12), (8, .long v8_11), (0, .ref (ad 16)), (1, .int v1), (6, .long v6)]) rfl (fun ls hl => ?_)
          refine lv_goto hx hb dX10_steps_55 (tgt := 20) rfl ?_
          exact ih20 _ _ _ v8_11 v10_12 (lv_sub hl [2, 3, 4, 1, 0] rfl) hP hS h
        · replace h := ifn h (fun q => hc ((lg_cmp_eq _ _).mpr q))
          refine lv_iload hx hb dX10_steps_37 (lv_at hl 4 rfl) ?_
          replace h := Option.some.inj h
          subst h
          exact rc_i hx hb hr hlocks hS dX10_steps_39 rfl hP
  refine lv_aload_n hx hb dX10_steps_0 rfl (lv_at hl 0 rfl) ?_
  refine lv_iload_n hx hb dX10_steps_1 rfl (lv_at hl 1 rfl) ?_
  refine lv_lload hx hb dX10_steps_2 (lv_at hl 3 rfl) ?_
  obtain ⟨r_13, hr_14, h⟩ := bd1_s h
  refine hv_l hx hb hml hown hw cB_bl (cB_of hN hK hP) (cr_WY hK hP) (c_wy_setOf l D ct ad hI v1 v4 r_13 hr_14) g_RX10_23 ⟨rfl, hd_X10_setOf⟩ (rest := []) hl.1 hS (fun q h => h) dX10_steps_4 rfl rfl ⟨Nat.le_of_ble_eq_true rfl, Nat.le_of_ble_eq_true rfl⟩ rfl rfl (Nat.le_of_ble_eq_true rfl) ⟨Nat.zero_le _, Nat.zero_le _⟩ (fun H locs hP _ hS => ?_)
  refine lv_lstore hx hb dX10_steps_7 hl (Nat.le_of_ble_eq_true rfl) (lv' := [(6, .long r_13), (0, .ref (ad 16)), (1, .int v1), (2, .long v2), (4, .long v4)]) rfl (fun ls hl => ?_)
  refine lv_aload_n hx hb dX10_steps_9 rfl (lv_at hl 1 rfl) ?_
  refine lv_iload_n hx hb dX10_steps_10 rfl (lv_at hl 2 rfl) ?_
  refine lv_lload_n hx hb dX10_steps_11 rfl (lv_at hl 3 rfl) ?_
  obtain ⟨r_15, hr_16, h⟩ := bd1_s h
  refine hv_l hx hb hml hown hw cB_bl (cB_of hN hK hP) (cr_WY hK hP) (c_wy_setOf l D ct ad hI v1 v2 r_15 hr_16) g_RX10_23 ⟨rfl, hd_X10_setOf⟩ (rest := []) hl.1 hS (fun q h => h) dX10_steps_12 rfl rfl ⟨Nat.le_of_ble_eq_true rfl, Nat.le_of_ble_eq_true rfl⟩ rfl rfl (Nat.le_of_ble_eq_true rfl) ⟨Nat.zero_le _, Nat.zero_le _⟩ (fun H locs hP _ hS => ?_)
  refine lv_lstore hx hb dX10_steps_15 hl (Nat.le_of_ble_eq_true rfl) (lv' := [(8, .long r_15), (6, .long r_13), (0, .ref (ad 16)), (1, .int v1), (2, .long v2), (4, .long v4)]) rfl (fun ls hl => ?_)
  refine lv_iconst (v := 0) hx hb dX10_steps_17 ki_0 ?_
  refine lv_istore hx hb dX10_steps_18 hl (Nat.le_of_ble_eq_true rfl) (lv' := [(10, .int 0), (8, .long r_15), (6, .long r_13), (0, .ref (ad 16)), (1, .int v1), (2, .long v2), (4, .long v4)]) rfl (fun ls hl => ?_)
  exact hL20 v1 r_13 a_numbers a_oneSided a_free a_ends a_near FU _ _ _ r_15 0 (lv_sub hl [3, 4, 2, 1, 0] rfl) hP hS h
noncomputable def wy_edge_B15 (v1 : Int32) (v4 : Int32) (a_numbers : Nat → Int64) (a_oneSided : Nat → Int32) (a_free : Nat → Int32) (a_ends : Nat → Int32) (a_near : Nat → Int64)  (k15 : Int64 → Int64 → Int32 → Option (Int32)) (v5 : Int64) (v7 : Int64) (v9 : Int32) : Option (Int32) :=
  if 35 < v9 then (some ((-1))) else
  bd1 (wy_beyond v1 v7 a_near) fun r_1 =>
  nm (r_1 &&& (v5 ^^^ (((-1) : Int64))) : Int64) fun v10_3 =>
  if v10_3 = 0 then (if v4 = 0 then (bd1 (jl_bitCount v7) fun r_6 =>
  some (r_6)) else
  some (v9)) else
  nm (v5 ||| v10_3 : Int64) fun v5_4 =>
  nm (v9 + Int32.ofInt 1) fun v9_5 =>
  k15 v5_4 v10_3 v9_5
noncomputable def wy_edge (v1 : Int32) (v2 : Int64) (v4 : Int32) (a_numbers : Nat → Int64) (a_oneSided : Nat → Int32) (a_free : Nat → Int32) (a_ends : Nat → Int32) (a_near : Nat → Int64) : Option (Int32) :=
  bd1 (wy_setOf v1 v2 a_numbers a_oneSided a_free a_ends) fun r_8 =>
  fl3 (wy_edge_B15 v1 v4 a_numbers a_oneSided a_free a_ends a_near) FU r_8 r_8 0
set_option maxHeartbeats 4000000 in
set_option maxRecDepth 100000 in
theorem c_wy_edge (l : Launch) (D : va_G) (ct : Nat → ClassId) (ad : Nat → Nat) (hI : cI ad) {x_fed x_tk x_col x_line x_rcells x_rsize x_len x_cuts x_bare x_place x_lA x_lB x_lC x_fX x_fY x_sX x_sY x_made x_fsize x_psize x_over x_touch x_most x_mU x_mV x_area : Int32} {x_board : Int64} {a_tape a_letters a_oneSided a_free a_ends a_crowds a_wmade a_firsts a_widths a_heights a_places a_next a_pnear a_table a_overlaps : Nat → Int32} {a_drawers a_kept a_items a_numbers a_marks a_near a_figures a_covered a_pcells a_matrix : Nat → Int64} (v1 : Int32) (v2 : Int64) (v4 : Int32) (r : Int32)  (h : wy_edge v1 v2 v4 a_numbers a_oneSided a_free a_ends a_near = some (r)) : Met l yX10_edge (wm yX10_edge cX10_edge 12 (some .int)) (rmm 5 120) (va_Pc [.ref (ad 16), .int v1, .long v2, .int v4] (cB D ct ad x_fed x_tk x_col x_line x_rcells x_rsize x_len x_cuts x_bare x_place x_lA x_lB x_lC x_fX x_fY x_sX x_sY x_made x_fsize x_psize x_over x_touch x_most x_mU x_mV x_area x_board a_tape a_letters a_oneSided a_free a_ends a_crowds a_wmade a_firsts a_widths a_heights a_places a_next a_pnear a_table a_overlaps a_drawers a_kept a_items a_numbers a_marks a_near a_figures a_covered a_pcells a_matrix)) (va_Qi (fun z (_ : Unit) => z = r) (fun _ t => cP D ct ad x_fed x_tk x_col x_line x_rcells x_rsize x_len x_cuts x_bare x_place x_lA x_lB x_lC x_fX x_fY x_sX x_sY x_made x_fsize x_psize x_over x_touch x_most x_mU x_mV x_area x_board a_tape a_letters a_oneSided a_free a_ends a_crowds a_wmade a_firsts a_widths a_heights a_places a_next a_pnear a_table a_overlaps a_drawers a_kept a_items a_numbers a_marks a_near a_figures a_covered a_pcells a_matrix t.heap) (cA ad)) 0 0 (cA ad) := by
  refine met_s (y := yX10_edge) (rm := rmm 5 120) (by decide) (Nat.le_of_ble_eq_true rfl) ?_
  intro p e s m below meth c hx hb hr hw hown hlocks _ hml hB ls hl
  obtain ⟨hN, hK, hP⟩ := hB
  replace hl : lv_has ls 12 [(0, .ref (ad 16)), (1, .int v1), (2, .long v2), (4, .int v4)] := hl
  have hS : va_S (cA ad) s.heap s.heap [] := va_S.rf
  generalize (([.ref (ad 16), .int v1, .long v2, .int v4] : List Value).toArray) = av at hw ⊢
  rw [wy_edge] at h
  have hL15 : ∀ (v1 : Int32), ∀ (v4 : Int32), ∀ (a_numbers : Nat → Int64), ∀ (a_oneSided : Nat → Int32), ∀ (a_free : Nat → Int32), ∀ (a_ends : Nat → Int32), ∀ (a_near : Nat → Int64), ∀ (n15 : Nat) (H : Heap) (locs : List Loc) (ls : Array Slot) (v5 : Int64) (v7 : Int64) (v9 : Int32), lv_has ls 12 [(0, .ref (ad 16)), (1, .int v1), (4, .int v4), (5, .long v5), (7, .long v7), (9, .int v9)] → cP D ct ad x_fed x_tk x_col x_line x_rcells x_rsize x_len x_cuts x_bare x_place x_lA x_lB x_lC x_fX x_fY x_sX x_sY x_made x_fsize x_psize x_over x_touch x_most x_mU x_mV x_area x_board a_tape a_letters a_oneSided a_free a_ends a_crowds a_wmade a_firsts a_widths a_heights a_places a_next a_pnear a_table a_overlaps a_drawers a_kept a_items a_numbers a_marks a_near a_figures a_covered a_pcells a_matrix H → va_S (cA ad) s.heap H locs → fl3 (wy_edge_B15 v1 v4 a_numbers a_oneSided a_free a_ends a_near) n15 v5 v7 v9 = some (r) → W p l e (rmm 5 120) s m av below meth c H locs 0 0 (MQ below (va_Qi (fun z (_ : Unit) => z = r) (fun _ t => cP D ct ad x_fed x_tk x_col x_line x_rcells x_rsize x_len x_cuts x_bare x_place x_lA x_lB x_lC x_fX x_fY x_sX x_sY x_made x_fsize x_psize x_over x_touch x_most x_mU x_mV x_area x_board a_tape a_letters a_oneSided a_free a_ends a_crowds a_wmade a_firsts a_widths a_heights a_places a_next a_pnear a_table a_overlaps a_drawers a_kept a_items a_numbers a_marks a_near a_figures a_covered a_pcells a_matrix t.heap) (cA ad)) av s 0 0 (cA ad)) (F0 m 15 ls []) := by
    intro v1 v4 a_numbers a_oneSided a_free a_ends a_near n15
    induction n15 with
    | zero => intro H locs ls v5 v7 v9 hl hP hS h; cases h
    | succ n15 ih15 =>
      intro H locs ls v5 v7 v9 hl hP hS h
      replace h : wy_edge_B15 v1 v4 a_numbers a_oneSided a_free a_ends a_near (fl3 (wy_edge_B15 v1 v4 a_numbers a_oneSided a_free a_ends a_near) n15) v5 v7 v9 = some (r) := h
      generalize fl3 (wy_edge_B15 v1 v4 a_numbers a_oneSided a_free a_ends a_near) n15 = k15 at h ih15
      rw [wy_edge_B15] at h
      refine lv_iload hx hb dX10_edge_15 (lv_at hl 5 rfl) ?_
      refine lv_bipush (v := 35) hx hb dX10_edge_17 kb_35 ?_
      refine lv_icmp_gt hx hb dX10_edge_19 (tgt := 78) rfl (fun hc => ?_) (fun hc => ?_)
      · replace h := ifp h hc
        refine lv_iconst (v := (-1)) hx hb dX10_edge_78 ki_m1 ?_
        replace h := Option.some.inj h
        subst h
        exact rc_i hx hb hr hlocks hS dX10_edge_79 rfl hP
      · replace h := ifn h hc
        refine lv_aload_n hx hb dX10_edge_22 rfl (lv_at hl 0 rfl) ?_
        refine lv_iload_n hx hb dX10_edge_23 rfl (lv_at hl 1 rfl) ?_
        refine lv_lload hx hb dX10_edge_24 (lv_at hl 4 rfl) ?_
        obtain ⟨r_10, hr_11, h⟩ := bd1_s h
        refine hv_l hx hb hml hown hw cB_bl (cB_of hN hK hP) (cr_WY hK hP) (c_wy_beyond l D ct ad hI v1 v7 r_10 hr_11) g_RX10_27 ⟨rfl, hd_X10_beyond⟩ (rest := []) hl.1 hS (fun q h => h) dX10_edge_26 rfl rfl ⟨Nat.le_of_ble_eq_true rfl, Nat.le_of_ble_eq_true rfl⟩ rfl rfl (Nat.le_of_ble_eq_true rfl) ⟨Nat.zero_le _, Nat.zero_le _⟩ (fun H locs hP _ hS => ?_)
        refine lv_lload hx hb dX10_edge_29 (lv_at hl 3 rfl) ?_
        refine lv_ldc2 hx hb hown (hw _ tw_33_8) dX10_edge_31 ?_
        refine lv_lxor hx hb dX10_edge_34 ?_
        refine lv_land hx hb dX10_edge_35 ?_
        obtain ⟨v10_12, ev10_12, h⟩ := nm_s h
        refine nmL ev10_12 ?_
        refine lv_lstore hx hb dX10_edge_36 hl (Nat.le_of_ble_eq_true rfl) (lv' := [(10, .long v10_12), (0, .ref (ad 16)), (1, .int v1), (4, .int v4), (5, .long v5), (7, .long v7), (9, .int v9)]) rfl (fun ls hl => ?_)
        refine lv_lload hx hb dX10_edge_38 (lv_at hl 0 rfl) ?_
        refine lv_lconst (v := 0) hx hb dX10_edge_40 kl_0 ?_
        refine W.lcmp hx hb dX10_edge_41 ?_
        refine lv_if_ne hx hb dX10_edge_42 (tgt := 61) rfl (fun hc => ?_) (fun hc => ?_)
        · replace h := ifn h (fun q => hc ((lg_cmp_eq _ _).mpr q))
          refine lv_lload hx hb dX10_edge_61 (lv_at hl 4 rfl) ?_
          refine lv_lload hx hb dX10_edge_63 (lv_at hl 0 rfl) ?_
          refine lv_lor hx hb dX10_edge_65 ?_
          obtain ⟨v5_13, ev5_13, h⟩ := nm_s h
          refine nmL ev5_13 ?_
          refine lv_lstore hx hb dX10_edge_66 hl (Nat.le_of_ble_eq_true rfl) (lv' := [(5, .long v5_13), (10, .long v10_12), (0, .ref (ad 16)), (1, .int v1), (4, .int v4), (7, .long v7), (9, .int v9)]) rfl (fun ls hl => ?_)
          refine lv_lload hx hb dX10_edge_68 (lv_at hl 1 rfl) ?_
          refine lv_lstore hx hb dX10_edge_70 hl (Nat.le_of_ble_eq_true rfl) (lv' := [(7, .long v10_12), (5, .long v5_13), (10, .long v10_12), (0, .ref (ad 16)), (1, .int v1), (4, .int v4), (9, .int v9)]) rfl (fun ls hl => ?_)
          obtain ⟨v9_14, ev9_14, h⟩ := nm_s h
          refine lv_iinc hx hb dX10_edge_72 hl (k := 6) rfl ev9_14.symm (Nat.le_of_ble_eq_true rfl) (lv' := [(9, .int v9_14), (7, .long v10_12), (5, .long v5_13), (10, .long v10_12), (0, .ref (ad 16)), (1, .int v1), (4, .int v4)]) rfl (fun ls hl => ?_)
          refine lv_goto hx hb dX10_edge_75 (tgt := 15) rfl ?_
          exact ih15 _ _ _ v5_13 v10_12 v9_14 (lv_sub hl [4, 5, 6, 2, 1, 0] rfl) hP hS h
        · replace h := ifp h ((lg_cmp_eq _ _).mp hc)
          refine lv_iload hx hb dX10_edge_45 (lv_at hl 3 rfl) ?_
          refine lv_if_eq hx hb dX10_edge_47 (tgt := 55) rfl (fun hc => ?_) (fun hc => ?_)
          · replace h := ifp h hc
            refine lv_lload hx hb dX10_edge_55 (lv_at hl 5 rfl) ?_
            obtain ⟨r_15, hr_16, h⟩ := bd1_s h
            refine sc_i hx hb hml hown hw hN (c_jl_bitCount l v7 r_15 hr_16) g_RX10_32 hd_J13_bitCount_95d88 (rest := []) hl.1 hS dX10_edge_57 rfl rfl ⟨Nat.le_of_ble_eq_true rfl, Nat.le_of_ble_eq_true rfl⟩ rfl rfl (Nat.le_of_ble_eq_true rfl) ⟨Nat.zero_le _, Nat.zero_le _⟩ (fun H locs hk hS => ?_)
            have hP := cP_kept hP hk
            replace h := Option.some.inj h
            subst h
            exact rc_i hx hb hr hlocks hS dX10_edge_60 rfl hP
          · replace h := ifn h hc
            refine lv_iload hx hb dX10_edge_50 (lv_at hl 6 rfl) ?_
            refine lv_goto hx hb dX10_edge_52 (tgt := 60) rfl ?_
            replace h := Option.some.inj h
            subst h
            exact rc_i hx hb hr hlocks hS dX10_edge_60 rfl hP
  refine lv_aload_n hx hb dX10_edge_0 rfl (lv_at hl 0 rfl) ?_
  refine lv_iload_n hx hb dX10_edge_1 rfl (lv_at hl 1 rfl) ?_
  refine lv_lload_n hx hb dX10_edge_2 rfl (lv_at hl 2 rfl) ?_
  obtain ⟨r_17, hr_18, h⟩ := bd1_s h
  refine hv_l hx hb hml hown hw cB_bl (cB_of hN hK hP) (cr_WY hK hP) (c_wy_setOf l D ct ad hI v1 v2 r_17 hr_18) g_RX10_23 ⟨rfl, hd_X10_setOf⟩ (rest := []) hl.1 hS (fun q h => h) dX10_edge_3 rfl rfl ⟨Nat.le_of_ble_eq_true rfl, Nat.le_of_ble_eq_true rfl⟩ rfl rfl (Nat.le_of_ble_eq_true rfl) ⟨Nat.zero_le _, Nat.zero_le _⟩ (fun H locs hP _ hS => ?_)
  refine lv_lstore hx hb dX10_edge_6 hl (Nat.le_of_ble_eq_true rfl) (lv' := [(5, .long r_17), (0, .ref (ad 16)), (1, .int v1), (2, .long v2), (4, .int v4)]) rfl (fun ls hl => ?_)
  refine lv_lload hx hb dX10_edge_8 (lv_at hl 0 rfl) ?_
  refine lv_lstore hx hb dX10_edge_10 hl (Nat.le_of_ble_eq_true rfl) (lv' := [(7, .long r_17), (5, .long r_17), (0, .ref (ad 16)), (1, .int v1), (2, .long v2), (4, .int v4)]) rfl (fun ls hl => ?_)
  refine lv_iconst (v := 0) hx hb dX10_edge_12 ki_0 ?_
  refine lv_istore hx hb dX10_edge_13 hl (Nat.le_of_ble_eq_true rfl) (lv' := [(9, .int 0), (7, .long r_17), (5, .long r_17), (0, .ref (ad 16)), (1, .int v1), (2, .long v2), (4, .int v4)]) rfl (fun ls hl => ?_)
  exact hL15 v1 v4 a_numbers a_oneSided a_free a_ends a_near FU _ _ _ r_17 r_17 0 (lv_sub hl [3, 4, 6, 2, 1, 0] rfl) hP hS h
noncomputable def wy_regrown_J108 (k33 : Int64 → Int64 → Int32 → Option (Int64)) (a_numbers : Nat → Int64) (a_oneSided : Nat → Int32) (a_free : Nat → Int32) (a_ends : Nat → Int32) (v1 : Int32) (v4 : Int64) (v6 : Int64) (v8 : Int32) (v9 : Int64) (v11 : Int32)  : Option (Int64) :=
  nm (v11 + Int32.ofInt 1) fun v11_1 =>
  k33 v6 v9 v11_1
noncomputable def wy_regrown_J105 (k33 : Int64 → Int64 → Int32 → Option (Int64)) (a_numbers : Nat → Int64) (a_oneSided : Nat → Int32) (a_free : Nat → Int32) (a_ends : Nat → Int32) (v1 : Int32) (v4 : Int64) (v6 : Int64) (v8 : Int32) (v11 : Int32) (t0 : Int64) (t1 : Int64) : Option (Int64) :=
  nm (t0 ||| t1 : Int64) fun v9_2 =>
  wy_regrown_J108 k33 a_numbers a_oneSided a_free a_ends v1 v4 v6 v8 v9_2 v11
noncomputable def wy_regrown_B33 (v1 : Int32) (v4 : Int64) (v8 : Int32) (a_numbers : Nat → Int64) (a_oneSided : Nat → Int32) (a_free : Nat → Int32) (a_ends : Nat → Int32)  (k33 : Int64 → Int64 → Int32 → Option (Int64)) (v6 : Int64) (v9 : Int64) (v11 : Int32) : Option (Int64) :=
  if v8 ≤ v11 then (some (v9)) else
  nm (v6 &&& (-v6) : Int64) fun v12_3 =>
  nm (v6 ^^^ v12_3 : Int64) fun v6_4 =>
  bd1 (gr_settled (v4 ||| v12_3)) fun r_5 =>
  bd1 (gr_hangs r_5) fun r_7 =>
  if r_7 = 0 then (wy_regrown_J108 k33 a_numbers a_oneSided a_free a_ends v1 v4 v6_4 v8 v9 v11) else
  bd1 (gr_least r_5 2) fun r_9 =>
  bd1 (ca_indexOf v1 2 r_9 a_numbers a_oneSided a_free a_ends) fun r_11 =>
  if 0 ≤ r_11 then (wy_regrown_J105 k33 a_numbers a_oneSided a_free a_ends v1 v4 v6_4 v8 v11 v9 (sl 1 r_11)) else
  wy_regrown_J105 k33 a_numbers a_oneSided a_free a_ends v1 v4 v6_4 v8 v11 v9 0
noncomputable def wy_regrown (v1 : Int32) (v2 : Int64) (a_numbers : Nat → Int64) (a_oneSided : Nat → Int32) (a_free : Nat → Int32) (a_ends : Nat → Int32) : Option (Int64) :=
  nm (sl v2 9 : Int64) fun v4_13 =>
  bd1 (gr_around v4_13) fun r_14 =>
  nm (r_14 &&& (v4_13 ^^^ (((-1) : Int64))) : Int64) fun v6_16 =>
  bd1 (jl_bitCount v6_16) fun r_17 =>
  fl3 (wy_regrown_B33 v1 v4_13 r_17 a_numbers a_oneSided a_free a_ends) FU v6_16 0 0
set_option maxHeartbeats 4000000 in
set_option maxRecDepth 100000 in
theorem c_wy_regrown (l : Launch) (D : va_G) (ct : Nat → ClassId) (ad : Nat → Nat) (hI : cI ad) {x_fed x_tk x_col x_line x_rcells x_rsize x_len x_cuts x_bare x_place x_lA x_lB x_lC x_fX x_fY x_sX x_sY x_made x_fsize x_psize x_over x_touch x_most x_mU x_mV x_area : Int32} {x_board : Int64} {a_tape a_letters a_oneSided a_free a_ends a_crowds a_wmade a_firsts a_widths a_heights a_places a_next a_pnear a_table a_overlaps : Nat → Int32} {a_drawers a_kept a_items a_numbers a_marks a_near a_figures a_covered a_pcells a_matrix : Nat → Int64} (v1 : Int32) (v2 : Int64) (r : Int64)  (h : wy_regrown v1 v2 a_numbers a_oneSided a_free a_ends = some (r)) : Met l yX10_regrown (wm yX10_regrown cX10_regrown 17 (some .long)) (rmm 4 96) (va_Pc [.ref (ad 16), .int v1, .long v2] (cB D ct ad x_fed x_tk x_col x_line x_rcells x_rsize x_len x_cuts x_bare x_place x_lA x_lB x_lC x_fX x_fY x_sX x_sY x_made x_fsize x_psize x_over x_touch x_most x_mU x_mV x_area x_board a_tape a_letters a_oneSided a_free a_ends a_crowds a_wmade a_firsts a_widths a_heights a_places a_next a_pnear a_table a_overlaps a_drawers a_kept a_items a_numbers a_marks a_near a_figures a_covered a_pcells a_matrix)) (va_Ql (fun z (_ : Unit) => z = r) (fun _ t => cP D ct ad x_fed x_tk x_col x_line x_rcells x_rsize x_len x_cuts x_bare x_place x_lA x_lB x_lC x_fX x_fY x_sX x_sY x_made x_fsize x_psize x_over x_touch x_most x_mU x_mV x_area x_board a_tape a_letters a_oneSided a_free a_ends a_crowds a_wmade a_firsts a_widths a_heights a_places a_next a_pnear a_table a_overlaps a_drawers a_kept a_items a_numbers a_marks a_near a_figures a_covered a_pcells a_matrix t.heap) (cA ad)) 0 0 (cA ad) := by
  refine met_s (y := yX10_regrown) (rm := rmm 4 96) (by decide) (Nat.le_of_ble_eq_true rfl) ?_
  intro p e s m below meth c hx hb hr hw hown hlocks _ hml hB ls hl
  obtain ⟨hN, hK, hP⟩ := hB
  replace hl : lv_has ls 17 [(0, .ref (ad 16)), (1, .int v1), (2, .long v2)] := hl
  have hS : va_S (cA ad) s.heap s.heap [] := va_S.rf
  generalize (([.ref (ad 16), .int v1, .long v2] : List Value).toArray) = av at hw ⊢
  rw [wy_regrown] at h
  have hL33 : ∀ (v1 : Int32), ∀ (v4 : Int64), ∀ (v8 : Int32), ∀ (a_numbers : Nat → Int64), ∀ (a_oneSided : Nat → Int32), ∀ (a_free : Nat → Int32), ∀ (a_ends : Nat → Int32), ∀ (n33 : Nat) (H : Heap) (locs : List Loc) (ls : Array Slot) (v6 : Int64) (v9 : Int64) (v11 : Int32), lv_has ls 17 [(0, .ref (ad 16)), (1, .int v1), (4, .long v4), (6, .long v6), (8, .int v8), (9, .long v9), (11, .int v11)] → cP D ct ad x_fed x_tk x_col x_line x_rcells x_rsize x_len x_cuts x_bare x_place x_lA x_lB x_lC x_fX x_fY x_sX x_sY x_made x_fsize x_psize x_over x_touch x_most x_mU x_mV x_area x_board a_tape a_letters a_oneSided a_free a_ends a_crowds a_wmade a_firsts a_widths a_heights a_places a_next a_pnear a_table a_overlaps a_drawers a_kept a_items a_numbers a_marks a_near a_figures a_covered a_pcells a_matrix H → va_S (cA ad) s.heap H locs → fl3 (wy_regrown_B33 v1 v4 v8 a_numbers a_oneSided a_free a_ends) n33 v6 v9 v11 = some (r) → W p l e (rmm 4 96) s m av below meth c H locs 0 0 (MQ below (va_Ql (fun z (_ : Unit) => z = r) (fun _ t => cP D ct ad x_fed x_tk x_col x_line x_rcells x_rsize x_len x_cuts x_bare x_place x_lA x_lB x_lC x_fX x_fY x_sX x_sY x_made x_fsize x_psize x_over x_touch x_most x_mU x_mV x_area x_board a_tape a_letters a_oneSided a_free a_ends a_crowds a_wmade a_firsts a_widths a_heights a_places a_next a_pnear a_table a_overlaps a_drawers a_kept a_items a_numbers a_marks a_near a_figures a_covered a_pcells a_matrix t.heap) (cA ad)) av s 0 0 (cA ad)) (F0 m 33 ls []) := by
    intro v1 v4 v8 a_numbers a_oneSided a_free a_ends n33
    induction n33 with
    | zero => intro H locs ls v6 v9 v11 hl hP hS h; cases h
    | succ n33 ih33 =>
      intro H locs ls v6 v9 v11 hl hP hS h
      replace h : wy_regrown_B33 v1 v4 v8 a_numbers a_oneSided a_free a_ends (fl3 (wy_regrown_B33 v1 v4 v8 a_numbers a_oneSided a_free a_ends) n33) v6 v9 v11 = some (r) := h
      generalize fl3 (wy_regrown_B33 v1 v4 v8 a_numbers a_oneSided a_free a_ends) n33 = k33 at h ih33
      have hJ108 : ∀ (H : Heap) (locs : List Loc) (ls : Array Slot) (v6 : Int64) (v9 : Int64) (v11 : Int32) , lv_has ls 17 [(0, .ref (ad 16)), (1, .int v1), (4, .long v4), (6, .long v6), (8, .int v8), (9, .long v9), (11, .int v11)] → cP D ct ad x_fed x_tk x_col x_line x_rcells x_rsize x_len x_cuts x_bare x_place x_lA x_lB x_lC x_fX x_fY x_sX x_sY x_made x_fsize x_psize x_over x_touch x_most x_mU x_mV x_area x_board a_tape a_letters a_oneSided a_free a_ends a_crowds a_wmade a_firsts a_widths a_heights a_places a_next a_pnear a_table a_overlaps a_drawers a_kept a_items a_numbers a_marks a_near a_figures a_covered a_pcells a_matrix H → va_S (cA ad) s.heap H locs → wy_regrown_J108 k33 a_numbers a_oneSided a_free a_ends v1 v4 v6 v8 v9 v11 = some (r) → W p l e (rmm 4 96) s m av below meth c H locs 0 0 (MQ below (va_Ql (fun z (_ : Unit) => z = r) (fun _ t => cP D ct ad x_fed x_tk x_col x_line x_rcells x_rsize x_len x_cuts x_bare x_place x_lA x_lB x_lC x_fX x_fY x_sX x_sY x_made x_fsize x_psize x_over x_touch x_most x_mU x_mV x_area x_board a_tape a_letters a_oneSided a_free a_ends a_crowds a_wmade a_firsts a_widths a_heights a_places a_next a_pnear a_table a_overlaps a_drawers a_kept a_items a_numbers a_marks a_near a_figures a_covered a_pcells a_matrix t.heap) (cA ad)) av s 0 0 (cA ad)) (F0 m 108 ls []) := by
        intro H locs ls v6 v9 v11  hl hP hS h
        rw [wy_regrown_J108] at h
        obtain ⟨v11_19, ev11_19, h⟩ := nm_s h
        refine lv_iinc hx hb dX10_regrown_108 hl (k := 6) rfl ev11_19.symm (Nat.le_of_ble_eq_true rfl) (lv' := [(11, .int v11_19), (0, .ref (ad 16)), (1, .int v1), (4, .long v4), (6, .long v6), (8, .int v8), (9, .long v9)]) rfl (fun ls hl => ?_)
        refine lv_goto hx hb dX10_regrown_111 (tgt := 33) rfl ?_
        exact ih33 _ _ _ v6 v9 v11_19 (lv_sub hl [1, 2, 3, 4, 5, 6, 0] rfl) hP hS h
      have hJ105 : ∀ (H : Heap) (locs : List Loc) (ls : Array Slot) (v6 : Int64) (v11 : Int32) (t0 : Int64) (t1 : Int64), lv_has ls 17 [(0, .ref (ad 16)), (1, .int v1), (4, .long v4), (6, .long v6), (8, .int v8), (11, .int v11)] → cP D ct ad x_fed x_tk x_col x_line x_rcells x_rsize x_len x_cuts x_bare x_place x_lA x_lB x_lC x_fX x_fY x_sX x_sY x_made x_fsize x_psize x_over x_touch x_most x_mU x_mV x_area x_board a_tape a_letters a_oneSided a_free a_ends a_crowds a_wmade a_firsts a_widths a_heights a_places a_next a_pnear a_table a_overlaps a_drawers a_kept a_items a_numbers a_marks a_near a_figures a_covered a_pcells a_matrix H → va_S (cA ad) s.heap H locs → wy_regrown_J105 k33 a_numbers a_oneSided a_free a_ends v1 v4 v6 v8 v11 t0 t1 = some (r) → W p l e (rmm 4 96) s m av below meth c H locs 0 0 (MQ below (va_Ql (fun z (_ : Unit) => z = r) (fun _ t => cP D ct ad x_fed x_tk x_col x_line x_rcells x_rsize x_len x_cuts x_bare x_place x_lA x_lB x_lC x_fX x_fY x_sX x_sY x_made x_fsize x_psize x_over x_touch x_most x_mU x_mV x_area x_board a_tape a_letters a_oneSided a_free a_ends a_crowds a_wmade a_firsts a_widths a_heights a_places a_next a_pnear a_table a_overlaps a_drawers a_kept a_items a_numbers a_marks a_near a_figures a_covered a_pcells a_matrix t.heap) (cA ad)) av s 0 0 (cA ad)) (F0 m 105 ls [.long t1, .long t0]) := by
        intro H locs ls v6 v11 t0 t1 hl hP hS h
        rw [wy_regrown_J105] at h
        refine lv_lor hx hb dX10_regrown_105 ?_
        obtain ⟨v9_20, ev9_20, h⟩ := nm_s h
        refine nmL ev9_20 ?_
        refine lv_lstore hx hb dX10_regrown_106 hl (Nat.le_of_ble_eq_true rfl) (lv' := [(9, .long v9_20), (0, .ref (ad 16)), (1, .int v1), (4, .long v4), (6, .long v6), (8, .int v8), (11, .int v11)]) rfl (fun ls hl => ?_)
        exact hJ108 _ _ _ v6 v9_20 v11 (lv_sub hl [1, 2, 3, 4, 5, 0, 6] rfl) hP hS h
      rw [wy_regrown_B33] at h
      refine lv_iload hx hb dX10_regrown_33 (lv_at hl 6 rfl) ?_
      refine lv_iload hx hb dX10_regrown_35 (lv_at hl 4 rfl) ?_
      refine lv_icmp_ge hx hb dX10_regrown_37 (tgt := 114) rfl (fun hc => ?_) (fun hc => ?_)
      · replace h := ifp h hc
        refine lv_lload hx hb dX10_regrown_114 (lv_at hl 5 rfl) ?_
        replace h := Option.some.inj h
        subst h
        exact rc_l hx hb hr hlocks hS dX10_regrown_116 rfl hP
      · replace h := ifn h hc
        refine lv_lload hx hb dX10_regrown_40 (lv_at hl 3 rfl) ?_
        refine lv_lload hx hb dX10_regrown_42 (lv_at hl 3 rfl) ?_
        refine lv_lneg hx hb dX10_regrown_44 ?_
        refine lv_land hx hb dX10_regrown_45 ?_
        obtain ⟨v12_21, ev12_21, h⟩ := nm_s h
        refine nmL ev12_21 ?_
        refine lv_lstore hx hb dX10_regrown_46 hl (Nat.le_of_ble_eq_true rfl) (lv' := [(12, .long v12_21), (0, .ref (ad 16)), (1, .int v1), (4, .long v4), (6, .long v6), (8, .int v8), (9, .long v9), (11, .int v11)]) rfl (fun ls hl => ?_)
        refine lv_lload hx hb dX10_regrown_48 (lv_at hl 4 rfl) ?_
        refine lv_lload hx hb dX10_regrown_50 (lv_at hl 0 rfl) ?_
        refine lv_lxor hx hb dX10_regrown_52 ?_
        obtain ⟨v6_22, ev6_22, h⟩ := nm_s h
        refine nmL ev6_22 ?_
        refine lv_lstore hx hb dX10_regrown_53 hl (Nat.le_of_ble_eq_true rfl) (lv' := [(6, .long v6_22), (12, .long v12_21), (0, .ref (ad 16)), (1, .int v1), (4, .long v4), (8, .int v8), (9, .long v9), (11, .int v11)]) rfl (fun ls hl => ?_)
        refine lv_lload hx hb dX10_regrown_55 (lv_at hl 4 rfl) ?_
        refine lv_lload hx hb dX10_regrown_57 (lv_at hl 1 rfl) ?_
        refine lv_lor hx hb dX10_regrown_59 ?_
        obtain ⟨r_23, hr_24, h⟩ := bd1_s h
        refine sc_l hx hb hml hown hw hN (c_gr_settled l (v4 ||| v12_21) r_23 hr_24) g_RX10_74 hd_X2_settled (rest := []) hl.1 hS dX10_regrown_60 rfl rfl ⟨Nat.le_of_ble_eq_true rfl, Nat.le_of_ble_eq_true rfl⟩ rfl rfl (Nat.le_of_ble_eq_true rfl) ⟨Nat.zero_le _, Nat.zero_le _⟩ (fun H locs hk hS => ?_)
        have hP := cP_kept hP hk
        refine lv_lstore hx hb dX10_regrown_63 hl (Nat.le_of_ble_eq_true rfl) (lv' := [(14, .long r_23), (6, .long v6_22), (12, .long v12_21), (0, .ref (ad 16)), (1, .int v1), (4, .long v4), (8, .int v8), (9, .long v9), (11, .int v11)]) rfl (fun ls hl => ?_)
        refine lv_lload hx hb dX10_regrown_65 (lv_at hl 0 rfl) ?_
        obtain ⟨r_25, hr_26, h⟩ := bd1_s h
        refine sc_i hx hb hml hown hw hN (c_gr_hangs l r_23 r_25 hr_26) g_RX10_77 hd_X2_hangs (rest := []) hl.1 hS dX10_regrown_67 rfl rfl ⟨Nat.le_of_ble_eq_true rfl, Nat.le_of_ble_eq_true rfl⟩ rfl rfl (Nat.le_of_ble_eq_true rfl) ⟨Nat.zero_le _, Nat.zero_le _⟩ (fun H locs hk hS => ?_)
        have hP := cP_kept hP hk
        refine lv_if_eq hx hb dX10_regrown_70 (tgt := 108) rfl (fun hc => ?_) (fun hc => ?_)
        · replace h := ifp h hc
          exact hJ108 _ _ _ v6_22 v9 v11 (lv_sub hl [3, 4, 5, 1, 6, 7, 8] rfl) hP hS h
        · replace h := ifn h hc
          refine lv_aload_n hx hb dX10_regrown_73 rfl (lv_at hl 3 rfl) ?_
          refine cg_WY_0 hx hb hw hown hK hP dX10_regrown_74 ?_
          refine lv_iload_n hx hb dX10_regrown_77 rfl (lv_at hl 4 rfl) ?_
          refine lv_iconst (v := 2) hx hb dX10_regrown_78 ki_2 ?_
          refine lv_lload hx hb dX10_regrown_79 (lv_at hl 0 rfl) ?_
          refine lv_iconst (v := 2) hx hb dX10_regrown_81 ki_2 ?_
          obtain ⟨r_27, hr_28, h⟩ := bd1_s h
          refine sc_l hx hb hml hown hw hN (c_gr_least l r_23 2 r_27 hr_28) g_RX10_60 hd_X2_least (rest := [.int 2, .int v1, .ref (ad 9)]) hl.1 hS dX10_regrown_82 rfl rfl ⟨Nat.le_of_ble_eq_true rfl, Nat.le_of_ble_eq_true rfl⟩ rfl rfl (Nat.le_of_ble_eq_true rfl) ⟨Nat.zero_le _, Nat.zero_le _⟩ (fun H locs hk hS => ?_)
          have hP := cP_kept hP hk
          obtain ⟨r_29, hr_30, h⟩ := bd1_s h
          refine hv_i hx hb hml hown hw cB_bl (cB_of hN hK hP) (cr_CA hK hP) (c_ca_indexOf l D ct ad hI v1 2 r_27 r_29 hr_30) g_RX10_66 ⟨rfl, hd_X0_indexOf⟩ (rest := []) hl.1 hS (fun q h => h) dX10_regrown_85 rfl rfl ⟨Nat.le_of_ble_eq_true rfl, Nat.le_of_ble_eq_true rfl⟩ rfl rfl (Nat.le_of_ble_eq_true rfl) ⟨Nat.zero_le _, Nat.zero_le _⟩ (fun H locs hP _ hS => ?_)
          refine lv_istore hx hb dX10_regrown_88 hl (Nat.le_of_ble_eq_true rfl) (lv' := [(16, .int r_29), (14, .long r_23), (6, .long v6_22), (12, .long v12_21), (0, .ref (ad 16)), (1, .int v1), (4, .long v4), (8, .int v8), (9, .long v9), (11, .int v11)]) rfl (fun ls hl => ?_)
          refine lv_lload hx hb dX10_regrown_90 (lv_at hl 8 rfl) ?_
          refine lv_iload hx hb dX10_regrown_92 (lv_at hl 0 rfl) ?_
          refine lv_if_ge hx hb dX10_regrown_94 (tgt := 101) rfl (fun hc => ?_) (fun hc => ?_)
          · replace h := ifp h hc
            refine lv_lconst (v := 1) hx hb dX10_regrown_101 kl_1 ?_
            refine lv_iload hx hb dX10_regrown_102 (lv_at hl 0 rfl) ?_
            refine lv_lshl hx hb (v := sl 1 r_29) dX10_regrown_104 rfl ?_
            exact hJ105 _ _ _ v6_22 v11 v9 (sl 1 r_29) (lv_sub hl [4, 5, 6, 2, 7, 9] rfl) hP hS h
          · replace h := ifn h hc
            refine lv_lconst (v := 0) hx hb dX10_regrown_97 kl_0 ?_
            refine lv_goto hx hb dX10_regrown_98 (tgt := 105) rfl ?_
            exact hJ105 _ _ _ v6_22 v11 v9 0 (lv_sub hl [4, 5, 6, 2, 7, 9] rfl) hP hS h
  refine lv_lload_n hx hb dX10_regrown_0 rfl (lv_at hl 2 rfl) ?_
  refine lv_bipush (v := 9) hx hb dX10_regrown_1 kb_9 ?_
  refine lv_lshl hx hb (v := sl v2 9) dX10_regrown_3 rfl ?_
  obtain ⟨v4_31, ev4_31, h⟩ := nm_s h
  refine nmL ev4_31 ?_
  refine lv_lstore hx hb dX10_regrown_4 hl (Nat.le_of_ble_eq_true rfl) (lv' := [(4, .long v4_31), (0, .ref (ad 16)), (1, .int v1), (2, .long v2)]) rfl (fun ls hl => ?_)
  refine lv_lload hx hb dX10_regrown_6 (lv_at hl 0 rfl) ?_
  obtain ⟨r_32, hr_33, h⟩ := bd1_s h
  refine sc_l hx hb hml hown hw hN (c_gr_around l v4_31 r_32 hr_33) g_RX10_70 hd_X2_around (rest := []) hl.1 hS dX10_regrown_8 rfl rfl ⟨Nat.le_of_ble_eq_true rfl, Nat.le_of_ble_eq_true rfl⟩ rfl rfl (Nat.le_of_ble_eq_true rfl) ⟨Nat.zero_le _, Nat.zero_le _⟩ (fun H locs hk hS => ?_)
  have hP := cP_kept hP hk
  refine lv_lload hx hb dX10_regrown_11 (lv_at hl 0 rfl) ?_
  refine lv_ldc2 hx hb hown (hw _ tw_33_8) dX10_regrown_13 ?_
  refine lv_lxor hx hb dX10_regrown_16 ?_
  refine lv_land hx hb dX10_regrown_17 ?_
  obtain ⟨v6_34, ev6_34, h⟩ := nm_s h
  refine nmL ev6_34 ?_
  refine lv_lstore hx hb dX10_regrown_18 hl (Nat.le_of_ble_eq_true rfl) (lv' := [(6, .long v6_34), (4, .long v4_31), (0, .ref (ad 16)), (1, .int v1), (2, .long v2)]) rfl (fun ls hl => ?_)
  refine lv_lload hx hb dX10_regrown_20 (lv_at hl 0 rfl) ?_
  obtain ⟨r_35, hr_36, h⟩ := bd1_s h
  refine sc_i hx hb hml hown hw hN (c_jl_bitCount l v6_34 r_35 hr_36) g_RX10_32 hd_J13_bitCount_95d88 (rest := []) hl.1 hS dX10_regrown_22 rfl rfl ⟨Nat.le_of_ble_eq_true rfl, Nat.le_of_ble_eq_true rfl⟩ rfl rfl (Nat.le_of_ble_eq_true rfl) ⟨Nat.zero_le _, Nat.zero_le _⟩ (fun H locs hk hS => ?_)
  have hP := cP_kept hP hk
  refine lv_istore hx hb dX10_regrown_25 hl (Nat.le_of_ble_eq_true rfl) (lv' := [(8, .int r_35), (6, .long v6_34), (4, .long v4_31), (0, .ref (ad 16)), (1, .int v1), (2, .long v2)]) rfl (fun ls hl => ?_)
  refine lv_lconst (v := 0) hx hb dX10_regrown_27 kl_0 ?_
  refine lv_lstore hx hb dX10_regrown_28 hl (Nat.le_of_ble_eq_true rfl) (lv' := [(9, .long 0), (8, .int r_35), (6, .long v6_34), (4, .long v4_31), (0, .ref (ad 16)), (1, .int v1), (2, .long v2)]) rfl (fun ls hl => ?_)
  refine lv_iconst (v := 0) hx hb dX10_regrown_30 ki_0 ?_
  refine lv_istore hx hb dX10_regrown_31 hl (Nat.le_of_ble_eq_true rfl) (lv' := [(11, .int 0), (9, .long 0), (8, .int r_35), (6, .long v6_34), (4, .long v4_31), (0, .ref (ad 16)), (1, .int v1), (2, .long v2)]) rfl (fun ls hl => ?_)
  exact hL33 v1 v4_31 r_35 a_numbers a_oneSided a_free a_ends FU _ _ _ v6_34 0 0 (lv_sub hl [5, 6, 4, 3, 2, 1, 0] rfl) hP hS h
noncomputable def wy_prepare_B61 (v1 : Int32) (v2 : Int32) (v3 : Int32) (v4 : Int64) (a_numbers : Nat → Int64) (a_oneSided : Nat → Int32) (a_free : Nat → Int32) (a_ends : Nat → Int32) (a_wmade : Nat → Int32) (k37 : Int32 → (Nat → Int64) → Option ((Nat → Int64) × (Nat → Int32))) (k61 : Int64 → Int32 → (Nat → Int64) → Option ((Nat → Int64) × (Nat → Int32))) (v6 : Int64) (v8 : Int32) (a_near : Nat → Int64) : Option ((Nat → Int64) × (Nat → Int32)) :=
  if v1 ≤ v8 then (nm (v3 + Int32.ofInt 1) fun v3_1 =>
  k37 v3_1 a_near) else
  nm ((v1 * 35) + v3 : Int32) fun t_2 =>
  ck t_2 245 <|
  bd1 (wy_regrown v1 (v4 &&& ((v6 &&& (-v6)) ^^^ (((-1) : Int64)))) a_numbers a_oneSided a_free a_ends) fun r_3 =>
  nm ((a_near t_2.toNatClampNeg) ||| r_3 : Int64) fun w_5 =>
  ck t_2 245 <|
  nm (vp_updL a_near t_2.toNatClampNeg w_5) fun a_near_6 =>
  nm (v6 &&& (v6 - 1) : Int64) fun v6_7 =>
  nm (v8 + Int32.ofInt 1) fun v8_8 =>
  k61 v6_7 v8_8 a_near_6
noncomputable def wy_prepare_B37 (v1 : Int32) (v2 : Int32) (a_numbers : Nat → Int64) (a_oneSided : Nat → Int32) (a_free : Nat → Int32) (a_ends : Nat → Int32) (a_wmade : Nat → Int32)  (k37 : Int32 → (Nat → Int64) → Option ((Nat → Int64) × (Nat → Int32))) (v3 : Int32) (a_near : Nat → Int64) : Option ((Nat → Int64) × (Nat → Int32)) :=
  if v2 ≤ v3 then (ck v1 7 <|
  nm (upd a_wmade v1.toNatClampNeg (vp_nar .boolean 1)) fun a_wmade_9 =>
  some (a_near, a_wmade_9)) else
  bd1 (ca_at v1 2 v3 a_numbers a_oneSided a_free a_ends) fun r_10 =>
  fl3 (wy_prepare_B61 v1 v2 v3 r_10 a_numbers a_oneSided a_free a_ends a_wmade k37) FU r_10 0 a_near
noncomputable def wy_prepare (v1 : Int32) (a_numbers : Nat → Int64) (a_oneSided : Nat → Int32) (a_free : Nat → Int32) (a_ends : Nat → Int32) (a_near : Nat → Int64) (a_wmade : Nat → Int32) : Option ((Nat → Int64) × (Nat → Int32)) :=
  bd1 (cf_within v1 1 6) fun r_12 =>
  if r_12 = 0 then (some (a_near, a_wmade)) else
  ck v1 7 <|
  if (a_wmade v1.toNatClampNeg) = 0 then (bd1 (ca_size v1 2 a_ends) fun r_14 =>
  nm (mnI r_14 35 : Int32) fun v2_16 =>
  fl2 (wy_prepare_B37 v1 v2_16 a_numbers a_oneSided a_free a_ends a_wmade) FU 0 a_near) else
  some (a_near, a_wmade)
set_option maxHeartbeats 4000000 in
set_option maxRecDepth 100000 in
theorem c_wy_prepare (l : Launch) (D : va_G) (ct : Nat → ClassId) (ad : Nat → Nat) (hI : cI ad) {x_fed x_tk x_col x_line x_rcells x_rsize x_len x_cuts x_bare x_place x_lA x_lB x_lC x_fX x_fY x_sX x_sY x_made x_fsize x_psize x_over x_touch x_most x_mU x_mV x_area : Int32} {x_board : Int64} {a_tape a_letters a_oneSided a_free a_ends a_crowds a_wmade a_firsts a_widths a_heights a_places a_next a_pnear a_table a_overlaps : Nat → Int32} {a_drawers a_kept a_items a_numbers a_marks a_near a_figures a_covered a_pcells a_matrix : Nat → Int64} (v1 : Int32)  (z_a_near : Nat → Int64) (z_a_wmade : Nat → Int32) (h : wy_prepare v1 a_numbers a_oneSided a_free a_ends a_near a_wmade = some (z_a_near, z_a_wmade)) : Met l yX10_prepare (wm yX10_prepare cX10_prepare 9 none) (rmm 5 132) (va_Pc [.ref (ad 16), .int v1] (cB D ct ad x_fed x_tk x_col x_line x_rcells x_rsize x_len x_cuts x_bare x_place x_lA x_lB x_lC x_fX x_fY x_sX x_sY x_made x_fsize x_psize x_over x_touch x_most x_mU x_mV x_area x_board a_tape a_letters a_oneSided a_free a_ends a_crowds a_wmade a_firsts a_widths a_heights a_places a_next a_pnear a_table a_overlaps a_drawers a_kept a_items a_numbers a_marks a_near a_figures a_covered a_pcells a_matrix)) (va_Qv (fun (_ : Unit) => True) (fun _ t => cP D ct ad x_fed x_tk x_col x_line x_rcells x_rsize x_len x_cuts x_bare x_place x_lA x_lB x_lC x_fX x_fY x_sX x_sY x_made x_fsize x_psize x_over x_touch x_most x_mU x_mV x_area x_board a_tape a_letters a_oneSided a_free a_ends a_crowds z_a_wmade a_firsts a_widths a_heights a_places a_next a_pnear a_table a_overlaps a_drawers a_kept a_items a_numbers a_marks z_a_near a_figures a_covered a_pcells a_matrix t.heap) (cA ad)) 0 0 (cA ad) := by
  refine met_s (y := yX10_prepare) (rm := rmm 5 132) (by decide) (Nat.le_of_ble_eq_true rfl) ?_
  intro p e s m below meth c hx hb hr hw hown hlocks _ hml hB ls hl
  obtain ⟨hN, hK, hP⟩ := hB
  replace hl : lv_has ls 9 [(0, .ref (ad 16)), (1, .int v1)] := hl
  have hS : va_S (cA ad) s.heap s.heap [] := va_S.rf
  generalize (([.ref (ad 16), .int v1] : List Value).toArray) = av at hw ⊢
  rw [wy_prepare] at h
  have hL37 : ∀ (v1 : Int32), ∀ (v2 : Int32), ∀ (a_numbers : Nat → Int64), ∀ (a_oneSided : Nat → Int32), ∀ (a_free : Nat → Int32), ∀ (a_ends : Nat → Int32), ∀ (a_wmade : Nat → Int32), ∀ (n37 : Nat) (H : Heap) (locs : List Loc) (ls : Array Slot) (v3 : Int32) (a_near : Nat → Int64), lv_has ls 9 [(0, .ref (ad 16)), (1, .int v1), (2, .int v2), (3, .int v3)] → cP D ct ad x_fed x_tk x_col x_line x_rcells x_rsize x_len x_cuts x_bare x_place x_lA x_lB x_lC x_fX x_fY x_sX x_sY x_made x_fsize x_psize x_over x_touch x_most x_mU x_mV x_area x_board a_tape a_letters a_oneSided a_free a_ends a_crowds a_wmade a_firsts a_widths a_heights a_places a_next a_pnear a_table a_overlaps a_drawers a_kept a_items a_numbers a_marks a_near a_figures a_covered a_pcells a_matrix H → va_S (cA ad) s.heap H locs → fl2 (wy_prepare_B37 v1 v2 a_numbers a_oneSided a_free a_ends a_wmade) n37 v3 a_near = some (z_a_near, z_a_wmade) → W p l e (rmm 5 132) s m av below meth c H locs 0 0 (MQ below (va_Qv (fun (_ : Unit) => True) (fun _ t => cP D ct ad x_fed x_tk x_col x_line x_rcells x_rsize x_len x_cuts x_bare x_place x_lA x_lB x_lC x_fX x_fY x_sX x_sY x_made x_fsize x_psize x_over x_touch x_most x_mU x_mV x_area x_board a_tape a_letters a_oneSided a_free a_ends a_crowds z_a_wmade a_firsts a_widths a_heights a_places a_next a_pnear a_table a_overlaps a_drawers a_kept a_items a_numbers a_marks z_a_near a_figures a_covered a_pcells a_matrix t.heap) (cA ad)) av s 0 0 (cA ad)) (F0 m 37 ls []) := by
    intro v1 v2 a_numbers a_oneSided a_free a_ends a_wmade n37
    induction n37 with
    | zero => intro H locs ls v3 a_near hl hP hS h; cases h
    | succ n37 ih37 =>
      intro H locs ls v3 a_near hl hP hS h
      replace h : wy_prepare_B37 v1 v2 a_numbers a_oneSided a_free a_ends a_wmade (fl2 (wy_prepare_B37 v1 v2 a_numbers a_oneSided a_free a_ends a_wmade) n37) v3 a_near = some (z_a_near, z_a_wmade) := h
      generalize fl2 (wy_prepare_B37 v1 v2 a_numbers a_oneSided a_free a_ends a_wmade) n37 = k37 at h ih37
      have hL61 : ∀ (v3 : Int32), ∀ (v4 : Int64), ∀ (n61 : Nat) (H : Heap) (locs : List Loc) (ls : Array Slot) (v6 : Int64) (v8 : Int32) (a_near : Nat → Int64), lv_has ls 9 [(0, .ref (ad 16)), (1, .int v1), (2, .int v2), (3, .int v3), (4, .long v4), (6, .long v6), (8, .int v8)] → cP D ct ad x_fed x_tk x_col x_line x_rcells x_rsize x_len x_cuts x_bare x_place x_lA x_lB x_lC x_fX x_fY x_sX x_sY x_made x_fsize x_psize x_over x_touch x_most x_mU x_mV x_area x_board a_tape a_letters a_oneSided a_free a_ends a_crowds a_wmade a_firsts a_widths a_heights a_places a_next a_pnear a_table a_overlaps a_drawers a_kept a_items a_numbers a_marks a_near a_figures a_covered a_pcells a_matrix H → va_S (cA ad) s.heap H locs → fl3 (wy_prepare_B61 v1 v2 v3 v4 a_numbers a_oneSided a_free a_ends a_wmade k37) n61 v6 v8 a_near = some (z_a_near, z_a_wmade) → W p l e (rmm 5 132) s m av below meth c H locs 0 0 (MQ below (va_Qv (fun (_ : Unit) => True) (fun _ t => cP D ct ad x_fed x_tk x_col x_line x_rcells x_rsize x_len x_cuts x_bare x_place x_lA x_lB x_lC x_fX x_fY x_sX x_sY x_made x_fsize x_psize x_over x_touch x_most x_mU x_mV x_area x_board a_tape a_letters a_oneSided a_free a_ends a_crowds z_a_wmade a_firsts a_widths a_heights a_places a_next a_pnear a_table a_overlaps a_drawers a_kept a_items a_numbers a_marks z_a_near a_figures a_covered a_pcells a_matrix t.heap) (cA ad)) av s 0 0 (cA ad)) (F0 m 61 ls []) := by
        intro v3 v4 n61
        induction n61 with
        | zero => intro H locs ls v6 v8 a_near hl hP hS h; cases h
        | succ n61 ih61 =>
          intro H locs ls v6 v8 a_near hl hP hS h
          replace h : wy_prepare_B61 v1 v2 v3 v4 a_numbers a_oneSided a_free a_ends a_wmade k37 (fl3 (wy_prepare_B61 v1 v2 v3 v4 a_numbers a_oneSided a_free a_ends a_wmade k37) n61) v6 v8 a_near = some (z_a_near, z_a_wmade) := h
          generalize fl3 (wy_prepare_B61 v1 v2 v3 v4 a_numbers a_oneSided a_free a_ends a_wmade k37) n61 = k61 at h ih61
          rw [wy_prepare_B61] at h
          refine lv_iload hx hb dX10_prepare_61 (lv_at hl 6 rfl) ?_
          refine lv_iload_n hx hb dX10_prepare_63 rfl (lv_at hl 1 rfl) ?_
          refine lv_icmp_ge hx hb dX10_prepare_64 (tgt := 114) rfl (fun hc => ?_) (fun hc => ?_)
          · replace h := ifp h hc
            obtain ⟨v3_17, ev3_17, h⟩ := nm_s h
            refine lv_iinc hx hb dX10_prepare_114 hl (k := 3) rfl ev3_17.symm (Nat.le_of_ble_eq_true rfl) (lv' := [(3, .int v3_17), (0, .ref (ad 16)), (1, .int v1), (2, .int v2), (4, .long v4), (6, .long v6), (8, .int v8)]) rfl (fun ls hl => ?_)
            refine lv_goto hx hb dX10_prepare_117 (tgt := 37) rfl ?_
            exact ih37 _ _ _ v3_17 a_near (lv_sub hl [1, 2, 3, 0] rfl) hP hS h
          · replace h := ifn h hc
            refine lv_aload_n hx hb dX10_prepare_67 rfl (lv_at hl 0 rfl) ?_
            refine cg_WY_1 hx hb hw hown hK hP dX10_prepare_68 ?_
            refine lv_iload_n hx hb dX10_prepare_71 rfl (lv_at hl 1 rfl) ?_
            refine lv_bipush (v := 35) hx hb dX10_prepare_72 kb_35 ?_
            refine lv_imul hx hb dX10_prepare_74 ?_
            refine lv_iload_n hx hb dX10_prepare_75 rfl (lv_at hl 3 rfl) ?_
            refine lv_iadd hx hb dX10_prepare_76 ?_
            obtain ⟨t_18, et_18, h⟩ := nm_s h
            refine nmI et_18 ?_
            refine lv_dup2_11 hx hb dX10_prepare_77 rfl rfl ?_
            obtain ⟨hin, h⟩ := ck_s h
            refine cd_near hx hb hK hP hin dX10_prepare_78 ?_
            refine lv_aload_n hx hb dX10_prepare_79 rfl (lv_at hl 0 rfl) ?_
            refine lv_iload_n hx hb dX10_prepare_80 rfl (lv_at hl 1 rfl) ?_
            refine lv_lload hx hb dX10_prepare_81 (lv_at hl 4 rfl) ?_
            refine lv_lload hx hb dX10_prepare_83 (lv_at hl 5 rfl) ?_
            refine lv_lload hx hb dX10_prepare_85 (lv_at hl 5 rfl) ?_
            refine lv_lneg hx hb dX10_prepare_87 ?_
            refine lv_land hx hb dX10_prepare_88 ?_
            refine lv_ldc2 hx hb hown (hw _ tw_33_8) dX10_prepare_89 ?_
            refine lv_lxor hx hb dX10_prepare_92 ?_
            refine lv_land hx hb dX10_prepare_93 ?_
            obtain ⟨r_19, hr_20, h⟩ := bd1_s h
            refine hv_l hx hb hml hown hw cB_bl (cB_of hN hK hP) (cr_WY hK hP) (c_wy_regrown l D ct ad hI v1 (v4 &&& ((v6 &&& (-v6)) ^^^ (((-1) : Int64)))) r_19 hr_20) g_RX10_57 ⟨rfl, hd_X10_regrown⟩ (rest := [.long (a_near t_18.toNatClampNeg), .int t_18, .ref (ad 17)]) hl.1 hS (fun q h => h) dX10_prepare_94 rfl rfl ⟨Nat.le_of_ble_eq_true rfl, Nat.le_of_ble_eq_true rfl⟩ rfl rfl (Nat.le_of_ble_eq_true rfl) ⟨Nat.zero_le _, Nat.zero_le _⟩ (fun H locs hP _ hS => ?_)
            refine lv_lor hx hb dX10_prepare_97 ?_
            obtain ⟨w_21, ew_21, h⟩ := nm_s h
            refine nmL ew_21 ?_
            obtain ⟨hin, h⟩ := ck_s h
            obtain ⟨a_near_22, ea_near_22, h⟩ := nm_s h
            refine cs_near hx hb hK hP hI hS hin ea_near_22 dX10_prepare_98 (fun H locs hP hS => ?_)
            refine lv_lload hx hb dX10_prepare_99 (lv_at hl 5 rfl) ?_
            refine lv_lload hx hb dX10_prepare_101 (lv_at hl 5 rfl) ?_
            refine lv_lconst (v := 1) hx hb dX10_prepare_103 kl_1 ?_
            refine lv_lsub hx hb dX10_prepare_104 ?_
            refine lv_land hx hb dX10_prepare_105 ?_
            obtain ⟨v6_23, ev6_23, h⟩ := nm_s h
            refine nmL ev6_23 ?_
            refine lv_lstore hx hb dX10_prepare_106 hl (Nat.le_of_ble_eq_true rfl) (lv' := [(6, .long v6_23), (0, .ref (ad 16)), (1, .int v1), (2, .int v2), (3, .int v3), (4, .long v4), (8, .int v8)]) rfl (fun ls hl => ?_)
            obtain ⟨v8_24, ev8_24, h⟩ := nm_s h
            refine lv_iinc hx hb dX10_prepare_108 hl (k := 6) rfl ev8_24.symm (Nat.le_of_ble_eq_true rfl) (lv' := [(8, .int v8_24), (6, .long v6_23), (0, .ref (ad 16)), (1, .int v1), (2, .int v2), (3, .int v3), (4, .long v4)]) rfl (fun ls hl => ?_)
            refine lv_goto hx hb dX10_prepare_111 (tgt := 61) rfl ?_
            exact ih61 _ _ _ v6_23 v8_24 a_near_22 (lv_sub hl [2, 3, 4, 5, 6, 1, 0] rfl) hP hS h
      rw [wy_prepare_B37] at h
      refine lv_iload_n hx hb dX10_prepare_37 rfl (lv_at hl 3 rfl) ?_
      refine lv_iload_n hx hb dX10_prepare_38 rfl (lv_at hl 2 rfl) ?_
      refine lv_icmp_ge hx hb dX10_prepare_39 (tgt := 120) rfl (fun hc => ?_) (fun hc => ?_)
      · replace h := ifp h hc
        refine lv_aload_n hx hb dX10_prepare_120 rfl (lv_at hl 0 rfl) ?_
        refine cg_WY_2 hx hb hw hown hK hP dX10_prepare_121 ?_
        refine lv_iload_n hx hb dX10_prepare_124 rfl (lv_at hl 1 rfl) ?_
        refine lv_iconst (v := 1) hx hb dX10_prepare_125 ki_1 ?_
        obtain ⟨hin, h⟩ := ck_s h
        obtain ⟨a_wmade_25, ea_wmade_25, h⟩ := nm_s h
        refine cs_wmade hx hb hK hP hI hS hin ea_wmade_25 dX10_prepare_126 (fun H locs hP hS => ?_)
        simp only [Option.some.injEq, Prod.mk.injEq] at h
        obtain ⟨rfl, rfl⟩ := h
        exact rc_v hx hb hr hlocks hS dX10_prepare_127 hP
      · replace h := ifn h hc
        refine lv_aload_n hx hb dX10_prepare_42 rfl (lv_at hl 0 rfl) ?_
        refine cg_WY_0 hx hb hw hown hK hP dX10_prepare_43 ?_
        refine lv_iload_n hx hb dX10_prepare_46 rfl (lv_at hl 1 rfl) ?_
        refine lv_iconst (v := 2) hx hb dX10_prepare_47 ki_2 ?_
        refine lv_iload_n hx hb dX10_prepare_48 rfl (lv_at hl 3 rfl) ?_
        obtain ⟨r_26, hr_27, h⟩ := bd1_s h
        refine hv_l hx hb hml hown hw cB_bl (cB_of hN hK hP) (cr_CA hK hP) (c_ca_at l D ct ad hI v1 2 v3 r_26 hr_27) g_RX10_53 ⟨rfl, hd_X0_at⟩ (rest := []) hl.1 hS (fun q h => h) dX10_prepare_49 rfl rfl ⟨Nat.le_of_ble_eq_true rfl, Nat.le_of_ble_eq_true rfl⟩ rfl rfl (Nat.le_of_ble_eq_true rfl) ⟨Nat.zero_le _, Nat.zero_le _⟩ (fun H locs hP _ hS => ?_)
        refine lv_lstore hx hb dX10_prepare_52 hl (Nat.le_of_ble_eq_true rfl) (lv' := [(4, .long r_26), (0, .ref (ad 16)), (1, .int v1), (2, .int v2), (3, .int v3)]) rfl (fun ls hl => ?_)
        refine lv_lload hx hb dX10_prepare_54 (lv_at hl 0 rfl) ?_
        refine lv_lstore hx hb dX10_prepare_56 hl (Nat.le_of_ble_eq_true rfl) (lv' := [(6, .long r_26), (4, .long r_26), (0, .ref (ad 16)), (1, .int v1), (2, .int v2), (3, .int v3)]) rfl (fun ls hl => ?_)
        refine lv_iconst (v := 0) hx hb dX10_prepare_58 ki_0 ?_
        refine lv_istore hx hb dX10_prepare_59 hl (Nat.le_of_ble_eq_true rfl) (lv' := [(8, .int 0), (6, .long r_26), (4, .long r_26), (0, .ref (ad 16)), (1, .int v1), (2, .int v2), (3, .int v3)]) rfl (fun ls hl => ?_)
        exact hL61 v3 r_26 FU _ _ _ r_26 0 a_near (lv_sub hl [3, 4, 5, 6, 2, 1, 0] rfl) hP hS h
  refine lv_iload_n hx hb dX10_prepare_0 rfl (lv_at hl 1 rfl) ?_
  refine lv_iconst (v := 1) hx hb dX10_prepare_1 ki_1 ?_
  refine lv_bipush (v := 6) hx hb dX10_prepare_2 kb_6 ?_
  obtain ⟨r_28, hr_29, h⟩ := bd1_s h
  refine sn_i hx hb hml hown hw hN (c_cf_within l v1 1 6 r_28 hr_29) nq_RX10_38 tw_9_21 tw_9_20 tw_1_2 hd_X11_within (rest := []) hl.1 hS dX10_prepare_4 rfl rfl ⟨Nat.le_of_ble_eq_true rfl, Nat.le_of_ble_eq_true rfl⟩ rfl rfl (Nat.le_of_ble_eq_true rfl) ⟨Nat.zero_le _, Nat.zero_le _⟩ (fun H locs hk hS => ?_)
  have hP := cP_kept hP hk
  refine lv_if_eq hx hb dX10_prepare_7 (tgt := 19) rfl (fun hc => ?_) (fun hc => ?_)
  · replace h := ifp h hc
    simp only [Option.some.injEq, Prod.mk.injEq] at h
    obtain ⟨rfl, rfl⟩ := h
    exact rc_v hx hb hr hlocks hS dX10_prepare_19 hP
  · replace h := ifn h hc
    refine lv_aload_n hx hb dX10_prepare_10 rfl (lv_at hl 0 rfl) ?_
    refine cg_WY_2 hx hb hw hown hK hP dX10_prepare_11 ?_
    refine lv_iload_n hx hb dX10_prepare_14 rfl (lv_at hl 1 rfl) ?_
    obtain ⟨hin, h⟩ := ck_s h
    refine cd_wmade hx hb hK hP hin dX10_prepare_15 ?_
    refine lv_if_eq hx hb dX10_prepare_16 (tgt := 20) rfl (fun hc => ?_) (fun hc => ?_)
    · replace h := ifp h hc
      refine lv_aload_n hx hb dX10_prepare_20 rfl (lv_at hl 0 rfl) ?_
      refine cg_WY_0 hx hb hw hown hK hP dX10_prepare_21 ?_
      refine lv_iload_n hx hb dX10_prepare_24 rfl (lv_at hl 1 rfl) ?_
      refine lv_iconst (v := 2) hx hb dX10_prepare_25 ki_2 ?_
      obtain ⟨r_30, hr_31, h⟩ := bd1_s h
      refine hv_i hx hb hml hown hw cB_bl (cB_of hN hK hP) (cr_CA hK hP) (c_ca_size l D ct ad hI v1 2 r_30 hr_31) g_RX10_42 ⟨rfl, hd_X0_size⟩ (rest := []) hl.1 hS (fun q h => h) dX10_prepare_26 rfl rfl ⟨Nat.le_of_ble_eq_true rfl, Nat.le_of_ble_eq_true rfl⟩ rfl rfl (Nat.le_of_ble_eq_true rfl) ⟨Nat.zero_le _, Nat.zero_le _⟩ (fun H locs hP _ hS => ?_)
      refine lv_bipush (v := 35) hx hb dX10_prepare_29 kb_35 ?_
      refine va_mmin hx hb (hml.trans hl.1.symm) hown (hw _ tw_33_5) (hw _ tw_33_6) (hw _ tw_19_23) (hw _ tw_33_7) (Nat.le_of_ble_eq_true rfl) (Nat.le_of_ble_eq_true rfl) (Nat.zero_le _) (Nat.zero_le _) dX10_prepare_31 ?_
      refine nmI (v := mnI r_30 35) rfl ?_
      obtain ⟨v2_32, ev2_32, h⟩ := nm_s h
      refine nmI ev2_32 ?_
      refine lv_istore_n hx hb dX10_prepare_34 rfl hl (Nat.le_of_ble_eq_true rfl) (lv' := [(2, .int v2_32), (0, .ref (ad 16)), (1, .int v1)]) rfl (fun ls hl => ?_)
      refine lv_iconst (v := 0) hx hb dX10_prepare_35 ki_0 ?_
      refine lv_istore_n hx hb dX10_prepare_36 rfl hl (Nat.le_of_ble_eq_true rfl) (lv' := [(3, .int 0), (2, .int v2_32), (0, .ref (ad 16)), (1, .int v1)]) rfl (fun ls hl => ?_)
      exact hL37 v1 v2_32 a_numbers a_oneSided a_free a_ends a_wmade FU _ _ _ 0 a_near (lv_sub hl [2, 3, 1, 0] rfl) hP hS h
    · replace h := ifn h hc
      simp only [Option.some.injEq, Prod.mk.injEq] at h
      obtain ⟨rfl, rfl⟩ := h
      exact rc_v hx hb hr hlocks hS dX10_prepare_19 hP
noncomputable def cf_append_J42 (k3 : Int32 → Int32 → (Nat → Int32) → Option (Int32 × (Nat → Int32))) (v1 : Int32) (v2 : Int32) (x_fed : Int32) (a_tape : Nat → Int32)  : Option (Int32 × (Nat → Int32)) :=
  nm (v2 + Int32.ofInt (-8)) fun v2_1 =>
  k3 v2_1 x_fed a_tape
noncomputable def cf_append_B3 (v1 : Int32)  (k3 : Int32 → Int32 → (Nat → Int32) → Option (Int32 × (Nat → Int32))) (v2 : Int32) (x_fed : Int32) (a_tape : Nat → Int32) : Option (Int32 × (Nat → Int32)) :=
  if v2 < 0 then (some (x_fed, a_tape)) else
  if 120 ≤ x_fed then (cf_append_J42 k3 v1 v2 x_fed a_tape) else
  nm (i8 (ui v1 v2) : Int32) fun w_2 =>
  ck x_fed 120 <|
  nm (upd a_tape x_fed.toNatClampNeg (vp_nar .byte w_2)) fun a_tape_3 =>
  nm (x_fed + 1 : Int32) fun x_fed_4 =>
  cf_append_J42 k3 v1 v2 x_fed_4 a_tape_3
noncomputable def cf_append (v1 : Int32) (x_fed : Int32) (a_tape : Nat → Int32) : Option (Int32 × (Nat → Int32)) :=
  fl3 (cf_append_B3 v1) FU 24 x_fed a_tape
set_option maxHeartbeats 4000000 in
set_option maxRecDepth 100000 in
theorem c_cf_append (l : Launch) (D : va_G) (ct : Nat → ClassId) (ad : Nat → Nat) (hI : cI ad) {x_fed x_tk x_col x_line x_rcells x_rsize x_len x_cuts x_bare x_place x_lA x_lB x_lC x_fX x_fY x_sX x_sY x_made x_fsize x_psize x_over x_touch x_most x_mU x_mV x_area : Int32} {x_board : Int64} {a_tape a_letters a_oneSided a_free a_ends a_crowds a_wmade a_firsts a_widths a_heights a_places a_next a_pnear a_table a_overlaps : Nat → Int32} {a_drawers a_kept a_items a_numbers a_marks a_near a_figures a_covered a_pcells a_matrix : Nat → Int64} (v1 : Int32)  (z_x_fed : Int32) (z_a_tape : Nat → Int32) (h : cf_append v1 x_fed a_tape = some (z_x_fed, z_a_tape)) : Met l yX11_append (wm yX11_append cX11_append 3 none) (rmm 0 0) (va_Pc [.ref (ad 0), .int v1] (cB D ct ad x_fed x_tk x_col x_line x_rcells x_rsize x_len x_cuts x_bare x_place x_lA x_lB x_lC x_fX x_fY x_sX x_sY x_made x_fsize x_psize x_over x_touch x_most x_mU x_mV x_area x_board a_tape a_letters a_oneSided a_free a_ends a_crowds a_wmade a_firsts a_widths a_heights a_places a_next a_pnear a_table a_overlaps a_drawers a_kept a_items a_numbers a_marks a_near a_figures a_covered a_pcells a_matrix)) (va_Qv (fun (_ : Unit) => True) (fun _ t => cP D ct ad z_x_fed x_tk x_col x_line x_rcells x_rsize x_len x_cuts x_bare x_place x_lA x_lB x_lC x_fX x_fY x_sX x_sY x_made x_fsize x_psize x_over x_touch x_most x_mU x_mV x_area x_board z_a_tape a_letters a_oneSided a_free a_ends a_crowds a_wmade a_firsts a_widths a_heights a_places a_next a_pnear a_table a_overlaps a_drawers a_kept a_items a_numbers a_marks a_near a_figures a_covered a_pcells a_matrix t.heap) (cA ad)) 0 0 (cA ad) := by
  refine met_s (y := yX11_append) (rm := rmm 0 0) (by decide) (Nat.le_of_ble_eq_true rfl) ?_
  intro p e s m below meth c hx hb hr hw hown hlocks _ hml hB ls hl
  obtain ⟨hN, hK, hP⟩ := hB
  replace hl : lv_has ls 3 [(0, .ref (ad 0)), (1, .int v1)] := hl
  have hS : va_S (cA ad) s.heap s.heap [] := va_S.rf
  generalize (([.ref (ad 0), .int v1] : List Value).toArray) = av at hw ⊢
  rw [cf_append] at h
  have hL3 : ∀ (v1 : Int32), ∀ (n3 : Nat) (H : Heap) (locs : List Loc) (ls : Array Slot) (v2 : Int32) (x_fed : Int32) (a_tape : Nat → Int32), lv_has ls 3 [(0, .ref (ad 0)), (1, .int v1), (2, .int v2)] → cP D ct ad x_fed x_tk x_col x_line x_rcells x_rsize x_len x_cuts x_bare x_place x_lA x_lB x_lC x_fX x_fY x_sX x_sY x_made x_fsize x_psize x_over x_touch x_most x_mU x_mV x_area x_board a_tape a_letters a_oneSided a_free a_ends a_crowds a_wmade a_firsts a_widths a_heights a_places a_next a_pnear a_table a_overlaps a_drawers a_kept a_items a_numbers a_marks a_near a_figures a_covered a_pcells a_matrix H → va_S (cA ad) s.heap H locs → fl3 (cf_append_B3 v1) n3 v2 x_fed a_tape = some (z_x_fed, z_a_tape) → W p l e (rmm 0 0) s m av below meth c H locs 0 0 (MQ below (va_Qv (fun (_ : Unit) => True) (fun _ t => cP D ct ad z_x_fed x_tk x_col x_line x_rcells x_rsize x_len x_cuts x_bare x_place x_lA x_lB x_lC x_fX x_fY x_sX x_sY x_made x_fsize x_psize x_over x_touch x_most x_mU x_mV x_area x_board z_a_tape a_letters a_oneSided a_free a_ends a_crowds a_wmade a_firsts a_widths a_heights a_places a_next a_pnear a_table a_overlaps a_drawers a_kept a_items a_numbers a_marks a_near a_figures a_covered a_pcells a_matrix t.heap) (cA ad)) av s 0 0 (cA ad)) (F0 m 3 ls []) := by
    intro v1 n3
    induction n3 with
    | zero => intro H locs ls v2 x_fed a_tape hl hP hS h; cases h
    | succ n3 ih3 =>
      intro H locs ls v2 x_fed a_tape hl hP hS h
      replace h : cf_append_B3 v1 (fl3 (cf_append_B3 v1) n3) v2 x_fed a_tape = some (z_x_fed, z_a_tape) := h
      generalize fl3 (cf_append_B3 v1) n3 = k3 at h ih3
      have hJ42 : ∀ (H : Heap) (locs : List Loc) (ls : Array Slot) (v2 : Int32) (x_fed : Int32) (a_tape : Nat → Int32) , lv_has ls 3 [(0, .ref (ad 0)), (1, .int v1), (2, .int v2)] → cP D ct ad x_fed x_tk x_col x_line x_rcells x_rsize x_len x_cuts x_bare x_place x_lA x_lB x_lC x_fX x_fY x_sX x_sY x_made x_fsize x_psize x_over x_touch x_most x_mU x_mV x_area x_board a_tape a_letters a_oneSided a_free a_ends a_crowds a_wmade a_firsts a_widths a_heights a_places a_next a_pnear a_table a_overlaps a_drawers a_kept a_items a_numbers a_marks a_near a_figures a_covered a_pcells a_matrix H → va_S (cA ad) s.heap H locs → cf_append_J42 k3 v1 v2 x_fed a_tape = some (z_x_fed, z_a_tape) → W p l e (rmm 0 0) s m av below meth c H locs 0 0 (MQ below (va_Qv (fun (_ : Unit) => True) (fun _ t => cP D ct ad z_x_fed x_tk x_col x_line x_rcells x_rsize x_len x_cuts x_bare x_place x_lA x_lB x_lC x_fX x_fY x_sX x_sY x_made x_fsize x_psize x_over x_touch x_most x_mU x_mV x_area x_board z_a_tape a_letters a_oneSided a_free a_ends a_crowds a_wmade a_firsts a_widths a_heights a_places a_next a_pnear a_table a_overlaps a_drawers a_kept a_items a_numbers a_marks a_near a_figures a_covered a_pcells a_matrix t.heap) (cA ad)) av s 0 0 (cA ad)) (F0 m 42 ls []) := by
        intro H locs ls v2 x_fed a_tape  hl hP hS h
        rw [cf_append_J42] at h
        obtain ⟨v2_5, ev2_5, h⟩ := nm_s h
        refine lv_iinc hx hb dX11_append_42 hl (k := 2) rfl ev2_5.symm (Nat.le_of_ble_eq_true rfl) (lv' := [(2, .int v2_5), (0, .ref (ad 0)), (1, .int v1)]) rfl (fun ls hl => ?_)
        refine lv_goto hx hb dX11_append_45 (tgt := 3) rfl ?_
        exact ih3 _ _ _ v2_5 x_fed a_tape (lv_sub hl [1, 2, 0] rfl) hP hS h
      rw [cf_append_B3] at h
      refine lv_iload_n hx hb dX11_append_3 rfl (lv_at hl 2 rfl) ?_
      refine lv_if_lt hx hb dX11_append_4 (tgt := 48) rfl (fun hc => ?_) (fun hc => ?_)
      · replace h := ifp h hc
        simp only [Option.some.injEq, Prod.mk.injEq] at h
        obtain ⟨rfl, rfl⟩ := h
        exact rc_v hx hb hr hlocks hS dX11_append_48 hP
      · replace h := ifn h hc
        refine lv_aload_n hx hb dX11_append_7 rfl (lv_at hl 0 rfl) ?_
        refine cg_CF_11 hx hb hw hown hK hP dX11_append_8 ?_
        refine lv_aload_n hx hb dX11_append_11 rfl (lv_at hl 0 rfl) ?_
        refine cg_CF_0 hx hb hw hown hK hP dX11_append_12 ?_
        refine cl_tape hx hb hK hP dX11_append_15 ?_
        refine lv_icmp_ge hx hb dX11_append_16 (tgt := 42) rfl (fun hc => ?_) (fun hc => ?_)
        · replace h := ifp h hc
          exact hJ42 _ _ _ v2 x_fed a_tape (lv_sub hl [0, 1, 2] rfl) hP hS h
        · replace h := ifn h hc
          refine lv_aload_n hx hb dX11_append_19 rfl (lv_at hl 0 rfl) ?_
          refine cg_CF_0 hx hb hw hown hK hP dX11_append_20 ?_
          refine lv_aload_n hx hb dX11_append_23 rfl (lv_at hl 0 rfl) ?_
          refine cg_CF_11 hx hb hw hown hK hP dX11_append_24 ?_
          refine lv_iload_n hx hb dX11_append_27 rfl (lv_at hl 1 rfl) ?_
          refine lv_iload_n hx hb dX11_append_28 rfl (lv_at hl 2 rfl) ?_
          refine lv_iushr hx hb (v := ui v1 v2) dX11_append_29 rfl ?_
          refine lv_i2b hx hb (v := i8 (ui v1 v2)) dX11_append_30 rfl ?_
          obtain ⟨w_6, ew_6, h⟩ := nm_s h
          refine nmI ew_6 ?_
          obtain ⟨hin, h⟩ := ck_s h
          obtain ⟨a_tape_7, ea_tape_7, h⟩ := nm_s h
          refine cs_tape hx hb hK hP hI hS hin ea_tape_7 dX11_append_31 (fun H locs hP hS => ?_)
          refine lv_aload_n hx hb dX11_append_32 rfl (lv_at hl 0 rfl) ?_
          refine lv_dup hx hb dX11_append_33 rfl ?_
          refine cg_CF_11 hx hb hw hown hK hP dX11_append_34 ?_
          refine lv_iconst (v := 1) hx hb dX11_append_37 ki_1 ?_
          refine lv_iadd hx hb dX11_append_38 ?_
          obtain ⟨x_fed_8, ex_fed_8, h⟩ := nm_s h
          refine nmI ex_fed_8 ?_
          refine cp_CF_11 hx hb hw hown hK hP hI hS dX11_append_39 (fun H locs hP hS => ?_)
          exact hJ42 _ _ _ v2 x_fed_8 a_tape_7 (lv_sub hl [0, 1, 2] rfl) hP hS h
  refine lv_bipush (v := 24) hx hb dX11_append_0 kb_24 ?_
  refine lv_istore_n hx hb dX11_append_2 rfl hl (Nat.le_of_ble_eq_true rfl) (lv' := [(2, .int 24), (0, .ref (ad 0)), (1, .int v1)]) rfl (fun ls hl => ?_)
  exact hL3 v1 FU _ _ _ 24 x_fed a_tape (lv_sub hl [1, 2, 0] rfl) hP hS h
noncomputable def cf_feed (v1 : Int32) (v2 : Int32) (v3 : Int32) (v4 : Int32) (v5 : Int32) (x_fed : Int32) (a_tape : Nat → Int32) : Option (Int32 × Int32 × (Nat → Int32)) :=
  if (x_fed + 20) ≤ 120 then (bd2 (cf_append v1 x_fed a_tape) fun x_fed_1 a_tape_2 =>
  bd2 (cf_append v2 x_fed_1 a_tape_2) fun x_fed_4 a_tape_5 =>
  bd2 (cf_append v3 x_fed_4 a_tape_5) fun x_fed_7 a_tape_8 =>
  bd2 (cf_append v4 x_fed_7 a_tape_8) fun x_fed_10 a_tape_11 =>
  bd2 (cf_append v5 x_fed_10 a_tape_11) fun x_fed_13 a_tape_14 =>
  some (x_fed_13, x_fed_13, a_tape_14)) else
  some ((-1), x_fed, a_tape)
set_option maxHeartbeats 4000000 in
set_option maxRecDepth 100000 in
theorem c_cf_feed (l : Launch) (D : va_G) (ct : Nat → ClassId) (ad : Nat → Nat) (hI : cI ad) {x_fed x_tk x_col x_line x_rcells x_rsize x_len x_cuts x_bare x_place x_lA x_lB x_lC x_fX x_fY x_sX x_sY x_made x_fsize x_psize x_over x_touch x_most x_mU x_mV x_area : Int32} {x_board : Int64} {a_tape a_letters a_oneSided a_free a_ends a_crowds a_wmade a_firsts a_widths a_heights a_places a_next a_pnear a_table a_overlaps : Nat → Int32} {a_drawers a_kept a_items a_numbers a_marks a_near a_figures a_covered a_pcells a_matrix : Nat → Int64} (v1 : Int32) (v2 : Int32) (v3 : Int32) (v4 : Int32) (v5 : Int32) (r : Int32) (z_x_fed : Int32) (z_a_tape : Nat → Int32) (h : cf_feed v1 v2 v3 v4 v5 x_fed a_tape = some (r, z_x_fed, z_a_tape)) : Met l yX11_feed (wm yX11_feed cX11_feed 6 (some .int)) (rmm 1 22) (va_Pc [.ref (ad 0), .int v1, .int v2, .int v3, .int v4, .int v5] (cB D ct ad x_fed x_tk x_col x_line x_rcells x_rsize x_len x_cuts x_bare x_place x_lA x_lB x_lC x_fX x_fY x_sX x_sY x_made x_fsize x_psize x_over x_touch x_most x_mU x_mV x_area x_board a_tape a_letters a_oneSided a_free a_ends a_crowds a_wmade a_firsts a_widths a_heights a_places a_next a_pnear a_table a_overlaps a_drawers a_kept a_items a_numbers a_marks a_near a_figures a_covered a_pcells a_matrix)) (va_Qi (fun z (_ : Unit) => z = r) (fun _ t => cP D ct ad z_x_fed x_tk x_col x_line x_rcells x_rsize x_len x_cuts x_bare x_place x_lA x_lB x_lC x_fX x_fY x_sX x_sY x_made x_fsize x_psize x_over x_touch x_most x_mU x_mV x_area x_board z_a_tape a_letters a_oneSided a_free a_ends a_crowds a_wmade a_firsts a_widths a_heights a_places a_next a_pnear a_table a_overlaps a_drawers a_kept a_items a_numbers a_marks a_near a_figures a_covered a_pcells a_matrix t.heap) (cA ad)) 0 0 (cA ad) := by
  refine met_s (y := yX11_feed) (rm := rmm 1 22) (by decide) (Nat.le_of_ble_eq_true rfl) ?_
  intro p e s m below meth c hx hb hr hw hown hlocks _ hml hB ls hl
  obtain ⟨hN, hK, hP⟩ := hB
  replace hl : lv_has ls 6 [(0, .ref (ad 0)), (1, .int v1), (2, .int v2), (3, .int v3), (4, .int v4), (5, .int v5)] := hl
  have hS : va_S (cA ad) s.heap s.heap [] := va_S.rf
  generalize (([.ref (ad 0), .int v1, .int v2, .int v3, .int v4, .int v5] : List Value).toArray) = av at hw ⊢
  rw [cf_feed] at h
  refine lv_aload_n hx hb dX11_feed_0 rfl (lv_at hl 0 rfl) ?_
  refine cg_CF_11 hx hb hw hown hK hP dX11_feed_1 ?_
  refine lv_bipush (v := 20) hx hb dX11_feed_4 kb_20 ?_
  refine lv_iadd hx hb dX11_feed_6 ?_
  refine lv_bipush (v := 120) hx hb dX11_feed_7 kb_120 ?_
  refine lv_icmp_le hx hb dX11_feed_9 (tgt := 14) rfl (fun hc => ?_) (fun hc => ?_)
  · replace h := ifp h hc
    refine lv_aload_n hx hb dX11_feed_14 rfl (lv_at hl 0 rfl) ?_
    refine lv_iload_n hx hb dX11_feed_15 rfl (lv_at hl 1 rfl) ?_
    obtain ⟨x_fed_16, a_tape_17, hr_18, h⟩ := bd2_s h
    refine hv_v hx hb hml hown hw cB_bl (cB_of hN hK hP) (cr_CF hK hP) (c_cf_append l D ct ad hI v1 x_fed_16 a_tape_17 hr_18) g_RX11_87 ⟨rfl, hd_X11_append⟩ (rest := []) hl.1 hS (fun q h => h) dX11_feed_16 rfl rfl ⟨Nat.le_of_ble_eq_true rfl, Nat.le_of_ble_eq_true rfl⟩ rfl rfl (Nat.le_of_ble_eq_true rfl) ⟨Nat.zero_le _, Nat.zero_le _⟩ (fun H locs hP _ hS => ?_)
    refine lv_aload_n hx hb dX11_feed_19 rfl (lv_at hl 0 rfl) ?_
    refine lv_iload_n hx hb dX11_feed_20 rfl (lv_at hl 2 rfl) ?_
    obtain ⟨x_fed_19, a_tape_20, hr_21, h⟩ := bd2_s h
    refine hv_v hx hb hml hown hw cB_bl (cB_of hN hK hP) (cr_CF hK hP) (c_cf_append l D ct ad hI v2 x_fed_19 a_tape_20 hr_21) g_RX11_87 ⟨rfl, hd_X11_append⟩ (rest := []) hl.1 hS (fun q h => h) dX11_feed_21 rfl rfl ⟨Nat.le_of_ble_eq_true rfl, Nat.le_of_ble_eq_true rfl⟩ rfl rfl (Nat.le_of_ble_eq_true rfl) ⟨Nat.zero_le _, Nat.zero_le _⟩ (fun H locs hP _ hS => ?_)
    refine lv_aload_n hx hb dX11_feed_24 rfl (lv_at hl 0 rfl) ?_
    refine lv_iload_n hx hb dX11_feed_25 rfl (lv_at hl 3 rfl) ?_
    obtain ⟨x_fed_22, a_tape_23, hr_24, h⟩ := bd2_s h
    refine hv_v hx hb hml hown hw cB_bl (cB_of hN hK hP) (cr_CF hK hP) (c_cf_append l D ct ad hI v3 x_fed_22 a_tape_23 hr_24) g_RX11_87 ⟨rfl, hd_X11_append⟩ (rest := []) hl.1 hS (fun q h => h) dX11_feed_26 rfl rfl ⟨Nat.le_of_ble_eq_true rfl, Nat.le_of_ble_eq_true rfl⟩ rfl rfl (Nat.le_of_ble_eq_true rfl) ⟨Nat.zero_le _, Nat.zero_le _⟩ (fun H locs hP _ hS => ?_)
    refine lv_aload_n hx hb dX11_feed_29 rfl (lv_at hl 0 rfl) ?_
    refine lv_iload hx hb dX11_feed_30 (lv_at hl 4 rfl) ?_
    obtain ⟨x_fed_25, a_tape_26, hr_27, h⟩ := bd2_s h
    refine hv_v hx hb hml hown hw cB_bl (cB_of hN hK hP) (cr_CF hK hP) (c_cf_append l D ct ad hI v4 x_fed_25 a_tape_26 hr_27) g_RX11_87 ⟨rfl, hd_X11_append⟩ (rest := []) hl.1 hS (fun q h => h) dX11_feed_32 rfl rfl ⟨Nat.le_of_ble_eq_true rfl, Nat.le_of_ble_eq_true rfl⟩ rfl rfl (Nat.le_of_ble_eq_true rfl) ⟨Nat.zero_le _, Nat.zero_le _⟩ (fun H locs hP _ hS => ?_)
    refine lv_aload_n hx hb dX11_feed_35 rfl (lv_at hl 0 rfl) ?_
    refine lv_iload hx hb dX11_feed_36 (lv_at hl 5 rfl) ?_
    obtain ⟨x_fed_28, a_tape_29, hr_30, h⟩ := bd2_s h
    refine hv_v hx hb hml hown hw cB_bl (cB_of hN hK hP) (cr_CF hK hP) (c_cf_append l D ct ad hI v5 x_fed_28 a_tape_29 hr_30) g_RX11_87 ⟨rfl, hd_X11_append⟩ (rest := []) hl.1 hS (fun q h => h) dX11_feed_38 rfl rfl ⟨Nat.le_of_ble_eq_true rfl, Nat.le_of_ble_eq_true rfl⟩ rfl rfl (Nat.le_of_ble_eq_true rfl) ⟨Nat.zero_le _, Nat.zero_le _⟩ (fun H locs hP _ hS => ?_)
    refine lv_aload_n hx hb dX11_feed_41 rfl (lv_at hl 0 rfl) ?_
    refine cg_CF_11 hx hb hw hown hK hP dX11_feed_42 ?_
    simp only [Option.some.injEq, Prod.mk.injEq] at h
    obtain ⟨rfl, rfl, rfl⟩ := h
    exact rc_i hx hb hr hlocks hS dX11_feed_45 rfl hP
  · replace h := ifn h hc
    refine lv_iconst (v := (-1)) hx hb dX11_feed_12 ki_m1 ?_
    simp only [Option.some.injEq, Prod.mk.injEq] at h
    obtain ⟨rfl, rfl, rfl⟩ := h
    exact rc_i hx hb hr hlocks hS dX11_feed_13 rfl hP
noncomputable def cf_store (v1 : Int32) (v2 : Int64) (a_drawers : Nat → Int64) : Option (Int32 × (Nat → Int64)) :=
  bd1 (gr_settled v2) fun r_1 =>
  bd1 (gr_isFigure r_1) fun r_3 =>
  if r_3 = 0 then (some ((-3), a_drawers)) else
  ck v1 8 <|
  nm (vp_updL a_drawers v1.toNatClampNeg r_1) fun a_drawers_5 =>
  bd1 (jl_bitCount r_1) fun r_6 =>
  some (r_6, a_drawers_5)
set_option maxHeartbeats 4000000 in
set_option maxRecDepth 100000 in
theorem c_cf_store (l : Launch) (D : va_G) (ct : Nat → ClassId) (ad : Nat → Nat) (hI : cI ad) {x_fed x_tk x_col x_line x_rcells x_rsize x_len x_cuts x_bare x_place x_lA x_lB x_lC x_fX x_fY x_sX x_sY x_made x_fsize x_psize x_over x_touch x_most x_mU x_mV x_area : Int32} {x_board : Int64} {a_tape a_letters a_oneSided a_free a_ends a_crowds a_wmade a_firsts a_widths a_heights a_places a_next a_pnear a_table a_overlaps : Nat → Int32} {a_drawers a_kept a_items a_numbers a_marks a_near a_figures a_covered a_pcells a_matrix : Nat → Int64} (v1 : Int32) (v2 : Int64) (r : Int32) (z_a_drawers : Nat → Int64) (h : cf_store v1 v2 a_drawers = some (r, z_a_drawers)) : Met l yX11_store (wm yX11_store cX11_store 6 (some .int)) (rmm 4 91) (va_Pc [.ref (ad 0), .int v1, .long v2] (cB D ct ad x_fed x_tk x_col x_line x_rcells x_rsize x_len x_cuts x_bare x_place x_lA x_lB x_lC x_fX x_fY x_sX x_sY x_made x_fsize x_psize x_over x_touch x_most x_mU x_mV x_area x_board a_tape a_letters a_oneSided a_free a_ends a_crowds a_wmade a_firsts a_widths a_heights a_places a_next a_pnear a_table a_overlaps a_drawers a_kept a_items a_numbers a_marks a_near a_figures a_covered a_pcells a_matrix)) (va_Qi (fun z (_ : Unit) => z = r) (fun _ t => cP D ct ad x_fed x_tk x_col x_line x_rcells x_rsize x_len x_cuts x_bare x_place x_lA x_lB x_lC x_fX x_fY x_sX x_sY x_made x_fsize x_psize x_over x_touch x_most x_mU x_mV x_area x_board a_tape a_letters a_oneSided a_free a_ends a_crowds a_wmade a_firsts a_widths a_heights a_places a_next a_pnear a_table a_overlaps z_a_drawers a_kept a_items a_numbers a_marks a_near a_figures a_covered a_pcells a_matrix t.heap) (cA ad)) 0 0 (cA ad) := by
  refine met_s (y := yX11_store) (rm := rmm 4 91) (by decide) (Nat.le_of_ble_eq_true rfl) ?_
  intro p e s m below meth c hx hb hr hw hown hlocks _ hml hB ls hl
  obtain ⟨hN, hK, hP⟩ := hB
  replace hl : lv_has ls 6 [(0, .ref (ad 0)), (1, .int v1), (2, .long v2)] := hl
  have hS : va_S (cA ad) s.heap s.heap [] := va_S.rf
  generalize (([.ref (ad 0), .int v1, .long v2] : List Value).toArray) = av at hw ⊢
  rw [cf_store] at h
  refine lv_lload_n hx hb dX11_store_0 rfl (lv_at hl 2 rfl) ?_
  obtain ⟨r_8, hr_9, h⟩ := bd1_s h
  refine sc_l hx hb hml hown hw hN (c_gr_settled l v2 r_8 hr_9) g_RX11_281 hd_X2_settled (rest := []) hl.1 hS dX11_store_1 rfl rfl ⟨Nat.le_of_ble_eq_true rfl, Nat.le_of_ble_eq_true rfl⟩ rfl rfl (Nat.le_of_ble_eq_true rfl) ⟨Nat.zero_le _, Nat.zero_le _⟩ (fun H locs hk hS => ?_)
  have hP := cP_kept hP hk
  refine lv_lstore hx hb dX11_store_4 hl (Nat.le_of_ble_eq_true rfl) (lv' := [(4, .long r_8), (0, .ref (ad 0)), (1, .int v1), (2, .long v2)]) rfl (fun ls hl => ?_)
  refine lv_lload hx hb dX11_store_6 (lv_at hl 0 rfl) ?_
  obtain ⟨r_10, hr_11, h⟩ := bd1_s h
  refine sc_i hx hb hml hown hw hN (c_gr_isFigure l r_8 r_10 hr_11) g_RX11_111 hd_X2_isFigure (rest := []) hl.1 hS dX11_store_8 rfl rfl ⟨Nat.le_of_ble_eq_true rfl, Nat.le_of_ble_eq_true rfl⟩ rfl rfl (Nat.le_of_ble_eq_true rfl) ⟨Nat.zero_le _, Nat.zero_le _⟩ (fun H locs hk hS => ?_)
  have hP := cP_kept hP hk
  refine lv_if_ne hx hb dX11_store_11 (tgt := 17) rfl (fun hc => ?_) (fun hc => ?_)
  · replace h := ifn h hc
    refine lv_aload_n hx hb dX11_store_17 rfl (lv_at hl 1 rfl) ?_
    refine cg_CF_1 hx hb hw hown hK hP dX11_store_18 ?_
    refine lv_iload_n hx hb dX11_store_21 rfl (lv_at hl 2 rfl) ?_
    refine lv_lload hx hb dX11_store_22 (lv_at hl 0 rfl) ?_
    obtain ⟨hin, h⟩ := ck_s h
    obtain ⟨a_drawers_12, ea_drawers_12, h⟩ := nm_s h
    refine cs_drawers hx hb hK hP hI hS hin ea_drawers_12 dX11_store_24 (fun H locs hP hS => ?_)
    refine lv_lload hx hb dX11_store_25 (lv_at hl 0 rfl) ?_
    obtain ⟨r_13, hr_14, h⟩ := bd1_s h
    refine sc_i hx hb hml hown hw hN (c_jl_bitCount l r_8 r_13 hr_14) g_RX11_164 hd_J13_bitCount_95d88 (rest := []) hl.1 hS dX11_store_27 rfl rfl ⟨Nat.le_of_ble_eq_true rfl, Nat.le_of_ble_eq_true rfl⟩ rfl rfl (Nat.le_of_ble_eq_true rfl) ⟨Nat.zero_le _, Nat.zero_le _⟩ (fun H locs hk hS => ?_)
    have hP := cP_kept hP hk
    simp only [Option.some.injEq, Prod.mk.injEq] at h
    obtain ⟨rfl, rfl⟩ := h
    exact rc_i hx hb hr hlocks hS dX11_store_30 rfl hP
  · replace h := ifp h hc
    refine lv_bipush (v := (-3)) hx hb dX11_store_14 kb_m3 ?_
    simp only [Option.some.injEq, Prod.mk.injEq] at h
    obtain ⟨rfl, rfl⟩ := h
    exact rc_i hx hb hr hlocks hS dX11_store_16 rfl hP
noncomputable def cf_figure (v1 : Int32) (v2 : Int32) (x_fed : Int32) (a_tape : Nat → Int32) (a_drawers : Nat → Int64) (x_board : Int64) (x_col : Int32) (x_line : Int32) (x_rcells : Int32) : Option (Int32 × Int32 × (Nat → Int64) × Int64 × Int32 × Int32 × Int32) :=
  bd1 (cf_isDrawer v1) fun r_1 =>
  if r_1 = 0 then (some ((-1), x_fed, a_drawers, x_board, x_col, x_line, x_rcells)) else
  bd1 (cf_within v2 1 60) fun r_3 =>
  if r_3 = 0 then (some ((-1), x_fed, a_drawers, x_board, x_col, x_line, x_rcells)) else
  if v2 ≤ x_fed then (bd5 (rd_read v2 a_tape x_board x_col x_line x_rcells) fun r_5 x_board_6 x_col_7 x_line_8 x_rcells_9 =>
  if r_5 = 0 then (bd1 (rd_board x_board_6) fun r_11 =>
  bd2 (cf_store v1 r_11 a_drawers) fun r_13 a_drawers_14 =>
  some (r_13, 0, a_drawers_14, x_board_6, x_col_7, x_line_8, x_rcells_9)) else
  some (r_5, 0, a_drawers, x_board_6, x_col_7, x_line_8, x_rcells_9)) else
  some ((-1), x_fed, a_drawers, x_board, x_col, x_line, x_rcells)
set_option maxHeartbeats 4000000 in
set_option maxRecDepth 100000 in
theorem c_cf_figure (l : Launch) (D : va_G) (ct : Nat → ClassId) (ad : Nat → Nat) (hI : cI ad) {x_fed x_tk x_col x_line x_rcells x_rsize x_len x_cuts x_bare x_place x_lA x_lB x_lC x_fX x_fY x_sX x_sY x_made x_fsize x_psize x_over x_touch x_most x_mU x_mV x_area : Int32} {x_board : Int64} {a_tape a_letters a_oneSided a_free a_ends a_crowds a_wmade a_firsts a_widths a_heights a_places a_next a_pnear a_table a_overlaps : Nat → Int32} {a_drawers a_kept a_items a_numbers a_marks a_near a_figures a_covered a_pcells a_matrix : Nat → Int64} (v1 : Int32) (v2 : Int32) (r : Int32) (z_x_fed : Int32) (z_a_drawers : Nat → Int64) (z_x_board : Int64) (z_x_col : Int32) (z_x_line : Int32) (z_x_rcells : Int32) (h : cf_figure v1 v2 x_fed a_tape a_drawers x_board x_col x_line x_rcells = some (r, z_x_fed, z_a_drawers, z_x_board, z_x_col, z_x_line, z_x_rcells)) : Met l yX11_figure (wm yX11_figure cX11_figure 4 (some .int)) (rmm 5 116) (va_Pc [.ref (ad 0), .int v1, .int v2] (cB D ct ad x_fed x_tk x_col x_line x_rcells x_rsize x_len x_cuts x_bare x_place x_lA x_lB x_lC x_fX x_fY x_sX x_sY x_made x_fsize x_psize x_over x_touch x_most x_mU x_mV x_area x_board a_tape a_letters a_oneSided a_free a_ends a_crowds a_wmade a_firsts a_widths a_heights a_places a_next a_pnear a_table a_overlaps a_drawers a_kept a_items a_numbers a_marks a_near a_figures a_covered a_pcells a_matrix)) (va_Qi (fun z (_ : Unit) => z = r) (fun _ t => cP D ct ad z_x_fed x_tk z_x_col z_x_line z_x_rcells x_rsize x_len x_cuts x_bare x_place x_lA x_lB x_lC x_fX x_fY x_sX x_sY x_made x_fsize x_psize x_over x_touch x_most x_mU x_mV x_area z_x_board a_tape a_letters a_oneSided a_free a_ends a_crowds a_wmade a_firsts a_widths a_heights a_places a_next a_pnear a_table a_overlaps z_a_drawers a_kept a_items a_numbers a_marks a_near a_figures a_covered a_pcells a_matrix t.heap) (cA ad)) 0 0 (cA ad) := by
  refine met_s (y := yX11_figure) (rm := rmm 5 116) (by decide) (Nat.le_of_ble_eq_true rfl) ?_
  intro p e s m below meth c hx hb hr hw hown hlocks _ hml hB ls hl
  obtain ⟨hN, hK, hP⟩ := hB
  replace hl : lv_has ls 4 [(0, .ref (ad 0)), (1, .int v1), (2, .int v2)] := hl
  have hS : va_S (cA ad) s.heap s.heap [] := va_S.rf
  generalize (([.ref (ad 0), .int v1, .int v2] : List Value).toArray) = av at hw ⊢
  rw [cf_figure] at h
  refine lv_iload_n hx hb dX11_figure_0 rfl (lv_at hl 1 rfl) ?_
  obtain ⟨r_16, hr_17, h⟩ := bd1_s h
  refine sc_i hx hb hml hown hw hN (c_cf_isDrawer l v1 r_16 hr_17) g_RX11_91 hd_X11_isDrawer (rest := []) hl.1 hS dX11_figure_1 rfl rfl ⟨Nat.le_of_ble_eq_true rfl, Nat.le_of_ble_eq_true rfl⟩ rfl rfl (Nat.le_of_ble_eq_true rfl) ⟨Nat.zero_le _, Nat.zero_le _⟩ (fun H locs hk hS => ?_)
  have hP := cP_kept hP hk
  refine lv_if_eq hx hb dX11_figure_4 (tgt := 25) rfl (fun hc => ?_) (fun hc => ?_)
  · replace h := ifp h hc
    refine lv_iconst (v := (-1)) hx hb dX11_figure_25 ki_m1 ?_
    simp only [Option.some.injEq, Prod.mk.injEq] at h
    obtain ⟨rfl, rfl, rfl, rfl, rfl, rfl, rfl⟩ := h
    exact rc_i hx hb hr hlocks hS dX11_figure_26 rfl hP
  · replace h := ifn h hc
    refine lv_iload_n hx hb dX11_figure_7 rfl (lv_at hl 2 rfl) ?_
    refine lv_iconst (v := 1) hx hb dX11_figure_8 ki_1 ?_
    refine lv_bipush (v := 60) hx hb dX11_figure_9 kb_60 ?_
    obtain ⟨r_18, hr_19, h⟩ := bd1_s h
    refine sc_i hx hb hml hown hw hN (c_cf_within l v2 1 60 r_18 hr_19) g_RX11_95 hd_X11_within (rest := []) hl.1 hS dX11_figure_11 rfl rfl ⟨Nat.le_of_ble_eq_true rfl, Nat.le_of_ble_eq_true rfl⟩ rfl rfl (Nat.le_of_ble_eq_true rfl) ⟨Nat.zero_le _, Nat.zero_le _⟩ (fun H locs hk hS => ?_)
    have hP := cP_kept hP hk
    refine lv_if_eq hx hb dX11_figure_14 (tgt := 25) rfl (fun hc => ?_) (fun hc => ?_)
    · replace h := ifp h hc
      refine lv_iconst (v := (-1)) hx hb dX11_figure_25 ki_m1 ?_
      simp only [Option.some.injEq, Prod.mk.injEq] at h
      obtain ⟨rfl, rfl, rfl, rfl, rfl, rfl, rfl⟩ := h
      exact rc_i hx hb hr hlocks hS dX11_figure_26 rfl hP
    · replace h := ifn h hc
      refine lv_iload_n hx hb dX11_figure_17 rfl (lv_at hl 2 rfl) ?_
      refine lv_aload_n hx hb dX11_figure_18 rfl (lv_at hl 0 rfl) ?_
      refine cg_CF_11 hx hb hw hown hK hP dX11_figure_19 ?_
      refine lv_icmp_le hx hb dX11_figure_22 (tgt := 27) rfl (fun hc => ?_) (fun hc => ?_)
      · replace h := ifp h hc
        refine lv_aload_n hx hb dX11_figure_27 rfl (lv_at hl 0 rfl) ?_
        refine lv_iconst (v := 0) hx hb dX11_figure_28 ki_0 ?_
        refine cp_CF_11 hx hb hw hown hK hP hI hS dX11_figure_29 (fun H locs hP hS => ?_)
        refine lv_aload_n hx hb dX11_figure_32 rfl (lv_at hl 0 rfl) ?_
        refine cg_CF_3 hx hb hw hown hK hP dX11_figure_33 ?_
        refine lv_aload_n hx hb dX11_figure_36 rfl (lv_at hl 0 rfl) ?_
        refine cg_CF_0 hx hb hw hown hK hP dX11_figure_37 ?_
        refine lv_iload_n hx hb dX11_figure_40 rfl (lv_at hl 2 rfl) ?_
        obtain ⟨r_20, x_board_21, x_col_22, x_line_23, x_rcells_24, hr_25, h⟩ := bd5_s h
        refine hv_i hx hb hml hown hw cB_bl (cB_of hN hK hP) (cr_RD hK hP) (c_rd_read l D ct ad hI v2 r_20 x_board_21 x_col_22 x_line_23 x_rcells_24 hr_25) g_RX11_99 ⟨rfl, hd_X7_read⟩ (rest := []) hl.1 hS (fun q h => h) dX11_figure_41 rfl rfl ⟨Nat.le_of_ble_eq_true rfl, Nat.le_of_ble_eq_true rfl⟩ rfl rfl (Nat.le_of_ble_eq_true rfl) ⟨Nat.zero_le _, Nat.zero_le _⟩ (fun H locs hP _ hS => ?_)
        refine lv_istore_n hx hb dX11_figure_44 rfl hl (Nat.le_of_ble_eq_true rfl) (lv' := [(3, .int r_20), (0, .ref (ad 0)), (1, .int v1), (2, .int v2)]) rfl (fun ls hl => ?_)
        refine lv_iload_n hx hb dX11_figure_45 rfl (lv_at hl 0 rfl) ?_
        refine lv_if_eq hx hb dX11_figure_46 (tgt := 51) rfl (fun hc => ?_) (fun hc => ?_)
        · replace h := ifp h hc
          refine lv_aload_n hx hb dX11_figure_51 rfl (lv_at hl 1 rfl) ?_
          refine lv_iload_n hx hb dX11_figure_52 rfl (lv_at hl 2 rfl) ?_
          refine lv_aload_n hx hb dX11_figure_53 rfl (lv_at hl 1 rfl) ?_
          refine cg_CF_3 hx hb hw hown hK hP dX11_figure_54 ?_
          obtain ⟨r_26, hr_27, h⟩ := bd1_s h
          refine hv_l hx hb hml hown hw cB_bl (cB_of hN hK hP) (cr_RD hK hP) (c_rd_board l D ct ad hI r_26 hr_27) g_RX11_103 ⟨rfl, hd_X7_board⟩ (rest := [.int v1, .ref (ad 0)]) hl.1 hS (fun q h => h) dX11_figure_57 rfl rfl ⟨Nat.le_of_ble_eq_true rfl, Nat.le_of_ble_eq_true rfl⟩ rfl rfl (Nat.le_of_ble_eq_true rfl) ⟨Nat.zero_le _, Nat.zero_le _⟩ (fun H locs hP _ hS => ?_)
          obtain ⟨r_28, a_drawers_29, hr_30, h⟩ := bd2_s h
          refine hv_i hx hb hml hown hw cB_bl (cB_of hN hK hP) (cr_CF hK hP) (c_cf_store l D ct ad hI v1 r_26 r_28 a_drawers_29 hr_30) g_RX11_107 ⟨rfl, hd_X11_store⟩ (rest := []) hl.1 hS (fun q h => h) dX11_figure_60 rfl rfl ⟨Nat.le_of_ble_eq_true rfl, Nat.le_of_ble_eq_true rfl⟩ rfl rfl (Nat.le_of_ble_eq_true rfl) ⟨Nat.zero_le _, Nat.zero_le _⟩ (fun H locs hP _ hS => ?_)
          simp only [Option.some.injEq, Prod.mk.injEq] at h
          obtain ⟨rfl, rfl, rfl, rfl, rfl, rfl, rfl⟩ := h
          exact rc_i hx hb hr hlocks hS dX11_figure_63 rfl hP
        · replace h := ifn h hc
          refine lv_iload_n hx hb dX11_figure_49 rfl (lv_at hl 0 rfl) ?_
          simp only [Option.some.injEq, Prod.mk.injEq] at h
          obtain ⟨rfl, rfl, rfl, rfl, rfl, rfl, rfl⟩ := h
          exact rc_i hx hb hr hlocks hS dX11_figure_50 rfl hP
      · replace h := ifn h hc
        refine lv_iconst (v := (-1)) hx hb dX11_figure_25 ki_m1 ?_
        simp only [Option.some.injEq, Prod.mk.injEq] at h
        obtain ⟨rfl, rfl, rfl, rfl, rfl, rfl, rfl⟩ := h
        exact rc_i hx hb hr hlocks hS dX11_figure_26 rfl hP
noncomputable def cf_put (v1 : Int32) (v2 : Int64) (a_drawers : Nat → Int64) : Option (Int32 × (Nat → Int64)) :=
  bd1 (cf_isDrawer v1) fun r_1 =>
  if r_1 = 0 then (zb 0 (some (0, a_drawers))) else
  bd1 (gr_isFigure v2) fun r_3 =>
  if r_3 = 0 then (zb 0 (some (0, a_drawers))) else
  ck v1 8 <|
  nm (vp_updL a_drawers v1.toNatClampNeg v2) fun a_drawers_5 =>
  zb 1 (some (1, a_drawers_5))
set_option maxHeartbeats 4000000 in
set_option maxRecDepth 100000 in
theorem c_cf_put (l : Launch) (D : va_G) (ct : Nat → ClassId) (ad : Nat → Nat) (hI : cI ad) {x_fed x_tk x_col x_line x_rcells x_rsize x_len x_cuts x_bare x_place x_lA x_lB x_lC x_fX x_fY x_sX x_sY x_made x_fsize x_psize x_over x_touch x_most x_mU x_mV x_area : Int32} {x_board : Int64} {a_tape a_letters a_oneSided a_free a_ends a_crowds a_wmade a_firsts a_widths a_heights a_places a_next a_pnear a_table a_overlaps : Nat → Int32} {a_drawers a_kept a_items a_numbers a_marks a_near a_figures a_covered a_pcells a_matrix : Nat → Int64} (v1 : Int32) (v2 : Int64) (r : Int32) (z_a_drawers : Nat → Int64) (h : cf_put v1 v2 a_drawers = some (r, z_a_drawers)) : Met l yX11_put (wm yX11_put cX11_put 4 (some .boolean)) (rmm 4 91) (va_Pc [.ref (ad 0), .int v1, .long v2] (cB D ct ad x_fed x_tk x_col x_line x_rcells x_rsize x_len x_cuts x_bare x_place x_lA x_lB x_lC x_fX x_fY x_sX x_sY x_made x_fsize x_psize x_over x_touch x_most x_mU x_mV x_area x_board a_tape a_letters a_oneSided a_free a_ends a_crowds a_wmade a_firsts a_widths a_heights a_places a_next a_pnear a_table a_overlaps a_drawers a_kept a_items a_numbers a_marks a_near a_figures a_covered a_pcells a_matrix)) (va_Qi (fun z (_ : Unit) => z = r) (fun _ t => cP D ct ad x_fed x_tk x_col x_line x_rcells x_rsize x_len x_cuts x_bare x_place x_lA x_lB x_lC x_fX x_fY x_sX x_sY x_made x_fsize x_psize x_over x_touch x_most x_mU x_mV x_area x_board a_tape a_letters a_oneSided a_free a_ends a_crowds a_wmade a_firsts a_widths a_heights a_places a_next a_pnear a_table a_overlaps z_a_drawers a_kept a_items a_numbers a_marks a_near a_figures a_covered a_pcells a_matrix t.heap) (cA ad)) 0 0 (cA ad) := by
  refine met_s (y := yX11_put) (rm := rmm 4 91) (by decide) (Nat.le_of_ble_eq_true rfl) ?_
  intro p e s m below meth c hx hb hr hw hown hlocks _ hml hB ls hl
  obtain ⟨hN, hK, hP⟩ := hB
  replace hl : lv_has ls 4 [(0, .ref (ad 0)), (1, .int v1), (2, .long v2)] := hl
  have hS : va_S (cA ad) s.heap s.heap [] := va_S.rf
  generalize (([.ref (ad 0), .int v1, .long v2] : List Value).toArray) = av at hw ⊢
  rw [cf_put] at h
  refine lv_iload_n hx hb dX11_put_0 rfl (lv_at hl 1 rfl) ?_
  obtain ⟨r_6, hr_7, h⟩ := bd1_s h
  refine sc_i hx hb hml hown hw hN (c_cf_isDrawer l v1 r_6 hr_7) g_RX11_91 hd_X11_isDrawer (rest := []) hl.1 hS dX11_put_1 rfl rfl ⟨Nat.le_of_ble_eq_true rfl, Nat.le_of_ble_eq_true rfl⟩ rfl rfl (Nat.le_of_ble_eq_true rfl) ⟨Nat.zero_le _, Nat.zero_le _⟩ (fun H locs hk hS => ?_)
  have hP := cP_kept hP hk
  refine lv_if_eq hx hb dX11_put_4 (tgt := 14) rfl (fun hc => ?_) (fun hc => ?_)
  · replace h := ifp h hc
    refine lv_iconst (v := 0) hx hb dX11_put_14 ki_0 ?_
    obtain ⟨hz, h⟩ := zb_s h
    simp only [Option.some.injEq, Prod.mk.injEq] at h
    obtain ⟨rfl, rfl⟩ := h
    exact rc_z hx hb hr hlocks hS dX11_put_15 hz rfl hP
  · replace h := ifn h hc
    refine lv_lload_n hx hb dX11_put_7 rfl (lv_at hl 2 rfl) ?_
    obtain ⟨r_8, hr_9, h⟩ := bd1_s h
    refine sc_i hx hb hml hown hw hN (c_gr_isFigure l v2 r_8 hr_9) g_RX11_111 hd_X2_isFigure (rest := []) hl.1 hS dX11_put_8 rfl rfl ⟨Nat.le_of_ble_eq_true rfl, Nat.le_of_ble_eq_true rfl⟩ rfl rfl (Nat.le_of_ble_eq_true rfl) ⟨Nat.zero_le _, Nat.zero_le _⟩ (fun H locs hk hS => ?_)
    have hP := cP_kept hP hk
    refine lv_if_ne hx hb dX11_put_11 (tgt := 16) rfl (fun hc => ?_) (fun hc => ?_)
    · replace h := ifn h hc
      refine lv_aload_n hx hb dX11_put_16 rfl (lv_at hl 0 rfl) ?_
      refine cg_CF_1 hx hb hw hown hK hP dX11_put_17 ?_
      refine lv_iload_n hx hb dX11_put_20 rfl (lv_at hl 1 rfl) ?_
      refine lv_lload_n hx hb dX11_put_21 rfl (lv_at hl 2 rfl) ?_
      obtain ⟨hin, h⟩ := ck_s h
      obtain ⟨a_drawers_10, ea_drawers_10, h⟩ := nm_s h
      refine cs_drawers hx hb hK hP hI hS hin ea_drawers_10 dX11_put_22 (fun H locs hP hS => ?_)
      refine lv_iconst (v := 1) hx hb dX11_put_23 ki_1 ?_
      obtain ⟨hz, h⟩ := zb_s h
      simp only [Option.some.injEq, Prod.mk.injEq] at h
      obtain ⟨rfl, rfl⟩ := h
      exact rc_z hx hb hr hlocks hS dX11_put_24 hz rfl hP
    · replace h := ifp h hc
      refine lv_iconst (v := 0) hx hb dX11_put_14 ki_0 ?_
      obtain ⟨hz, h⟩ := zb_s h
      simp only [Option.some.injEq, Prod.mk.injEq] at h
      obtain ⟨rfl, rfl⟩ := h
      exact rc_z hx hb hr hlocks hS dX11_put_15 hz rfl hP
noncomputable def cf_take_J25  (v1 : Int32) (a_drawers : Nat → Int64) (t0 : Int32) : Option (Int32 × (Nat → Int64)) :=
  ck v1 8 <|
  nm (vp_updL a_drawers v1.toNatClampNeg 0) fun a_drawers_1 =>
  some (t0, a_drawers_1)
noncomputable def cf_take (v1 : Int32) (a_drawers : Nat → Int64) : Option (Int32 × (Nat → Int64)) :=
  bd1 (cf_isDrawer v1) fun r_2 =>
  if r_2 = 0 then (some ((-1), a_drawers)) else
  ck v1 8 <|
  if (a_drawers v1.toNatClampNeg) = 0 then (cf_take_J25 v1 a_drawers 0) else
  cf_take_J25 v1 a_drawers 1
set_option maxHeartbeats 4000000 in
set_option maxRecDepth 100000 in
theorem c_cf_take (l : Launch) (D : va_G) (ct : Nat → ClassId) (ad : Nat → Nat) (hI : cI ad) {x_fed x_tk x_col x_line x_rcells x_rsize x_len x_cuts x_bare x_place x_lA x_lB x_lC x_fX x_fY x_sX x_sY x_made x_fsize x_psize x_over x_touch x_most x_mU x_mV x_area : Int32} {x_board : Int64} {a_tape a_letters a_oneSided a_free a_ends a_crowds a_wmade a_firsts a_widths a_heights a_places a_next a_pnear a_table a_overlaps : Nat → Int32} {a_drawers a_kept a_items a_numbers a_marks a_near a_figures a_covered a_pcells a_matrix : Nat → Int64} (v1 : Int32) (r : Int32) (z_a_drawers : Nat → Int64) (h : cf_take v1 a_drawers = some (r, z_a_drawers)) : Met l yX11_take (wm yX11_take cX11_take 3 (some .int)) (rmm 2 42) (va_Pc [.ref (ad 0), .int v1] (cB D ct ad x_fed x_tk x_col x_line x_rcells x_rsize x_len x_cuts x_bare x_place x_lA x_lB x_lC x_fX x_fY x_sX x_sY x_made x_fsize x_psize x_over x_touch x_most x_mU x_mV x_area x_board a_tape a_letters a_oneSided a_free a_ends a_crowds a_wmade a_firsts a_widths a_heights a_places a_next a_pnear a_table a_overlaps a_drawers a_kept a_items a_numbers a_marks a_near a_figures a_covered a_pcells a_matrix)) (va_Qi (fun z (_ : Unit) => z = r) (fun _ t => cP D ct ad x_fed x_tk x_col x_line x_rcells x_rsize x_len x_cuts x_bare x_place x_lA x_lB x_lC x_fX x_fY x_sX x_sY x_made x_fsize x_psize x_over x_touch x_most x_mU x_mV x_area x_board a_tape a_letters a_oneSided a_free a_ends a_crowds a_wmade a_firsts a_widths a_heights a_places a_next a_pnear a_table a_overlaps z_a_drawers a_kept a_items a_numbers a_marks a_near a_figures a_covered a_pcells a_matrix t.heap) (cA ad)) 0 0 (cA ad) := by
  refine met_s (y := yX11_take) (rm := rmm 2 42) (by decide) (Nat.le_of_ble_eq_true rfl) ?_
  intro p e s m below meth c hx hb hr hw hown hlocks _ hml hB ls hl
  obtain ⟨hN, hK, hP⟩ := hB
  replace hl : lv_has ls 3 [(0, .ref (ad 0)), (1, .int v1)] := hl
  have hS : va_S (cA ad) s.heap s.heap [] := va_S.rf
  generalize (([.ref (ad 0), .int v1] : List Value).toArray) = av at hw ⊢
  rw [cf_take] at h
  have hJ25 : ∀ (H : Heap) (locs : List Loc) (ls : Array Slot) (v1 : Int32) (a_drawers : Nat → Int64) (t0 : Int32), lv_has ls 3 [(0, .ref (ad 0)), (1, .int v1)] → cP D ct ad x_fed x_tk x_col x_line x_rcells x_rsize x_len x_cuts x_bare x_place x_lA x_lB x_lC x_fX x_fY x_sX x_sY x_made x_fsize x_psize x_over x_touch x_most x_mU x_mV x_area x_board a_tape a_letters a_oneSided a_free a_ends a_crowds a_wmade a_firsts a_widths a_heights a_places a_next a_pnear a_table a_overlaps a_drawers a_kept a_items a_numbers a_marks a_near a_figures a_covered a_pcells a_matrix H → va_S (cA ad) s.heap H locs → cf_take_J25 v1 a_drawers t0 = some (r, z_a_drawers) → W p l e (rmm 2 42) s m av below meth c H locs 0 0 (MQ below (va_Qi (fun z (_ : Unit) => z = r) (fun _ t => cP D ct ad x_fed x_tk x_col x_line x_rcells x_rsize x_len x_cuts x_bare x_place x_lA x_lB x_lC x_fX x_fY x_sX x_sY x_made x_fsize x_psize x_over x_touch x_most x_mU x_mV x_area x_board a_tape a_letters a_oneSided a_free a_ends a_crowds a_wmade a_firsts a_widths a_heights a_places a_next a_pnear a_table a_overlaps z_a_drawers a_kept a_items a_numbers a_marks a_near a_figures a_covered a_pcells a_matrix t.heap) (cA ad)) av s 0 0 (cA ad)) (F0 m 25 ls [.int t0]) := by
    intro H locs ls v1 a_drawers t0 hl hP hS h
    rw [cf_take_J25] at h
    refine lv_istore_n hx hb dX11_take_25 rfl hl (Nat.le_of_ble_eq_true rfl) (lv' := [(2, .int t0), (0, .ref (ad 0)), (1, .int v1)]) rfl (fun ls hl => ?_)
    refine lv_aload_n hx hb dX11_take_26 rfl (lv_at hl 1 rfl) ?_
    refine cg_CF_1 hx hb hw hown hK hP dX11_take_27 ?_
    refine lv_iload_n hx hb dX11_take_30 rfl (lv_at hl 2 rfl) ?_
    refine lv_lconst (v := 0) hx hb dX11_take_31 kl_0 ?_
    obtain ⟨hin, h⟩ := ck_s h
    obtain ⟨a_drawers_4, ea_drawers_4, h⟩ := nm_s h
    refine cs_drawers hx hb hK hP hI hS hin ea_drawers_4 dX11_take_32 (fun H locs hP hS => ?_)
    refine lv_iload_n hx hb dX11_take_33 rfl (lv_at hl 0 rfl) ?_
    simp only [Option.some.injEq, Prod.mk.injEq] at h
    obtain ⟨rfl, rfl⟩ := h
    exact rc_i hx hb hr hlocks hS dX11_take_34 rfl hP
  refine lv_iload_n hx hb dX11_take_0 rfl (lv_at hl 1 rfl) ?_
  obtain ⟨r_5, hr_6, h⟩ := bd1_s h
  refine sc_i hx hb hml hown hw hN (c_cf_isDrawer l v1 r_5 hr_6) g_RX11_91 hd_X11_isDrawer (rest := []) hl.1 hS dX11_take_1 rfl rfl ⟨Nat.le_of_ble_eq_true rfl, Nat.le_of_ble_eq_true rfl⟩ rfl rfl (Nat.le_of_ble_eq_true rfl) ⟨Nat.zero_le _, Nat.zero_le _⟩ (fun H locs hk hS => ?_)
  have hP := cP_kept hP hk
  refine lv_if_ne hx hb dX11_take_4 (tgt := 9) rfl (fun hc => ?_) (fun hc => ?_)
  · replace h := ifn h hc
    refine lv_aload_n hx hb dX11_take_9 rfl (lv_at hl 0 rfl) ?_
    refine cg_CF_1 hx hb hw hown hK hP dX11_take_10 ?_
    refine lv_iload_n hx hb dX11_take_13 rfl (lv_at hl 1 rfl) ?_
    obtain ⟨hin, h⟩ := ck_s h
    refine cd_drawers hx hb hK hP hin dX11_take_14 ?_
    refine lv_lconst (v := 0) hx hb dX11_take_15 kl_0 ?_
    refine W.lcmp hx hb dX11_take_16 ?_
    refine lv_if_ne hx hb dX11_take_17 (tgt := 24) rfl (fun hc => ?_) (fun hc => ?_)
    · replace h := ifn h (fun q => hc ((lg_cmp_eq _ _).mpr q))
      refine lv_iconst (v := 1) hx hb dX11_take_24 ki_1 ?_
      exact hJ25 _ _ _ v1 a_drawers 1 (lv_sub hl [0, 1] rfl) hP hS h
    · replace h := ifp h ((lg_cmp_eq _ _).mp hc)
      refine lv_iconst (v := 0) hx hb dX11_take_20 ki_0 ?_
      refine lv_goto hx hb dX11_take_21 (tgt := 25) rfl ?_
      exact hJ25 _ _ _ v1 a_drawers 0 (lv_sub hl [0, 1] rfl) hP hS h
  · replace h := ifp h hc
    refine lv_iconst (v := (-1)) hx hb dX11_take_7 ki_m1 ?_
    simp only [Option.some.injEq, Prod.mk.injEq] at h
    obtain ⟨rfl, rfl⟩ := h
    exact rc_i hx hb hr hlocks hS dX11_take_8 rfl hP
noncomputable def cf_told (v1 : Int32) (v2 : Int32) (a_drawers : Nat → Int64) : Option (Int32) :=
  bd1 (cf_isDrawer v1) fun r_1 =>
  if r_1 = 0 then (some ((-1))) else
  bd1 (cf_within v2 0 14) fun r_3 =>
  if r_3 = 0 then (some ((-1))) else
  ck v1 8 <|
  if (a_drawers v1.toNatClampNeg) = 0 then (some ((-2))) else
  ck v1 8 <|
  bd1 (tr_of (a_drawers v1.toNatClampNeg) v2) fun r_5 =>
  some (r_5)
set_option maxHeartbeats 4000000 in
set_option maxRecDepth 100000 in
theorem c_cf_told (l : Launch) (D : va_G) (ct : Nat → ClassId) (ad : Nat → Nat) (hI : cI ad) {x_fed x_tk x_col x_line x_rcells x_rsize x_len x_cuts x_bare x_place x_lA x_lB x_lC x_fX x_fY x_sX x_sY x_made x_fsize x_psize x_over x_touch x_most x_mU x_mV x_area : Int32} {x_board : Int64} {a_tape a_letters a_oneSided a_free a_ends a_crowds a_wmade a_firsts a_widths a_heights a_places a_next a_pnear a_table a_overlaps : Nat → Int32} {a_drawers a_kept a_items a_numbers a_marks a_near a_figures a_covered a_pcells a_matrix : Nat → Int64} (v1 : Int32) (v2 : Int32) (r : Int32)  (h : cf_told v1 v2 a_drawers = some (r)) : Met l yX11_told (wm yX11_told cX11_told 3 (some .int)) (rmm 5 121) (va_Pc [.ref (ad 0), .int v1, .int v2] (cB D ct ad x_fed x_tk x_col x_line x_rcells x_rsize x_len x_cuts x_bare x_place x_lA x_lB x_lC x_fX x_fY x_sX x_sY x_made x_fsize x_psize x_over x_touch x_most x_mU x_mV x_area x_board a_tape a_letters a_oneSided a_free a_ends a_crowds a_wmade a_firsts a_widths a_heights a_places a_next a_pnear a_table a_overlaps a_drawers a_kept a_items a_numbers a_marks a_near a_figures a_covered a_pcells a_matrix)) (va_Qi (fun z (_ : Unit) => z = r) (fun _ t => cP D ct ad x_fed x_tk x_col x_line x_rcells x_rsize x_len x_cuts x_bare x_place x_lA x_lB x_lC x_fX x_fY x_sX x_sY x_made x_fsize x_psize x_over x_touch x_most x_mU x_mV x_area x_board a_tape a_letters a_oneSided a_free a_ends a_crowds a_wmade a_firsts a_widths a_heights a_places a_next a_pnear a_table a_overlaps a_drawers a_kept a_items a_numbers a_marks a_near a_figures a_covered a_pcells a_matrix t.heap) (cA ad)) 0 0 (cA ad) := by
  refine met_s (y := yX11_told) (rm := rmm 5 121) (by decide) (Nat.le_of_ble_eq_true rfl) ?_
  intro p e s m below meth c hx hb hr hw hown hlocks _ hml hB ls hl
  obtain ⟨hN, hK, hP⟩ := hB
  replace hl : lv_has ls 3 [(0, .ref (ad 0)), (1, .int v1), (2, .int v2)] := hl
  have hS : va_S (cA ad) s.heap s.heap [] := va_S.rf
  generalize (([.ref (ad 0), .int v1, .int v2] : List Value).toArray) = av at hw ⊢
  rw [cf_told] at h
  refine lv_iload_n hx hb dX11_told_0 rfl (lv_at hl 1 rfl) ?_
  obtain ⟨r_7, hr_8, h⟩ := bd1_s h
  refine sc_i hx hb hml hown hw hN (c_cf_isDrawer l v1 r_7 hr_8) g_RX11_91 hd_X11_isDrawer (rest := []) hl.1 hS dX11_told_1 rfl rfl ⟨Nat.le_of_ble_eq_true rfl, Nat.le_of_ble_eq_true rfl⟩ rfl rfl (Nat.le_of_ble_eq_true rfl) ⟨Nat.zero_le _, Nat.zero_le _⟩ (fun H locs hk hS => ?_)
  have hP := cP_kept hP hk
  refine lv_if_eq hx hb dX11_told_4 (tgt := 17) rfl (fun hc => ?_) (fun hc => ?_)
  · replace h := ifp h hc
    refine lv_iconst (v := (-1)) hx hb dX11_told_17 ki_m1 ?_
    replace h := Option.some.inj h
    subst h
    exact rc_i hx hb hr hlocks hS dX11_told_18 rfl hP
  · replace h := ifn h hc
    refine lv_iload_n hx hb dX11_told_7 rfl (lv_at hl 2 rfl) ?_
    refine lv_iconst (v := 0) hx hb dX11_told_8 ki_0 ?_
    refine lv_bipush (v := 14) hx hb dX11_told_9 kb_14 ?_
    obtain ⟨r_9, hr_10, h⟩ := bd1_s h
    refine sc_i hx hb hml hown hw hN (c_cf_within l v2 0 14 r_9 hr_10) g_RX11_95 hd_X11_within (rest := []) hl.1 hS dX11_told_11 rfl rfl ⟨Nat.le_of_ble_eq_true rfl, Nat.le_of_ble_eq_true rfl⟩ rfl rfl (Nat.le_of_ble_eq_true rfl) ⟨Nat.zero_le _, Nat.zero_le _⟩ (fun H locs hk hS => ?_)
    have hP := cP_kept hP hk
    refine lv_if_ne hx hb dX11_told_14 (tgt := 19) rfl (fun hc => ?_) (fun hc => ?_)
    · replace h := ifn h hc
      refine lv_aload_n hx hb dX11_told_19 rfl (lv_at hl 0 rfl) ?_
      refine cg_CF_1 hx hb hw hown hK hP dX11_told_20 ?_
      refine lv_iload_n hx hb dX11_told_23 rfl (lv_at hl 1 rfl) ?_
      obtain ⟨hin, h⟩ := ck_s h
      refine cd_drawers hx hb hK hP hin dX11_told_24 ?_
      refine lv_lconst (v := 0) hx hb dX11_told_25 kl_0 ?_
      refine W.lcmp hx hb dX11_told_26 ?_
      refine lv_if_ne hx hb dX11_told_27 (tgt := 35) rfl (fun hc => ?_) (fun hc => ?_)
      · replace h := ifn h (fun q => hc ((lg_cmp_eq _ _).mpr q))
        refine lv_aload_n hx hb dX11_told_35 rfl (lv_at hl 0 rfl) ?_
        refine cg_CF_1 hx hb hw hown hK hP dX11_told_36 ?_
        refine lv_iload_n hx hb dX11_told_39 rfl (lv_at hl 1 rfl) ?_
        obtain ⟨hin, h⟩ := ck_s h
        refine cd_drawers hx hb hK hP hin dX11_told_40 ?_
        refine lv_iload_n hx hb dX11_told_41 rfl (lv_at hl 2 rfl) ?_
        obtain ⟨r_11, hr_12, h⟩ := bd1_s h
        refine sc_i hx hb hml hown hw hN (c_tr_of l (a_drawers v1.toNatClampNeg) v2 r_11 hr_12) g_RX11_117 hd_X9_of (rest := []) hl.1 hS dX11_told_42 rfl rfl ⟨Nat.le_of_ble_eq_true rfl, Nat.le_of_ble_eq_true rfl⟩ rfl rfl (Nat.le_of_ble_eq_true rfl) ⟨Nat.zero_le _, Nat.zero_le _⟩ (fun H locs hk hS => ?_)
        have hP := cP_kept hP hk
        replace h := Option.some.inj h
        subst h
        exact rc_i hx hb hr hlocks hS dX11_told_45 rfl hP
      · replace h := ifp h ((lg_cmp_eq _ _).mp hc)
        refine lv_bipush (v := (-2)) hx hb dX11_told_30 kb_m2 ?_
        refine lv_goto hx hb dX11_told_32 (tgt := 45) rfl ?_
        replace h := Option.some.inj h
        subst h
        exact rc_i hx hb hr hlocks hS dX11_told_45 rfl hP
    · replace h := ifp h hc
      refine lv_iconst (v := (-1)) hx hb dX11_told_17 ki_m1 ?_
      replace h := Option.some.inj h
      subst h
      exact rc_i hx hb hr hlocks hS dX11_told_18 rfl hP
noncomputable def cf_cell (v1 : Int32) (v2 : Int32) (v3 : Int32) (a_drawers : Nat → Int64) : Option (Int32) :=
  bd1 (cf_isDrawer v1) fun r_1 =>
  if r_1 = 0 then (some ((-1))) else
  bd1 (cf_within v2 0 6) fun r_3 =>
  if r_3 = 0 then (some ((-1))) else
  bd1 (cf_within v3 0 6) fun r_5 =>
  if r_5 = 0 then (some ((-1))) else
  ck v1 8 <|
  if (a_drawers v1.toNatClampNeg) = 0 then (some ((-2))) else
  ck v1 8 <|
  bd1 (gr_has (a_drawers v1.toNatClampNeg) v2 v3) fun r_7 =>
  if r_7 = 0 then (some (0)) else
  some (1)
set_option maxHeartbeats 4000000 in
set_option maxRecDepth 100000 in
theorem c_cf_cell (l : Launch) (D : va_G) (ct : Nat → ClassId) (ad : Nat → Nat) (hI : cI ad) {x_fed x_tk x_col x_line x_rcells x_rsize x_len x_cuts x_bare x_place x_lA x_lB x_lC x_fX x_fY x_sX x_sY x_made x_fsize x_psize x_over x_touch x_most x_mU x_mV x_area : Int32} {x_board : Int64} {a_tape a_letters a_oneSided a_free a_ends a_crowds a_wmade a_firsts a_widths a_heights a_places a_next a_pnear a_table a_overlaps : Nat → Int32} {a_drawers a_kept a_items a_numbers a_marks a_near a_figures a_covered a_pcells a_matrix : Nat → Int64} (v1 : Int32) (v2 : Int32) (v3 : Int32) (r : Int32)  (h : cf_cell v1 v2 v3 a_drawers = some (r)) : Met l yX11_cell (wm yX11_cell cX11_cell 4 (some .int)) (rmm 2 45) (va_Pc [.ref (ad 0), .int v1, .int v2, .int v3] (cB D ct ad x_fed x_tk x_col x_line x_rcells x_rsize x_len x_cuts x_bare x_place x_lA x_lB x_lC x_fX x_fY x_sX x_sY x_made x_fsize x_psize x_over x_touch x_most x_mU x_mV x_area x_board a_tape a_letters a_oneSided a_free a_ends a_crowds a_wmade a_firsts a_widths a_heights a_places a_next a_pnear a_table a_overlaps a_drawers a_kept a_items a_numbers a_marks a_near a_figures a_covered a_pcells a_matrix)) (va_Qi (fun z (_ : Unit) => z = r) (fun _ t => cP D ct ad x_fed x_tk x_col x_line x_rcells x_rsize x_len x_cuts x_bare x_place x_lA x_lB x_lC x_fX x_fY x_sX x_sY x_made x_fsize x_psize x_over x_touch x_most x_mU x_mV x_area x_board a_tape a_letters a_oneSided a_free a_ends a_crowds a_wmade a_firsts a_widths a_heights a_places a_next a_pnear a_table a_overlaps a_drawers a_kept a_items a_numbers a_marks a_near a_figures a_covered a_pcells a_matrix t.heap) (cA ad)) 0 0 (cA ad) := by
  refine met_s (y := yX11_cell) (rm := rmm 2 45) (by decide) (Nat.le_of_ble_eq_true rfl) ?_
  intro p e s m below meth c hx hb hr hw hown hlocks _ hml hB ls hl
  obtain ⟨hN, hK, hP⟩ := hB
  replace hl : lv_has ls 4 [(0, .ref (ad 0)), (1, .int v1), (2, .int v2), (3, .int v3)] := hl
  have hS : va_S (cA ad) s.heap s.heap [] := va_S.rf
  generalize (([.ref (ad 0), .int v1, .int v2, .int v3] : List Value).toArray) = av at hw ⊢
  rw [cf_cell] at h
  refine lv_iload_n hx hb dX11_cell_0 rfl (lv_at hl 1 rfl) ?_
  obtain ⟨r_9, hr_10, h⟩ := bd1_s h
  refine sc_i hx hb hml hown hw hN (c_cf_isDrawer l v1 r_9 hr_10) g_RX11_91 hd_X11_isDrawer (rest := []) hl.1 hS dX11_cell_1 rfl rfl ⟨Nat.le_of_ble_eq_true rfl, Nat.le_of_ble_eq_true rfl⟩ rfl rfl (Nat.le_of_ble_eq_true rfl) ⟨Nat.zero_le _, Nat.zero_le _⟩ (fun H locs hk hS => ?_)
  have hP := cP_kept hP hk
  refine lv_if_eq hx hb dX11_cell_4 (tgt := 27) rfl (fun hc => ?_) (fun hc => ?_)
  · replace h := ifp h hc
    refine lv_iconst (v := (-1)) hx hb dX11_cell_27 ki_m1 ?_
    replace h := Option.some.inj h
    subst h
    exact rc_i hx hb hr hlocks hS dX11_cell_28 rfl hP
  · replace h := ifn h hc
    refine lv_iload_n hx hb dX11_cell_7 rfl (lv_at hl 2 rfl) ?_
    refine lv_iconst (v := 0) hx hb dX11_cell_8 ki_0 ?_
    refine lv_bipush (v := 6) hx hb dX11_cell_9 kb_6 ?_
    obtain ⟨r_11, hr_12, h⟩ := bd1_s h
    refine sc_i hx hb hml hown hw hN (c_cf_within l v2 0 6 r_11 hr_12) g_RX11_95 hd_X11_within (rest := []) hl.1 hS dX11_cell_11 rfl rfl ⟨Nat.le_of_ble_eq_true rfl, Nat.le_of_ble_eq_true rfl⟩ rfl rfl (Nat.le_of_ble_eq_true rfl) ⟨Nat.zero_le _, Nat.zero_le _⟩ (fun H locs hk hS => ?_)
    have hP := cP_kept hP hk
    refine lv_if_eq hx hb dX11_cell_14 (tgt := 27) rfl (fun hc => ?_) (fun hc => ?_)
    · replace h := ifp h hc
      refine lv_iconst (v := (-1)) hx hb dX11_cell_27 ki_m1 ?_
      replace h := Option.some.inj h
      subst h
      exact rc_i hx hb hr hlocks hS dX11_cell_28 rfl hP
    · replace h := ifn h hc
      refine lv_iload_n hx hb dX11_cell_17 rfl (lv_at hl 3 rfl) ?_
      refine lv_iconst (v := 0) hx hb dX11_cell_18 ki_0 ?_
      refine lv_bipush (v := 6) hx hb dX11_cell_19 kb_6 ?_
      obtain ⟨r_13, hr_14, h⟩ := bd1_s h
      refine sc_i hx hb hml hown hw hN (c_cf_within l v3 0 6 r_13 hr_14) g_RX11_95 hd_X11_within (rest := []) hl.1 hS dX11_cell_21 rfl rfl ⟨Nat.le_of_ble_eq_true rfl, Nat.le_of_ble_eq_true rfl⟩ rfl rfl (Nat.le_of_ble_eq_true rfl) ⟨Nat.zero_le _, Nat.zero_le _⟩ (fun H locs hk hS => ?_)
      have hP := cP_kept hP hk
      refine lv_if_ne hx hb dX11_cell_24 (tgt := 29) rfl (fun hc => ?_) (fun hc => ?_)
      · replace h := ifn h hc
        refine lv_aload_n hx hb dX11_cell_29 rfl (lv_at hl 0 rfl) ?_
        refine cg_CF_1 hx hb hw hown hK hP dX11_cell_30 ?_
        refine lv_iload_n hx hb dX11_cell_33 rfl (lv_at hl 1 rfl) ?_
        obtain ⟨hin, h⟩ := ck_s h
        refine cd_drawers hx hb hK hP hin dX11_cell_34 ?_
        refine lv_lconst (v := 0) hx hb dX11_cell_35 kl_0 ?_
        refine W.lcmp hx hb dX11_cell_36 ?_
        refine lv_if_ne hx hb dX11_cell_37 (tgt := 43) rfl (fun hc => ?_) (fun hc => ?_)
        · replace h := ifn h (fun q => hc ((lg_cmp_eq _ _).mpr q))
          refine lv_aload_n hx hb dX11_cell_43 rfl (lv_at hl 0 rfl) ?_
          refine cg_CF_1 hx hb hw hown hK hP dX11_cell_44 ?_
          refine lv_iload_n hx hb dX11_cell_47 rfl (lv_at hl 1 rfl) ?_
          obtain ⟨hin, h⟩ := ck_s h
          refine cd_drawers hx hb hK hP hin dX11_cell_48 ?_
          refine lv_iload_n hx hb dX11_cell_49 rfl (lv_at hl 2 rfl) ?_
          refine lv_iload_n hx hb dX11_cell_50 rfl (lv_at hl 3 rfl) ?_
          obtain ⟨r_15, hr_16, h⟩ := bd1_s h
          refine sc_i hx hb hml hown hw hN (c_gr_has l (a_drawers v1.toNatClampNeg) v2 v3 r_15 hr_16) g_RX11_123 hd_X2_has (rest := []) hl.1 hS dX11_cell_51 rfl rfl ⟨Nat.le_of_ble_eq_true rfl, Nat.le_of_ble_eq_true rfl⟩ rfl rfl (Nat.le_of_ble_eq_true rfl) ⟨Nat.zero_le _, Nat.zero_le _⟩ (fun H locs hk hS => ?_)
          have hP := cP_kept hP hk
          refine lv_if_eq hx hb dX11_cell_54 (tgt := 61) rfl (fun hc => ?_) (fun hc => ?_)
          · replace h := ifp h hc
            refine lv_iconst (v := 0) hx hb dX11_cell_61 ki_0 ?_
            replace h := Option.some.inj h
            subst h
            exact rc_i hx hb hr hlocks hS dX11_cell_62 rfl hP
          · replace h := ifn h hc
            refine lv_iconst (v := 1) hx hb dX11_cell_57 ki_1 ?_
            refine lv_goto hx hb dX11_cell_58 (tgt := 62) rfl ?_
            replace h := Option.some.inj h
            subst h
            exact rc_i hx hb hr hlocks hS dX11_cell_62 rfl hP
        · replace h := ifp h ((lg_cmp_eq _ _).mp hc)
          refine lv_bipush (v := (-2)) hx hb dX11_cell_40 kb_m2 ?_
          replace h := Option.some.inj h
          subst h
          exact rc_i hx hb hr hlocks hS dX11_cell_42 rfl hP
      · replace h := ifp h hc
        refine lv_iconst (v := (-1)) hx hb dX11_cell_27 ki_m1 ?_
        replace h := Option.some.inj h
        subst h
        exact rc_i hx hb hr hlocks hS dX11_cell_28 rfl hP
noncomputable def cf_number (v1 : Int32) (v2 : Int32) (a_drawers : Nat → Int64) : Option (Int64) :=
  bd1 (cf_isDrawer v1) fun r_1 =>
  if r_1 = 0 then (some (((-1) : Int64))) else
  bd1 (cf_isKind v2) fun r_3 =>
  if r_3 = 0 then (some (((-1) : Int64))) else
  ck v1 8 <|
  if (a_drawers v1.toNatClampNeg) = 0 then (some (((-2) : Int64))) else
  ck v1 8 <|
  bd1 (gr_least (a_drawers v1.toNatClampNeg) v2) fun r_5 =>
  some (r_5)
set_option maxHeartbeats 4000000 in
set_option maxRecDepth 100000 in
theorem c_cf_number (l : Launch) (D : va_G) (ct : Nat → ClassId) (ad : Nat → Nat) (hI : cI ad) {x_fed x_tk x_col x_line x_rcells x_rsize x_len x_cuts x_bare x_place x_lA x_lB x_lC x_fX x_fY x_sX x_sY x_made x_fsize x_psize x_over x_touch x_most x_mU x_mV x_area : Int32} {x_board : Int64} {a_tape a_letters a_oneSided a_free a_ends a_crowds a_wmade a_firsts a_widths a_heights a_places a_next a_pnear a_table a_overlaps : Nat → Int32} {a_drawers a_kept a_items a_numbers a_marks a_near a_figures a_covered a_pcells a_matrix : Nat → Int64} (v1 : Int32) (v2 : Int32) (r : Int64)  (h : cf_number v1 v2 a_drawers = some (r)) : Met l yX11_number (wm yX11_number cX11_number 3 (some .long)) (rmm 4 96) (va_Pc [.ref (ad 0), .int v1, .int v2] (cB D ct ad x_fed x_tk x_col x_line x_rcells x_rsize x_len x_cuts x_bare x_place x_lA x_lB x_lC x_fX x_fY x_sX x_sY x_made x_fsize x_psize x_over x_touch x_most x_mU x_mV x_area x_board a_tape a_letters a_oneSided a_free a_ends a_crowds a_wmade a_firsts a_widths a_heights a_places a_next a_pnear a_table a_overlaps a_drawers a_kept a_items a_numbers a_marks a_near a_figures a_covered a_pcells a_matrix)) (va_Ql (fun z (_ : Unit) => z = r) (fun _ t => cP D ct ad x_fed x_tk x_col x_line x_rcells x_rsize x_len x_cuts x_bare x_place x_lA x_lB x_lC x_fX x_fY x_sX x_sY x_made x_fsize x_psize x_over x_touch x_most x_mU x_mV x_area x_board a_tape a_letters a_oneSided a_free a_ends a_crowds a_wmade a_firsts a_widths a_heights a_places a_next a_pnear a_table a_overlaps a_drawers a_kept a_items a_numbers a_marks a_near a_figures a_covered a_pcells a_matrix t.heap) (cA ad)) 0 0 (cA ad) := by
  refine met_s (y := yX11_number) (rm := rmm 4 96) (by decide) (Nat.le_of_ble_eq_true rfl) ?_
  intro p e s m below meth c hx hb hr hw hown hlocks _ hml hB ls hl
  obtain ⟨hN, hK, hP⟩ := hB
  replace hl : lv_has ls 3 [(0, .ref (ad 0)), (1, .int v1), (2, .int v2)] := hl
  have hS : va_S (cA ad) s.heap s.heap [] := va_S.rf
  generalize (([.ref (ad 0), .int v1, .int v2] : List Value).toArray) = av at hw ⊢
  rw [cf_number] at h
  refine lv_iload_n hx hb dX11_number_0 rfl (lv_at hl 1 rfl) ?_
  obtain ⟨r_7, hr_8, h⟩ := bd1_s h
  refine sc_i hx hb hml hown hw hN (c_cf_isDrawer l v1 r_7 hr_8) g_RX11_91 hd_X11_isDrawer (rest := []) hl.1 hS dX11_number_1 rfl rfl ⟨Nat.le_of_ble_eq_true rfl, Nat.le_of_ble_eq_true rfl⟩ rfl rfl (Nat.le_of_ble_eq_true rfl) ⟨Nat.zero_le _, Nat.zero_le _⟩ (fun H locs hk hS => ?_)
  have hP := cP_kept hP hk
  refine lv_if_eq hx hb dX11_number_4 (tgt := 14) rfl (fun hc => ?_) (fun hc => ?_)
  · replace h := ifp h hc
    refine lv_ldc2 hx hb hown (hw _ tw_19_13) dX11_number_14 ?_
    replace h := Option.some.inj h
    subst h
    exact rc_l hx hb hr hlocks hS dX11_number_17 rfl hP
  · replace h := ifn h hc
    refine lv_iload_n hx hb dX11_number_7 rfl (lv_at hl 2 rfl) ?_
    obtain ⟨r_9, hr_10, h⟩ := bd1_s h
    refine sc_i hx hb hml hown hw hN (c_cf_isKind l v2 r_9 hr_10) g_RX11_127 hd_X11_isKind (rest := []) hl.1 hS dX11_number_8 rfl rfl ⟨Nat.le_of_ble_eq_true rfl, Nat.le_of_ble_eq_true rfl⟩ rfl rfl (Nat.le_of_ble_eq_true rfl) ⟨Nat.zero_le _, Nat.zero_le _⟩ (fun H locs hk hS => ?_)
    have hP := cP_kept hP hk
    refine lv_if_ne hx hb dX11_number_11 (tgt := 18) rfl (fun hc => ?_) (fun hc => ?_)
    · replace h := ifn h hc
      refine lv_aload_n hx hb dX11_number_18 rfl (lv_at hl 0 rfl) ?_
      refine cg_CF_1 hx hb hw hown hK hP dX11_number_19 ?_
      refine lv_iload_n hx hb dX11_number_22 rfl (lv_at hl 1 rfl) ?_
      obtain ⟨hin, h⟩ := ck_s h
      refine cd_drawers hx hb hK hP hin dX11_number_23 ?_
      refine lv_lconst (v := 0) hx hb dX11_number_24 kl_0 ?_
      refine W.lcmp hx hb dX11_number_25 ?_
      refine lv_if_ne hx hb dX11_number_26 (tgt := 35) rfl (fun hc => ?_) (fun hc => ?_)
      · replace h := ifn h (fun q => hc ((lg_cmp_eq _ _).mpr q))
        refine lv_aload_n hx hb dX11_number_35 rfl (lv_at hl 0 rfl) ?_
        refine cg_CF_1 hx hb hw hown hK hP dX11_number_36 ?_
        refine lv_iload_n hx hb dX11_number_39 rfl (lv_at hl 1 rfl) ?_
        obtain ⟨hin, h⟩ := ck_s h
        refine cd_drawers hx hb hK hP hin dX11_number_40 ?_
        refine lv_iload_n hx hb dX11_number_41 rfl (lv_at hl 2 rfl) ?_
        obtain ⟨r_11, hr_12, h⟩ := bd1_s h
        refine sc_l hx hb hml hown hw hN (c_gr_least l (a_drawers v1.toNatClampNeg) v2 r_11 hr_12) g_RX11_134 hd_X2_least (rest := []) hl.1 hS dX11_number_42 rfl rfl ⟨Nat.le_of_ble_eq_true rfl, Nat.le_of_ble_eq_true rfl⟩ rfl rfl (Nat.le_of_ble_eq_true rfl) ⟨Nat.zero_le _, Nat.zero_le _⟩ (fun H locs hk hS => ?_)
        have hP := cP_kept hP hk
        replace h := Option.some.inj h
        subst h
        exact rc_l hx hb hr hlocks hS dX11_number_45 rfl hP
      · replace h := ifp h ((lg_cmp_eq _ _).mp hc)
        refine lv_ldc2 hx hb hown (hw _ tw_19_14) dX11_number_29 ?_
        refine lv_goto hx hb dX11_number_32 (tgt := 45) rfl ?_
        replace h := Option.some.inj h
        subst h
        exact rc_l hx hb hr hlocks hS dX11_number_45 rfl hP
    · replace h := ifp h hc
      refine lv_ldc2 hx hb hown (hw _ tw_19_13) dX11_number_14 ?_
      replace h := Option.some.inj h
      subst h
      exact rc_l hx hb hr hlocks hS dX11_number_17 rfl hP
noncomputable def cf_turn (v1 : Int32) (v2 : Int32) (a_drawers : Nat → Int64) : Option (Int64 × (Nat → Int64)) :=
  bd1 (cf_isDrawer v1) fun r_1 =>
  if r_1 = 0 then (some (((-1) : Int64), a_drawers)) else
  bd1 (cf_within v2 0 7) fun r_3 =>
  if r_3 = 0 then (some (((-1) : Int64), a_drawers)) else
  ck v1 8 <|
  if (a_drawers v1.toNatClampNeg) = 0 then (some (((-2) : Int64), a_drawers)) else
  ck v1 8 <|
  bd1 (gr_turned (a_drawers v1.toNatClampNeg) v2) fun r_5 =>
  ck v1 8 <|
  nm (vp_updL a_drawers v1.toNatClampNeg r_5) fun a_drawers_7 =>
  ck v1 8 <|
  some (a_drawers_7 v1.toNatClampNeg, a_drawers_7)
set_option maxHeartbeats 4000000 in
set_option maxRecDepth 100000 in
theorem c_cf_turn (l : Launch) (D : va_G) (ct : Nat → ClassId) (ad : Nat → Nat) (hI : cI ad) {x_fed x_tk x_col x_line x_rcells x_rsize x_len x_cuts x_bare x_place x_lA x_lB x_lC x_fX x_fY x_sX x_sY x_made x_fsize x_psize x_over x_touch x_most x_mU x_mV x_area : Int32} {x_board : Int64} {a_tape a_letters a_oneSided a_free a_ends a_crowds a_wmade a_firsts a_widths a_heights a_places a_next a_pnear a_table a_overlaps : Nat → Int32} {a_drawers a_kept a_items a_numbers a_marks a_near a_figures a_covered a_pcells a_matrix : Nat → Int64} (v1 : Int32) (v2 : Int32) (r : Int64) (z_a_drawers : Nat → Int64) (h : cf_turn v1 v2 a_drawers = some (r, z_a_drawers)) : Met l yX11_turn (wm yX11_turn cX11_turn 3 (some .long)) (rmm 4 94) (va_Pc [.ref (ad 0), .int v1, .int v2] (cB D ct ad x_fed x_tk x_col x_line x_rcells x_rsize x_len x_cuts x_bare x_place x_lA x_lB x_lC x_fX x_fY x_sX x_sY x_made x_fsize x_psize x_over x_touch x_most x_mU x_mV x_area x_board a_tape a_letters a_oneSided a_free a_ends a_crowds a_wmade a_firsts a_widths a_heights a_places a_next a_pnear a_table a_overlaps a_drawers a_kept a_items a_numbers a_marks a_near a_figures a_covered a_pcells a_matrix)) (va_Ql (fun z (_ : Unit) => z = r) (fun _ t => cP D ct ad x_fed x_tk x_col x_line x_rcells x_rsize x_len x_cuts x_bare x_place x_lA x_lB x_lC x_fX x_fY x_sX x_sY x_made x_fsize x_psize x_over x_touch x_most x_mU x_mV x_area x_board a_tape a_letters a_oneSided a_free a_ends a_crowds a_wmade a_firsts a_widths a_heights a_places a_next a_pnear a_table a_overlaps z_a_drawers a_kept a_items a_numbers a_marks a_near a_figures a_covered a_pcells a_matrix t.heap) (cA ad)) 0 0 (cA ad) := by
  refine met_s (y := yX11_turn) (rm := rmm 4 94) (by decide) (Nat.le_of_ble_eq_true rfl) ?_
  intro p e s m below meth c hx hb hr hw hown hlocks _ hml hB ls hl
  obtain ⟨hN, hK, hP⟩ := hB
  replace hl : lv_has ls 3 [(0, .ref (ad 0)), (1, .int v1), (2, .int v2)] := hl
  have hS : va_S (cA ad) s.heap s.heap [] := va_S.rf
  generalize (([.ref (ad 0), .int v1, .int v2] : List Value).toArray) = av at hw ⊢
  rw [cf_turn] at h
  refine lv_iload_n hx hb dX11_turn_0 rfl (lv_at hl 1 rfl) ?_
  obtain ⟨r_8, hr_9, h⟩ := bd1_s h
  refine sc_i hx hb hml hown hw hN (c_cf_isDrawer l v1 r_8 hr_9) g_RX11_91 hd_X11_isDrawer (rest := []) hl.1 hS dX11_turn_1 rfl rfl ⟨Nat.le_of_ble_eq_true rfl, Nat.le_of_ble_eq_true rfl⟩ rfl rfl (Nat.le_of_ble_eq_true rfl) ⟨Nat.zero_le _, Nat.zero_le _⟩ (fun H locs hk hS => ?_)
  have hP := cP_kept hP hk
  refine lv_if_eq hx hb dX11_turn_4 (tgt := 17) rfl (fun hc => ?_) (fun hc => ?_)
  · replace h := ifp h hc
    refine lv_ldc2 hx hb hown (hw _ tw_19_13) dX11_turn_17 ?_
    simp only [Option.some.injEq, Prod.mk.injEq] at h
    obtain ⟨rfl, rfl⟩ := h
    exact rc_l hx hb hr hlocks hS dX11_turn_20 rfl hP
  · replace h := ifn h hc
    refine lv_iload_n hx hb dX11_turn_7 rfl (lv_at hl 2 rfl) ?_
    refine lv_iconst (v := 0) hx hb dX11_turn_8 ki_0 ?_
    refine lv_bipush (v := 7) hx hb dX11_turn_9 kb_7 ?_
    obtain ⟨r_10, hr_11, h⟩ := bd1_s h
    refine sc_i hx hb hml hown hw hN (c_cf_within l v2 0 7 r_10 hr_11) g_RX11_95 hd_X11_within (rest := []) hl.1 hS dX11_turn_11 rfl rfl ⟨Nat.le_of_ble_eq_true rfl, Nat.le_of_ble_eq_true rfl⟩ rfl rfl (Nat.le_of_ble_eq_true rfl) ⟨Nat.zero_le _, Nat.zero_le _⟩ (fun H locs hk hS => ?_)
    have hP := cP_kept hP hk
    refine lv_if_ne hx hb dX11_turn_14 (tgt := 21) rfl (fun hc => ?_) (fun hc => ?_)
    · replace h := ifn h hc
      refine lv_aload_n hx hb dX11_turn_21 rfl (lv_at hl 0 rfl) ?_
      refine cg_CF_1 hx hb hw hown hK hP dX11_turn_22 ?_
      refine lv_iload_n hx hb dX11_turn_25 rfl (lv_at hl 1 rfl) ?_
      obtain ⟨hin, h⟩ := ck_s h
      refine cd_drawers hx hb hK hP hin dX11_turn_26 ?_
      refine lv_lconst (v := 0) hx hb dX11_turn_27 kl_0 ?_
      refine W.lcmp hx hb dX11_turn_28 ?_
      refine lv_if_ne hx hb dX11_turn_29 (tgt := 36) rfl (fun hc => ?_) (fun hc => ?_)
      · replace h := ifn h (fun q => hc ((lg_cmp_eq _ _).mpr q))
        refine lv_aload_n hx hb dX11_turn_36 rfl (lv_at hl 0 rfl) ?_
        refine cg_CF_1 hx hb hw hown hK hP dX11_turn_37 ?_
        refine lv_iload_n hx hb dX11_turn_40 rfl (lv_at hl 1 rfl) ?_
        refine lv_aload_n hx hb dX11_turn_41 rfl (lv_at hl 0 rfl) ?_
        refine cg_CF_1 hx hb hw hown hK hP dX11_turn_42 ?_
        refine lv_iload_n hx hb dX11_turn_45 rfl (lv_at hl 1 rfl) ?_
        obtain ⟨hin, h⟩ := ck_s h
        refine cd_drawers hx hb hK hP hin dX11_turn_46 ?_
        refine lv_iload_n hx hb dX11_turn_47 rfl (lv_at hl 2 rfl) ?_
        obtain ⟨r_12, hr_13, h⟩ := bd1_s h
        refine sc_l hx hb hml hown hw hN (c_gr_turned l (a_drawers v1.toNatClampNeg) v2 r_12 hr_13) g_RX11_138 hd_X2_turned (rest := [.int v1, .ref (ad 2)]) hl.1 hS dX11_turn_48 rfl rfl ⟨Nat.le_of_ble_eq_true rfl, Nat.le_of_ble_eq_true rfl⟩ rfl rfl (Nat.le_of_ble_eq_true rfl) ⟨Nat.zero_le _, Nat.zero_le _⟩ (fun H locs hk hS => ?_)
        have hP := cP_kept hP hk
        obtain ⟨hin, h⟩ := ck_s h
        obtain ⟨a_drawers_14, ea_drawers_14, h⟩ := nm_s h
        refine cs_drawers hx hb hK hP hI hS hin ea_drawers_14 dX11_turn_51 (fun H locs hP hS => ?_)
        refine lv_aload_n hx hb dX11_turn_52 rfl (lv_at hl 0 rfl) ?_
        refine cg_CF_1 hx hb hw hown hK hP dX11_turn_53 ?_
        refine lv_iload_n hx hb dX11_turn_56 rfl (lv_at hl 1 rfl) ?_
        obtain ⟨hin, h⟩ := ck_s h
        refine cd_drawers hx hb hK hP hin dX11_turn_57 ?_
        simp only [Option.some.injEq, Prod.mk.injEq] at h
        obtain ⟨rfl, rfl⟩ := h
        exact rc_l hx hb hr hlocks hS dX11_turn_58 rfl hP
      · replace h := ifp h ((lg_cmp_eq _ _).mp hc)
        refine lv_ldc2 hx hb hown (hw _ tw_19_14) dX11_turn_32 ?_
        simp only [Option.some.injEq, Prod.mk.injEq] at h
        obtain ⟨rfl, rfl⟩ := h
        exact rc_l hx hb hr hlocks hS dX11_turn_35 rfl hP
    · replace h := ifp h hc
      refine lv_ldc2 hx hb hown (hw _ tw_19_13) dX11_turn_17 ?_
      simp only [Option.some.injEq, Prod.mk.injEq] at h
      obtain ⟨rfl, rfl⟩ := h
      exact rc_l hx hb hr hlocks hS dX11_turn_20 rfl hP
