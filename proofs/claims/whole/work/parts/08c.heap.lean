noncomputable def me_measured (v1 : Int32) (x_over : Int32) (x_touch : Int32) (x_most : Int32) (x_mU : Int32) (x_mV : Int32) (x_area : Int32) : Option (Int32) :=
  if v1 = 0 then (some (x_over)) else
  if v1 = 1 then (some (x_touch)) else
  if v1 = 2 then (some (x_most)) else
  if v1 = 3 then (some (x_mU + 10)) else
  if v1 = 4 then (some (x_mV + 10)) else
  some (x_area)
set_option maxHeartbeats 4000000 in
set_option maxRecDepth 100000 in
theorem c_me_measured (l : Launch) (D : va_G) (ct : Nat → ClassId) (ad : Nat → Nat) (hI : cI ad) {x_fed x_tk x_col x_line x_rcells x_rsize x_len x_cuts x_bare x_place x_lA x_lB x_lC x_fX x_fY x_sX x_sY x_made x_fsize x_psize x_over x_touch x_most x_mU x_mV x_area : Int32} {x_board : Int64} {a_tape a_letters a_oneSided a_free a_ends a_crowds a_wmade a_firsts a_widths a_heights a_places a_next a_pnear a_table a_overlaps : Nat → Int32} {a_drawers a_kept a_items a_numbers a_marks a_near a_figures a_covered a_pcells a_matrix : Nat → Int64} (v1 : Int32) (r : Int32)  (h : me_measured v1 x_over x_touch x_most x_mU x_mV x_area = some (r)) : Met l yX4_measured (wm yX4_measured cX4_measured 2 (some .int)) (rmm 0 0) (va_Pc [.ref (ad 32), .int v1] (cB D ct ad x_fed x_tk x_col x_line x_rcells x_rsize x_len x_cuts x_bare x_place x_lA x_lB x_lC x_fX x_fY x_sX x_sY x_made x_fsize x_psize x_over x_touch x_most x_mU x_mV x_area x_board a_tape a_letters a_oneSided a_free a_ends a_crowds a_wmade a_firsts a_widths a_heights a_places a_next a_pnear a_table a_overlaps a_drawers a_kept a_items a_numbers a_marks a_near a_figures a_covered a_pcells a_matrix)) (va_Qi (fun z (_ : Unit) => z = r) (fun _ t => cP D ct ad x_fed x_tk x_col x_line x_rcells x_rsize x_len x_cuts x_bare x_place x_lA x_lB x_lC x_fX x_fY x_sX x_sY x_made x_fsize x_psize x_over x_touch x_most x_mU x_mV x_area x_board a_tape a_letters a_oneSided a_free a_ends a_crowds a_wmade a_firsts a_widths a_heights a_places a_next a_pnear a_table a_overlaps a_drawers a_kept a_items a_numbers a_marks a_near a_figures a_covered a_pcells a_matrix t.heap) (cA ad)) 0 0 (cA ad) := by
  refine met_s (y := yX4_measured) (rm := rmm 0 0) (by decide) (Nat.le_of_ble_eq_true rfl) ?_
  intro p e s m below meth c hx hb hr hw hown hlocks _ hml hB ls hl
  obtain ⟨hN, hK, hP⟩ := hB
  replace hl : lv_has ls 2 [(0, .ref (ad 32)), (1, .int v1)] := hl
  have hS : va_S (cA ad) s.heap s.heap [] := va_S.rf
  generalize (([.ref (ad 32), .int v1] : List Value).toArray) = av at hw ⊢
  rw [me_measured] at h
  refine lv_iload_n hx hb dX4_measured_0 rfl (lv_at hl 1 rfl) ?_
  by_cases hc0 : v1 = 0
  · replace h := ifp h hc0
    refine lv_tableIn hx hb dX4_measured_1 (by rw [hc0]; decide) (by rw [hc0]; decide) (by rw [hc0]; rfl) (tgt := 36) rfl ?_
    refine lv_aload_n hx hb dX4_measured_36 rfl (lv_at hl 0 rfl) ?_
    refine cg_ME_1 hx hb hw hown hK hP dX4_measured_37 ?_
    replace h := Option.some.inj h
    subst h
    exact rc_i hx hb hr hlocks hS dX4_measured_40 rfl hP
  replace h := ifn h hc0
  by_cases hc1 : v1 = 1
  · replace h := ifp h hc1
    refine lv_tableIn hx hb dX4_measured_1 (by rw [hc1]; decide) (by rw [hc1]; decide) (by rw [hc1]; rfl) (tgt := 41) rfl ?_
    refine lv_aload_n hx hb dX4_measured_41 rfl (lv_at hl 0 rfl) ?_
    refine cg_ME_2 hx hb hw hown hK hP dX4_measured_42 ?_
    replace h := Option.some.inj h
    subst h
    exact rc_i hx hb hr hlocks hS dX4_measured_45 rfl hP
  replace h := ifn h hc1
  by_cases hc2 : v1 = 2
  · replace h := ifp h hc2
    refine lv_tableIn hx hb dX4_measured_1 (by rw [hc2]; decide) (by rw [hc2]; decide) (by rw [hc2]; rfl) (tgt := 46) rfl ?_
    refine lv_aload_n hx hb dX4_measured_46 rfl (lv_at hl 0 rfl) ?_
    refine cg_ME_3 hx hb hw hown hK hP dX4_measured_47 ?_
    replace h := Option.some.inj h
    subst h
    exact rc_i hx hb hr hlocks hS dX4_measured_50 rfl hP
  replace h := ifn h hc2
  by_cases hc3 : v1 = 3
  · replace h := ifp h hc3
    refine lv_tableIn hx hb dX4_measured_1 (by rw [hc3]; decide) (by rw [hc3]; decide) (by rw [hc3]; rfl) (tgt := 51) rfl ?_
    refine lv_aload_n hx hb dX4_measured_51 rfl (lv_at hl 0 rfl) ?_
    refine cg_ME_4 hx hb hw hown hK hP dX4_measured_52 ?_
    refine lv_bipush (v := 10) hx hb dX4_measured_55 kb_10 ?_
    refine lv_iadd hx hb dX4_measured_57 ?_
    replace h := Option.some.inj h
    subst h
    exact rc_i hx hb hr hlocks hS dX4_measured_58 rfl hP
  replace h := ifn h hc3
  by_cases hc4 : v1 = 4
  · replace h := ifp h hc4
    refine lv_tableIn hx hb dX4_measured_1 (by rw [hc4]; decide) (by rw [hc4]; decide) (by rw [hc4]; rfl) (tgt := 59) rfl ?_
    refine lv_aload_n hx hb dX4_measured_59 rfl (lv_at hl 0 rfl) ?_
    refine cg_ME_5 hx hb hw hown hK hP dX4_measured_60 ?_
    refine lv_bipush (v := 10) hx hb dX4_measured_63 kb_10 ?_
    refine lv_iadd hx hb dX4_measured_65 ?_
    replace h := Option.some.inj h
    subst h
    exact rc_i hx hb hr hlocks hS dX4_measured_66 rfl hP
  replace h := ifn h hc4
  have q0 := lv_neT (k := 0) hc0 (a := 0) (by decide)
  have q1 := lv_neT (k := 1) hc1 (a := 1) (by decide)
  have q2 := lv_neT (k := 2) hc2 (a := 2) (by decide)
  have q3 := lv_neT (k := 3) hc3 (a := 3) (by decide)
  have q4 := lv_neT (k := 4) hc4 (a := 4) (by decide)
  refine lv_tableOut hx hb dX4_measured_1 (by omega) (tgt := 67) rfl ?_
  refine lv_aload_n hx hb dX4_measured_67 rfl (lv_at hl 0 rfl) ?_
  refine cg_ME_6 hx hb hw hown hK hP dX4_measured_68 ?_
  replace h := Option.some.inj h
  subst h
  exact rc_i hx hb hr hlocks hS dX4_measured_71 rfl hP
noncomputable def ol_length (x_len : Int32) : Option (Int32) :=
  some (x_len)
set_option maxHeartbeats 4000000 in
set_option maxRecDepth 100000 in
theorem c_ol_length (l : Launch) (D : va_G) (ct : Nat → ClassId) (ad : Nat → Nat) (hI : cI ad) {x_fed x_tk x_col x_line x_rcells x_rsize x_len x_cuts x_bare x_place x_lA x_lB x_lC x_fX x_fY x_sX x_sY x_made x_fsize x_psize x_over x_touch x_most x_mU x_mV x_area : Int32} {x_board : Int64} {a_tape a_letters a_oneSided a_free a_ends a_crowds a_wmade a_firsts a_widths a_heights a_places a_next a_pnear a_table a_overlaps : Nat → Int32} {a_drawers a_kept a_items a_numbers a_marks a_near a_figures a_covered a_pcells a_matrix : Nat → Int64}  (r : Int32)  (h : ol_length x_len = some (r)) : Met l yX5_length (wm yX5_length cX5_length 1 (some .int)) (rmm 0 0) (va_Pc [.ref (ad 7)] (cB D ct ad x_fed x_tk x_col x_line x_rcells x_rsize x_len x_cuts x_bare x_place x_lA x_lB x_lC x_fX x_fY x_sX x_sY x_made x_fsize x_psize x_over x_touch x_most x_mU x_mV x_area x_board a_tape a_letters a_oneSided a_free a_ends a_crowds a_wmade a_firsts a_widths a_heights a_places a_next a_pnear a_table a_overlaps a_drawers a_kept a_items a_numbers a_marks a_near a_figures a_covered a_pcells a_matrix)) (va_Qi (fun z (_ : Unit) => z = r) (fun _ t => cP D ct ad x_fed x_tk x_col x_line x_rcells x_rsize x_len x_cuts x_bare x_place x_lA x_lB x_lC x_fX x_fY x_sX x_sY x_made x_fsize x_psize x_over x_touch x_most x_mU x_mV x_area x_board a_tape a_letters a_oneSided a_free a_ends a_crowds a_wmade a_firsts a_widths a_heights a_places a_next a_pnear a_table a_overlaps a_drawers a_kept a_items a_numbers a_marks a_near a_figures a_covered a_pcells a_matrix t.heap) (cA ad)) 0 0 (cA ad) := by
  refine met_s (y := yX5_length) (rm := rmm 0 0) (by decide) (Nat.le_of_ble_eq_true rfl) ?_
  intro p e s m below meth c hx hb hr hw hown hlocks _ hml hB ls hl
  obtain ⟨hN, hK, hP⟩ := hB
  replace hl : lv_has ls 1 [(0, .ref (ad 7))] := hl
  have hS : va_S (cA ad) s.heap s.heap [] := va_S.rf
  generalize (([.ref (ad 7)] : List Value).toArray) = av at hw ⊢
  rw [ol_length] at h
  refine lv_aload_n hx hb dX5_length_0 rfl (lv_at hl 0 rfl) ?_
  refine cg_OL_1 hx hb hw hown hK hP dX5_length_1 ?_
  replace h := Option.some.inj h
  subst h
  exact rc_i hx hb hr hlocks hS dX5_length_4 rfl hP
noncomputable def ol_letter (v1 : Int32) (a_letters : Nat → Int32) : Option (Int32) :=
  bd1 (cf_within v1 0 51) fun r_1 =>
  if r_1 = 0 then (some ((-1))) else
  ck v1 52 <|
  some (a_letters v1.toNatClampNeg)
set_option maxHeartbeats 4000000 in
set_option maxRecDepth 100000 in
theorem c_ol_letter (l : Launch) (D : va_G) (ct : Nat → ClassId) (ad : Nat → Nat) (hI : cI ad) {x_fed x_tk x_col x_line x_rcells x_rsize x_len x_cuts x_bare x_place x_lA x_lB x_lC x_fX x_fY x_sX x_sY x_made x_fsize x_psize x_over x_touch x_most x_mU x_mV x_area : Int32} {x_board : Int64} {a_tape a_letters a_oneSided a_free a_ends a_crowds a_wmade a_firsts a_widths a_heights a_places a_next a_pnear a_table a_overlaps : Nat → Int32} {a_drawers a_kept a_items a_numbers a_marks a_near a_figures a_covered a_pcells a_matrix : Nat → Int64} (v1 : Int32) (r : Int32)  (h : ol_letter v1 a_letters = some (r)) : Met l yX5_letter (wm yX5_letter cX5_letter 2 (some .int)) (rmm 1 22) (va_Pc [.ref (ad 7), .int v1] (cB D ct ad x_fed x_tk x_col x_line x_rcells x_rsize x_len x_cuts x_bare x_place x_lA x_lB x_lC x_fX x_fY x_sX x_sY x_made x_fsize x_psize x_over x_touch x_most x_mU x_mV x_area x_board a_tape a_letters a_oneSided a_free a_ends a_crowds a_wmade a_firsts a_widths a_heights a_places a_next a_pnear a_table a_overlaps a_drawers a_kept a_items a_numbers a_marks a_near a_figures a_covered a_pcells a_matrix)) (va_Qi (fun z (_ : Unit) => z = r) (fun _ t => cP D ct ad x_fed x_tk x_col x_line x_rcells x_rsize x_len x_cuts x_bare x_place x_lA x_lB x_lC x_fX x_fY x_sX x_sY x_made x_fsize x_psize x_over x_touch x_most x_mU x_mV x_area x_board a_tape a_letters a_oneSided a_free a_ends a_crowds a_wmade a_firsts a_widths a_heights a_places a_next a_pnear a_table a_overlaps a_drawers a_kept a_items a_numbers a_marks a_near a_figures a_covered a_pcells a_matrix t.heap) (cA ad)) 0 0 (cA ad) := by
  refine met_s (y := yX5_letter) (rm := rmm 1 22) (by decide) (Nat.le_of_ble_eq_true rfl) ?_
  intro p e s m below meth c hx hb hr hw hown hlocks _ hml hB ls hl
  obtain ⟨hN, hK, hP⟩ := hB
  replace hl : lv_has ls 2 [(0, .ref (ad 7)), (1, .int v1)] := hl
  have hS : va_S (cA ad) s.heap s.heap [] := va_S.rf
  generalize (([.ref (ad 7), .int v1] : List Value).toArray) = av at hw ⊢
  rw [ol_letter] at h
  refine lv_iload_n hx hb dX5_letter_0 rfl (lv_at hl 1 rfl) ?_
  refine lv_iconst (v := 0) hx hb dX5_letter_1 ki_0 ?_
  refine lv_bipush (v := 51) hx hb dX5_letter_2 kb_51 ?_
  obtain ⟨r_3, hr_4, h⟩ := bd1_s h
  refine sn_i hx hb hml hown hw hN (c_cf_within l v1 0 51 r_3 hr_4) nq_RX5_19 tw_9_21 tw_9_20 tw_1_2 hd_X11_within (rest := []) hl.1 hS dX5_letter_4 rfl rfl ⟨Nat.le_of_ble_eq_true rfl, Nat.le_of_ble_eq_true rfl⟩ rfl rfl (Nat.le_of_ble_eq_true rfl) ⟨Nat.zero_le _, Nat.zero_le _⟩ (fun H locs hk hS => ?_)
  have hP := cP_kept hP hk
  refine lv_if_eq hx hb dX5_letter_7 (tgt := 19) rfl (fun hc => ?_) (fun hc => ?_)
  · replace h := ifp h hc
    refine lv_iconst (v := (-1)) hx hb dX5_letter_19 ki_m1 ?_
    replace h := Option.some.inj h
    subst h
    exact rc_i hx hb hr hlocks hS dX5_letter_20 rfl hP
  · replace h := ifn h hc
    refine lv_aload_n hx hb dX5_letter_10 rfl (lv_at hl 0 rfl) ?_
    refine cg_OL_0 hx hb hw hown hK hP dX5_letter_11 ?_
    refine lv_iload_n hx hb dX5_letter_14 rfl (lv_at hl 1 rfl) ?_
    obtain ⟨hin, h⟩ := ck_s h
    refine cd_letters hx hb hK hP hin dX5_letter_15 ?_
    refine lv_goto hx hb dX5_letter_16 (tgt := 20) rfl ?_
    replace h := Option.some.inj h
    subst h
    exact rc_i hx hb hr hlocks hS dX5_letter_20 rfl hP
noncomputable def ol_cuttings (x_cuts : Int32) : Option (Int32) :=
  some (x_cuts)
set_option maxHeartbeats 4000000 in
set_option maxRecDepth 100000 in
theorem c_ol_cuttings (l : Launch) (D : va_G) (ct : Nat → ClassId) (ad : Nat → Nat) (hI : cI ad) {x_fed x_tk x_col x_line x_rcells x_rsize x_len x_cuts x_bare x_place x_lA x_lB x_lC x_fX x_fY x_sX x_sY x_made x_fsize x_psize x_over x_touch x_most x_mU x_mV x_area : Int32} {x_board : Int64} {a_tape a_letters a_oneSided a_free a_ends a_crowds a_wmade a_firsts a_widths a_heights a_places a_next a_pnear a_table a_overlaps : Nat → Int32} {a_drawers a_kept a_items a_numbers a_marks a_near a_figures a_covered a_pcells a_matrix : Nat → Int64}  (r : Int32)  (h : ol_cuttings x_cuts = some (r)) : Met l yX5_cuttings (wm yX5_cuttings cX5_cuttings 1 (some .int)) (rmm 0 0) (va_Pc [.ref (ad 7)] (cB D ct ad x_fed x_tk x_col x_line x_rcells x_rsize x_len x_cuts x_bare x_place x_lA x_lB x_lC x_fX x_fY x_sX x_sY x_made x_fsize x_psize x_over x_touch x_most x_mU x_mV x_area x_board a_tape a_letters a_oneSided a_free a_ends a_crowds a_wmade a_firsts a_widths a_heights a_places a_next a_pnear a_table a_overlaps a_drawers a_kept a_items a_numbers a_marks a_near a_figures a_covered a_pcells a_matrix)) (va_Qi (fun z (_ : Unit) => z = r) (fun _ t => cP D ct ad x_fed x_tk x_col x_line x_rcells x_rsize x_len x_cuts x_bare x_place x_lA x_lB x_lC x_fX x_fY x_sX x_sY x_made x_fsize x_psize x_over x_touch x_most x_mU x_mV x_area x_board a_tape a_letters a_oneSided a_free a_ends a_crowds a_wmade a_firsts a_widths a_heights a_places a_next a_pnear a_table a_overlaps a_drawers a_kept a_items a_numbers a_marks a_near a_figures a_covered a_pcells a_matrix t.heap) (cA ad)) 0 0 (cA ad) := by
  refine met_s (y := yX5_cuttings) (rm := rmm 0 0) (by decide) (Nat.le_of_ble_eq_true rfl) ?_
  intro p e s m below meth c hx hb hr hw hown hlocks _ hml hB ls hl
  obtain ⟨hN, hK, hP⟩ := hB
  replace hl : lv_has ls 1 [(0, .ref (ad 7))] := hl
  have hS : va_S (cA ad) s.heap s.heap [] := va_S.rf
  generalize (([.ref (ad 7)] : List Value).toArray) = av at hw ⊢
  rw [ol_cuttings] at h
  refine lv_aload_n hx hb dX5_cuttings_0 rfl (lv_at hl 0 rfl) ?_
  refine cg_OL_2 hx hb hw hown hK hP dX5_cuttings_1 ?_
  replace h := Option.some.inj h
  subst h
  exact rc_i hx hb hr hlocks hS dX5_cuttings_4 rfl hP
noncomputable def ol_cutting (v1 : Int32) (x_cuts : Int32) (x_bare : Int32) (x_place : Int32) (x_lA : Int32) (x_lB : Int32) (x_lC : Int32) : Option (Int32) :=
  if v1 = 0 then (some (x_cuts)) else
  if v1 = 1 then (some (x_bare)) else
  if v1 = 2 then (some (x_place)) else
  if v1 = 3 then (some (x_lA)) else
  if v1 = 4 then (some (x_lB)) else
  some (x_lC)
set_option maxHeartbeats 4000000 in
set_option maxRecDepth 100000 in
theorem c_ol_cutting (l : Launch) (D : va_G) (ct : Nat → ClassId) (ad : Nat → Nat) (hI : cI ad) {x_fed x_tk x_col x_line x_rcells x_rsize x_len x_cuts x_bare x_place x_lA x_lB x_lC x_fX x_fY x_sX x_sY x_made x_fsize x_psize x_over x_touch x_most x_mU x_mV x_area : Int32} {x_board : Int64} {a_tape a_letters a_oneSided a_free a_ends a_crowds a_wmade a_firsts a_widths a_heights a_places a_next a_pnear a_table a_overlaps : Nat → Int32} {a_drawers a_kept a_items a_numbers a_marks a_near a_figures a_covered a_pcells a_matrix : Nat → Int64} (v1 : Int32) (r : Int32)  (h : ol_cutting v1 x_cuts x_bare x_place x_lA x_lB x_lC = some (r)) : Met l yX5_cutting (wm yX5_cutting cX5_cutting 2 (some .int)) (rmm 0 0) (va_Pc [.ref (ad 7), .int v1] (cB D ct ad x_fed x_tk x_col x_line x_rcells x_rsize x_len x_cuts x_bare x_place x_lA x_lB x_lC x_fX x_fY x_sX x_sY x_made x_fsize x_psize x_over x_touch x_most x_mU x_mV x_area x_board a_tape a_letters a_oneSided a_free a_ends a_crowds a_wmade a_firsts a_widths a_heights a_places a_next a_pnear a_table a_overlaps a_drawers a_kept a_items a_numbers a_marks a_near a_figures a_covered a_pcells a_matrix)) (va_Qi (fun z (_ : Unit) => z = r) (fun _ t => cP D ct ad x_fed x_tk x_col x_line x_rcells x_rsize x_len x_cuts x_bare x_place x_lA x_lB x_lC x_fX x_fY x_sX x_sY x_made x_fsize x_psize x_over x_touch x_most x_mU x_mV x_area x_board a_tape a_letters a_oneSided a_free a_ends a_crowds a_wmade a_firsts a_widths a_heights a_places a_next a_pnear a_table a_overlaps a_drawers a_kept a_items a_numbers a_marks a_near a_figures a_covered a_pcells a_matrix t.heap) (cA ad)) 0 0 (cA ad) := by
  refine met_s (y := yX5_cutting) (rm := rmm 0 0) (by decide) (Nat.le_of_ble_eq_true rfl) ?_
  intro p e s m below meth c hx hb hr hw hown hlocks _ hml hB ls hl
  obtain ⟨hN, hK, hP⟩ := hB
  replace hl : lv_has ls 2 [(0, .ref (ad 7)), (1, .int v1)] := hl
  have hS : va_S (cA ad) s.heap s.heap [] := va_S.rf
  generalize (([.ref (ad 7), .int v1] : List Value).toArray) = av at hw ⊢
  rw [ol_cutting] at h
  refine lv_iload_n hx hb dX5_cutting_0 rfl (lv_at hl 1 rfl) ?_
  by_cases hc0 : v1 = 0
  · replace h := ifp h hc0
    refine lv_tableIn hx hb dX5_cutting_1 (by rw [hc0]; decide) (by rw [hc0]; decide) (by rw [hc0]; rfl) (tgt := 36) rfl ?_
    refine lv_aload_n hx hb dX5_cutting_36 rfl (lv_at hl 0 rfl) ?_
    refine cg_OL_2 hx hb hw hown hK hP dX5_cutting_37 ?_
    replace h := Option.some.inj h
    subst h
    exact rc_i hx hb hr hlocks hS dX5_cutting_40 rfl hP
  replace h := ifn h hc0
  by_cases hc1 : v1 = 1
  · replace h := ifp h hc1
    refine lv_tableIn hx hb dX5_cutting_1 (by rw [hc1]; decide) (by rw [hc1]; decide) (by rw [hc1]; rfl) (tgt := 41) rfl ?_
    refine lv_aload_n hx hb dX5_cutting_41 rfl (lv_at hl 0 rfl) ?_
    refine cg_OL_3 hx hb hw hown hK hP dX5_cutting_42 ?_
    replace h := Option.some.inj h
    subst h
    exact rc_i hx hb hr hlocks hS dX5_cutting_45 rfl hP
  replace h := ifn h hc1
  by_cases hc2 : v1 = 2
  · replace h := ifp h hc2
    refine lv_tableIn hx hb dX5_cutting_1 (by rw [hc2]; decide) (by rw [hc2]; decide) (by rw [hc2]; rfl) (tgt := 46) rfl ?_
    refine lv_aload_n hx hb dX5_cutting_46 rfl (lv_at hl 0 rfl) ?_
    refine cg_OL_4 hx hb hw hown hK hP dX5_cutting_47 ?_
    replace h := Option.some.inj h
    subst h
    exact rc_i hx hb hr hlocks hS dX5_cutting_50 rfl hP
  replace h := ifn h hc2
  by_cases hc3 : v1 = 3
  · replace h := ifp h hc3
    refine lv_tableIn hx hb dX5_cutting_1 (by rw [hc3]; decide) (by rw [hc3]; decide) (by rw [hc3]; rfl) (tgt := 51) rfl ?_
    refine lv_aload_n hx hb dX5_cutting_51 rfl (lv_at hl 0 rfl) ?_
    refine cg_OL_5 hx hb hw hown hK hP dX5_cutting_52 ?_
    replace h := Option.some.inj h
    subst h
    exact rc_i hx hb hr hlocks hS dX5_cutting_55 rfl hP
  replace h := ifn h hc3
  by_cases hc4 : v1 = 4
  · replace h := ifp h hc4
    refine lv_tableIn hx hb dX5_cutting_1 (by rw [hc4]; decide) (by rw [hc4]; decide) (by rw [hc4]; rfl) (tgt := 56) rfl ?_
    refine lv_aload_n hx hb dX5_cutting_56 rfl (lv_at hl 0 rfl) ?_
    refine cg_OL_6 hx hb hw hown hK hP dX5_cutting_57 ?_
    replace h := Option.some.inj h
    subst h
    exact rc_i hx hb hr hlocks hS dX5_cutting_60 rfl hP
  replace h := ifn h hc4
  have q0 := lv_neT (k := 0) hc0 (a := 0) (by decide)
  have q1 := lv_neT (k := 1) hc1 (a := 1) (by decide)
  have q2 := lv_neT (k := 2) hc2 (a := 2) (by decide)
  have q3 := lv_neT (k := 3) hc3 (a := 3) (by decide)
  have q4 := lv_neT (k := 4) hc4 (a := 4) (by decide)
  refine lv_tableOut hx hb dX5_cutting_1 (by omega) (tgt := 61) rfl ?_
  refine lv_aload_n hx hb dX5_cutting_61 rfl (lv_at hl 0 rfl) ?_
  refine cg_OL_7 hx hb hw hown hK hP dX5_cutting_62 ?_
  replace h := Option.some.inj h
  subst h
  exact rc_i hx hb hr hlocks hS dX5_cutting_65 rfl hP
noncomputable def ol_findMoves_J124 (k22 : Int32 → Int32 → Int32 → Int32 → Int32 → Option (Int32 × Int32 × Int32 × Int32)) (x_place : Int32) (x_lA : Int32) (x_lB : Int32) (x_lC : Int32) (a_letters : Nat → Int32) (v1 : Int32) (x_fX : Int32) (x_fY : Int32) (x_sX : Int32) (x_sY : Int32)  : Option (Int32 × Int32 × Int32 × Int32) :=
  nm (v1 + Int32.ofInt 1) fun v1_1 =>
  k22 v1_1 x_fX x_fY x_sX x_sY
noncomputable def ol_findMoves_J90 (k22 : Int32 → Int32 → Int32 → Int32 → Int32 → Option (Int32 × Int32 × Int32 × Int32)) (x_place : Int32) (x_lA : Int32) (x_lB : Int32) (x_lC : Int32) (a_letters : Nat → Int32) (v1 : Int32) (v2 : Int32) (x_fX : Int32) (x_fY : Int32) (x_sX : Int32) (x_sY : Int32)  : Option (Int32 × Int32 × Int32 × Int32) :=
  if v1 < x_lA then (ol_findMoves_J124 k22 x_place x_lA x_lB x_lC a_letters v1 x_fX x_fY x_sX x_sY) else
  bd1 (ol_stepX v2) fun r_2 =>
  nm (x_sX + r_2 : Int32) fun x_sX_4 =>
  bd1 (ol_stepY v2) fun r_5 =>
  nm (x_sY + r_5 : Int32) fun x_sY_7 =>
  ol_findMoves_J124 k22 x_place x_lA x_lB x_lC a_letters v1 x_fX x_fY x_sX_4 x_sY_7
noncomputable def ol_findMoves_B22 (x_place : Int32) (x_lA : Int32) (x_lB : Int32) (x_lC : Int32) (a_letters : Nat → Int32)  (k22 : Int32 → Int32 → Int32 → Int32 → Int32 → Option (Int32 × Int32 × Int32 × Int32)) (v1 : Int32) (x_fX : Int32) (x_fY : Int32) (x_sX : Int32) (x_sY : Int32) : Option (Int32 × Int32 × Int32 × Int32) :=
  if ((x_lA + x_lB) + x_lC) ≤ v1 then (some (x_fX, x_fY, x_sX, x_sY)) else
  bd1 (ol_letter (x_place + v1) a_letters) fun r_8 =>
  if (x_lA + x_lB) ≤ v1 then (ol_findMoves_J90 k22 x_place x_lA x_lB x_lC a_letters v1 r_8 x_fX x_fY x_sX x_sY) else
  bd1 (ol_stepX r_8) fun r_10 =>
  nm (x_fX + r_10 : Int32) fun x_fX_12 =>
  bd1 (ol_stepY r_8) fun r_13 =>
  nm (x_fY + r_13 : Int32) fun x_fY_15 =>
  ol_findMoves_J90 k22 x_place x_lA x_lB x_lC a_letters v1 r_8 x_fX_12 x_fY_15 x_sX x_sY
noncomputable def ol_findMoves (x_place : Int32) (x_lA : Int32) (x_lB : Int32) (x_lC : Int32) (x_fX : Int32) (x_fY : Int32) (x_sX : Int32) (x_sY : Int32) (a_letters : Nat → Int32) : Option (Int32 × Int32 × Int32 × Int32) :=
  fl5 (ol_findMoves_B22 x_place x_lA x_lB x_lC a_letters) FU 0 0 0 0 0
set_option maxHeartbeats 4000000 in
set_option maxRecDepth 100000 in
theorem c_ol_findMoves (l : Launch) (D : va_G) (ct : Nat → ClassId) (ad : Nat → Nat) (hI : cI ad) {x_fed x_tk x_col x_line x_rcells x_rsize x_len x_cuts x_bare x_place x_lA x_lB x_lC x_fX x_fY x_sX x_sY x_made x_fsize x_psize x_over x_touch x_most x_mU x_mV x_area : Int32} {x_board : Int64} {a_tape a_letters a_oneSided a_free a_ends a_crowds a_wmade a_firsts a_widths a_heights a_places a_next a_pnear a_table a_overlaps : Nat → Int32} {a_drawers a_kept a_items a_numbers a_marks a_near a_figures a_covered a_pcells a_matrix : Nat → Int64}   (z_x_fX : Int32) (z_x_fY : Int32) (z_x_sX : Int32) (z_x_sY : Int32) (h : ol_findMoves x_place x_lA x_lB x_lC x_fX x_fY x_sX x_sY a_letters = some (z_x_fX, z_x_fY, z_x_sX, z_x_sY)) : Met l yX5_findMoves (wm yX5_findMoves cX5_findMoves 3 none) (rmm 2 43) (va_Pc [.ref (ad 7)] (cB D ct ad x_fed x_tk x_col x_line x_rcells x_rsize x_len x_cuts x_bare x_place x_lA x_lB x_lC x_fX x_fY x_sX x_sY x_made x_fsize x_psize x_over x_touch x_most x_mU x_mV x_area x_board a_tape a_letters a_oneSided a_free a_ends a_crowds a_wmade a_firsts a_widths a_heights a_places a_next a_pnear a_table a_overlaps a_drawers a_kept a_items a_numbers a_marks a_near a_figures a_covered a_pcells a_matrix)) (va_Qv (fun (_ : Unit) => True) (fun _ t => cP D ct ad x_fed x_tk x_col x_line x_rcells x_rsize x_len x_cuts x_bare x_place x_lA x_lB x_lC z_x_fX z_x_fY z_x_sX z_x_sY x_made x_fsize x_psize x_over x_touch x_most x_mU x_mV x_area x_board a_tape a_letters a_oneSided a_free a_ends a_crowds a_wmade a_firsts a_widths a_heights a_places a_next a_pnear a_table a_overlaps a_drawers a_kept a_items a_numbers a_marks a_near a_figures a_covered a_pcells a_matrix t.heap) (cA ad)) 0 0 (cA ad) := by
  refine met_s (y := yX5_findMoves) (rm := rmm 2 43) (by decide) (Nat.le_of_ble_eq_true rfl) ?_
  intro p e s m below meth c hx hb hr hw hown hlocks _ hml hB ls hl
  obtain ⟨hN, hK, hP⟩ := hB
  replace hl : lv_has ls 3 [(0, .ref (ad 7))] := hl
  have hS : va_S (cA ad) s.heap s.heap [] := va_S.rf
  generalize (([.ref (ad 7)] : List Value).toArray) = av at hw ⊢
  rw [ol_findMoves] at h
  have hL22 : ∀ (x_place : Int32), ∀ (x_lA : Int32), ∀ (x_lB : Int32), ∀ (x_lC : Int32), ∀ (a_letters : Nat → Int32), ∀ (n22 : Nat) (H : Heap) (locs : List Loc) (ls : Array Slot) (v1 : Int32) (x_fX : Int32) (x_fY : Int32) (x_sX : Int32) (x_sY : Int32), lv_has ls 3 [(0, .ref (ad 7)), (1, .int v1)] → cP D ct ad x_fed x_tk x_col x_line x_rcells x_rsize x_len x_cuts x_bare x_place x_lA x_lB x_lC x_fX x_fY x_sX x_sY x_made x_fsize x_psize x_over x_touch x_most x_mU x_mV x_area x_board a_tape a_letters a_oneSided a_free a_ends a_crowds a_wmade a_firsts a_widths a_heights a_places a_next a_pnear a_table a_overlaps a_drawers a_kept a_items a_numbers a_marks a_near a_figures a_covered a_pcells a_matrix H → va_S (cA ad) s.heap H locs → fl5 (ol_findMoves_B22 x_place x_lA x_lB x_lC a_letters) n22 v1 x_fX x_fY x_sX x_sY = some (z_x_fX, z_x_fY, z_x_sX, z_x_sY) → W p l e (rmm 2 43) s m av below meth c H locs 0 0 (MQ below (va_Qv (fun (_ : Unit) => True) (fun _ t => cP D ct ad x_fed x_tk x_col x_line x_rcells x_rsize x_len x_cuts x_bare x_place x_lA x_lB x_lC z_x_fX z_x_fY z_x_sX z_x_sY x_made x_fsize x_psize x_over x_touch x_most x_mU x_mV x_area x_board a_tape a_letters a_oneSided a_free a_ends a_crowds a_wmade a_firsts a_widths a_heights a_places a_next a_pnear a_table a_overlaps a_drawers a_kept a_items a_numbers a_marks a_near a_figures a_covered a_pcells a_matrix t.heap) (cA ad)) av s 0 0 (cA ad)) (F0 m 22 ls []) := by
    intro x_place x_lA x_lB x_lC a_letters n22
    induction n22 with
    | zero => intro H locs ls v1 x_fX x_fY x_sX x_sY hl hP hS h; cases h
    | succ n22 ih22 =>
      intro H locs ls v1 x_fX x_fY x_sX x_sY hl hP hS h
      replace h : ol_findMoves_B22 x_place x_lA x_lB x_lC a_letters (fl5 (ol_findMoves_B22 x_place x_lA x_lB x_lC a_letters) n22) v1 x_fX x_fY x_sX x_sY = some (z_x_fX, z_x_fY, z_x_sX, z_x_sY) := h
      generalize fl5 (ol_findMoves_B22 x_place x_lA x_lB x_lC a_letters) n22 = k22 at h ih22
      have hJ124 : ∀ (H : Heap) (locs : List Loc) (ls : Array Slot) (v1 : Int32) (x_fX : Int32) (x_fY : Int32) (x_sX : Int32) (x_sY : Int32) , lv_has ls 3 [(0, .ref (ad 7)), (1, .int v1)] → cP D ct ad x_fed x_tk x_col x_line x_rcells x_rsize x_len x_cuts x_bare x_place x_lA x_lB x_lC x_fX x_fY x_sX x_sY x_made x_fsize x_psize x_over x_touch x_most x_mU x_mV x_area x_board a_tape a_letters a_oneSided a_free a_ends a_crowds a_wmade a_firsts a_widths a_heights a_places a_next a_pnear a_table a_overlaps a_drawers a_kept a_items a_numbers a_marks a_near a_figures a_covered a_pcells a_matrix H → va_S (cA ad) s.heap H locs → ol_findMoves_J124 k22 x_place x_lA x_lB x_lC a_letters v1 x_fX x_fY x_sX x_sY = some (z_x_fX, z_x_fY, z_x_sX, z_x_sY) → W p l e (rmm 2 43) s m av below meth c H locs 0 0 (MQ below (va_Qv (fun (_ : Unit) => True) (fun _ t => cP D ct ad x_fed x_tk x_col x_line x_rcells x_rsize x_len x_cuts x_bare x_place x_lA x_lB x_lC z_x_fX z_x_fY z_x_sX z_x_sY x_made x_fsize x_psize x_over x_touch x_most x_mU x_mV x_area x_board a_tape a_letters a_oneSided a_free a_ends a_crowds a_wmade a_firsts a_widths a_heights a_places a_next a_pnear a_table a_overlaps a_drawers a_kept a_items a_numbers a_marks a_near a_figures a_covered a_pcells a_matrix t.heap) (cA ad)) av s 0 0 (cA ad)) (F0 m 124 ls []) := by
        intro H locs ls v1 x_fX x_fY x_sX x_sY  hl hP hS h
        rw [ol_findMoves_J124] at h
        obtain ⟨v1_16, ev1_16, h⟩ := nm_s h
        refine lv_iinc hx hb dX5_findMoves_124 hl (k := 1) rfl ev1_16.symm (Nat.le_of_ble_eq_true rfl) (lv' := [(1, .int v1_16), (0, .ref (ad 7))]) rfl (fun ls hl => ?_)
        refine lv_goto hx hb dX5_findMoves_127 (tgt := 22) rfl ?_
        exact ih22 _ _ _ v1_16 x_fX x_fY x_sX x_sY (lv_sub hl [1, 0] rfl) hP hS h
      have hJ90 : ∀ (H : Heap) (locs : List Loc) (ls : Array Slot) (v1 : Int32) (v2 : Int32) (x_fX : Int32) (x_fY : Int32) (x_sX : Int32) (x_sY : Int32) , lv_has ls 3 [(0, .ref (ad 7)), (1, .int v1), (2, .int v2)] → cP D ct ad x_fed x_tk x_col x_line x_rcells x_rsize x_len x_cuts x_bare x_place x_lA x_lB x_lC x_fX x_fY x_sX x_sY x_made x_fsize x_psize x_over x_touch x_most x_mU x_mV x_area x_board a_tape a_letters a_oneSided a_free a_ends a_crowds a_wmade a_firsts a_widths a_heights a_places a_next a_pnear a_table a_overlaps a_drawers a_kept a_items a_numbers a_marks a_near a_figures a_covered a_pcells a_matrix H → va_S (cA ad) s.heap H locs → ol_findMoves_J90 k22 x_place x_lA x_lB x_lC a_letters v1 v2 x_fX x_fY x_sX x_sY = some (z_x_fX, z_x_fY, z_x_sX, z_x_sY) → W p l e (rmm 2 43) s m av below meth c H locs 0 0 (MQ below (va_Qv (fun (_ : Unit) => True) (fun _ t => cP D ct ad x_fed x_tk x_col x_line x_rcells x_rsize x_len x_cuts x_bare x_place x_lA x_lB x_lC z_x_fX z_x_fY z_x_sX z_x_sY x_made x_fsize x_psize x_over x_touch x_most x_mU x_mV x_area x_board a_tape a_letters a_oneSided a_free a_ends a_crowds a_wmade a_firsts a_widths a_heights a_places a_next a_pnear a_table a_overlaps a_drawers a_kept a_items a_numbers a_marks a_near a_figures a_covered a_pcells a_matrix t.heap) (cA ad)) av s 0 0 (cA ad)) (F0 m 90 ls []) := by
        intro H locs ls v1 v2 x_fX x_fY x_sX x_sY  hl hP hS h
        rw [ol_findMoves_J90] at h
        refine lv_iload_n hx hb dX5_findMoves_90 rfl (lv_at hl 1 rfl) ?_
        refine lv_aload_n hx hb dX5_findMoves_91 rfl (lv_at hl 0 rfl) ?_
        refine cg_OL_5 hx hb hw hown hK hP dX5_findMoves_92 ?_
        refine lv_icmp_lt hx hb dX5_findMoves_95 (tgt := 124) rfl (fun hc => ?_) (fun hc => ?_)
        · replace h := ifp h hc
          exact hJ124 _ _ _ v1 x_fX x_fY x_sX x_sY (lv_sub hl [0, 1] rfl) hP hS h
        · replace h := ifn h hc
          refine lv_aload_n hx hb dX5_findMoves_98 rfl (lv_at hl 0 rfl) ?_
          refine lv_dup hx hb dX5_findMoves_99 rfl ?_
          refine cg_OL_10 hx hb hw hown hK hP dX5_findMoves_100 ?_
          refine lv_iload_n hx hb dX5_findMoves_103 rfl (lv_at hl 2 rfl) ?_
          obtain ⟨r_17, hr_18, h⟩ := bd1_s h
          refine sc_i hx hb hml hown hw hN (c_ol_stepX l v2 r_17 hr_18) g_RX5_51 hd_X5_stepX (rest := [.int x_sX, .ref (ad 7)]) hl.1 hS dX5_findMoves_104 rfl rfl ⟨Nat.le_of_ble_eq_true rfl, Nat.le_of_ble_eq_true rfl⟩ rfl rfl (Nat.le_of_ble_eq_true rfl) ⟨Nat.zero_le _, Nat.zero_le _⟩ (fun H locs hk hS => ?_)
          have hP := cP_kept hP hk
          refine lv_iadd hx hb dX5_findMoves_107 ?_
          obtain ⟨x_sX_19, ex_sX_19, h⟩ := nm_s h
          refine nmI ex_sX_19 ?_
          refine cp_OL_10 hx hb hw hown hK hP hI hS dX5_findMoves_108 (fun H locs hP hS => ?_)
          refine lv_aload_n hx hb dX5_findMoves_111 rfl (lv_at hl 0 rfl) ?_
          refine lv_dup hx hb dX5_findMoves_112 rfl ?_
          refine cg_OL_11 hx hb hw hown hK hP dX5_findMoves_113 ?_
          refine lv_iload_n hx hb dX5_findMoves_116 rfl (lv_at hl 2 rfl) ?_
          obtain ⟨r_20, hr_21, h⟩ := bd1_s h
          refine sc_i hx hb hml hown hw hN (c_ol_stepY l v2 r_20 hr_21) g_RX5_55 hd_X5_stepY (rest := [.int x_sY, .ref (ad 7)]) hl.1 hS dX5_findMoves_117 rfl rfl ⟨Nat.le_of_ble_eq_true rfl, Nat.le_of_ble_eq_true rfl⟩ rfl rfl (Nat.le_of_ble_eq_true rfl) ⟨Nat.zero_le _, Nat.zero_le _⟩ (fun H locs hk hS => ?_)
          have hP := cP_kept hP hk
          refine lv_iadd hx hb dX5_findMoves_120 ?_
          obtain ⟨x_sY_22, ex_sY_22, h⟩ := nm_s h
          refine nmI ex_sY_22 ?_
          refine cp_OL_11 hx hb hw hown hK hP hI hS dX5_findMoves_121 (fun H locs hP hS => ?_)
          exact hJ124 _ _ _ v1 x_fX x_fY x_sX_19 x_sY_22 (lv_sub hl [0, 1] rfl) hP hS h
      rw [ol_findMoves_B22] at h
      refine lv_iload_n hx hb dX5_findMoves_22 rfl (lv_at hl 1 rfl) ?_
      refine lv_aload_n hx hb dX5_findMoves_23 rfl (lv_at hl 0 rfl) ?_
      refine cg_OL_5 hx hb hw hown hK hP dX5_findMoves_24 ?_
      refine lv_aload_n hx hb dX5_findMoves_27 rfl (lv_at hl 0 rfl) ?_
      refine cg_OL_6 hx hb hw hown hK hP dX5_findMoves_28 ?_
      refine lv_iadd hx hb dX5_findMoves_31 ?_
      refine lv_aload_n hx hb dX5_findMoves_32 rfl (lv_at hl 0 rfl) ?_
      refine cg_OL_7 hx hb hw hown hK hP dX5_findMoves_33 ?_
      refine lv_iadd hx hb dX5_findMoves_36 ?_
      refine lv_icmp_ge hx hb dX5_findMoves_37 (tgt := 130) rfl (fun hc => ?_) (fun hc => ?_)
      · replace h := ifp h hc
        simp only [Option.some.injEq, Prod.mk.injEq] at h
        obtain ⟨rfl, rfl, rfl, rfl⟩ := h
        exact rc_v hx hb hr hlocks hS dX5_findMoves_130 hP
      · replace h := ifn h hc
        refine lv_aload_n hx hb dX5_findMoves_40 rfl (lv_at hl 0 rfl) ?_
        refine lv_aload_n hx hb dX5_findMoves_41 rfl (lv_at hl 0 rfl) ?_
        refine cg_OL_4 hx hb hw hown hK hP dX5_findMoves_42 ?_
        refine lv_iload_n hx hb dX5_findMoves_45 rfl (lv_at hl 1 rfl) ?_
        refine lv_iadd hx hb dX5_findMoves_46 ?_
        obtain ⟨r_23, hr_24, h⟩ := bd1_s h
        refine hv_i hx hb hml hown hw cB_bl (cB_of hN hK hP) (cr_OL hK hP) (c_ol_letter l D ct ad hI (x_place + v1) r_23 hr_24) g_RX5_105 ⟨rfl, hd_X5_letter⟩ (rest := []) hl.1 hS (fun q h => h) dX5_findMoves_47 rfl rfl ⟨Nat.le_of_ble_eq_true rfl, Nat.le_of_ble_eq_true rfl⟩ rfl rfl (Nat.le_of_ble_eq_true rfl) ⟨Nat.zero_le _, Nat.zero_le _⟩ (fun H locs hP _ hS => ?_)
        refine lv_istore_n hx hb dX5_findMoves_50 rfl hl (Nat.le_of_ble_eq_true rfl) (lv' := [(2, .int r_23), (0, .ref (ad 7)), (1, .int v1)]) rfl (fun ls hl => ?_)
        refine lv_iload_n hx hb dX5_findMoves_51 rfl (lv_at hl 2 rfl) ?_
        refine lv_aload_n hx hb dX5_findMoves_52 rfl (lv_at hl 1 rfl) ?_
        refine cg_OL_5 hx hb hw hown hK hP dX5_findMoves_53 ?_
        refine lv_aload_n hx hb dX5_findMoves_56 rfl (lv_at hl 1 rfl) ?_
        refine cg_OL_6 hx hb hw hown hK hP dX5_findMoves_57 ?_
        refine lv_iadd hx hb dX5_findMoves_60 ?_
        refine lv_icmp_ge hx hb dX5_findMoves_61 (tgt := 90) rfl (fun hc => ?_) (fun hc => ?_)
        · replace h := ifp h hc
          exact hJ90 _ _ _ v1 r_23 x_fX x_fY x_sX x_sY (lv_sub hl [1, 2, 0] rfl) hP hS h
        · replace h := ifn h hc
          refine lv_aload_n hx hb dX5_findMoves_64 rfl (lv_at hl 1 rfl) ?_
          refine lv_dup hx hb dX5_findMoves_65 rfl ?_
          refine cg_OL_8 hx hb hw hown hK hP dX5_findMoves_66 ?_
          refine lv_iload_n hx hb dX5_findMoves_69 rfl (lv_at hl 0 rfl) ?_
          obtain ⟨r_25, hr_26, h⟩ := bd1_s h
          refine sc_i hx hb hml hown hw hN (c_ol_stepX l r_23 r_25 hr_26) g_RX5_51 hd_X5_stepX (rest := [.int x_fX, .ref (ad 7)]) hl.1 hS dX5_findMoves_70 rfl rfl ⟨Nat.le_of_ble_eq_true rfl, Nat.le_of_ble_eq_true rfl⟩ rfl rfl (Nat.le_of_ble_eq_true rfl) ⟨Nat.zero_le _, Nat.zero_le _⟩ (fun H locs hk hS => ?_)
          have hP := cP_kept hP hk
          refine lv_iadd hx hb dX5_findMoves_73 ?_
          obtain ⟨x_fX_27, ex_fX_27, h⟩ := nm_s h
          refine nmI ex_fX_27 ?_
          refine cp_OL_8 hx hb hw hown hK hP hI hS dX5_findMoves_74 (fun H locs hP hS => ?_)
          refine lv_aload_n hx hb dX5_findMoves_77 rfl (lv_at hl 1 rfl) ?_
          refine lv_dup hx hb dX5_findMoves_78 rfl ?_
          refine cg_OL_9 hx hb hw hown hK hP dX5_findMoves_79 ?_
          refine lv_iload_n hx hb dX5_findMoves_82 rfl (lv_at hl 0 rfl) ?_
          obtain ⟨r_28, hr_29, h⟩ := bd1_s h
          refine sc_i hx hb hml hown hw hN (c_ol_stepY l r_23 r_28 hr_29) g_RX5_55 hd_X5_stepY (rest := [.int x_fY, .ref (ad 7)]) hl.1 hS dX5_findMoves_83 rfl rfl ⟨Nat.le_of_ble_eq_true rfl, Nat.le_of_ble_eq_true rfl⟩ rfl rfl (Nat.le_of_ble_eq_true rfl) ⟨Nat.zero_le _, Nat.zero_le _⟩ (fun H locs hk hS => ?_)
          have hP := cP_kept hP hk
          refine lv_iadd hx hb dX5_findMoves_86 ?_
          obtain ⟨x_fY_30, ex_fY_30, h⟩ := nm_s h
          refine nmI ex_fY_30 ?_
          refine cp_OL_9 hx hb hw hown hK hP hI hS dX5_findMoves_87 (fun H locs hP hS => ?_)
          exact hJ90 _ _ _ v1 r_23 x_fX_27 x_fY_30 x_sX x_sY (lv_sub hl [1, 2, 0] rfl) hP hS h
  refine lv_aload_n hx hb dX5_findMoves_0 rfl (lv_at hl 0 rfl) ?_
  refine lv_iconst (v := 0) hx hb dX5_findMoves_1 ki_0 ?_
  refine cp_OL_8 hx hb hw hown hK hP hI hS dX5_findMoves_2 (fun H locs hP hS => ?_)
  refine lv_aload_n hx hb dX5_findMoves_5 rfl (lv_at hl 0 rfl) ?_
  refine lv_iconst (v := 0) hx hb dX5_findMoves_6 ki_0 ?_
  refine cp_OL_9 hx hb hw hown hK hP hI hS dX5_findMoves_7 (fun H locs hP hS => ?_)
  refine lv_aload_n hx hb dX5_findMoves_10 rfl (lv_at hl 0 rfl) ?_
  refine lv_iconst (v := 0) hx hb dX5_findMoves_11 ki_0 ?_
  refine cp_OL_10 hx hb hw hown hK hP hI hS dX5_findMoves_12 (fun H locs hP hS => ?_)
  refine lv_aload_n hx hb dX5_findMoves_15 rfl (lv_at hl 0 rfl) ?_
  refine lv_iconst (v := 0) hx hb dX5_findMoves_16 ki_0 ?_
  refine cp_OL_11 hx hb hw hown hK hP hI hS dX5_findMoves_17 (fun H locs hP hS => ?_)
  refine lv_iconst (v := 0) hx hb dX5_findMoves_20 ki_0 ?_
  refine lv_istore_n hx hb dX5_findMoves_21 rfl hl (Nat.le_of_ble_eq_true rfl) (lv' := [(1, .int 0), (0, .ref (ad 7))]) rfl (fun ls hl => ?_)
  exact hL22 x_place x_lA x_lB x_lC a_letters FU _ _ _ 0 0 0 0 0 (lv_sub hl [1, 0] rfl) hP hS h
noncomputable def ol_move (v1 : Int32) (x_fX : Int32) (x_fY : Int32) (x_sX : Int32) (x_sY : Int32) : Option (Int32) :=
  if v1 = 0 then (some (x_fX + 10)) else
  if v1 = 1 then (some (x_fY + 10)) else
  if v1 = 2 then (some (x_sX + 10)) else
  if v1 = 3 then (some (x_sY + 10)) else
  bd1 (ol_crossed x_fX x_fY x_sX x_sY) fun r_1 =>
  some (abI r_1)
set_option maxHeartbeats 4000000 in
set_option maxRecDepth 100000 in
theorem c_ol_move (l : Launch) (D : va_G) (ct : Nat → ClassId) (ad : Nat → Nat) (hI : cI ad) {x_fed x_tk x_col x_line x_rcells x_rsize x_len x_cuts x_bare x_place x_lA x_lB x_lC x_fX x_fY x_sX x_sY x_made x_fsize x_psize x_over x_touch x_most x_mU x_mV x_area : Int32} {x_board : Int64} {a_tape a_letters a_oneSided a_free a_ends a_crowds a_wmade a_firsts a_widths a_heights a_places a_next a_pnear a_table a_overlaps : Nat → Int32} {a_drawers a_kept a_items a_numbers a_marks a_near a_figures a_covered a_pcells a_matrix : Nat → Int64} (v1 : Int32) (r : Int32)  (h : ol_move v1 x_fX x_fY x_sX x_sY = some (r)) : Met l yX5_move (wm yX5_move cX5_move 2 (some .int)) (rmm 1 38) (va_Pc [.ref (ad 7), .int v1] (cB D ct ad x_fed x_tk x_col x_line x_rcells x_rsize x_len x_cuts x_bare x_place x_lA x_lB x_lC x_fX x_fY x_sX x_sY x_made x_fsize x_psize x_over x_touch x_most x_mU x_mV x_area x_board a_tape a_letters a_oneSided a_free a_ends a_crowds a_wmade a_firsts a_widths a_heights a_places a_next a_pnear a_table a_overlaps a_drawers a_kept a_items a_numbers a_marks a_near a_figures a_covered a_pcells a_matrix)) (va_Qi (fun z (_ : Unit) => z = r) (fun _ t => cP D ct ad x_fed x_tk x_col x_line x_rcells x_rsize x_len x_cuts x_bare x_place x_lA x_lB x_lC x_fX x_fY x_sX x_sY x_made x_fsize x_psize x_over x_touch x_most x_mU x_mV x_area x_board a_tape a_letters a_oneSided a_free a_ends a_crowds a_wmade a_firsts a_widths a_heights a_places a_next a_pnear a_table a_overlaps a_drawers a_kept a_items a_numbers a_marks a_near a_figures a_covered a_pcells a_matrix t.heap) (cA ad)) 0 0 (cA ad) := by
  refine met_s (y := yX5_move) (rm := rmm 1 38) (by decide) (Nat.le_of_ble_eq_true rfl) ?_
  intro p e s m below meth c hx hb hr hw hown hlocks _ hml hB ls hl
  obtain ⟨hN, hK, hP⟩ := hB
  replace hl : lv_has ls 2 [(0, .ref (ad 7)), (1, .int v1)] := hl
  have hS : va_S (cA ad) s.heap s.heap [] := va_S.rf
  generalize (([.ref (ad 7), .int v1] : List Value).toArray) = av at hw ⊢
  rw [ol_move] at h
  refine lv_iload_n hx hb dX5_move_0 rfl (lv_at hl 1 rfl) ?_
  by_cases hc0 : v1 = 0
  · replace h := ifp h hc0
    refine lv_tableIn hx hb dX5_move_1 (by rw [hc0]; decide) (by rw [hc0]; decide) (by rw [hc0]; rfl) (tgt := 32) rfl ?_
    refine lv_aload_n hx hb dX5_move_32 rfl (lv_at hl 0 rfl) ?_
    refine cg_OL_8 hx hb hw hown hK hP dX5_move_33 ?_
    refine lv_bipush (v := 10) hx hb dX5_move_36 kb_10 ?_
    refine lv_iadd hx hb dX5_move_38 ?_
    replace h := Option.some.inj h
    subst h
    exact rc_i hx hb hr hlocks hS dX5_move_39 rfl hP
  replace h := ifn h hc0
  by_cases hc1 : v1 = 1
  · replace h := ifp h hc1
    refine lv_tableIn hx hb dX5_move_1 (by rw [hc1]; decide) (by rw [hc1]; decide) (by rw [hc1]; rfl) (tgt := 40) rfl ?_
    refine lv_aload_n hx hb dX5_move_40 rfl (lv_at hl 0 rfl) ?_
    refine cg_OL_9 hx hb hw hown hK hP dX5_move_41 ?_
    refine lv_bipush (v := 10) hx hb dX5_move_44 kb_10 ?_
    refine lv_iadd hx hb dX5_move_46 ?_
    replace h := Option.some.inj h
    subst h
    exact rc_i hx hb hr hlocks hS dX5_move_47 rfl hP
  replace h := ifn h hc1
  by_cases hc2 : v1 = 2
  · replace h := ifp h hc2
    refine lv_tableIn hx hb dX5_move_1 (by rw [hc2]; decide) (by rw [hc2]; decide) (by rw [hc2]; rfl) (tgt := 48) rfl ?_
    refine lv_aload_n hx hb dX5_move_48 rfl (lv_at hl 0 rfl) ?_
    refine cg_OL_10 hx hb hw hown hK hP dX5_move_49 ?_
    refine lv_bipush (v := 10) hx hb dX5_move_52 kb_10 ?_
    refine lv_iadd hx hb dX5_move_54 ?_
    replace h := Option.some.inj h
    subst h
    exact rc_i hx hb hr hlocks hS dX5_move_55 rfl hP
  replace h := ifn h hc2
  by_cases hc3 : v1 = 3
  · replace h := ifp h hc3
    refine lv_tableIn hx hb dX5_move_1 (by rw [hc3]; decide) (by rw [hc3]; decide) (by rw [hc3]; rfl) (tgt := 56) rfl ?_
    refine lv_aload_n hx hb dX5_move_56 rfl (lv_at hl 0 rfl) ?_
    refine cg_OL_11 hx hb hw hown hK hP dX5_move_57 ?_
    refine lv_bipush (v := 10) hx hb dX5_move_60 kb_10 ?_
    refine lv_iadd hx hb dX5_move_62 ?_
    replace h := Option.some.inj h
    subst h
    exact rc_i hx hb hr hlocks hS dX5_move_63 rfl hP
  replace h := ifn h hc3
  have q0 := lv_neT (k := 0) hc0 (a := 0) (by decide)
  have q1 := lv_neT (k := 1) hc1 (a := 1) (by decide)
  have q2 := lv_neT (k := 2) hc2 (a := 2) (by decide)
  have q3 := lv_neT (k := 3) hc3 (a := 3) (by decide)
  refine lv_tableOut hx hb dX5_move_1 (by omega) (tgt := 64) rfl ?_
  refine lv_aload_n hx hb dX5_move_64 rfl (lv_at hl 0 rfl) ?_
  refine cg_OL_8 hx hb hw hown hK hP dX5_move_65 ?_
  refine lv_aload_n hx hb dX5_move_68 rfl (lv_at hl 0 rfl) ?_
  refine cg_OL_9 hx hb hw hown hK hP dX5_move_69 ?_
  refine lv_aload_n hx hb dX5_move_72 rfl (lv_at hl 0 rfl) ?_
  refine cg_OL_10 hx hb hw hown hK hP dX5_move_73 ?_
  refine lv_aload_n hx hb dX5_move_76 rfl (lv_at hl 0 rfl) ?_
  refine cg_OL_11 hx hb hw hown hK hP dX5_move_77 ?_
  obtain ⟨r_3, hr_4, h⟩ := bd1_s h
  refine sc_i hx hb hml hown hw hN (c_ol_crossed l x_fX x_fY x_sX x_sY r_3 hr_4) g_RX5_108 hd_X5_crossed (rest := []) hl.1 hS dX5_move_80 rfl rfl ⟨Nat.le_of_ble_eq_true rfl, Nat.le_of_ble_eq_true rfl⟩ rfl rfl (Nat.le_of_ble_eq_true rfl) ⟨Nat.zero_le _, Nat.zero_le _⟩ (fun H locs hk hS => ?_)
  have hP := cP_kept hP hk
  refine va_mabs hx hb (hml.trans hl.1.symm) hown (hw _ tw_42_2) (hw _ tw_42_3) (hw _ tw_19_23) (hw _ tw_42_4) (Nat.le_of_ble_eq_true rfl) (Nat.le_of_ble_eq_true rfl) (Nat.zero_le _) (Nat.zero_le _) dX5_move_83 ?_
  refine nmI (v := abI r_3) rfl ?_
  replace h := Option.some.inj h
  subst h
  exact rc_i hx hb hr hlocks hS dX5_move_86 rfl hP
noncomputable def ol_copyAt_J162 (k41 : Int64 → Int32 → Option (Int32)) (x_fX : Int32) (x_fY : Int32) (x_sX : Int32) (x_sY : Int32) (v3 : Int32) (v4 : Int32) (v5 : Int32) (v6 : Int32) (v7 : Int64) (v9 : Int32) (v10 : Int32)  : Option (Int32) :=
  nm (v10 + Int32.ofInt 1) fun v10_1 =>
  k41 v7 v10_1
noncomputable def ol_copyAt_B41 (v3 : Int32) (v4 : Int32) (v5 : Int32) (v6 : Int32) (v9 : Int32) (x_fX : Int32) (x_fY : Int32) (x_sX : Int32) (x_sY : Int32)  (k41 : Int64 → Int32 → Option (Int32)) (v7 : Int64) (v10 : Int32) : Option (Int32) :=
  if v9 ≤ v10 then (some ((-4))) else
  bd1 (gr_lowest v7) fun r_2 =>
  nm (v7 &&& (v7 - 1) : Int64) fun v7_4 =>
  nm (v3 - (r_2 &&& 7) : Int32) fun v12_5 =>
  nm (v4 - (ir r_2 3) : Int32) fun v13_6 =>
  bd1 (ol_crossed v12_5 v13_6 x_sX x_sY) fun r_7 =>
  bd1 (ol_crossed x_fX x_fY v12_5 v13_6) fun r_9 =>
  dzI v6 <|
  if (remI r_7 v6) = 0 then (dzI v6 <|
  if (remI r_9 v6) = 0 then (if v5 = 2 then (some (r_2)) else
  if v5 = 0 then (dzI v6 <|
  some (100 + (r_7 / v6))) else
  dzI v6 <|
  some (100 + (r_9 / v6))) else
  ol_copyAt_J162 k41 x_fX x_fY x_sX x_sY v3 v4 v5 v6 v7_4 v9 v10) else
  ol_copyAt_J162 k41 x_fX x_fY x_sX x_sY v3 v4 v5 v6 v7_4 v9 v10
noncomputable def ol_copyAt (v1 : Int64) (v3 : Int32) (v4 : Int32) (v5 : Int32) (x_fX : Int32) (x_fY : Int32) (x_sX : Int32) (x_sY : Int32) : Option (Int32) :=
  bd1 (ol_crossed x_fX x_fY x_sX x_sY) fun r_11 =>
  if r_11 = 0 then (some ((-4))) else
  bd1 (jl_bitCount v1) fun r_13 =>
  fl2 (ol_copyAt_B41 v3 v4 v5 r_11 r_13 x_fX x_fY x_sX x_sY) FU v1 0
set_option maxHeartbeats 4000000 in
set_option maxRecDepth 100000 in
theorem c_ol_copyAt (l : Launch) (D : va_G) (ct : Nat → ClassId) (ad : Nat → Nat) (hI : cI ad) {x_fed x_tk x_col x_line x_rcells x_rsize x_len x_cuts x_bare x_place x_lA x_lB x_lC x_fX x_fY x_sX x_sY x_made x_fsize x_psize x_over x_touch x_most x_mU x_mV x_area : Int32} {x_board : Int64} {a_tape a_letters a_oneSided a_free a_ends a_crowds a_wmade a_firsts a_widths a_heights a_places a_next a_pnear a_table a_overlaps : Nat → Int32} {a_drawers a_kept a_items a_numbers a_marks a_near a_figures a_covered a_pcells a_matrix : Nat → Int64} (v1 : Int64) (v3 : Int32) (v4 : Int32) (v5 : Int32) (r : Int32)  (h : ol_copyAt v1 v3 v4 v5 x_fX x_fY x_sX x_sY = some (r)) : Met l yX5_copyAt (wm yX5_copyAt cX5_copyAt 16 (some .int)) (rmm 2 42) (va_Pc [.ref (ad 7), .long v1, .int v3, .int v4, .int v5] (cB D ct ad x_fed x_tk x_col x_line x_rcells x_rsize x_len x_cuts x_bare x_place x_lA x_lB x_lC x_fX x_fY x_sX x_sY x_made x_fsize x_psize x_over x_touch x_most x_mU x_mV x_area x_board a_tape a_letters a_oneSided a_free a_ends a_crowds a_wmade a_firsts a_widths a_heights a_places a_next a_pnear a_table a_overlaps a_drawers a_kept a_items a_numbers a_marks a_near a_figures a_covered a_pcells a_matrix)) (va_Qi (fun z (_ : Unit) => z = r) (fun _ t => cP D ct ad x_fed x_tk x_col x_line x_rcells x_rsize x_len x_cuts x_bare x_place x_lA x_lB x_lC x_fX x_fY x_sX x_sY x_made x_fsize x_psize x_over x_touch x_most x_mU x_mV x_area x_board a_tape a_letters a_oneSided a_free a_ends a_crowds a_wmade a_firsts a_widths a_heights a_places a_next a_pnear a_table a_overlaps a_drawers a_kept a_items a_numbers a_marks a_near a_figures a_covered a_pcells a_matrix t.heap) (cA ad)) 0 0 (cA ad) := by
  refine met_s (y := yX5_copyAt) (rm := rmm 2 42) (by decide) (Nat.le_of_ble_eq_true rfl) ?_
  intro p e s m below meth c hx hb hr hw hown hlocks _ hml hB ls hl
  obtain ⟨hN, hK, hP⟩ := hB
  replace hl : lv_has ls 16 [(0, .ref (ad 7)), (1, .long v1), (3, .int v3), (4, .int v4), (5, .int v5)] := hl
  have hS : va_S (cA ad) s.heap s.heap [] := va_S.rf
  generalize (([.ref (ad 7), .long v1, .int v3, .int v4, .int v5] : List Value).toArray) = av at hw ⊢
  rw [ol_copyAt] at h
  have hL41 : ∀ (v3 : Int32), ∀ (v4 : Int32), ∀ (v5 : Int32), ∀ (v6 : Int32), ∀ (v9 : Int32), ∀ (x_fX : Int32), ∀ (x_fY : Int32), ∀ (x_sX : Int32), ∀ (x_sY : Int32), ∀ (n41 : Nat) (H : Heap) (locs : List Loc) (ls : Array Slot) (v7 : Int64) (v10 : Int32), lv_has ls 16 [(0, .ref (ad 7)), (3, .int v3), (4, .int v4), (5, .int v5), (6, .int v6), (7, .long v7), (9, .int v9), (10, .int v10)] → cP D ct ad x_fed x_tk x_col x_line x_rcells x_rsize x_len x_cuts x_bare x_place x_lA x_lB x_lC x_fX x_fY x_sX x_sY x_made x_fsize x_psize x_over x_touch x_most x_mU x_mV x_area x_board a_tape a_letters a_oneSided a_free a_ends a_crowds a_wmade a_firsts a_widths a_heights a_places a_next a_pnear a_table a_overlaps a_drawers a_kept a_items a_numbers a_marks a_near a_figures a_covered a_pcells a_matrix H → va_S (cA ad) s.heap H locs → fl2 (ol_copyAt_B41 v3 v4 v5 v6 v9 x_fX x_fY x_sX x_sY) n41 v7 v10 = some (r) → W p l e (rmm 2 42) s m av below meth c H locs 0 0 (MQ below (va_Qi (fun z (_ : Unit) => z = r) (fun _ t => cP D ct ad x_fed x_tk x_col x_line x_rcells x_rsize x_len x_cuts x_bare x_place x_lA x_lB x_lC x_fX x_fY x_sX x_sY x_made x_fsize x_psize x_over x_touch x_most x_mU x_mV x_area x_board a_tape a_letters a_oneSided a_free a_ends a_crowds a_wmade a_firsts a_widths a_heights a_places a_next a_pnear a_table a_overlaps a_drawers a_kept a_items a_numbers a_marks a_near a_figures a_covered a_pcells a_matrix t.heap) (cA ad)) av s 0 0 (cA ad)) (F0 m 41 ls []) := by
    intro v3 v4 v5 v6 v9 x_fX x_fY x_sX x_sY n41
    induction n41 with
    | zero => intro H locs ls v7 v10 hl hP hS h; cases h
    | succ n41 ih41 =>
      intro H locs ls v7 v10 hl hP hS h
      replace h : ol_copyAt_B41 v3 v4 v5 v6 v9 x_fX x_fY x_sX x_sY (fl2 (ol_copyAt_B41 v3 v4 v5 v6 v9 x_fX x_fY x_sX x_sY) n41) v7 v10 = some (r) := h
      generalize fl2 (ol_copyAt_B41 v3 v4 v5 v6 v9 x_fX x_fY x_sX x_sY) n41 = k41 at h ih41
      have hJ162 : ∀ (H : Heap) (locs : List Loc) (ls : Array Slot) (v7 : Int64) (v10 : Int32) , lv_has ls 16 [(0, .ref (ad 7)), (3, .int v3), (4, .int v4), (5, .int v5), (6, .int v6), (7, .long v7), (9, .int v9), (10, .int v10)] → cP D ct ad x_fed x_tk x_col x_line x_rcells x_rsize x_len x_cuts x_bare x_place x_lA x_lB x_lC x_fX x_fY x_sX x_sY x_made x_fsize x_psize x_over x_touch x_most x_mU x_mV x_area x_board a_tape a_letters a_oneSided a_free a_ends a_crowds a_wmade a_firsts a_widths a_heights a_places a_next a_pnear a_table a_overlaps a_drawers a_kept a_items a_numbers a_marks a_near a_figures a_covered a_pcells a_matrix H → va_S (cA ad) s.heap H locs → ol_copyAt_J162 k41 x_fX x_fY x_sX x_sY v3 v4 v5 v6 v7 v9 v10 = some (r) → W p l e (rmm 2 42) s m av below meth c H locs 0 0 (MQ below (va_Qi (fun z (_ : Unit) => z = r) (fun _ t => cP D ct ad x_fed x_tk x_col x_line x_rcells x_rsize x_len x_cuts x_bare x_place x_lA x_lB x_lC x_fX x_fY x_sX x_sY x_made x_fsize x_psize x_over x_touch x_most x_mU x_mV x_area x_board a_tape a_letters a_oneSided a_free a_ends a_crowds a_wmade a_firsts a_widths a_heights a_places a_next a_pnear a_table a_overlaps a_drawers a_kept a_items a_numbers a_marks a_near a_figures a_covered a_pcells a_matrix t.heap) (cA ad)) av s 0 0 (cA ad)) (F0 m 162 ls []) := by
        intro H locs ls v7 v10  hl hP hS h
        rw [ol_copyAt_J162] at h
        obtain ⟨v10_15, ev10_15, h⟩ := nm_s h
        refine lv_iinc hx hb dX5_copyAt_162 hl (k := 7) rfl ev10_15.symm (Nat.le_of_ble_eq_true rfl) (lv' := [(10, .int v10_15), (0, .ref (ad 7)), (3, .int v3), (4, .int v4), (5, .int v5), (6, .int v6), (7, .long v7), (9, .int v9)]) rfl (fun ls hl => ?_)
        refine lv_goto hx hb dX5_copyAt_165 (tgt := 41) rfl ?_
        exact ih41 _ _ _ v7 v10_15 (lv_sub hl [1, 2, 3, 4, 5, 6, 7, 0] rfl) hP hS h
      rw [ol_copyAt_B41] at h
      refine lv_iload hx hb dX5_copyAt_41 (lv_at hl 7 rfl) ?_
      refine lv_iload hx hb dX5_copyAt_43 (lv_at hl 6 rfl) ?_
      refine lv_icmp_ge hx hb dX5_copyAt_45 (tgt := 168) rfl (fun hc => ?_) (fun hc => ?_)
      · replace h := ifp h hc
        refine lv_bipush (v := (-4)) hx hb dX5_copyAt_168 kb_m4 ?_
        replace h := Option.some.inj h
        subst h
        exact rc_i hx hb hr hlocks hS dX5_copyAt_170 rfl hP
      · replace h := ifn h hc
        refine lv_lload hx hb dX5_copyAt_48 (lv_at hl 5 rfl) ?_
        obtain ⟨r_16, hr_17, h⟩ := bd1_s h
        refine sc_i hx hb hml hown hw hN (c_gr_lowest l v7 r_16 hr_17) g_RX5_46 hd_X2_lowest (rest := []) hl.1 hS dX5_copyAt_50 rfl rfl ⟨Nat.le_of_ble_eq_true rfl, Nat.le_of_ble_eq_true rfl⟩ rfl rfl (Nat.le_of_ble_eq_true rfl) ⟨Nat.zero_le _, Nat.zero_le _⟩ (fun H locs hk hS => ?_)
        have hP := cP_kept hP hk
        refine lv_istore hx hb dX5_copyAt_53 hl (Nat.le_of_ble_eq_true rfl) (lv' := [(11, .int r_16), (0, .ref (ad 7)), (3, .int v3), (4, .int v4), (5, .int v5), (6, .int v6), (7, .long v7), (9, .int v9), (10, .int v10)]) rfl (fun ls hl => ?_)
        refine lv_lload hx hb dX5_copyAt_55 (lv_at hl 6 rfl) ?_
        refine lv_lload hx hb dX5_copyAt_57 (lv_at hl 6 rfl) ?_
        refine lv_lconst (v := 1) hx hb dX5_copyAt_59 kl_1 ?_
        refine lv_lsub hx hb dX5_copyAt_60 ?_
        refine lv_land hx hb dX5_copyAt_61 ?_
        obtain ⟨v7_18, ev7_18, h⟩ := nm_s h
        refine nmL ev7_18 ?_
        refine lv_lstore hx hb dX5_copyAt_62 hl (Nat.le_of_ble_eq_true rfl) (lv' := [(7, .long v7_18), (11, .int r_16), (0, .ref (ad 7)), (3, .int v3), (4, .int v4), (5, .int v5), (6, .int v6), (9, .int v9), (10, .int v10)]) rfl (fun ls hl => ?_)
        refine lv_iload_n hx hb dX5_copyAt_64 rfl (lv_at hl 3 rfl) ?_
        refine lv_iload hx hb dX5_copyAt_65 (lv_at hl 1 rfl) ?_
        refine lv_bipush (v := 7) hx hb dX5_copyAt_67 kb_7 ?_
        refine lv_iand hx hb dX5_copyAt_69 ?_
        refine lv_isub hx hb dX5_copyAt_70 ?_
        obtain ⟨v12_19, ev12_19, h⟩ := nm_s h
        refine nmI ev12_19 ?_
        refine lv_istore hx hb dX5_copyAt_71 hl (Nat.le_of_ble_eq_true rfl) (lv' := [(12, .int v12_19), (7, .long v7_18), (11, .int r_16), (0, .ref (ad 7)), (3, .int v3), (4, .int v4), (5, .int v5), (6, .int v6), (9, .int v9), (10, .int v10)]) rfl (fun ls hl => ?_)
        refine lv_iload hx hb dX5_copyAt_73 (lv_at hl 5 rfl) ?_
        refine lv_iload hx hb dX5_copyAt_75 (lv_at hl 2 rfl) ?_
        refine lv_iconst (v := 3) hx hb dX5_copyAt_77 ki_3 ?_
        refine lv_ishr hx hb dX5_copyAt_78 ?_
        refine nmI (v := ir r_16 3) rfl ?_
        refine lv_isub hx hb dX5_copyAt_79 ?_
        obtain ⟨v13_20, ev13_20, h⟩ := nm_s h
        refine nmI ev13_20 ?_
        refine lv_istore hx hb dX5_copyAt_80 hl (Nat.le_of_ble_eq_true rfl) (lv' := [(13, .int v13_20), (12, .int v12_19), (7, .long v7_18), (11, .int r_16), (0, .ref (ad 7)), (3, .int v3), (4, .int v4), (5, .int v5), (6, .int v6), (9, .int v9), (10, .int v10)]) rfl (fun ls hl => ?_)
        refine lv_iload hx hb dX5_copyAt_82 (lv_at hl 1 rfl) ?_
        refine lv_iload hx hb dX5_copyAt_84 (lv_at hl 0 rfl) ?_
        refine lv_aload_n hx hb dX5_copyAt_86 rfl (lv_at hl 4 rfl) ?_
        refine cg_OL_10 hx hb hw hown hK hP dX5_copyAt_87 ?_
        refine lv_aload_n hx hb dX5_copyAt_90 rfl (lv_at hl 4 rfl) ?_
        refine cg_OL_11 hx hb hw hown hK hP dX5_copyAt_91 ?_
        obtain ⟨r_21, hr_22, h⟩ := bd1_s h
        refine sc_i hx hb hml hown hw hN (c_ol_crossed l v12_19 v13_20 x_sX x_sY r_21 hr_22) g_RX5_108 hd_X5_crossed (rest := []) hl.1 hS dX5_copyAt_94 rfl rfl ⟨Nat.le_of_ble_eq_true rfl, Nat.le_of_ble_eq_true rfl⟩ rfl rfl (Nat.le_of_ble_eq_true rfl) ⟨Nat.zero_le _, Nat.zero_le _⟩ (fun H locs hk hS => ?_)
        have hP := cP_kept hP hk
        refine lv_istore hx hb dX5_copyAt_97 hl (Nat.le_of_ble_eq_true rfl) (lv' := [(14, .int r_21), (13, .int v13_20), (12, .int v12_19), (7, .long v7_18), (11, .int r_16), (0, .ref (ad 7)), (3, .int v3), (4, .int v4), (5, .int v5), (6, .int v6), (9, .int v9), (10, .int v10)]) rfl (fun ls hl => ?_)
        refine lv_aload_n hx hb dX5_copyAt_99 rfl (lv_at hl 5 rfl) ?_
        refine cg_OL_8 hx hb hw hown hK hP dX5_copyAt_100 ?_
        refine lv_aload_n hx hb dX5_copyAt_103 rfl (lv_at hl 5 rfl) ?_
        refine cg_OL_9 hx hb hw hown hK hP dX5_copyAt_104 ?_
        refine lv_iload hx hb dX5_copyAt_107 (lv_at hl 2 rfl) ?_
        refine lv_iload hx hb dX5_copyAt_109 (lv_at hl 1 rfl) ?_
        obtain ⟨r_23, hr_24, h⟩ := bd1_s h
        refine sc_i hx hb hml hown hw hN (c_ol_crossed l x_fX x_fY v12_19 v13_20 r_23 hr_24) g_RX5_108 hd_X5_crossed (rest := []) hl.1 hS dX5_copyAt_111 rfl rfl ⟨Nat.le_of_ble_eq_true rfl, Nat.le_of_ble_eq_true rfl⟩ rfl rfl (Nat.le_of_ble_eq_true rfl) ⟨Nat.zero_le _, Nat.zero_le _⟩ (fun H locs hk hS => ?_)
        have hP := cP_kept hP hk
        refine lv_istore hx hb dX5_copyAt_114 hl (Nat.le_of_ble_eq_true rfl) (lv' := [(15, .int r_23), (14, .int r_21), (13, .int v13_20), (12, .int v12_19), (7, .long v7_18), (11, .int r_16), (0, .ref (ad 7)), (3, .int v3), (4, .int v4), (5, .int v5), (6, .int v6), (9, .int v9), (10, .int v10)]) rfl (fun ls hl => ?_)
        refine lv_iload hx hb dX5_copyAt_116 (lv_at hl 1 rfl) ?_
        refine lv_iload hx hb dX5_copyAt_118 (lv_at hl 10 rfl) ?_
        obtain ⟨hne, h⟩ := dzI_s h
        refine lv_irem hx hb dX5_copyAt_120 hne ?_
        refine nmI (v := remI r_21 v6) rfl ?_
        refine lv_if_ne hx hb dX5_copyAt_121 (tgt := 162) rfl (fun hc => ?_) (fun hc => ?_)
        · replace h := ifn h hc
          exact hJ162 _ _ _ v7_18 v10 (lv_sub hl [6, 7, 8, 9, 10, 4, 11, 12] rfl) hP hS h
        · replace h := ifp h hc
          refine lv_iload hx hb dX5_copyAt_124 (lv_at hl 0 rfl) ?_
          refine lv_iload hx hb dX5_copyAt_126 (lv_at hl 10 rfl) ?_
          obtain ⟨hne, h⟩ := dzI_s h
          refine lv_irem hx hb dX5_copyAt_128 hne ?_
          refine nmI (v := remI r_23 v6) rfl ?_
          refine lv_if_ne hx hb dX5_copyAt_129 (tgt := 162) rfl (fun hc => ?_) (fun hc => ?_)
          · replace h := ifn h hc
            exact hJ162 _ _ _ v7_18 v10 (lv_sub hl [6, 7, 8, 9, 10, 4, 11, 12] rfl) hP hS h
          · replace h := ifp h hc
            refine lv_iload hx hb dX5_copyAt_132 (lv_at hl 9 rfl) ?_
            refine lv_iconst (v := 2) hx hb dX5_copyAt_134 ki_2 ?_
            refine lv_icmp_ne hx hb dX5_copyAt_135 (tgt := 143) rfl (fun hc => ?_) (fun hc => ?_)
            · replace h := ifn h hc
              refine lv_bipush (v := 100) hx hb dX5_copyAt_143 kb_100 ?_
              refine lv_iload hx hb dX5_copyAt_145 (lv_at hl 9 rfl) ?_
              refine lv_if_ne hx hb dX5_copyAt_147 (tgt := 155) rfl (fun hc => ?_) (fun hc => ?_)
              · replace h := ifn h hc
                refine lv_iload hx hb dX5_copyAt_155 (lv_at hl 0 rfl) ?_
                refine lv_iload hx hb dX5_copyAt_157 (lv_at hl 10 rfl) ?_
                obtain ⟨hne, h⟩ := dzI_s h
                refine lv_idiv hx hb dX5_copyAt_159 hne ?_
                refine lv_iadd hx hb dX5_copyAt_160 ?_
                replace h := Option.some.inj h
                subst h
                exact rc_i hx hb hr hlocks hS dX5_copyAt_161 rfl hP
              · replace h := ifp h hc
                refine lv_iload hx hb dX5_copyAt_150 (lv_at hl 1 rfl) ?_
                refine lv_goto hx hb dX5_copyAt_152 (tgt := 157) rfl ?_
                refine lv_iload hx hb dX5_copyAt_157 (lv_at hl 10 rfl) ?_
                obtain ⟨hne, h⟩ := dzI_s h
                refine lv_idiv hx hb dX5_copyAt_159 hne ?_
                refine lv_iadd hx hb dX5_copyAt_160 ?_
                replace h := Option.some.inj h
                subst h
                exact rc_i hx hb hr hlocks hS dX5_copyAt_161 rfl hP
            · replace h := ifp h hc
              refine lv_iload hx hb dX5_copyAt_138 (lv_at hl 5 rfl) ?_
              refine lv_goto hx hb dX5_copyAt_140 (tgt := 161) rfl ?_
              replace h := Option.some.inj h
              subst h
              exact rc_i hx hb hr hlocks hS dX5_copyAt_161 rfl hP
  refine lv_aload_n hx hb dX5_copyAt_0 rfl (lv_at hl 0 rfl) ?_
  refine cg_OL_8 hx hb hw hown hK hP dX5_copyAt_1 ?_
  refine lv_aload_n hx hb dX5_copyAt_4 rfl (lv_at hl 0 rfl) ?_
  refine cg_OL_9 hx hb hw hown hK hP dX5_copyAt_5 ?_
  refine lv_aload_n hx hb dX5_copyAt_8 rfl (lv_at hl 0 rfl) ?_
  refine cg_OL_10 hx hb hw hown hK hP dX5_copyAt_9 ?_
  refine lv_aload_n hx hb dX5_copyAt_12 rfl (lv_at hl 0 rfl) ?_
  refine cg_OL_11 hx hb hw hown hK hP dX5_copyAt_13 ?_
  obtain ⟨r_25, hr_26, h⟩ := bd1_s h
  refine sc_i hx hb hml hown hw hN (c_ol_crossed l x_fX x_fY x_sX x_sY r_25 hr_26) g_RX5_108 hd_X5_crossed (rest := []) hl.1 hS dX5_copyAt_16 rfl rfl ⟨Nat.le_of_ble_eq_true rfl, Nat.le_of_ble_eq_true rfl⟩ rfl rfl (Nat.le_of_ble_eq_true rfl) ⟨Nat.zero_le _, Nat.zero_le _⟩ (fun H locs hk hS => ?_)
  have hP := cP_kept hP hk
  refine lv_istore hx hb dX5_copyAt_19 hl (Nat.le_of_ble_eq_true rfl) (lv' := [(6, .int r_25), (0, .ref (ad 7)), (1, .long v1), (3, .int v3), (4, .int v4), (5, .int v5)]) rfl (fun ls hl => ?_)
  refine lv_iload hx hb dX5_copyAt_21 (lv_at hl 0 rfl) ?_
  refine lv_if_ne hx hb dX5_copyAt_23 (tgt := 29) rfl (fun hc => ?_) (fun hc => ?_)
  · replace h := ifn h hc
    refine lv_lload_n hx hb dX5_copyAt_29 rfl (lv_at hl 2 rfl) ?_
    refine lv_lstore hx hb dX5_copyAt_30 hl (Nat.le_of_ble_eq_true rfl) (lv' := [(7, .long v1), (6, .int r_25), (0, .ref (ad 7)), (1, .long v1), (3, .int v3), (4, .int v4), (5, .int v5)]) rfl (fun ls hl => ?_)
    refine lv_lload_n hx hb dX5_copyAt_32 rfl (lv_at hl 3 rfl) ?_
    obtain ⟨r_27, hr_28, h⟩ := bd1_s h
    refine sc_i hx hb hml hown hw hN (c_jl_bitCount l v1 r_27 hr_28) g_RX5_117 hd_J13_bitCount_95d88 (rest := []) hl.1 hS dX5_copyAt_33 rfl rfl ⟨Nat.le_of_ble_eq_true rfl, Nat.le_of_ble_eq_true rfl⟩ rfl rfl (Nat.le_of_ble_eq_true rfl) ⟨Nat.zero_le _, Nat.zero_le _⟩ (fun H locs hk hS => ?_)
    have hP := cP_kept hP hk
    refine lv_istore hx hb dX5_copyAt_36 hl (Nat.le_of_ble_eq_true rfl) (lv' := [(9, .int r_27), (7, .long v1), (6, .int r_25), (0, .ref (ad 7)), (1, .long v1), (3, .int v3), (4, .int v4), (5, .int v5)]) rfl (fun ls hl => ?_)
    refine lv_iconst (v := 0) hx hb dX5_copyAt_38 ki_0 ?_
    refine lv_istore hx hb dX5_copyAt_39 hl (Nat.le_of_ble_eq_true rfl) (lv' := [(10, .int 0), (9, .int r_27), (7, .long v1), (6, .int r_25), (0, .ref (ad 7)), (1, .long v1), (3, .int v3), (4, .int v4), (5, .int v5)]) rfl (fun ls hl => ?_)
    exact hL41 v3 v4 v5 r_25 r_27 x_fX x_fY x_sX x_sY FU _ _ _ v1 0 (lv_sub hl [4, 6, 7, 8, 3, 2, 1, 0] rfl) hP hS h
  · replace h := ifp h hc
    refine lv_bipush (v := (-4)) hx hb dX5_copyAt_26 kb_m4 ?_
    replace h := Option.some.inj h
    subst h
    exact rc_i hx hb hr hlocks hS dX5_copyAt_28 rfl hP
noncomputable def pa_index_J123 (k57 : Int32 → (Nat → Int32) → Option (Int32 × (Nat → Int64) × (Nat → Int32))) (k77 : Int32 → (Nat → Int32) → Option (Int32 × (Nat → Int64) × (Nat → Int32))) (v5 : Int32) (v6 : Int32) (x_psize : Int32) (a_pcells : Nat → Int64) (a_pnear : Nat → Int32)  : Option (Int32 × (Nat → Int64) × (Nat → Int32)) :=
  nm (v6 + Int32.ofInt 1) fun v6_1 =>
  k77 v6_1 a_pnear
noncomputable def pa_index_B77 (v5 : Int32) (x_psize : Int32) (a_pcells : Nat → Int64) (k57 : Int32 → (Nat → Int32) → Option (Int32 × (Nat → Int64) × (Nat → Int32))) (k77 : Int32 → (Nat → Int32) → Option (Int32 × (Nat → Int64) × (Nat → Int32))) (v6 : Int32) (a_pnear : Nat → Int32) : Option (Int32 × (Nat → Int64) × (Nat → Int32)) :=
  if x_psize ≤ v6 then (nm (v5 + Int32.ofInt 1) fun v5_2 =>
  k57 v5_2 a_pnear) else
  ck v5 12 <|
  bd1 (gr_around (a_pcells v5.toNatClampNeg)) fun r_3 =>
  ck v6 12 <|
  if (r_3 &&& (a_pcells v6.toNatClampNeg)) = 0 then (pa_index_J123 k57 k77 v5 v6 x_psize a_pcells a_pnear) else
  ck v5 12 <|
  nm ((a_pnear v5.toNatClampNeg) ||| (il 1 v6) : Int32) fun w_5 =>
  ck v5 12 <|
  nm (upd a_pnear v5.toNatClampNeg w_5) fun a_pnear_6 =>
  pa_index_J123 k57 k77 v5 v6 x_psize a_pcells a_pnear_6
noncomputable def pa_index_B57 (x_psize : Int32) (a_pcells : Nat → Int64)  (k57 : Int32 → (Nat → Int32) → Option (Int32 × (Nat → Int64) × (Nat → Int32))) (v5 : Int32) (a_pnear : Nat → Int32) : Option (Int32 × (Nat → Int64) × (Nat → Int32)) :=
  if x_psize ≤ v5 then (some (x_psize, a_pcells, a_pnear)) else
  ck v5 12 <|
  nm (upd a_pnear v5.toNatClampNeg 0) fun a_pnear_7 =>
  fl2 (pa_index_B77 v5 x_psize a_pcells k57) FU 0 a_pnear_7
noncomputable def pa_index_B18 (x_psize : Int32) (a_pnear : Nat → Int32)  (k18 : Int64 → Int32 → (Nat → Int64) → Option (Int32 × (Nat → Int64) × (Nat → Int32))) (v3 : Int64) (v5 : Int32) (a_pcells : Nat → Int64) : Option (Int32 × (Nat → Int64) × (Nat → Int32)) :=
  if x_psize ≤ v5 then (fl2 (pa_index_B57 x_psize a_pcells) FU 0 a_pnear) else
  nm (v3 &&& (-v3) : Int64) fun w_8 =>
  ck v5 12 <|
  nm (vp_updL a_pcells v5.toNatClampNeg w_8) fun a_pcells_9 =>
  ck v5 12 <|
  nm (v3 ^^^ (a_pcells_9 v5.toNatClampNeg) : Int64) fun v3_10 =>
  nm (v5 + Int32.ofInt 1) fun v5_11 =>
  k18 v3_10 v5_11 a_pcells_9
noncomputable def pa_index (v1 : Int64) (x_psize : Int32) (a_pcells : Nat → Int64) (a_pnear : Nat → Int32) : Option (Int32 × (Nat → Int64) × (Nat → Int32)) :=
  bd1 (jl_bitCount v1) fun r_12 =>
  nm (mnI r_12 12 : Int32) fun x_psize_14 =>
  fl3 (pa_index_B18 x_psize_14 a_pnear) FU v1 0 a_pcells
set_option maxHeartbeats 4000000 in
set_option maxRecDepth 100000 in
theorem c_pa_index (l : Launch) (D : va_G) (ct : Nat → ClassId) (ad : Nat → Nat) (hI : cI ad) {x_fed x_tk x_col x_line x_rcells x_rsize x_len x_cuts x_bare x_place x_lA x_lB x_lC x_fX x_fY x_sX x_sY x_made x_fsize x_psize x_over x_touch x_most x_mU x_mV x_area : Int32} {x_board : Int64} {a_tape a_letters a_oneSided a_free a_ends a_crowds a_wmade a_firsts a_widths a_heights a_places a_next a_pnear a_table a_overlaps : Nat → Int32} {a_drawers a_kept a_items a_numbers a_marks a_near a_figures a_covered a_pcells a_matrix : Nat → Int64} (v1 : Int64)  (z_x_psize : Int32) (z_a_pcells : Nat → Int64) (z_a_pnear : Nat → Int32) (h : pa_index v1 x_psize a_pcells a_pnear = some (z_x_psize, z_a_pcells, z_a_pnear)) : Met l yX6_index (wm yX6_index cX6_index 7 none) (rmm 1 38) (va_Pc [.ref (ad 27), .long v1] (cB D ct ad x_fed x_tk x_col x_line x_rcells x_rsize x_len x_cuts x_bare x_place x_lA x_lB x_lC x_fX x_fY x_sX x_sY x_made x_fsize x_psize x_over x_touch x_most x_mU x_mV x_area x_board a_tape a_letters a_oneSided a_free a_ends a_crowds a_wmade a_firsts a_widths a_heights a_places a_next a_pnear a_table a_overlaps a_drawers a_kept a_items a_numbers a_marks a_near a_figures a_covered a_pcells a_matrix)) (va_Qv (fun (_ : Unit) => True) (fun _ t => cP D ct ad x_fed x_tk x_col x_line x_rcells x_rsize x_len x_cuts x_bare x_place x_lA x_lB x_lC x_fX x_fY x_sX x_sY x_made x_fsize z_x_psize x_over x_touch x_most x_mU x_mV x_area x_board a_tape a_letters a_oneSided a_free a_ends a_crowds a_wmade a_firsts a_widths a_heights a_places a_next z_a_pnear a_table a_overlaps a_drawers a_kept a_items a_numbers a_marks a_near a_figures a_covered z_a_pcells a_matrix t.heap) (cA ad)) 0 0 (cA ad) := by
  refine met_s (y := yX6_index) (rm := rmm 1 38) (by decide) (Nat.le_of_ble_eq_true rfl) ?_
  intro p e s m below meth c hx hb hr hw hown hlocks _ hml hB ls hl
  obtain ⟨hN, hK, hP⟩ := hB
  replace hl : lv_has ls 7 [(0, .ref (ad 27)), (1, .long v1)] := hl
  have hS : va_S (cA ad) s.heap s.heap [] := va_S.rf
  generalize (([.ref (ad 27), .long v1] : List Value).toArray) = av at hw ⊢
  rw [pa_index] at h
  have hL57 : ∀ (x_psize : Int32), ∀ (a_pcells : Nat → Int64), ∀ (n57 : Nat) (H : Heap) (locs : List Loc) (ls : Array Slot) (v5 : Int32) (a_pnear : Nat → Int32), lv_has ls 7 [(0, .ref (ad 27)), (5, .int v5)] → cP D ct ad x_fed x_tk x_col x_line x_rcells x_rsize x_len x_cuts x_bare x_place x_lA x_lB x_lC x_fX x_fY x_sX x_sY x_made x_fsize x_psize x_over x_touch x_most x_mU x_mV x_area x_board a_tape a_letters a_oneSided a_free a_ends a_crowds a_wmade a_firsts a_widths a_heights a_places a_next a_pnear a_table a_overlaps a_drawers a_kept a_items a_numbers a_marks a_near a_figures a_covered a_pcells a_matrix H → va_S (cA ad) s.heap H locs → fl2 (pa_index_B57 x_psize a_pcells) n57 v5 a_pnear = some (z_x_psize, z_a_pcells, z_a_pnear) → W p l e (rmm 1 38) s m av below meth c H locs 0 0 (MQ below (va_Qv (fun (_ : Unit) => True) (fun _ t => cP D ct ad x_fed x_tk x_col x_line x_rcells x_rsize x_len x_cuts x_bare x_place x_lA x_lB x_lC x_fX x_fY x_sX x_sY x_made x_fsize z_x_psize x_over x_touch x_most x_mU x_mV x_area x_board a_tape a_letters a_oneSided a_free a_ends a_crowds a_wmade a_firsts a_widths a_heights a_places a_next z_a_pnear a_table a_overlaps a_drawers a_kept a_items a_numbers a_marks a_near a_figures a_covered z_a_pcells a_matrix t.heap) (cA ad)) av s 0 0 (cA ad)) (F0 m 57 ls []) := by
    intro x_psize a_pcells n57
    induction n57 with
    | zero => intro H locs ls v5 a_pnear hl hP hS h; cases h
    | succ n57 ih57 =>
      intro H locs ls v5 a_pnear hl hP hS h
      replace h : pa_index_B57 x_psize a_pcells (fl2 (pa_index_B57 x_psize a_pcells) n57) v5 a_pnear = some (z_x_psize, z_a_pcells, z_a_pnear) := h
      generalize fl2 (pa_index_B57 x_psize a_pcells) n57 = k57 at h ih57
      have hL77 : ∀ (v5 : Int32), ∀ (n77 : Nat) (H : Heap) (locs : List Loc) (ls : Array Slot) (v6 : Int32) (a_pnear : Nat → Int32), lv_has ls 7 [(0, .ref (ad 27)), (5, .int v5), (6, .int v6)] → cP D ct ad x_fed x_tk x_col x_line x_rcells x_rsize x_len x_cuts x_bare x_place x_lA x_lB x_lC x_fX x_fY x_sX x_sY x_made x_fsize x_psize x_over x_touch x_most x_mU x_mV x_area x_board a_tape a_letters a_oneSided a_free a_ends a_crowds a_wmade a_firsts a_widths a_heights a_places a_next a_pnear a_table a_overlaps a_drawers a_kept a_items a_numbers a_marks a_near a_figures a_covered a_pcells a_matrix H → va_S (cA ad) s.heap H locs → fl2 (pa_index_B77 v5 x_psize a_pcells k57) n77 v6 a_pnear = some (z_x_psize, z_a_pcells, z_a_pnear) → W p l e (rmm 1 38) s m av below meth c H locs 0 0 (MQ below (va_Qv (fun (_ : Unit) => True) (fun _ t => cP D ct ad x_fed x_tk x_col x_line x_rcells x_rsize x_len x_cuts x_bare x_place x_lA x_lB x_lC x_fX x_fY x_sX x_sY x_made x_fsize z_x_psize x_over x_touch x_most x_mU x_mV x_area x_board a_tape a_letters a_oneSided a_free a_ends a_crowds a_wmade a_firsts a_widths a_heights a_places a_next z_a_pnear a_table a_overlaps a_drawers a_kept a_items a_numbers a_marks a_near a_figures a_covered z_a_pcells a_matrix t.heap) (cA ad)) av s 0 0 (cA ad)) (F0 m 77 ls []) := by
        intro v5 n77
        induction n77 with
        | zero => intro H locs ls v6 a_pnear hl hP hS h; cases h
        | succ n77 ih77 =>
          intro H locs ls v6 a_pnear hl hP hS h
          replace h : pa_index_B77 v5 x_psize a_pcells k57 (fl2 (pa_index_B77 v5 x_psize a_pcells k57) n77) v6 a_pnear = some (z_x_psize, z_a_pcells, z_a_pnear) := h
          generalize fl2 (pa_index_B77 v5 x_psize a_pcells k57) n77 = k77 at h ih77
          have hJ123 : ∀ (H : Heap) (locs : List Loc) (ls : Array Slot) (v6 : Int32) (a_pnear : Nat → Int32) , lv_has ls 7 [(0, .ref (ad 27)), (5, .int v5), (6, .int v6)] → cP D ct ad x_fed x_tk x_col x_line x_rcells x_rsize x_len x_cuts x_bare x_place x_lA x_lB x_lC x_fX x_fY x_sX x_sY x_made x_fsize x_psize x_over x_touch x_most x_mU x_mV x_area x_board a_tape a_letters a_oneSided a_free a_ends a_crowds a_wmade a_firsts a_widths a_heights a_places a_next a_pnear a_table a_overlaps a_drawers a_kept a_items a_numbers a_marks a_near a_figures a_covered a_pcells a_matrix H → va_S (cA ad) s.heap H locs → pa_index_J123 k57 k77 v5 v6 x_psize a_pcells a_pnear = some (z_x_psize, z_a_pcells, z_a_pnear) → W p l e (rmm 1 38) s m av below meth c H locs 0 0 (MQ below (va_Qv (fun (_ : Unit) => True) (fun _ t => cP D ct ad x_fed x_tk x_col x_line x_rcells x_rsize x_len x_cuts x_bare x_place x_lA x_lB x_lC x_fX x_fY x_sX x_sY x_made x_fsize z_x_psize x_over x_touch x_most x_mU x_mV x_area x_board a_tape a_letters a_oneSided a_free a_ends a_crowds a_wmade a_firsts a_widths a_heights a_places a_next z_a_pnear a_table a_overlaps a_drawers a_kept a_items a_numbers a_marks a_near a_figures a_covered z_a_pcells a_matrix t.heap) (cA ad)) av s 0 0 (cA ad)) (F0 m 123 ls []) := by
            intro H locs ls v6 a_pnear  hl hP hS h
            rw [pa_index_J123] at h
            obtain ⟨v6_15, ev6_15, h⟩ := nm_s h
            refine lv_iinc hx hb dX6_index_123 hl (k := 2) rfl ev6_15.symm (Nat.le_of_ble_eq_true rfl) (lv' := [(6, .int v6_15), (0, .ref (ad 27)), (5, .int v5)]) rfl (fun ls hl => ?_)
            refine lv_goto hx hb dX6_index_126 (tgt := 77) rfl ?_
            exact ih77 _ _ _ v6_15 a_pnear (lv_sub hl [1, 2, 0] rfl) hP hS h
          rw [pa_index_B77] at h
          refine lv_iload hx hb dX6_index_77 (lv_at hl 2 rfl) ?_
          refine lv_aload_n hx hb dX6_index_79 rfl (lv_at hl 0 rfl) ?_
          refine cg_PA_4 hx hb hw hown hK hP dX6_index_80 ?_
          refine lv_icmp_ge hx hb dX6_index_83 (tgt := 129) rfl (fun hc => ?_) (fun hc => ?_)
          · replace h := ifp h hc
            obtain ⟨v5_16, ev5_16, h⟩ := nm_s h
            refine lv_iinc hx hb dX6_index_129 hl (k := 1) rfl ev5_16.symm (Nat.le_of_ble_eq_true rfl) (lv' := [(5, .int v5_16), (0, .ref (ad 27)), (6, .int v6)]) rfl (fun ls hl => ?_)
            refine lv_goto hx hb dX6_index_132 (tgt := 57) rfl ?_
            exact ih57 _ _ _ v5_16 a_pnear (lv_sub hl [1, 0] rfl) hP hS h
          · replace h := ifn h hc
            refine lv_aload_n hx hb dX6_index_86 rfl (lv_at hl 0 rfl) ?_
            refine cg_PA_0 hx hb hw hown hK hP dX6_index_87 ?_
            refine lv_iload hx hb dX6_index_90 (lv_at hl 1 rfl) ?_
            obtain ⟨hin, h⟩ := ck_s h
            refine cd_pcells hx hb hK hP hin dX6_index_92 ?_
            obtain ⟨r_17, hr_18, h⟩ := bd1_s h
            refine sc_l hx hb hml hown hw hN (c_gr_around l (a_pcells v5.toNatClampNeg) r_17 hr_18) g_RX6_71 hd_X2_around (rest := []) hl.1 hS dX6_index_93 rfl rfl ⟨Nat.le_of_ble_eq_true rfl, Nat.le_of_ble_eq_true rfl⟩ rfl rfl (Nat.le_of_ble_eq_true rfl) ⟨Nat.zero_le _, Nat.zero_le _⟩ (fun H locs hk hS => ?_)
            have hP := cP_kept hP hk
            refine lv_aload_n hx hb dX6_index_96 rfl (lv_at hl 0 rfl) ?_
            refine cg_PA_0 hx hb hw hown hK hP dX6_index_97 ?_
            refine lv_iload hx hb dX6_index_100 (lv_at hl 2 rfl) ?_
            obtain ⟨hin, h⟩ := ck_s h
            refine cd_pcells hx hb hK hP hin dX6_index_102 ?_
            refine lv_land hx hb dX6_index_103 ?_
            refine lv_lconst (v := 0) hx hb dX6_index_104 kl_0 ?_
            refine W.lcmp hx hb dX6_index_105 ?_
            refine lv_if_eq hx hb dX6_index_106 (tgt := 123) rfl (fun hc => ?_) (fun hc => ?_)
            · replace h := ifp h ((lg_cmp_eq _ _).mp hc)
              exact hJ123 _ _ _ v6 a_pnear (lv_sub hl [0, 1, 2] rfl) hP hS h
            · replace h := ifn h (fun q => hc ((lg_cmp_eq _ _).mpr q))
              refine lv_aload_n hx hb dX6_index_109 rfl (lv_at hl 0 rfl) ?_
              refine cg_PA_1 hx hb hw hown hK hP dX6_index_110 ?_
              refine lv_iload hx hb dX6_index_113 (lv_at hl 1 rfl) ?_
              refine lv_dup2_11 hx hb dX6_index_115 rfl rfl ?_
              obtain ⟨hin, h⟩ := ck_s h
              refine cd_pnear hx hb hK hP hin dX6_index_116 ?_
              refine lv_iconst (v := 1) hx hb dX6_index_117 ki_1 ?_
              refine lv_iload hx hb dX6_index_118 (lv_at hl 2 rfl) ?_
              refine lv_ishl hx hb dX6_index_120 ?_
              refine nmI (v := il 1 v6) rfl ?_
              refine lv_ior hx hb dX6_index_121 ?_
              obtain ⟨w_19, ew_19, h⟩ := nm_s h
              refine nmI ew_19 ?_
              obtain ⟨hin, h⟩ := ck_s h
              obtain ⟨a_pnear_20, ea_pnear_20, h⟩ := nm_s h
              refine cs_pnear hx hb hK hP hI hS hin ea_pnear_20 dX6_index_122 (fun H locs hP hS => ?_)
              exact hJ123 _ _ _ v6 a_pnear_20 (lv_sub hl [0, 1, 2] rfl) hP hS h
      rw [pa_index_B57] at h
      refine lv_iload hx hb dX6_index_57 (lv_at hl 1 rfl) ?_
      refine lv_aload_n hx hb dX6_index_59 rfl (lv_at hl 0 rfl) ?_
      refine cg_PA_4 hx hb hw hown hK hP dX6_index_60 ?_
      refine lv_icmp_ge hx hb dX6_index_63 (tgt := 135) rfl (fun hc => ?_) (fun hc => ?_)
      · replace h := ifp h hc
        simp only [Option.some.injEq, Prod.mk.injEq] at h
        obtain ⟨rfl, rfl, rfl⟩ := h
        exact rc_v hx hb hr hlocks hS dX6_index_135 hP
      · replace h := ifn h hc
        refine lv_aload_n hx hb dX6_index_66 rfl (lv_at hl 0 rfl) ?_
        refine cg_PA_1 hx hb hw hown hK hP dX6_index_67 ?_
        refine lv_iload hx hb dX6_index_70 (lv_at hl 1 rfl) ?_
        refine lv_iconst (v := 0) hx hb dX6_index_72 ki_0 ?_
        obtain ⟨hin, h⟩ := ck_s h
        obtain ⟨a_pnear_21, ea_pnear_21, h⟩ := nm_s h
        refine cs_pnear hx hb hK hP hI hS hin ea_pnear_21 dX6_index_73 (fun H locs hP hS => ?_)
        refine lv_iconst (v := 0) hx hb dX6_index_74 ki_0 ?_
        refine lv_istore hx hb dX6_index_75 hl (Nat.le_of_ble_eq_true rfl) (lv' := [(6, .int 0), (0, .ref (ad 27)), (5, .int v5)]) rfl (fun ls hl => ?_)
        exact hL77 v5 FU _ _ _ 0 a_pnear_21 (lv_sub hl [1, 2, 0] rfl) hP hS h
  have hL18 : ∀ (x_psize : Int32), ∀ (a_pnear : Nat → Int32), ∀ (n18 : Nat) (H : Heap) (locs : List Loc) (ls : Array Slot) (v3 : Int64) (v5 : Int32) (a_pcells : Nat → Int64), lv_has ls 7 [(0, .ref (ad 27)), (3, .long v3), (5, .int v5)] → cP D ct ad x_fed x_tk x_col x_line x_rcells x_rsize x_len x_cuts x_bare x_place x_lA x_lB x_lC x_fX x_fY x_sX x_sY x_made x_fsize x_psize x_over x_touch x_most x_mU x_mV x_area x_board a_tape a_letters a_oneSided a_free a_ends a_crowds a_wmade a_firsts a_widths a_heights a_places a_next a_pnear a_table a_overlaps a_drawers a_kept a_items a_numbers a_marks a_near a_figures a_covered a_pcells a_matrix H → va_S (cA ad) s.heap H locs → fl3 (pa_index_B18 x_psize a_pnear) n18 v3 v5 a_pcells = some (z_x_psize, z_a_pcells, z_a_pnear) → W p l e (rmm 1 38) s m av below meth c H locs 0 0 (MQ below (va_Qv (fun (_ : Unit) => True) (fun _ t => cP D ct ad x_fed x_tk x_col x_line x_rcells x_rsize x_len x_cuts x_bare x_place x_lA x_lB x_lC x_fX x_fY x_sX x_sY x_made x_fsize z_x_psize x_over x_touch x_most x_mU x_mV x_area x_board a_tape a_letters a_oneSided a_free a_ends a_crowds a_wmade a_firsts a_widths a_heights a_places a_next z_a_pnear a_table a_overlaps a_drawers a_kept a_items a_numbers a_marks a_near a_figures a_covered z_a_pcells a_matrix t.heap) (cA ad)) av s 0 0 (cA ad)) (F0 m 18 ls []) := by
    intro x_psize a_pnear n18
    induction n18 with
    | zero => intro H locs ls v3 v5 a_pcells hl hP hS h; cases h
    | succ n18 ih18 =>
      intro H locs ls v3 v5 a_pcells hl hP hS h
      replace h : pa_index_B18 x_psize a_pnear (fl3 (pa_index_B18 x_psize a_pnear) n18) v3 v5 a_pcells = some (z_x_psize, z_a_pcells, z_a_pnear) := h
      generalize fl3 (pa_index_B18 x_psize a_pnear) n18 = k18 at h ih18
      rw [pa_index_B18] at h
      refine lv_iload hx hb dX6_index_18 (lv_at hl 2 rfl) ?_
      refine lv_aload_n hx hb dX6_index_20 rfl (lv_at hl 0 rfl) ?_
      refine cg_PA_4 hx hb hw hown hK hP dX6_index_21 ?_
      refine lv_icmp_ge hx hb dX6_index_24 (tgt := 54) rfl (fun hc => ?_) (fun hc => ?_)
      · replace h := ifp h hc
        refine lv_iconst (v := 0) hx hb dX6_index_54 ki_0 ?_
        refine lv_istore hx hb dX6_index_55 hl (Nat.le_of_ble_eq_true rfl) (lv' := [(5, .int 0), (0, .ref (ad 27)), (3, .long v3)]) rfl (fun ls hl => ?_)
        exact hL57 x_psize a_pcells FU _ _ _ 0 a_pnear (lv_sub hl [1, 0] rfl) hP hS h
      · replace h := ifn h hc
        refine lv_aload_n hx hb dX6_index_27 rfl (lv_at hl 0 rfl) ?_
        refine cg_PA_0 hx hb hw hown hK hP dX6_index_28 ?_
        refine lv_iload hx hb dX6_index_31 (lv_at hl 2 rfl) ?_
        refine lv_lload_n hx hb dX6_index_33 rfl (lv_at hl 1 rfl) ?_
        refine lv_lload_n hx hb dX6_index_34 rfl (lv_at hl 1 rfl) ?_
        refine lv_lneg hx hb dX6_index_35 ?_
        refine lv_land hx hb dX6_index_36 ?_
        obtain ⟨w_22, ew_22, h⟩ := nm_s h
        refine nmL ew_22 ?_
        obtain ⟨hin, h⟩ := ck_s h
        obtain ⟨a_pcells_23, ea_pcells_23, h⟩ := nm_s h
        refine cs_pcells hx hb hK hP hI hS hin ea_pcells_23 dX6_index_37 (fun H locs hP hS => ?_)
        refine lv_lload_n hx hb dX6_index_38 rfl (lv_at hl 1 rfl) ?_
        refine lv_aload_n hx hb dX6_index_39 rfl (lv_at hl 0 rfl) ?_
        refine cg_PA_0 hx hb hw hown hK hP dX6_index_40 ?_
        refine lv_iload hx hb dX6_index_43 (lv_at hl 2 rfl) ?_
        obtain ⟨hin, h⟩ := ck_s h
        refine cd_pcells hx hb hK hP hin dX6_index_45 ?_
        refine lv_lxor hx hb dX6_index_46 ?_
        obtain ⟨v3_24, ev3_24, h⟩ := nm_s h
        refine nmL ev3_24 ?_
        refine lv_lstore_n hx hb dX6_index_47 rfl hl (Nat.le_of_ble_eq_true rfl) (lv' := [(3, .long v3_24), (0, .ref (ad 27)), (5, .int v5)]) rfl (fun ls hl => ?_)
        obtain ⟨v5_25, ev5_25, h⟩ := nm_s h
        refine lv_iinc hx hb dX6_index_48 hl (k := 2) rfl ev5_25.symm (Nat.le_of_ble_eq_true rfl) (lv' := [(5, .int v5_25), (3, .long v3_24), (0, .ref (ad 27))]) rfl (fun ls hl => ?_)
        refine lv_goto hx hb dX6_index_51 (tgt := 18) rfl ?_
        exact ih18 _ _ _ v3_24 v5_25 a_pcells_23 (lv_sub hl [2, 1, 0] rfl) hP hS h
  refine lv_aload_n hx hb dX6_index_0 rfl (lv_at hl 0 rfl) ?_
  refine lv_lload_n hx hb dX6_index_1 rfl (lv_at hl 1 rfl) ?_
  obtain ⟨r_26, hr_27, h⟩ := bd1_s h
  refine sc_i hx hb hml hown hw hN (c_jl_bitCount l v1 r_26 hr_27) g_RX6_49 hd_J13_bitCount_95d88 (rest := [.ref (ad 27)]) hl.1 hS dX6_index_2 rfl rfl ⟨Nat.le_of_ble_eq_true rfl, Nat.le_of_ble_eq_true rfl⟩ rfl rfl (Nat.le_of_ble_eq_true rfl) ⟨Nat.zero_le _, Nat.zero_le _⟩ (fun H locs hk hS => ?_)
  have hP := cP_kept hP hk
  refine lv_bipush (v := 12) hx hb dX6_index_5 kb_12 ?_
  refine va_mmin hx hb (hml.trans hl.1.symm) hown (hw _ tw_44_4) (hw _ tw_33_6) (hw _ tw_19_23) (hw _ tw_33_7) (Nat.le_of_ble_eq_true rfl) (Nat.le_of_ble_eq_true rfl) (Nat.zero_le _) (Nat.zero_le _) dX6_index_7 ?_
  refine nmI (v := mnI r_26 12) rfl ?_
  obtain ⟨x_psize_28, ex_psize_28, h⟩ := nm_s h
  refine nmI ex_psize_28 ?_
  refine cp_PA_4 hx hb hw hown hK hP hI hS dX6_index_10 (fun H locs hP hS => ?_)
  refine lv_lload_n hx hb dX6_index_13 rfl (lv_at hl 1 rfl) ?_
  refine lv_lstore_n hx hb dX6_index_14 rfl hl (Nat.le_of_ble_eq_true rfl) (lv' := [(3, .long v1), (0, .ref (ad 27)), (1, .long v1)]) rfl (fun ls hl => ?_)
  refine lv_iconst (v := 0) hx hb dX6_index_15 ki_0 ?_
  refine lv_istore hx hb dX6_index_16 hl (Nat.le_of_ble_eq_true rfl) (lv' := [(5, .int 0), (3, .long v1), (0, .ref (ad 27)), (1, .long v1)]) rfl (fun ls hl => ?_)
  exact hL18 x_psize_28 a_pnear FU _ _ _ v1 0 a_pcells (lv_sub hl [2, 1, 0] rfl) hP hS h
noncomputable def pa_fillMatrix_B9 (v1 : Int32) (v2 : Int32) (a_pnear : Nat → Int32) (k2 : Int32 → (Nat → Int64) → Option ((Nat → Int64))) (k9 : Int32 → (Nat → Int64) → Option ((Nat → Int64))) (v3 : Int32) (a_matrix : Nat → Int64) : Option ((Nat → Int64)) :=
  if v1 ≤ v3 then (ck v2 12 <|
  bd1 (ji_bitCount (a_pnear v2.toNatClampNeg)) fun r_1 =>
  nm (r_1.toInt64 : Int64) fun w_3 =>
  nm ((v2 * v1) + v2 : Int32) fun i_4 =>
  ck i_4 121 <|
  nm (vp_updL a_matrix i_4.toNatClampNeg w_3) fun a_matrix_5 =>
  nm (v2 + Int32.ofInt 1) fun v2_6 =>
  k2 v2_6 a_matrix_5) else
  ck v2 12 <|
  nm ((-((ir (a_pnear v2.toNatClampNeg) v3) &&& 1)).toInt64 : Int64) fun w_7 =>
  nm ((v2 * v1) + v3 : Int32) fun i_8 =>
  ck i_8 121 <|
  nm (vp_updL a_matrix i_8.toNatClampNeg w_7) fun a_matrix_9 =>
  nm (v3 + Int32.ofInt 1) fun v3_10 =>
  k9 v3_10 a_matrix_9
noncomputable def pa_fillMatrix_B2 (v1 : Int32) (a_pnear : Nat → Int32)  (k2 : Int32 → (Nat → Int64) → Option ((Nat → Int64))) (v2 : Int32) (a_matrix : Nat → Int64) : Option ((Nat → Int64)) :=
  if v1 ≤ v2 then (some (a_matrix)) else
  fl2 (pa_fillMatrix_B9 v1 v2 a_pnear k2) FU 0 a_matrix
noncomputable def pa_fillMatrix (v1 : Int32) (a_pnear : Nat → Int32) (a_matrix : Nat → Int64) : Option ((Nat → Int64)) :=
  fl2 (pa_fillMatrix_B2 v1 a_pnear) FU 0 a_matrix
set_option maxHeartbeats 4000000 in
set_option maxRecDepth 100000 in
theorem c_pa_fillMatrix (l : Launch) (D : va_G) (ct : Nat → ClassId) (ad : Nat → Nat) (hI : cI ad) {x_fed x_tk x_col x_line x_rcells x_rsize x_len x_cuts x_bare x_place x_lA x_lB x_lC x_fX x_fY x_sX x_sY x_made x_fsize x_psize x_over x_touch x_most x_mU x_mV x_area : Int32} {x_board : Int64} {a_tape a_letters a_oneSided a_free a_ends a_crowds a_wmade a_firsts a_widths a_heights a_places a_next a_pnear a_table a_overlaps : Nat → Int32} {a_drawers a_kept a_items a_numbers a_marks a_near a_figures a_covered a_pcells a_matrix : Nat → Int64} (v1 : Int32)  (z_a_matrix : Nat → Int64) (h : pa_fillMatrix v1 a_pnear a_matrix = some (z_a_matrix)) : Met l yX6_fillMatrix (wm yX6_fillMatrix cX6_fillMatrix 4 none) (rmm 1 20) (va_Pc [.ref (ad 27), .int v1] (cB D ct ad x_fed x_tk x_col x_line x_rcells x_rsize x_len x_cuts x_bare x_place x_lA x_lB x_lC x_fX x_fY x_sX x_sY x_made x_fsize x_psize x_over x_touch x_most x_mU x_mV x_area x_board a_tape a_letters a_oneSided a_free a_ends a_crowds a_wmade a_firsts a_widths a_heights a_places a_next a_pnear a_table a_overlaps a_drawers a_kept a_items a_numbers a_marks a_near a_figures a_covered a_pcells a_matrix)) (va_Qv (fun (_ : Unit) => True) (fun _ t => cP D ct ad x_fed x_tk x_col x_line x_rcells x_rsize x_len x_cuts x_bare x_place x_lA x_lB x_lC x_fX x_fY x_sX x_sY x_made x_fsize x_psize x_over x_touch x_most x_mU x_mV x_area x_board a_tape a_letters a_oneSided a_free a_ends a_crowds a_wmade a_firsts a_widths a_heights a_places a_next a_pnear a_table a_overlaps a_drawers a_kept a_items a_numbers a_marks a_near a_figures a_covered a_pcells z_a_matrix t.heap) (cA ad)) 0 0 (cA ad) := by
  refine met_s (y := yX6_fillMatrix) (rm := rmm 1 20) (by decide) (Nat.le_of_ble_eq_true rfl) ?_
  intro p e s m below meth c hx hb hr hw hown hlocks _ hml hB ls hl
  obtain ⟨hN, hK, hP⟩ := hB
  replace hl : lv_has ls 4 [(0, .ref (ad 27)), (1, .int v1)] := hl
  have hS : va_S (cA ad) s.heap s.heap [] := va_S.rf
  generalize (([.ref (ad 27), .int v1] : List Value).toArray) = av at hw ⊢
  rw [pa_fillMatrix] at h
  have hL2 : ∀ (v1 : Int32), ∀ (a_pnear : Nat → Int32), ∀ (n2 : Nat) (H : Heap) (locs : List Loc) (ls : Array Slot) (v2 : Int32) (a_matrix : Nat → Int64), lv_has ls 4 [(0, .ref (ad 27)), (1, .int v1), (2, .int v2)] → cP D ct ad x_fed x_tk x_col x_line x_rcells x_rsize x_len x_cuts x_bare x_place x_lA x_lB x_lC x_fX x_fY x_sX x_sY x_made x_fsize x_psize x_over x_touch x_most x_mU x_mV x_area x_board a_tape a_letters a_oneSided a_free a_ends a_crowds a_wmade a_firsts a_widths a_heights a_places a_next a_pnear a_table a_overlaps a_drawers a_kept a_items a_numbers a_marks a_near a_figures a_covered a_pcells a_matrix H → va_S (cA ad) s.heap H locs → fl2 (pa_fillMatrix_B2 v1 a_pnear) n2 v2 a_matrix = some (z_a_matrix) → W p l e (rmm 1 20) s m av below meth c H locs 0 0 (MQ below (va_Qv (fun (_ : Unit) => True) (fun _ t => cP D ct ad x_fed x_tk x_col x_line x_rcells x_rsize x_len x_cuts x_bare x_place x_lA x_lB x_lC x_fX x_fY x_sX x_sY x_made x_fsize x_psize x_over x_touch x_most x_mU x_mV x_area x_board a_tape a_letters a_oneSided a_free a_ends a_crowds a_wmade a_firsts a_widths a_heights a_places a_next a_pnear a_table a_overlaps a_drawers a_kept a_items a_numbers a_marks a_near a_figures a_covered a_pcells z_a_matrix t.heap) (cA ad)) av s 0 0 (cA ad)) (F0 m 2 ls []) := by
    intro v1 a_pnear n2
    induction n2 with
    | zero => intro H locs ls v2 a_matrix hl hP hS h; cases h
    | succ n2 ih2 =>
      intro H locs ls v2 a_matrix hl hP hS h
      replace h : pa_fillMatrix_B2 v1 a_pnear (fl2 (pa_fillMatrix_B2 v1 a_pnear) n2) v2 a_matrix = some (z_a_matrix) := h
      generalize fl2 (pa_fillMatrix_B2 v1 a_pnear) n2 = k2 at h ih2
      have hL9 : ∀ (v2 : Int32), ∀ (n9 : Nat) (H : Heap) (locs : List Loc) (ls : Array Slot) (v3 : Int32) (a_matrix : Nat → Int64), lv_has ls 4 [(0, .ref (ad 27)), (1, .int v1), (2, .int v2), (3, .int v3)] → cP D ct ad x_fed x_tk x_col x_line x_rcells x_rsize x_len x_cuts x_bare x_place x_lA x_lB x_lC x_fX x_fY x_sX x_sY x_made x_fsize x_psize x_over x_touch x_most x_mU x_mV x_area x_board a_tape a_letters a_oneSided a_free a_ends a_crowds a_wmade a_firsts a_widths a_heights a_places a_next a_pnear a_table a_overlaps a_drawers a_kept a_items a_numbers a_marks a_near a_figures a_covered a_pcells a_matrix H → va_S (cA ad) s.heap H locs → fl2 (pa_fillMatrix_B9 v1 v2 a_pnear k2) n9 v3 a_matrix = some (z_a_matrix) → W p l e (rmm 1 20) s m av below meth c H locs 0 0 (MQ below (va_Qv (fun (_ : Unit) => True) (fun _ t => cP D ct ad x_fed x_tk x_col x_line x_rcells x_rsize x_len x_cuts x_bare x_place x_lA x_lB x_lC x_fX x_fY x_sX x_sY x_made x_fsize x_psize x_over x_touch x_most x_mU x_mV x_area x_board a_tape a_letters a_oneSided a_free a_ends a_crowds a_wmade a_firsts a_widths a_heights a_places a_next a_pnear a_table a_overlaps a_drawers a_kept a_items a_numbers a_marks a_near a_figures a_covered a_pcells z_a_matrix t.heap) (cA ad)) av s 0 0 (cA ad)) (F0 m 9 ls []) := by
        intro v2 n9
        induction n9 with
        | zero => intro H locs ls v3 a_matrix hl hP hS h; cases h
        | succ n9 ih9 =>
          intro H locs ls v3 a_matrix hl hP hS h
          replace h : pa_fillMatrix_B9 v1 v2 a_pnear k2 (fl2 (pa_fillMatrix_B9 v1 v2 a_pnear k2) n9) v3 a_matrix = some (z_a_matrix) := h
          generalize fl2 (pa_fillMatrix_B9 v1 v2 a_pnear k2) n9 = k9 at h ih9
          rw [pa_fillMatrix_B9] at h
          refine lv_iload_n hx hb dX6_fillMatrix_9 rfl (lv_at hl 3 rfl) ?_
          refine lv_iload_n hx hb dX6_fillMatrix_10 rfl (lv_at hl 1 rfl) ?_
          refine lv_icmp_ge hx hb dX6_fillMatrix_11 (tgt := 42) rfl (fun hc => ?_) (fun hc => ?_)
          · replace h := ifp h hc
            refine lv_aload_n hx hb dX6_fillMatrix_42 rfl (lv_at hl 0 rfl) ?_
            refine cg_PA_3 hx hb hw hown hK hP dX6_fillMatrix_43 ?_
            refine lv_iload_n hx hb dX6_fillMatrix_46 rfl (lv_at hl 2 rfl) ?_
            refine lv_iload_n hx hb dX6_fillMatrix_47 rfl (lv_at hl 1 rfl) ?_
            refine lv_imul hx hb dX6_fillMatrix_48 ?_
            refine lv_iload_n hx hb dX6_fillMatrix_49 rfl (lv_at hl 2 rfl) ?_
            refine lv_iadd hx hb dX6_fillMatrix_50 ?_
            refine lv_aload_n hx hb dX6_fillMatrix_51 rfl (lv_at hl 0 rfl) ?_
            refine cg_PA_1 hx hb hw hown hK hP dX6_fillMatrix_52 ?_
            refine lv_iload_n hx hb dX6_fillMatrix_55 rfl (lv_at hl 2 rfl) ?_
            obtain ⟨hin, h⟩ := ck_s h
            refine cd_pnear hx hb hK hP hin dX6_fillMatrix_56 ?_
            obtain ⟨r_11, hr_12, h⟩ := bd1_s h
            refine sc_i hx hb hml hown hw hN (c_ji_bitCount l (a_pnear v2.toNatClampNeg) r_11 hr_12) g_RX6_76 hd_J6_bitCount_0f7a4 (rest := [.int ((v2 * v1) + v2), .ref (ad 31)]) hl.1 hS dX6_fillMatrix_57 rfl rfl ⟨Nat.le_of_ble_eq_true rfl, Nat.le_of_ble_eq_true rfl⟩ rfl rfl (Nat.le_of_ble_eq_true rfl) ⟨Nat.zero_le _, Nat.zero_le _⟩ (fun H locs hk hS => ?_)
            have hP := cP_kept hP hk
            refine lv_i2l hx hb (v := r_11.toInt64) dX6_fillMatrix_60 rfl ?_
            obtain ⟨w_13, ew_13, h⟩ := nm_s h
            refine nmL ew_13 ?_
            obtain ⟨i_14, ei_14, h⟩ := nm_s h
            refine nmI2 ei_14 ?_
            obtain ⟨hin, h⟩ := ck_s h
            obtain ⟨a_matrix_15, ea_matrix_15, h⟩ := nm_s h
            refine cs_matrix hx hb hK hP hI hS hin ea_matrix_15 dX6_fillMatrix_61 (fun H locs hP hS => ?_)
            obtain ⟨v2_16, ev2_16, h⟩ := nm_s h
            refine lv_iinc hx hb dX6_fillMatrix_62 hl (k := 2) rfl ev2_16.symm (Nat.le_of_ble_eq_true rfl) (lv' := [(2, .int v2_16), (0, .ref (ad 27)), (1, .int v1), (3, .int v3)]) rfl (fun ls hl => ?_)
            refine lv_goto hx hb dX6_fillMatrix_65 (tgt := 2) rfl ?_
            exact ih2 _ _ _ v2_16 a_matrix_15 (lv_sub hl [1, 2, 0] rfl) hP hS h
          · replace h := ifn h hc
            refine lv_aload_n hx hb dX6_fillMatrix_14 rfl (lv_at hl 0 rfl) ?_
            refine cg_PA_3 hx hb hw hown hK hP dX6_fillMatrix_15 ?_
            refine lv_iload_n hx hb dX6_fillMatrix_18 rfl (lv_at hl 2 rfl) ?_
            refine lv_iload_n hx hb dX6_fillMatrix_19 rfl (lv_at hl 1 rfl) ?_
            refine lv_imul hx hb dX6_fillMatrix_20 ?_
            refine lv_iload_n hx hb dX6_fillMatrix_21 rfl (lv_at hl 3 rfl) ?_
            refine lv_iadd hx hb dX6_fillMatrix_22 ?_
            refine lv_aload_n hx hb dX6_fillMatrix_23 rfl (lv_at hl 0 rfl) ?_
            refine cg_PA_1 hx hb hw hown hK hP dX6_fillMatrix_24 ?_
            refine lv_iload_n hx hb dX6_fillMatrix_27 rfl (lv_at hl 2 rfl) ?_
            obtain ⟨hin, h⟩ := ck_s h
            refine cd_pnear hx hb hK hP hin dX6_fillMatrix_28 ?_
            refine lv_iload_n hx hb dX6_fillMatrix_29 rfl (lv_at hl 3 rfl) ?_
            refine lv_ishr hx hb dX6_fillMatrix_30 ?_
            refine nmI (v := ir (a_pnear v2.toNatClampNeg) v3) rfl ?_
            refine lv_iconst (v := 1) hx hb dX6_fillMatrix_31 ki_1 ?_
            refine lv_iand hx hb dX6_fillMatrix_32 ?_
            refine lv_ineg hx hb dX6_fillMatrix_33 ?_
            refine lv_i2l hx hb (v := (-((ir (a_pnear v2.toNatClampNeg) v3) &&& 1)).toInt64) dX6_fillMatrix_34 rfl ?_
            obtain ⟨w_17, ew_17, h⟩ := nm_s h
            refine nmL ew_17 ?_
            obtain ⟨i_18, ei_18, h⟩ := nm_s h
            refine nmI2 ei_18 ?_
            obtain ⟨hin, h⟩ := ck_s h
            obtain ⟨a_matrix_19, ea_matrix_19, h⟩ := nm_s h
            refine cs_matrix hx hb hK hP hI hS hin ea_matrix_19 dX6_fillMatrix_35 (fun H locs hP hS => ?_)
            obtain ⟨v3_20, ev3_20, h⟩ := nm_s h
            refine lv_iinc hx hb dX6_fillMatrix_36 hl (k := 3) rfl ev3_20.symm (Nat.le_of_ble_eq_true rfl) (lv' := [(3, .int v3_20), (0, .ref (ad 27)), (1, .int v1), (2, .int v2)]) rfl (fun ls hl => ?_)
            refine lv_goto hx hb dX6_fillMatrix_39 (tgt := 9) rfl ?_
            exact ih9 _ _ _ v3_20 a_matrix_19 (lv_sub hl [1, 2, 3, 0] rfl) hP hS h
      rw [pa_fillMatrix_B2] at h
      refine lv_iload_n hx hb dX6_fillMatrix_2 rfl (lv_at hl 2 rfl) ?_
      refine lv_iload_n hx hb dX6_fillMatrix_3 rfl (lv_at hl 1 rfl) ?_
      refine lv_icmp_ge hx hb dX6_fillMatrix_4 (tgt := 68) rfl (fun hc => ?_) (fun hc => ?_)
      · replace h := ifp h hc
        replace h := Option.some.inj h
        subst h
        exact rc_v hx hb hr hlocks hS dX6_fillMatrix_68 hP
      · replace h := ifn h hc
        refine lv_iconst (v := 0) hx hb dX6_fillMatrix_7 ki_0 ?_
        refine lv_istore_n hx hb dX6_fillMatrix_8 rfl hl (Nat.le_of_ble_eq_true rfl) (lv' := [(3, .int 0), (0, .ref (ad 27)), (1, .int v1), (2, .int v2)]) rfl (fun ls hl => ?_)
        exact hL9 v2 FU _ _ _ 0 a_matrix (lv_sub hl [1, 2, 3, 0] rfl) hP hS h
  refine lv_iconst (v := 0) hx hb dX6_fillMatrix_0 ki_0 ?_
  refine lv_istore_n hx hb dX6_fillMatrix_1 rfl hl (Nat.le_of_ble_eq_true rfl) (lv' := [(2, .int 0), (0, .ref (ad 27)), (1, .int v1)]) rfl (fun ls hl => ?_)
  exact hL2 v1 a_pnear FU _ _ _ 0 a_matrix (lv_sub hl [1, 2, 0] rfl) hP hS h
noncomputable def pa_eliminate_B23 (v1 : Int32) (v2 : Int32) (v3 : Int64) (v5 : Int32) (k12 : Int32 → (Nat → Int64) → Option ((Nat → Int64))) (k23 : Int32 → (Nat → Int64) → Option ((Nat → Int64))) (v6 : Int32) (a_matrix : Nat → Int64) : Option ((Nat → Int64)) :=
  if v2 ≤ v6 then (nm (v5 + Int32.ofInt 1) fun v5_1 =>
  k12 v5_1 a_matrix) else
  nm ((v5 * v2) + v6 : Int32) fun i_2 =>
  ck i_2 121 <|
  nm ((v1 * v2) + v1 : Int32) fun i_3 =>
  ck i_3 121 <|
  nm ((v5 * v2) + v1 : Int32) fun i_4 =>
  ck i_4 121 <|
  nm ((v1 * v2) + v6 : Int32) fun i_5 =>
  ck i_5 121 <|
  nm (((a_matrix i_2.toNatClampNeg) * (a_matrix i_3.toNatClampNeg)) - ((a_matrix i_4.toNatClampNeg) * (a_matrix i_5.toNatClampNeg)) : Int64) fun v7_6 =>
  dzL v3 <|
  nm (v7_6 / v3 : Int64) fun w_7 =>
  nm ((v5 * v2) + v6 : Int32) fun i_8 =>
  ck i_8 121 <|
  nm (vp_updL a_matrix i_8.toNatClampNeg w_7) fun a_matrix_9 =>
  nm (v6 + Int32.ofInt 1) fun v6_10 =>
  k23 v6_10 a_matrix_9
noncomputable def pa_eliminate_B12 (v1 : Int32) (v2 : Int32) (v3 : Int64)  (k12 : Int32 → (Nat → Int64) → Option ((Nat → Int64))) (v5 : Int32) (a_matrix : Nat → Int64) : Option ((Nat → Int64)) :=
  if v2 ≤ v5 then (some (a_matrix)) else
  nm (v1 + 1 : Int32) fun v6_11 =>
  fl2 (pa_eliminate_B23 v1 v2 v3 v5 k12) FU v6_11 a_matrix
noncomputable def pa_eliminate (v1 : Int32) (v2 : Int32) (v3 : Int64) (a_matrix : Nat → Int64) : Option ((Nat → Int64)) :=
  if v3 = 0 then (some (a_matrix)) else
  nm (v1 + 1 : Int32) fun v5_12 =>
  fl2 (pa_eliminate_B12 v1 v2 v3) FU v5_12 a_matrix
set_option maxHeartbeats 4000000 in
set_option maxRecDepth 100000 in
theorem c_pa_eliminate (l : Launch) (D : va_G) (ct : Nat → ClassId) (ad : Nat → Nat) (hI : cI ad) {x_fed x_tk x_col x_line x_rcells x_rsize x_len x_cuts x_bare x_place x_lA x_lB x_lC x_fX x_fY x_sX x_sY x_made x_fsize x_psize x_over x_touch x_most x_mU x_mV x_area : Int32} {x_board : Int64} {a_tape a_letters a_oneSided a_free a_ends a_crowds a_wmade a_firsts a_widths a_heights a_places a_next a_pnear a_table a_overlaps : Nat → Int32} {a_drawers a_kept a_items a_numbers a_marks a_near a_figures a_covered a_pcells a_matrix : Nat → Int64} (v1 : Int32) (v2 : Int32) (v3 : Int64)  (z_a_matrix : Nat → Int64) (h : pa_eliminate v1 v2 v3 a_matrix = some (z_a_matrix)) : Met l yX6_eliminate (wm yX6_eliminate cX6_eliminate 9 none) (rmm 0 0) (va_Pc [.ref (ad 27), .int v1, .int v2, .long v3] (cB D ct ad x_fed x_tk x_col x_line x_rcells x_rsize x_len x_cuts x_bare x_place x_lA x_lB x_lC x_fX x_fY x_sX x_sY x_made x_fsize x_psize x_over x_touch x_most x_mU x_mV x_area x_board a_tape a_letters a_oneSided a_free a_ends a_crowds a_wmade a_firsts a_widths a_heights a_places a_next a_pnear a_table a_overlaps a_drawers a_kept a_items a_numbers a_marks a_near a_figures a_covered a_pcells a_matrix)) (va_Qv (fun (_ : Unit) => True) (fun _ t => cP D ct ad x_fed x_tk x_col x_line x_rcells x_rsize x_len x_cuts x_bare x_place x_lA x_lB x_lC x_fX x_fY x_sX x_sY x_made x_fsize x_psize x_over x_touch x_most x_mU x_mV x_area x_board a_tape a_letters a_oneSided a_free a_ends a_crowds a_wmade a_firsts a_widths a_heights a_places a_next a_pnear a_table a_overlaps a_drawers a_kept a_items a_numbers a_marks a_near a_figures a_covered a_pcells z_a_matrix t.heap) (cA ad)) 0 0 (cA ad) := by
  refine met_s (y := yX6_eliminate) (rm := rmm 0 0) (by decide) (Nat.le_of_ble_eq_true rfl) ?_
  intro p e s m below meth c hx hb hr hw hown hlocks _ hml hB ls hl
  obtain ⟨hN, hK, hP⟩ := hB
  replace hl : lv_has ls 9 [(0, .ref (ad 27)), (1, .int v1), (2, .int v2), (3, .long v3)] := hl
  have hS : va_S (cA ad) s.heap s.heap [] := va_S.rf
  generalize (([.ref (ad 27), .int v1, .int v2, .long v3] : List Value).toArray) = av at hw ⊢
  rw [pa_eliminate] at h
  have hL12 : ∀ (v1 : Int32), ∀ (v2 : Int32), ∀ (v3 : Int64), ∀ (n12 : Nat) (H : Heap) (locs : List Loc) (ls : Array Slot) (v5 : Int32) (a_matrix : Nat → Int64), lv_has ls 9 [(0, .ref (ad 27)), (1, .int v1), (2, .int v2), (3, .long v3), (5, .int v5)] → cP D ct ad x_fed x_tk x_col x_line x_rcells x_rsize x_len x_cuts x_bare x_place x_lA x_lB x_lC x_fX x_fY x_sX x_sY x_made x_fsize x_psize x_over x_touch x_most x_mU x_mV x_area x_board a_tape a_letters a_oneSided a_free a_ends a_crowds a_wmade a_firsts a_widths a_heights a_places a_next a_pnear a_table a_overlaps a_drawers a_kept a_items a_numbers a_marks a_near a_figures a_covered a_pcells a_matrix H → va_S (cA ad) s.heap H locs → fl2 (pa_eliminate_B12 v1 v2 v3) n12 v5 a_matrix = some (z_a_matrix) → W p l e (rmm 0 0) s m av below meth c H locs 0 0 (MQ below (va_Qv (fun (_ : Unit) => True) (fun _ t => cP D ct ad x_fed x_tk x_col x_line x_rcells x_rsize x_len x_cuts x_bare x_place x_lA x_lB x_lC x_fX x_fY x_sX x_sY x_made x_fsize x_psize x_over x_touch x_most x_mU x_mV x_area x_board a_tape a_letters a_oneSided a_free a_ends a_crowds a_wmade a_firsts a_widths a_heights a_places a_next a_pnear a_table a_overlaps a_drawers a_kept a_items a_numbers a_marks a_near a_figures a_covered a_pcells z_a_matrix t.heap) (cA ad)) av s 0 0 (cA ad)) (F0 m 12 ls []) := by
    intro v1 v2 v3 n12
    induction n12 with
    | zero => intro H locs ls v5 a_matrix hl hP hS h; cases h
    | succ n12 ih12 =>
      intro H locs ls v5 a_matrix hl hP hS h
      replace h : pa_eliminate_B12 v1 v2 v3 (fl2 (pa_eliminate_B12 v1 v2 v3) n12) v5 a_matrix = some (z_a_matrix) := h
      generalize fl2 (pa_eliminate_B12 v1 v2 v3) n12 = k12 at h ih12
      have hL23 : ∀ (v5 : Int32), ∀ (n23 : Nat) (H : Heap) (locs : List Loc) (ls : Array Slot) (v6 : Int32) (a_matrix : Nat → Int64), lv_has ls 9 [(0, .ref (ad 27)), (1, .int v1), (2, .int v2), (3, .long v3), (5, .int v5), (6, .int v6)] → cP D ct ad x_fed x_tk x_col x_line x_rcells x_rsize x_len x_cuts x_bare x_place x_lA x_lB x_lC x_fX x_fY x_sX x_sY x_made x_fsize x_psize x_over x_touch x_most x_mU x_mV x_area x_board a_tape a_letters a_oneSided a_free a_ends a_crowds a_wmade a_firsts a_widths a_heights a_places a_next a_pnear a_table a_overlaps a_drawers a_kept a_items a_numbers a_marks a_near a_figures a_covered a_pcells a_matrix H → va_S (cA ad) s.heap H locs → fl2 (pa_eliminate_B23 v1 v2 v3 v5 k12) n23 v6 a_matrix = some (z_a_matrix) → W p l e (rmm 0 0) s m av below meth c H locs 0 0 (MQ below (va_Qv (fun (_ : Unit) => True) (fun _ t => cP D ct ad x_fed x_tk x_col x_line x_rcells x_rsize x_len x_cuts x_bare x_place x_lA x_lB x_lC x_fX x_fY x_sX x_sY x_made x_fsize x_psize x_over x_touch x_most x_mU x_mV x_area x_board a_tape a_letters a_oneSided a_free a_ends a_crowds a_wmade a_firsts a_widths a_heights a_places a_next a_pnear a_table a_overlaps a_drawers a_kept a_items a_numbers a_marks a_near a_figures a_covered a_pcells z_a_matrix t.heap) (cA ad)) av s 0 0 (cA ad)) (F0 m 23 ls []) := by
        intro v5 n23
        induction n23 with
        | zero => intro H locs ls v6 a_matrix hl hP hS h; cases h
        | succ n23 ih23 =>
          intro H locs ls v6 a_matrix hl hP hS h
          replace h : pa_eliminate_B23 v1 v2 v3 v5 k12 (fl2 (pa_eliminate_B23 v1 v2 v3 v5 k12) n23) v6 a_matrix = some (z_a_matrix) := h
          generalize fl2 (pa_eliminate_B23 v1 v2 v3 v5 k12) n23 = k23 at h ih23
          rw [pa_eliminate_B23] at h
          refine lv_iload hx hb dX6_eliminate_23 (lv_at hl 5 rfl) ?_
          refine lv_iload_n hx hb dX6_eliminate_25 rfl (lv_at hl 2 rfl) ?_
          refine lv_icmp_ge hx hb dX6_eliminate_26 (tgt := 100) rfl (fun hc => ?_) (fun hc => ?_)
          · replace h := ifp h hc
            obtain ⟨v5_13, ev5_13, h⟩ := nm_s h
            refine lv_iinc hx hb dX6_eliminate_100 hl (k := 4) rfl ev5_13.symm (Nat.le_of_ble_eq_true rfl) (lv' := [(5, .int v5_13), (0, .ref (ad 27)), (1, .int v1), (2, .int v2), (3, .long v3), (6, .int v6)]) rfl (fun ls hl => ?_)
            refine lv_goto hx hb dX6_eliminate_103 (tgt := 12) rfl ?_
            exact ih12 _ _ _ v5_13 a_matrix (lv_sub hl [1, 2, 3, 4, 0] rfl) hP hS h
          · replace h := ifn h hc
            refine lv_aload_n hx hb dX6_eliminate_29 rfl (lv_at hl 0 rfl) ?_
            refine cg_PA_3 hx hb hw hown hK hP dX6_eliminate_30 ?_
            refine lv_iload hx hb dX6_eliminate_33 (lv_at hl 4 rfl) ?_
            refine lv_iload_n hx hb dX6_eliminate_35 rfl (lv_at hl 2 rfl) ?_
            refine lv_imul hx hb dX6_eliminate_36 ?_
            refine lv_iload hx hb dX6_eliminate_37 (lv_at hl 5 rfl) ?_
            refine lv_iadd hx hb dX6_eliminate_39 ?_
            obtain ⟨i_14, ei_14, h⟩ := nm_s h
            refine nmI ei_14 ?_
            obtain ⟨hin, h⟩ := ck_s h
            refine cd_matrix hx hb hK hP hin dX6_eliminate_40 ?_
            refine lv_aload_n hx hb dX6_eliminate_41 rfl (lv_at hl 0 rfl) ?_
            refine cg_PA_3 hx hb hw hown hK hP dX6_eliminate_42 ?_
            refine lv_iload_n hx hb dX6_eliminate_45 rfl (lv_at hl 1 rfl) ?_
            refine lv_iload_n hx hb dX6_eliminate_46 rfl (lv_at hl 2 rfl) ?_
            refine lv_imul hx hb dX6_eliminate_47 ?_
            refine lv_iload_n hx hb dX6_eliminate_48 rfl (lv_at hl 1 rfl) ?_
            refine lv_iadd hx hb dX6_eliminate_49 ?_
            obtain ⟨i_15, ei_15, h⟩ := nm_s h
            refine nmI ei_15 ?_
            obtain ⟨hin, h⟩ := ck_s h
            refine cd_matrix hx hb hK hP hin dX6_eliminate_50 ?_
            refine lv_lmul hx hb dX6_eliminate_51 ?_
            refine lv_aload_n hx hb dX6_eliminate_52 rfl (lv_at hl 0 rfl) ?_
            refine cg_PA_3 hx hb hw hown hK hP dX6_eliminate_53 ?_
            refine lv_iload hx hb dX6_eliminate_56 (lv_at hl 4 rfl) ?_
            refine lv_iload_n hx hb dX6_eliminate_58 rfl (lv_at hl 2 rfl) ?_
            refine lv_imul hx hb dX6_eliminate_59 ?_
            refine lv_iload_n hx hb dX6_eliminate_60 rfl (lv_at hl 1 rfl) ?_
            refine lv_iadd hx hb dX6_eliminate_61 ?_
            obtain ⟨i_16, ei_16, h⟩ := nm_s h
            refine nmI ei_16 ?_
            obtain ⟨hin, h⟩ := ck_s h
            refine cd_matrix hx hb hK hP hin dX6_eliminate_62 ?_
            refine lv_aload_n hx hb dX6_eliminate_63 rfl (lv_at hl 0 rfl) ?_
            refine cg_PA_3 hx hb hw hown hK hP dX6_eliminate_64 ?_
            refine lv_iload_n hx hb dX6_eliminate_67 rfl (lv_at hl 1 rfl) ?_
            refine lv_iload_n hx hb dX6_eliminate_68 rfl (lv_at hl 2 rfl) ?_
            refine lv_imul hx hb dX6_eliminate_69 ?_
            refine lv_iload hx hb dX6_eliminate_70 (lv_at hl 5 rfl) ?_
            refine lv_iadd hx hb dX6_eliminate_72 ?_
            obtain ⟨i_17, ei_17, h⟩ := nm_s h
            refine nmI ei_17 ?_
            obtain ⟨hin, h⟩ := ck_s h
            refine cd_matrix hx hb hK hP hin dX6_eliminate_73 ?_
            refine lv_lmul hx hb dX6_eliminate_74 ?_
            refine lv_lsub hx hb dX6_eliminate_75 ?_
            obtain ⟨v7_18, ev7_18, h⟩ := nm_s h
            refine nmL ev7_18 ?_
            refine lv_lstore hx hb dX6_eliminate_76 hl (Nat.le_of_ble_eq_true rfl) (lv' := [(7, .long v7_18), (0, .ref (ad 27)), (1, .int v1), (2, .int v2), (3, .long v3), (5, .int v5), (6, .int v6)]) rfl (fun ls hl => ?_)
            refine lv_aload_n hx hb dX6_eliminate_78 rfl (lv_at hl 1 rfl) ?_
            refine cg_PA_3 hx hb hw hown hK hP dX6_eliminate_79 ?_
            refine lv_iload hx hb dX6_eliminate_82 (lv_at hl 5 rfl) ?_
            refine lv_iload_n hx hb dX6_eliminate_84 rfl (lv_at hl 3 rfl) ?_
            refine lv_imul hx hb dX6_eliminate_85 ?_
            refine lv_iload hx hb dX6_eliminate_86 (lv_at hl 6 rfl) ?_
            refine lv_iadd hx hb dX6_eliminate_88 ?_
            refine lv_lload hx hb dX6_eliminate_89 (lv_at hl 0 rfl) ?_
            refine lv_lload_n hx hb dX6_eliminate_91 rfl (lv_at hl 4 rfl) ?_
            obtain ⟨hne, h⟩ := dzL_s h
            refine lv_ldiv hx hb dX6_eliminate_92 hne ?_
            obtain ⟨w_19, ew_19, h⟩ := nm_s h
            refine nmL ew_19 ?_
            obtain ⟨i_20, ei_20, h⟩ := nm_s h
            refine nmI2 ei_20 ?_
            obtain ⟨hin, h⟩ := ck_s h
            obtain ⟨a_matrix_21, ea_matrix_21, h⟩ := nm_s h
            refine cs_matrix hx hb hK hP hI hS hin ea_matrix_21 dX6_eliminate_93 (fun H locs hP hS => ?_)
            obtain ⟨v6_22, ev6_22, h⟩ := nm_s h
            refine lv_iinc hx hb dX6_eliminate_94 hl (k := 6) rfl ev6_22.symm (Nat.le_of_ble_eq_true rfl) (lv' := [(6, .int v6_22), (7, .long v7_18), (0, .ref (ad 27)), (1, .int v1), (2, .int v2), (3, .long v3), (5, .int v5)]) rfl (fun ls hl => ?_)
            refine lv_goto hx hb dX6_eliminate_97 (tgt := 23) rfl ?_
            exact ih23 _ _ _ v6_22 a_matrix_21 (lv_sub hl [2, 3, 4, 5, 6, 0] rfl) hP hS h
      rw [pa_eliminate_B12] at h
      refine lv_iload hx hb dX6_eliminate_12 (lv_at hl 4 rfl) ?_
      refine lv_iload_n hx hb dX6_eliminate_14 rfl (lv_at hl 2 rfl) ?_
      refine lv_icmp_ge hx hb dX6_eliminate_15 (tgt := 106) rfl (fun hc => ?_) (fun hc => ?_)
      · replace h := ifp h hc
        replace h := Option.some.inj h
        subst h
        exact rc_v hx hb hr hlocks hS dX6_eliminate_106 hP
      · replace h := ifn h hc
        refine lv_iload_n hx hb dX6_eliminate_18 rfl (lv_at hl 1 rfl) ?_
        refine lv_iconst (v := 1) hx hb dX6_eliminate_19 ki_1 ?_
        refine lv_iadd hx hb dX6_eliminate_20 ?_
        obtain ⟨v6_23, ev6_23, h⟩ := nm_s h
        refine nmI ev6_23 ?_
        refine lv_istore hx hb dX6_eliminate_21 hl (Nat.le_of_ble_eq_true rfl) (lv' := [(6, .int v6_23), (0, .ref (ad 27)), (1, .int v1), (2, .int v2), (3, .long v3), (5, .int v5)]) rfl (fun ls hl => ?_)
        exact hL23 v5 FU _ _ _ v6_23 a_matrix (lv_sub hl [1, 2, 3, 4, 5, 0] rfl) hP hS h
  refine lv_lload_n hx hb dX6_eliminate_0 rfl (lv_at hl 3 rfl) ?_
  refine lv_lconst (v := 0) hx hb dX6_eliminate_1 kl_0 ?_
  refine W.lcmp hx hb dX6_eliminate_2 ?_
  refine lv_if_ne hx hb dX6_eliminate_3 (tgt := 7) rfl (fun hc => ?_) (fun hc => ?_)
  · replace h := ifn h (fun q => hc ((lg_cmp_eq _ _).mpr q))
    refine lv_iload_n hx hb dX6_eliminate_7 rfl (lv_at hl 1 rfl) ?_
    refine lv_iconst (v := 1) hx hb dX6_eliminate_8 ki_1 ?_
    refine lv_iadd hx hb dX6_eliminate_9 ?_
    obtain ⟨v5_24, ev5_24, h⟩ := nm_s h
    refine nmI ev5_24 ?_
    refine lv_istore hx hb dX6_eliminate_10 hl (Nat.le_of_ble_eq_true rfl) (lv' := [(5, .int v5_24), (0, .ref (ad 27)), (1, .int v1), (2, .int v2), (3, .long v3)]) rfl (fun ls hl => ?_)
    exact hL12 v1 v2 v3 FU _ _ _ v5_24 a_matrix (lv_sub hl [1, 2, 3, 4, 0] rfl) hP hS h
  · replace h := ifp h ((lg_cmp_eq _ _).mp hc)
    replace h := Option.some.inj h
    subst h
    exact rc_v hx hb hr hlocks hS dX6_eliminate_6 hP
noncomputable def pa_trees_B17 (v1 : Int32) (x_psize : Int32) (a_pnear : Nat → Int32)  (k17 : Int64 → Int32 → (Nat → Int64) → Option (Int64 × (Nat → Int64))) (v2 : Int64) (v4 : Int32) (a_matrix : Nat → Int64) : Option (Int64 × (Nat → Int64)) :=
  if v1 ≤ (v4 + 1) then (if v1 ≤ 0 then (some (1, a_matrix)) else
  nm ((v1 * v1) - 1 : Int32) fun i_1 =>
  ck i_1 121 <|
  some (a_matrix i_1.toNatClampNeg, a_matrix)) else
  if v2 = 0 then (some (0, a_matrix)) else
  bd1 (pa_eliminate v4 v1 v2 a_matrix) fun a_matrix_2 =>
  nm ((v4 * v1) + v4 : Int32) fun i_4 =>
  ck i_4 121 <|
  nm (a_matrix_2 i_4.toNatClampNeg : Int64) fun v2_5 =>
  nm (v4 + Int32.ofInt 1) fun v4_6 =>
  k17 v2_5 v4_6 a_matrix_2
noncomputable def pa_trees (x_psize : Int32) (a_pnear : Nat → Int32) (a_matrix : Nat → Int64) : Option (Int64 × (Nat → Int64)) :=
  nm (x_psize - 1 : Int32) fun v1_7 =>
  bd1 (pa_fillMatrix v1_7 a_pnear a_matrix) fun a_matrix_8 =>
  fl3 (pa_trees_B17 v1_7 x_psize a_pnear) FU 1 0 a_matrix_8
set_option maxHeartbeats 4000000 in
set_option maxRecDepth 100000 in
theorem c_pa_trees (l : Launch) (D : va_G) (ct : Nat → ClassId) (ad : Nat → Nat) (hI : cI ad) {x_fed x_tk x_col x_line x_rcells x_rsize x_len x_cuts x_bare x_place x_lA x_lB x_lC x_fX x_fY x_sX x_sY x_made x_fsize x_psize x_over x_touch x_most x_mU x_mV x_area : Int32} {x_board : Int64} {a_tape a_letters a_oneSided a_free a_ends a_crowds a_wmade a_firsts a_widths a_heights a_places a_next a_pnear a_table a_overlaps : Nat → Int32} {a_drawers a_kept a_items a_numbers a_marks a_near a_figures a_covered a_pcells a_matrix : Nat → Int64}  (r : Int64) (z_a_matrix : Nat → Int64) (h : pa_trees x_psize a_pnear a_matrix = some (r, z_a_matrix)) : Met l yX6_trees (wm yX6_trees cX6_trees 5 (some .long)) (rmm 2 43) (va_Pc [.ref (ad 27)] (cB D ct ad x_fed x_tk x_col x_line x_rcells x_rsize x_len x_cuts x_bare x_place x_lA x_lB x_lC x_fX x_fY x_sX x_sY x_made x_fsize x_psize x_over x_touch x_most x_mU x_mV x_area x_board a_tape a_letters a_oneSided a_free a_ends a_crowds a_wmade a_firsts a_widths a_heights a_places a_next a_pnear a_table a_overlaps a_drawers a_kept a_items a_numbers a_marks a_near a_figures a_covered a_pcells a_matrix)) (va_Ql (fun z (_ : Unit) => z = r) (fun _ t => cP D ct ad x_fed x_tk x_col x_line x_rcells x_rsize x_len x_cuts x_bare x_place x_lA x_lB x_lC x_fX x_fY x_sX x_sY x_made x_fsize x_psize x_over x_touch x_most x_mU x_mV x_area x_board a_tape a_letters a_oneSided a_free a_ends a_crowds a_wmade a_firsts a_widths a_heights a_places a_next a_pnear a_table a_overlaps a_drawers a_kept a_items a_numbers a_marks a_near a_figures a_covered a_pcells z_a_matrix t.heap) (cA ad)) 0 0 (cA ad) := by
  refine met_s (y := yX6_trees) (rm := rmm 2 43) (by decide) (Nat.le_of_ble_eq_true rfl) ?_
  intro p e s m below meth c hx hb hr hw hown hlocks _ hml hB ls hl
  obtain ⟨hN, hK, hP⟩ := hB
  replace hl : lv_has ls 5 [(0, .ref (ad 27))] := hl
  have hS : va_S (cA ad) s.heap s.heap [] := va_S.rf
  generalize (([.ref (ad 27)] : List Value).toArray) = av at hw ⊢
  rw [pa_trees] at h
  have hL17 : ∀ (v1 : Int32), ∀ (x_psize : Int32), ∀ (a_pnear : Nat → Int32), ∀ (n17 : Nat) (H : Heap) (locs : List Loc) (ls : Array Slot) (v2 : Int64) (v4 : Int32) (a_matrix : Nat → Int64), lv_has ls 5 [(0, .ref (ad 27)), (1, .int v1), (2, .long v2), (4, .int v4)] → cP D ct ad x_fed x_tk x_col x_line x_rcells x_rsize x_len x_cuts x_bare x_place x_lA x_lB x_lC x_fX x_fY x_sX x_sY x_made x_fsize x_psize x_over x_touch x_most x_mU x_mV x_area x_board a_tape a_letters a_oneSided a_free a_ends a_crowds a_wmade a_firsts a_widths a_heights a_places a_next a_pnear a_table a_overlaps a_drawers a_kept a_items a_numbers a_marks a_near a_figures a_covered a_pcells a_matrix H → va_S (cA ad) s.heap H locs → fl3 (pa_trees_B17 v1 x_psize a_pnear) n17 v2 v4 a_matrix = some (r, z_a_matrix) → W p l e (rmm 2 43) s m av below meth c H locs 0 0 (MQ below (va_Ql (fun z (_ : Unit) => z = r) (fun _ t => cP D ct ad x_fed x_tk x_col x_line x_rcells x_rsize x_len x_cuts x_bare x_place x_lA x_lB x_lC x_fX x_fY x_sX x_sY x_made x_fsize x_psize x_over x_touch x_most x_mU x_mV x_area x_board a_tape a_letters a_oneSided a_free a_ends a_crowds a_wmade a_firsts a_widths a_heights a_places a_next a_pnear a_table a_overlaps a_drawers a_kept a_items a_numbers a_marks a_near a_figures a_covered a_pcells z_a_matrix t.heap) (cA ad)) av s 0 0 (cA ad)) (F0 m 17 ls []) := by
    intro v1 x_psize a_pnear n17
    induction n17 with
    | zero => intro H locs ls v2 v4 a_matrix hl hP hS h; cases h
    | succ n17 ih17 =>
      intro H locs ls v2 v4 a_matrix hl hP hS h
      replace h : pa_trees_B17 v1 x_psize a_pnear (fl3 (pa_trees_B17 v1 x_psize a_pnear) n17) v2 v4 a_matrix = some (r, z_a_matrix) := h
      generalize fl3 (pa_trees_B17 v1 x_psize a_pnear) n17 = k17 at h ih17
      rw [pa_trees_B17] at h
      refine lv_iload hx hb dX6_trees_17 (lv_at hl 3 rfl) ?_
      refine lv_iconst (v := 1) hx hb dX6_trees_19 ki_1 ?_
      refine lv_iadd hx hb dX6_trees_20 ?_
      refine lv_iload_n hx hb dX6_trees_21 rfl (lv_at hl 1 rfl) ?_
      refine lv_icmp_ge hx hb dX6_trees_22 (tgt := 60) rfl (fun hc => ?_) (fun hc => ?_)
      · replace h := ifp h hc
        refine lv_iload_n hx hb dX6_trees_60 rfl (lv_at hl 1 rfl) ?_
        refine lv_if_le hx hb dX6_trees_61 (tgt := 77) rfl (fun hc => ?_) (fun hc => ?_)
        · replace h := ifp h hc
          refine lv_lconst (v := 1) hx hb dX6_trees_77 kl_1 ?_
          simp only [Option.some.injEq, Prod.mk.injEq] at h
          obtain ⟨rfl, rfl⟩ := h
          exact rc_l hx hb hr hlocks hS dX6_trees_78 rfl hP
        · replace h := ifn h hc
          refine lv_aload_n hx hb dX6_trees_64 rfl (lv_at hl 0 rfl) ?_
          refine cg_PA_3 hx hb hw hown hK hP dX6_trees_65 ?_
          refine lv_iload_n hx hb dX6_trees_68 rfl (lv_at hl 1 rfl) ?_
          refine lv_iload_n hx hb dX6_trees_69 rfl (lv_at hl 1 rfl) ?_
          refine lv_imul hx hb dX6_trees_70 ?_
          refine lv_iconst (v := 1) hx hb dX6_trees_71 ki_1 ?_
          refine lv_isub hx hb dX6_trees_72 ?_
          obtain ⟨i_10, ei_10, h⟩ := nm_s h
          refine nmI ei_10 ?_
          obtain ⟨hin, h⟩ := ck_s h
          refine cd_matrix hx hb hK hP hin dX6_trees_73 ?_
          refine lv_goto hx hb dX6_trees_74 (tgt := 78) rfl ?_
          simp only [Option.some.injEq, Prod.mk.injEq] at h
          obtain ⟨rfl, rfl⟩ := h
          exact rc_l hx hb hr hlocks hS dX6_trees_78 rfl hP
      · replace h := ifn h hc
        refine lv_lload_n hx hb dX6_trees_25 rfl (lv_at hl 2 rfl) ?_
        refine lv_lconst (v := 0) hx hb dX6_trees_26 kl_0 ?_
        refine W.lcmp hx hb dX6_trees_27 ?_
        refine lv_if_ne hx hb dX6_trees_28 (tgt := 33) rfl (fun hc => ?_) (fun hc => ?_)
        · replace h := ifn h (fun q => hc ((lg_cmp_eq _ _).mpr q))
          refine lv_aload_n hx hb dX6_trees_33 rfl (lv_at hl 0 rfl) ?_
          refine lv_iload hx hb dX6_trees_34 (lv_at hl 3 rfl) ?_
          refine lv_iload_n hx hb dX6_trees_36 rfl (lv_at hl 1 rfl) ?_
          refine lv_lload_n hx hb dX6_trees_37 rfl (lv_at hl 2 rfl) ?_
          obtain ⟨a_matrix_11, hr_12, h⟩ := bd1_s h
          refine hv_v hx hb hml hown hw cB_bl (cB_of hN hK hP) (cr_PA hK hP) (c_pa_eliminate l D ct ad hI v4 v1 v2 a_matrix_11 hr_12) g_RX6_105 ⟨rfl, hd_X6_eliminate⟩ (rest := []) hl.1 hS (fun q h => h) dX6_trees_38 rfl rfl ⟨Nat.le_of_ble_eq_true rfl, Nat.le_of_ble_eq_true rfl⟩ rfl rfl (Nat.le_of_ble_eq_true rfl) ⟨Nat.zero_le _, Nat.zero_le _⟩ (fun H locs hP _ hS => ?_)
          refine lv_aload_n hx hb dX6_trees_41 rfl (lv_at hl 0 rfl) ?_
          refine cg_PA_3 hx hb hw hown hK hP dX6_trees_42 ?_
          refine lv_iload hx hb dX6_trees_45 (lv_at hl 3 rfl) ?_
          refine lv_iload_n hx hb dX6_trees_47 rfl (lv_at hl 1 rfl) ?_
          refine lv_imul hx hb dX6_trees_48 ?_
          refine lv_iload hx hb dX6_trees_49 (lv_at hl 3 rfl) ?_
          refine lv_iadd hx hb dX6_trees_51 ?_
          obtain ⟨i_13, ei_13, h⟩ := nm_s h
          refine nmI ei_13 ?_
          obtain ⟨hin, h⟩ := ck_s h
          refine cd_matrix hx hb hK hP hin dX6_trees_52 ?_
          obtain ⟨v2_14, ev2_14, h⟩ := nm_s h
          refine nmL ev2_14 ?_
          refine lv_lstore_n hx hb dX6_trees_53 rfl hl (Nat.le_of_ble_eq_true rfl) (lv' := [(2, .long v2_14), (0, .ref (ad 27)), (1, .int v1), (4, .int v4)]) rfl (fun ls hl => ?_)
          obtain ⟨v4_15, ev4_15, h⟩ := nm_s h
          refine lv_iinc hx hb dX6_trees_54 hl (k := 3) rfl ev4_15.symm (Nat.le_of_ble_eq_true rfl) (lv' := [(4, .int v4_15), (2, .long v2_14), (0, .ref (ad 27)), (1, .int v1)]) rfl (fun ls hl => ?_)
          refine lv_goto hx hb dX6_trees_57 (tgt := 17) rfl ?_
          exact ih17 _ _ _ v2_14 v4_15 a_matrix_11 (lv_sub hl [2, 3, 1, 0] rfl) hP hS h
        · replace h := ifp h ((lg_cmp_eq _ _).mp hc)
          refine lv_lconst (v := 0) hx hb dX6_trees_31 kl_0 ?_
          simp only [Option.some.injEq, Prod.mk.injEq] at h
          obtain ⟨rfl, rfl⟩ := h
          exact rc_l hx hb hr hlocks hS dX6_trees_32 rfl hP
  refine lv_aload_n hx hb dX6_trees_0 rfl (lv_at hl 0 rfl) ?_
  refine cg_PA_4 hx hb hw hown hK hP dX6_trees_1 ?_
  refine lv_iconst (v := 1) hx hb dX6_trees_4 ki_1 ?_
  refine lv_isub hx hb dX6_trees_5 ?_
  obtain ⟨v1_16, ev1_16, h⟩ := nm_s h
  refine nmI ev1_16 ?_
  refine lv_istore_n hx hb dX6_trees_6 rfl hl (Nat.le_of_ble_eq_true rfl) (lv' := [(1, .int v1_16), (0, .ref (ad 27))]) rfl (fun ls hl => ?_)
  refine lv_aload_n hx hb dX6_trees_7 rfl (lv_at hl 1 rfl) ?_
  refine lv_iload_n hx hb dX6_trees_8 rfl (lv_at hl 0 rfl) ?_
  obtain ⟨a_matrix_17, hr_18, h⟩ := bd1_s h
  refine hv_v hx hb hml hown hw cB_bl (cB_of hN hK hP) (cr_PA hK hP) (c_pa_fillMatrix l D ct ad hI v1_16 a_matrix_17 hr_18) g_RX6_101 ⟨rfl, hd_X6_fillMatrix⟩ (rest := []) hl.1 hS (fun q h => h) dX6_trees_9 rfl rfl ⟨Nat.le_of_ble_eq_true rfl, Nat.le_of_ble_eq_true rfl⟩ rfl rfl (Nat.le_of_ble_eq_true rfl) ⟨Nat.zero_le _, Nat.zero_le _⟩ (fun H locs hP _ hS => ?_)
  refine lv_lconst (v := 1) hx hb dX6_trees_12 kl_1 ?_
  refine lv_lstore_n hx hb dX6_trees_13 rfl hl (Nat.le_of_ble_eq_true rfl) (lv' := [(2, .long 1), (1, .int v1_16), (0, .ref (ad 27))]) rfl (fun ls hl => ?_)
  refine lv_iconst (v := 0) hx hb dX6_trees_14 ki_0 ?_
  refine lv_istore hx hb dX6_trees_15 hl (Nat.le_of_ble_eq_true rfl) (lv' := [(4, .int 0), (2, .long 1), (1, .int v1_16), (0, .ref (ad 27))]) rfl (fun ls hl => ?_)
  exact hL17 v1_16 x_psize a_pnear FU _ _ _ 1 0 a_matrix_17 (lv_sub hl [3, 2, 1, 0] rfl) hP hS h
noncomputable def pa_longestWay_J69 (k5 : Int32 → Int32 → Option (Int64)) (x_psize : Int32) (a_pcells : Nat → Int64) (v1 : Int64) (v3 : Int32) (v4 : Int32)  : Option (Int64) :=
  nm (v4 + Int32.ofInt 1) fun v4_1 =>
  k5 v3 v4_1
noncomputable def pa_longestWay_B26 (v1 : Int64) (v4 : Int32) (x_psize : Int32) (a_pcells : Nat → Int64) (k5 : Int32 → Int32 → Option (Int64)) (k26 : Int32 → Int64 → Int32 → Option (Int64)) (v3 : Int32) (v5 : Int64) (v7 : Int32) : Option (Int64) :=
  if x_psize ≤ v7 then (pa_longestWay_J69 k5 x_psize a_pcells v1 v3 v4) else
  if v5 = v1 then (pa_longestWay_J69 k5 x_psize a_pcells v1 v3 v4) else
  bd1 (gr_around v5) fun r_2 =>
  nm (v5 ||| (r_2 &&& v1) : Int64) fun v5_4 =>
  nm (mxI v3 (v7 + 1) : Int32) fun v3_5 =>
  nm (v7 + Int32.ofInt 1) fun v7_6 =>
  k26 v3_5 v5_4 v7_6
noncomputable def pa_longestWay_B5 (v1 : Int64) (x_psize : Int32) (a_pcells : Nat → Int64)  (k5 : Int32 → Int32 → Option (Int64)) (v3 : Int32) (v4 : Int32) : Option (Int64) :=
  if x_psize ≤ v4 then (some (v3.toInt64)) else
  ck v4 12 <|
  nm (a_pcells v4.toNatClampNeg : Int64) fun v5_7 =>
  fl3 (pa_longestWay_B26 v1 v4 x_psize a_pcells k5) FU v3 v5_7 0
noncomputable def pa_longestWay (v1 : Int64) (x_psize : Int32) (a_pcells : Nat → Int64) : Option (Int64) :=
  fl2 (pa_longestWay_B5 v1 x_psize a_pcells) FU 0 0
set_option maxHeartbeats 4000000 in
set_option maxRecDepth 100000 in
theorem c_pa_longestWay (l : Launch) (D : va_G) (ct : Nat → ClassId) (ad : Nat → Nat) (hI : cI ad) {x_fed x_tk x_col x_line x_rcells x_rsize x_len x_cuts x_bare x_place x_lA x_lB x_lC x_fX x_fY x_sX x_sY x_made x_fsize x_psize x_over x_touch x_most x_mU x_mV x_area : Int32} {x_board : Int64} {a_tape a_letters a_oneSided a_free a_ends a_crowds a_wmade a_firsts a_widths a_heights a_places a_next a_pnear a_table a_overlaps : Nat → Int32} {a_drawers a_kept a_items a_numbers a_marks a_near a_figures a_covered a_pcells a_matrix : Nat → Int64} (v1 : Int64) (r : Int64)  (h : pa_longestWay v1 x_psize a_pcells = some (r)) : Met l yX6_longestWay (wm yX6_longestWay cX6_longestWay 8 (some .long)) (rmm 1 38) (va_Pc [.ref (ad 27), .long v1] (cB D ct ad x_fed x_tk x_col x_line x_rcells x_rsize x_len x_cuts x_bare x_place x_lA x_lB x_lC x_fX x_fY x_sX x_sY x_made x_fsize x_psize x_over x_touch x_most x_mU x_mV x_area x_board a_tape a_letters a_oneSided a_free a_ends a_crowds a_wmade a_firsts a_widths a_heights a_places a_next a_pnear a_table a_overlaps a_drawers a_kept a_items a_numbers a_marks a_near a_figures a_covered a_pcells a_matrix)) (va_Ql (fun z (_ : Unit) => z = r) (fun _ t => cP D ct ad x_fed x_tk x_col x_line x_rcells x_rsize x_len x_cuts x_bare x_place x_lA x_lB x_lC x_fX x_fY x_sX x_sY x_made x_fsize x_psize x_over x_touch x_most x_mU x_mV x_area x_board a_tape a_letters a_oneSided a_free a_ends a_crowds a_wmade a_firsts a_widths a_heights a_places a_next a_pnear a_table a_overlaps a_drawers a_kept a_items a_numbers a_marks a_near a_figures a_covered a_pcells a_matrix t.heap) (cA ad)) 0 0 (cA ad) := by
  refine met_s (y := yX6_longestWay) (rm := rmm 1 38) (by decide) (Nat.le_of_ble_eq_true rfl) ?_
  intro p e s m below meth c hx hb hr hw hown hlocks _ hml hB ls hl
  obtain ⟨hN, hK, hP⟩ := hB
  replace hl : lv_has ls 8 [(0, .ref (ad 27)), (1, .long v1)] := hl
  have hS : va_S (cA ad) s.heap s.heap [] := va_S.rf
  generalize (([.ref (ad 27), .long v1] : List Value).toArray) = av at hw ⊢
  rw [pa_longestWay] at h
  have hL5 : ∀ (v1 : Int64), ∀ (x_psize : Int32), ∀ (a_pcells : Nat → Int64), ∀ (n5 : Nat) (H : Heap) (locs : List Loc) (ls : Array Slot) (v3 : Int32) (v4 : Int32), lv_has ls 8 [(0, .ref (ad 27)), (1, .long v1), (3, .int v3), (4, .int v4)] → cP D ct ad x_fed x_tk x_col x_line x_rcells x_rsize x_len x_cuts x_bare x_place x_lA x_lB x_lC x_fX x_fY x_sX x_sY x_made x_fsize x_psize x_over x_touch x_most x_mU x_mV x_area x_board a_tape a_letters a_oneSided a_free a_ends a_crowds a_wmade a_firsts a_widths a_heights a_places a_next a_pnear a_table a_overlaps a_drawers a_kept a_items a_numbers a_marks a_near a_figures a_covered a_pcells a_matrix H → va_S (cA ad) s.heap H locs → fl2 (pa_longestWay_B5 v1 x_psize a_pcells) n5 v3 v4 = some (r) → W p l e (rmm 1 38) s m av below meth c H locs 0 0 (MQ below (va_Ql (fun z (_ : Unit) => z = r) (fun _ t => cP D ct ad x_fed x_tk x_col x_line x_rcells x_rsize x_len x_cuts x_bare x_place x_lA x_lB x_lC x_fX x_fY x_sX x_sY x_made x_fsize x_psize x_over x_touch x_most x_mU x_mV x_area x_board a_tape a_letters a_oneSided a_free a_ends a_crowds a_wmade a_firsts a_widths a_heights a_places a_next a_pnear a_table a_overlaps a_drawers a_kept a_items a_numbers a_marks a_near a_figures a_covered a_pcells a_matrix t.heap) (cA ad)) av s 0 0 (cA ad)) (F0 m 5 ls []) := by
    intro v1 x_psize a_pcells n5
    induction n5 with
    | zero => intro H locs ls v3 v4 hl hP hS h; cases h
    | succ n5 ih5 =>
      intro H locs ls v3 v4 hl hP hS h
      replace h : pa_longestWay_B5 v1 x_psize a_pcells (fl2 (pa_longestWay_B5 v1 x_psize a_pcells) n5) v3 v4 = some (r) := h
      generalize fl2 (pa_longestWay_B5 v1 x_psize a_pcells) n5 = k5 at h ih5
      have hJ69 : ∀ (H : Heap) (locs : List Loc) (ls : Array Slot) (v3 : Int32) (v4 : Int32) , lv_has ls 8 [(0, .ref (ad 27)), (1, .long v1), (3, .int v3), (4, .int v4)] → cP D ct ad x_fed x_tk x_col x_line x_rcells x_rsize x_len x_cuts x_bare x_place x_lA x_lB x_lC x_fX x_fY x_sX x_sY x_made x_fsize x_psize x_over x_touch x_most x_mU x_mV x_area x_board a_tape a_letters a_oneSided a_free a_ends a_crowds a_wmade a_firsts a_widths a_heights a_places a_next a_pnear a_table a_overlaps a_drawers a_kept a_items a_numbers a_marks a_near a_figures a_covered a_pcells a_matrix H → va_S (cA ad) s.heap H locs → pa_longestWay_J69 k5 x_psize a_pcells v1 v3 v4 = some (r) → W p l e (rmm 1 38) s m av below meth c H locs 0 0 (MQ below (va_Ql (fun z (_ : Unit) => z = r) (fun _ t => cP D ct ad x_fed x_tk x_col x_line x_rcells x_rsize x_len x_cuts x_bare x_place x_lA x_lB x_lC x_fX x_fY x_sX x_sY x_made x_fsize x_psize x_over x_touch x_most x_mU x_mV x_area x_board a_tape a_letters a_oneSided a_free a_ends a_crowds a_wmade a_firsts a_widths a_heights a_places a_next a_pnear a_table a_overlaps a_drawers a_kept a_items a_numbers a_marks a_near a_figures a_covered a_pcells a_matrix t.heap) (cA ad)) av s 0 0 (cA ad)) (F0 m 69 ls []) := by
        intro H locs ls v3 v4  hl hP hS h
        rw [pa_longestWay_J69] at h
        obtain ⟨v4_8, ev4_8, h⟩ := nm_s h
        refine lv_iinc hx hb dX6_longestWay_69 hl (k := 3) rfl ev4_8.symm (Nat.le_of_ble_eq_true rfl) (lv' := [(4, .int v4_8), (0, .ref (ad 27)), (1, .long v1), (3, .int v3)]) rfl (fun ls hl => ?_)
        refine lv_goto hx hb dX6_longestWay_72 (tgt := 5) rfl ?_
        exact ih5 _ _ _ v3 v4_8 (lv_sub hl [1, 2, 3, 0] rfl) hP hS h
      have hL26 : ∀ (v4 : Int32), ∀ (n26 : Nat) (H : Heap) (locs : List Loc) (ls : Array Slot) (v3 : Int32) (v5 : Int64) (v7 : Int32), lv_has ls 8 [(0, .ref (ad 27)), (1, .long v1), (3, .int v3), (4, .int v4), (5, .long v5), (7, .int v7)] → cP D ct ad x_fed x_tk x_col x_line x_rcells x_rsize x_len x_cuts x_bare x_place x_lA x_lB x_lC x_fX x_fY x_sX x_sY x_made x_fsize x_psize x_over x_touch x_most x_mU x_mV x_area x_board a_tape a_letters a_oneSided a_free a_ends a_crowds a_wmade a_firsts a_widths a_heights a_places a_next a_pnear a_table a_overlaps a_drawers a_kept a_items a_numbers a_marks a_near a_figures a_covered a_pcells a_matrix H → va_S (cA ad) s.heap H locs → fl3 (pa_longestWay_B26 v1 v4 x_psize a_pcells k5) n26 v3 v5 v7 = some (r) → W p l e (rmm 1 38) s m av below meth c H locs 0 0 (MQ below (va_Ql (fun z (_ : Unit) => z = r) (fun _ t => cP D ct ad x_fed x_tk x_col x_line x_rcells x_rsize x_len x_cuts x_bare x_place x_lA x_lB x_lC x_fX x_fY x_sX x_sY x_made x_fsize x_psize x_over x_touch x_most x_mU x_mV x_area x_board a_tape a_letters a_oneSided a_free a_ends a_crowds a_wmade a_firsts a_widths a_heights a_places a_next a_pnear a_table a_overlaps a_drawers a_kept a_items a_numbers a_marks a_near a_figures a_covered a_pcells a_matrix t.heap) (cA ad)) av s 0 0 (cA ad)) (F0 m 26 ls []) := by
        intro v4 n26
        induction n26 with
        | zero => intro H locs ls v3 v5 v7 hl hP hS h; cases h
        | succ n26 ih26 =>
          intro H locs ls v3 v5 v7 hl hP hS h
          replace h : pa_longestWay_B26 v1 v4 x_psize a_pcells k5 (fl3 (pa_longestWay_B26 v1 v4 x_psize a_pcells k5) n26) v3 v5 v7 = some (r) := h
          generalize fl3 (pa_longestWay_B26 v1 v4 x_psize a_pcells k5) n26 = k26 at h ih26
          rw [pa_longestWay_B26] at h
          refine lv_iload hx hb dX6_longestWay_26 (lv_at hl 5 rfl) ?_
          refine lv_aload_n hx hb dX6_longestWay_28 rfl (lv_at hl 0 rfl) ?_
          refine cg_PA_4 hx hb hw hown hK hP dX6_longestWay_29 ?_
          refine lv_icmp_ge hx hb dX6_longestWay_32 (tgt := 69) rfl (fun hc => ?_) (fun hc => ?_)
          · replace h := ifp h hc
            exact hJ69 _ _ _ v3 v4 (lv_sub hl [0, 1, 2, 3] rfl) hP hS h
          · replace h := ifn h hc
            refine lv_lload hx hb dX6_longestWay_35 (lv_at hl 4 rfl) ?_
            refine lv_lload_n hx hb dX6_longestWay_37 rfl (lv_at hl 1 rfl) ?_
            refine W.lcmp hx hb dX6_longestWay_38 ?_
            refine lv_if_eq hx hb dX6_longestWay_39 (tgt := 69) rfl (fun hc => ?_) (fun hc => ?_)
            · replace h := ifp h ((lg_cmp_eq _ _).mp hc)
              exact hJ69 _ _ _ v3 v4 (lv_sub hl [0, 1, 2, 3] rfl) hP hS h
            · replace h := ifn h (fun q => hc ((lg_cmp_eq _ _).mpr q))
              refine lv_lload hx hb dX6_longestWay_42 (lv_at hl 4 rfl) ?_
              refine lv_lload hx hb dX6_longestWay_44 (lv_at hl 4 rfl) ?_
              obtain ⟨r_9, hr_10, h⟩ := bd1_s h
              refine sc_l hx hb hml hown hw hN (c_gr_around l v5 r_9 hr_10) g_RX6_71 hd_X2_around (rest := [.long v5]) hl.1 hS dX6_longestWay_46 rfl rfl ⟨Nat.le_of_ble_eq_true rfl, Nat.le_of_ble_eq_true rfl⟩ rfl rfl (Nat.le_of_ble_eq_true rfl) ⟨Nat.zero_le _, Nat.zero_le _⟩ (fun H locs hk hS => ?_)
              have hP := cP_kept hP hk
              refine lv_lload_n hx hb dX6_longestWay_49 rfl (lv_at hl 1 rfl) ?_
              refine lv_land hx hb dX6_longestWay_50 ?_
              refine lv_lor hx hb dX6_longestWay_51 ?_
              obtain ⟨v5_11, ev5_11, h⟩ := nm_s h
              refine nmL ev5_11 ?_
              refine lv_lstore hx hb dX6_longestWay_52 hl (Nat.le_of_ble_eq_true rfl) (lv' := [(5, .long v5_11), (0, .ref (ad 27)), (1, .long v1), (3, .int v3), (4, .int v4), (7, .int v7)]) rfl (fun ls hl => ?_)
              refine lv_iload_n hx hb dX6_longestWay_54 rfl (lv_at hl 3 rfl) ?_
              refine lv_iload hx hb dX6_longestWay_55 (lv_at hl 5 rfl) ?_
              refine lv_iconst (v := 1) hx hb dX6_longestWay_57 ki_1 ?_
              refine lv_iadd hx hb dX6_longestWay_58 ?_
              refine va_mmax hx hb (hml.trans hl.1.symm) hown (hw _ tw_45_17) (hw _ tw_21_17) (hw _ tw_19_23) (hw _ tw_21_18) (Nat.le_of_ble_eq_true rfl) (Nat.le_of_ble_eq_true rfl) (Nat.zero_le _) (Nat.zero_le _) dX6_longestWay_59 ?_
              refine nmI (v := mxI v3 (v7 + 1)) rfl ?_
              obtain ⟨v3_12, ev3_12, h⟩ := nm_s h
              refine nmI ev3_12 ?_
              refine lv_istore_n hx hb dX6_longestWay_62 rfl hl (Nat.le_of_ble_eq_true rfl) (lv' := [(3, .int v3_12), (5, .long v5_11), (0, .ref (ad 27)), (1, .long v1), (4, .int v4), (7, .int v7)]) rfl (fun ls hl => ?_)
              obtain ⟨v7_13, ev7_13, h⟩ := nm_s h
              refine lv_iinc hx hb dX6_longestWay_63 hl (k := 5) rfl ev7_13.symm (Nat.le_of_ble_eq_true rfl) (lv' := [(7, .int v7_13), (3, .int v3_12), (5, .long v5_11), (0, .ref (ad 27)), (1, .long v1), (4, .int v4)]) rfl (fun ls hl => ?_)
              refine lv_goto hx hb dX6_longestWay_66 (tgt := 26) rfl ?_
              exact ih26 _ _ _ v3_12 v5_11 v7_13 (lv_sub hl [3, 4, 1, 5, 2, 0] rfl) hP hS h
      rw [pa_longestWay_B5] at h
      refine lv_iload hx hb dX6_longestWay_5 (lv_at hl 3 rfl) ?_
      refine lv_aload_n hx hb dX6_longestWay_7 rfl (lv_at hl 0 rfl) ?_
      refine cg_PA_4 hx hb hw hown hK hP dX6_longestWay_8 ?_
      refine lv_icmp_ge hx hb dX6_longestWay_11 (tgt := 75) rfl (fun hc => ?_) (fun hc => ?_)
      · replace h := ifp h hc
        refine lv_iload_n hx hb dX6_longestWay_75 rfl (lv_at hl 2 rfl) ?_
        refine lv_i2l hx hb (v := v3.toInt64) dX6_longestWay_76 rfl ?_
        replace h := Option.some.inj h
        subst h
        exact rc_l hx hb hr hlocks hS dX6_longestWay_77 rfl hP
      · replace h := ifn h hc
        refine lv_aload_n hx hb dX6_longestWay_14 rfl (lv_at hl 0 rfl) ?_
        refine cg_PA_0 hx hb hw hown hK hP dX6_longestWay_15 ?_
        refine lv_iload hx hb dX6_longestWay_18 (lv_at hl 3 rfl) ?_
        obtain ⟨hin, h⟩ := ck_s h
        refine cd_pcells hx hb hK hP hin dX6_longestWay_20 ?_
        obtain ⟨v5_14, ev5_14, h⟩ := nm_s h
        refine nmL ev5_14 ?_
        refine lv_lstore hx hb dX6_longestWay_21 hl (Nat.le_of_ble_eq_true rfl) (lv' := [(5, .long v5_14), (0, .ref (ad 27)), (1, .long v1), (3, .int v3), (4, .int v4)]) rfl (fun ls hl => ?_)
        refine lv_iconst (v := 0) hx hb dX6_longestWay_23 ki_0 ?_
        refine lv_istore hx hb dX6_longestWay_24 hl (Nat.le_of_ble_eq_true rfl) (lv' := [(7, .int 0), (5, .long v5_14), (0, .ref (ad 27)), (1, .long v1), (3, .int v3), (4, .int v4)]) rfl (fun ls hl => ?_)
        exact hL26 v4 FU _ _ _ v3 v5_14 0 (lv_sub hl [2, 3, 4, 5, 1, 0] rfl) hP hS h
  refine lv_iconst (v := 0) hx hb dX6_longestWay_0 ki_0 ?_
  refine lv_istore_n hx hb dX6_longestWay_1 rfl hl (Nat.le_of_ble_eq_true rfl) (lv' := [(3, .int 0), (0, .ref (ad 27)), (1, .long v1)]) rfl (fun ls hl => ?_)
  refine lv_iconst (v := 0) hx hb dX6_longestWay_2 ki_0 ?_
  refine lv_istore hx hb dX6_longestWay_3 hl (Nat.le_of_ble_eq_true rfl) (lv' := [(4, .int 0), (3, .int 0), (0, .ref (ad 27)), (1, .long v1)]) rfl (fun ls hl => ?_)
  exact hL5 v1 x_psize a_pcells FU _ _ _ 0 0 (lv_sub hl [2, 3, 1, 0] rfl) hP hS h
noncomputable def pa_boardOf_J33 (k5 : Int64 → Int32 → Option (Int64)) (x_psize : Int32) (a_pcells : Nat → Int64) (v1 : Int32) (v2 : Int64) (v4 : Int32)  : Option (Int64) :=
  nm (v4 + Int32.ofInt 1) fun v4_1 =>
  k5 v2 v4_1
noncomputable def pa_boardOf_B5 (v1 : Int32) (x_psize : Int32) (a_pcells : Nat → Int64)  (k5 : Int64 → Int32 → Option (Int64)) (v2 : Int64) (v4 : Int32) : Option (Int64) :=
  if x_psize ≤ v4 then (some (v2)) else
  if ((ir v1 v4) &&& 1) = 0 then (pa_boardOf_J33 k5 x_psize a_pcells v1 v2 v4) else
  ck v4 12 <|
  nm (v2 ||| (a_pcells v4.toNatClampNeg) : Int64) fun v2_2 =>
  pa_boardOf_J33 k5 x_psize a_pcells v1 v2_2 v4
noncomputable def pa_boardOf (v1 : Int32) (x_psize : Int32) (a_pcells : Nat → Int64) : Option (Int64) :=
  fl2 (pa_boardOf_B5 v1 x_psize a_pcells) FU 0 0
set_option maxHeartbeats 4000000 in
set_option maxRecDepth 100000 in
theorem c_pa_boardOf (l : Launch) (D : va_G) (ct : Nat → ClassId) (ad : Nat → Nat) (hI : cI ad) {x_fed x_tk x_col x_line x_rcells x_rsize x_len x_cuts x_bare x_place x_lA x_lB x_lC x_fX x_fY x_sX x_sY x_made x_fsize x_psize x_over x_touch x_most x_mU x_mV x_area : Int32} {x_board : Int64} {a_tape a_letters a_oneSided a_free a_ends a_crowds a_wmade a_firsts a_widths a_heights a_places a_next a_pnear a_table a_overlaps : Nat → Int32} {a_drawers a_kept a_items a_numbers a_marks a_near a_figures a_covered a_pcells a_matrix : Nat → Int64} (v1 : Int32) (r : Int64)  (h : pa_boardOf v1 x_psize a_pcells = some (r)) : Met l yX6_boardOf (wm yX6_boardOf cX6_boardOf 5 (some .long)) (rmm 0 0) (va_Pc [.ref (ad 27), .int v1] (cB D ct ad x_fed x_tk x_col x_line x_rcells x_rsize x_len x_cuts x_bare x_place x_lA x_lB x_lC x_fX x_fY x_sX x_sY x_made x_fsize x_psize x_over x_touch x_most x_mU x_mV x_area x_board a_tape a_letters a_oneSided a_free a_ends a_crowds a_wmade a_firsts a_widths a_heights a_places a_next a_pnear a_table a_overlaps a_drawers a_kept a_items a_numbers a_marks a_near a_figures a_covered a_pcells a_matrix)) (va_Ql (fun z (_ : Unit) => z = r) (fun _ t => cP D ct ad x_fed x_tk x_col x_line x_rcells x_rsize x_len x_cuts x_bare x_place x_lA x_lB x_lC x_fX x_fY x_sX x_sY x_made x_fsize x_psize x_over x_touch x_most x_mU x_mV x_area x_board a_tape a_letters a_oneSided a_free a_ends a_crowds a_wmade a_firsts a_widths a_heights a_places a_next a_pnear a_table a_overlaps a_drawers a_kept a_items a_numbers a_marks a_near a_figures a_covered a_pcells a_matrix t.heap) (cA ad)) 0 0 (cA ad) := by
  refine met_s (y := yX6_boardOf) (rm := rmm 0 0) (by decide) (Nat.le_of_ble_eq_true rfl) ?_
  intro p e s m below meth c hx hb hr hw hown hlocks _ hml hB ls hl
  obtain ⟨hN, hK, hP⟩ := hB
  replace hl : lv_has ls 5 [(0, .ref (ad 27)), (1, .int v1)] := hl
  have hS : va_S (cA ad) s.heap s.heap [] := va_S.rf
  generalize (([.ref (ad 27), .int v1] : List Value).toArray) = av at hw ⊢
  rw [pa_boardOf] at h
  have hL5 : ∀ (v1 : Int32), ∀ (x_psize : Int32), ∀ (a_pcells : Nat → Int64), ∀ (n5 : Nat) (H : Heap) (locs : List Loc) (ls : Array Slot) (v2 : Int64) (v4 : Int32), lv_has ls 5 [(0, .ref (ad 27)), (1, .int v1), (2, .long v2), (4, .int v4)] → cP D ct ad x_fed x_tk x_col x_line x_rcells x_rsize x_len x_cuts x_bare x_place x_lA x_lB x_lC x_fX x_fY x_sX x_sY x_made x_fsize x_psize x_over x_touch x_most x_mU x_mV x_area x_board a_tape a_letters a_oneSided a_free a_ends a_crowds a_wmade a_firsts a_widths a_heights a_places a_next a_pnear a_table a_overlaps a_drawers a_kept a_items a_numbers a_marks a_near a_figures a_covered a_pcells a_matrix H → va_S (cA ad) s.heap H locs → fl2 (pa_boardOf_B5 v1 x_psize a_pcells) n5 v2 v4 = some (r) → W p l e (rmm 0 0) s m av below meth c H locs 0 0 (MQ below (va_Ql (fun z (_ : Unit) => z = r) (fun _ t => cP D ct ad x_fed x_tk x_col x_line x_rcells x_rsize x_len x_cuts x_bare x_place x_lA x_lB x_lC x_fX x_fY x_sX x_sY x_made x_fsize x_psize x_over x_touch x_most x_mU x_mV x_area x_board a_tape a_letters a_oneSided a_free a_ends a_crowds a_wmade a_firsts a_widths a_heights a_places a_next a_pnear a_table a_overlaps a_drawers a_kept a_items a_numbers a_marks a_near a_figures a_covered a_pcells a_matrix t.heap) (cA ad)) av s 0 0 (cA ad)) (F0 m 5 ls []) := by
    intro v1 x_psize a_pcells n5
    induction n5 with
    | zero => intro H locs ls v2 v4 hl hP hS h; cases h
    | succ n5 ih5 =>
      intro H locs ls v2 v4 hl hP hS h
      replace h : pa_boardOf_B5 v1 x_psize a_pcells (fl2 (pa_boardOf_B5 v1 x_psize a_pcells) n5) v2 v4 = some (r) := h
      generalize fl2 (pa_boardOf_B5 v1 x_psize a_pcells) n5 = k5 at h ih5
      have hJ33 : ∀ (H : Heap) (locs : List Loc) (ls : Array Slot) (v2 : Int64) (v4 : Int32) , lv_has ls 5 [(0, .ref (ad 27)), (1, .int v1), (2, .long v2), (4, .int v4)] → cP D ct ad x_fed x_tk x_col x_line x_rcells x_rsize x_len x_cuts x_bare x_place x_lA x_lB x_lC x_fX x_fY x_sX x_sY x_made x_fsize x_psize x_over x_touch x_most x_mU x_mV x_area x_board a_tape a_letters a_oneSided a_free a_ends a_crowds a_wmade a_firsts a_widths a_heights a_places a_next a_pnear a_table a_overlaps a_drawers a_kept a_items a_numbers a_marks a_near a_figures a_covered a_pcells a_matrix H → va_S (cA ad) s.heap H locs → pa_boardOf_J33 k5 x_psize a_pcells v1 v2 v4 = some (r) → W p l e (rmm 0 0) s m av below meth c H locs 0 0 (MQ below (va_Ql (fun z (_ : Unit) => z = r) (fun _ t => cP D ct ad x_fed x_tk x_col x_line x_rcells x_rsize x_len x_cuts x_bare x_place x_lA x_lB x_lC x_fX x_fY x_sX x_sY x_made x_fsize x_psize x_over x_touch x_most x_mU x_mV x_area x_board a_tape a_letters a_oneSided a_free a_ends a_crowds a_wmade a_firsts a_widths a_heights a_places a_next a_pnear a_table a_overlaps a_drawers a_kept a_items a_numbers a_marks a_near a_figures a_covered a_pcells a_matrix t.heap) (cA ad)) av s 0 0 (cA ad)) (F0 m 33 ls []) := by
        intro H locs ls v2 v4  hl hP hS h
        rw [pa_boardOf_J33] at h
        obtain ⟨v4_3, ev4_3, h⟩ := nm_s h
        refine lv_iinc hx hb dX6_boardOf_33 hl (k := 3) rfl ev4_3.symm (Nat.le_of_ble_eq_true rfl) (lv' := [(4, .int v4_3), (0, .ref (ad 27)), (1, .int v1), (2, .long v2)]) rfl (fun ls hl => ?_)
        refine lv_goto hx hb dX6_boardOf_36 (tgt := 5) rfl ?_
        exact ih5 _ _ _ v2 v4_3 (lv_sub hl [1, 2, 3, 0] rfl) hP hS h
      rw [pa_boardOf_B5] at h
      refine lv_iload hx hb dX6_boardOf_5 (lv_at hl 3 rfl) ?_
      refine lv_aload_n hx hb dX6_boardOf_7 rfl (lv_at hl 0 rfl) ?_
      refine cg_PA_4 hx hb hw hown hK hP dX6_boardOf_8 ?_
      refine lv_icmp_ge hx hb dX6_boardOf_11 (tgt := 39) rfl (fun hc => ?_) (fun hc => ?_)
      · replace h := ifp h hc
        refine lv_lload_n hx hb dX6_boardOf_39 rfl (lv_at hl 2 rfl) ?_
        replace h := Option.some.inj h
        subst h
        exact rc_l hx hb hr hlocks hS dX6_boardOf_40 rfl hP
      · replace h := ifn h hc
        refine lv_iload_n hx hb dX6_boardOf_14 rfl (lv_at hl 1 rfl) ?_
        refine lv_iload hx hb dX6_boardOf_15 (lv_at hl 3 rfl) ?_
        refine lv_ishr hx hb dX6_boardOf_17 ?_
        refine nmI (v := ir v1 v4) rfl ?_
        refine lv_iconst (v := 1) hx hb dX6_boardOf_18 ki_1 ?_
        refine lv_iand hx hb dX6_boardOf_19 ?_
        refine lv_if_eq hx hb dX6_boardOf_20 (tgt := 33) rfl (fun hc => ?_) (fun hc => ?_)
        · replace h := ifp h hc
          exact hJ33 _ _ _ v2 v4 (lv_sub hl [0, 1, 2, 3] rfl) hP hS h
        · replace h := ifn h hc
          refine lv_lload_n hx hb dX6_boardOf_23 rfl (lv_at hl 2 rfl) ?_
          refine lv_aload_n hx hb dX6_boardOf_24 rfl (lv_at hl 0 rfl) ?_
          refine cg_PA_0 hx hb hw hown hK hP dX6_boardOf_25 ?_
          refine lv_iload hx hb dX6_boardOf_28 (lv_at hl 3 rfl) ?_
          obtain ⟨hin, h⟩ := ck_s h
          refine cd_pcells hx hb hK hP hin dX6_boardOf_30 ?_
          refine lv_lor hx hb dX6_boardOf_31 ?_
          obtain ⟨v2_4, ev2_4, h⟩ := nm_s h
          refine nmL ev2_4 ?_
          refine lv_lstore_n hx hb dX6_boardOf_32 rfl hl (Nat.le_of_ble_eq_true rfl) (lv' := [(2, .long v2_4), (0, .ref (ad 27)), (1, .int v1), (4, .int v4)]) rfl (fun ls hl => ?_)
          exact hJ33 _ _ _ v2_4 v4 (lv_sub hl [1, 2, 0, 3] rfl) hP hS h
  refine lv_lconst (v := 0) hx hb dX6_boardOf_0 kl_0 ?_
  refine lv_lstore_n hx hb dX6_boardOf_1 rfl hl (Nat.le_of_ble_eq_true rfl) (lv' := [(2, .long 0), (0, .ref (ad 27)), (1, .int v1)]) rfl (fun ls hl => ?_)
  refine lv_iconst (v := 0) hx hb dX6_boardOf_2 ki_0 ?_
  refine lv_istore hx hb dX6_boardOf_3 hl (Nat.le_of_ble_eq_true rfl) (lv' := [(4, .int 0), (2, .long 0), (0, .ref (ad 27)), (1, .int v1)]) rfl (fun ls hl => ?_)
  exact hL5 v1 x_psize a_pcells FU _ _ _ 0 0 (lv_sub hl [2, 3, 1, 0] rfl) hP hS h
noncomputable def pa_halvings_J48 (k6 : Int32 → Int32 → Option (Int64)) (x_psize : Int32) (a_pcells : Nat → Int64) (v1 : Int64) (v3 : Int32) (v4 : Int32) (v5 : Int32)  : Option (Int64) :=
  nm (v5 + Int32.ofInt 2) fun v5_1 =>
  k6 v4 v5_1
noncomputable def pa_halvings_B6 (v1 : Int64) (v3 : Int32) (x_psize : Int32) (a_pcells : Nat → Int64)  (k6 : Int32 → Int32 → Option (Int64)) (v4 : Int32) (v5 : Int32) : Option (Int64) :=
  if (il 1 x_psize) ≤ v5 then (some (v4.toInt64)) else
  bd1 (ji_bitCount v5) fun r_2 =>
  if (2 * r_2) = x_psize then (bd1 (pa_boardOf v5 x_psize a_pcells) fun r_4 =>
  bd1 (pa_areAlike v1 r_4 v3) fun r_6 =>
  if r_6 = 0 then (pa_halvings_J48 k6 x_psize a_pcells v1 v3 v4 v5) else
  nm (v4 + Int32.ofInt 1) fun v4_8 =>
  pa_halvings_J48 k6 x_psize a_pcells v1 v3 v4_8 v5) else
  pa_halvings_J48 k6 x_psize a_pcells v1 v3 v4 v5
noncomputable def pa_halvings (v1 : Int64) (v3 : Int32) (x_psize : Int32) (a_pcells : Nat → Int64) : Option (Int64) :=
  fl2 (pa_halvings_B6 v1 v3 x_psize a_pcells) FU 0 1
set_option maxHeartbeats 4000000 in
set_option maxRecDepth 100000 in
theorem c_pa_halvings (l : Launch) (D : va_G) (ct : Nat → ClassId) (ad : Nat → Nat) (hI : cI ad) {x_fed x_tk x_col x_line x_rcells x_rsize x_len x_cuts x_bare x_place x_lA x_lB x_lC x_fX x_fY x_sX x_sY x_made x_fsize x_psize x_over x_touch x_most x_mU x_mV x_area : Int32} {x_board : Int64} {a_tape a_letters a_oneSided a_free a_ends a_crowds a_wmade a_firsts a_widths a_heights a_places a_next a_pnear a_table a_overlaps : Nat → Int32} {a_drawers a_kept a_items a_numbers a_marks a_near a_figures a_covered a_pcells a_matrix : Nat → Int64} (v1 : Int64) (v3 : Int32) (r : Int64)  (h : pa_halvings v1 v3 x_psize a_pcells = some (r)) : Met l yX6_halvings (wm yX6_halvings cX6_halvings 6 (some .long)) (rmm 5 122) (va_Pc [.ref (ad 27), .long v1, .int v3] (cB D ct ad x_fed x_tk x_col x_line x_rcells x_rsize x_len x_cuts x_bare x_place x_lA x_lB x_lC x_fX x_fY x_sX x_sY x_made x_fsize x_psize x_over x_touch x_most x_mU x_mV x_area x_board a_tape a_letters a_oneSided a_free a_ends a_crowds a_wmade a_firsts a_widths a_heights a_places a_next a_pnear a_table a_overlaps a_drawers a_kept a_items a_numbers a_marks a_near a_figures a_covered a_pcells a_matrix)) (va_Ql (fun z (_ : Unit) => z = r) (fun _ t => cP D ct ad x_fed x_tk x_col x_line x_rcells x_rsize x_len x_cuts x_bare x_place x_lA x_lB x_lC x_fX x_fY x_sX x_sY x_made x_fsize x_psize x_over x_touch x_most x_mU x_mV x_area x_board a_tape a_letters a_oneSided a_free a_ends a_crowds a_wmade a_firsts a_widths a_heights a_places a_next a_pnear a_table a_overlaps a_drawers a_kept a_items a_numbers a_marks a_near a_figures a_covered a_pcells a_matrix t.heap) (cA ad)) 0 0 (cA ad) := by
  refine met_s (y := yX6_halvings) (rm := rmm 5 122) (by decide) (Nat.le_of_ble_eq_true rfl) ?_
  intro p e s m below meth c hx hb hr hw hown hlocks _ hml hB ls hl
  obtain ⟨hN, hK, hP⟩ := hB
  replace hl : lv_has ls 6 [(0, .ref (ad 27)), (1, .long v1), (3, .int v3)] := hl
  have hS : va_S (cA ad) s.heap s.heap [] := va_S.rf
  generalize (([.ref (ad 27), .long v1, .int v3] : List Value).toArray) = av at hw ⊢
  rw [pa_halvings] at h
  have hL6 : ∀ (v1 : Int64), ∀ (v3 : Int32), ∀ (x_psize : Int32), ∀ (a_pcells : Nat → Int64), ∀ (n6 : Nat) (H : Heap) (locs : List Loc) (ls : Array Slot) (v4 : Int32) (v5 : Int32), lv_has ls 6 [(0, .ref (ad 27)), (1, .long v1), (3, .int v3), (4, .int v4), (5, .int v5)] → cP D ct ad x_fed x_tk x_col x_line x_rcells x_rsize x_len x_cuts x_bare x_place x_lA x_lB x_lC x_fX x_fY x_sX x_sY x_made x_fsize x_psize x_over x_touch x_most x_mU x_mV x_area x_board a_tape a_letters a_oneSided a_free a_ends a_crowds a_wmade a_firsts a_widths a_heights a_places a_next a_pnear a_table a_overlaps a_drawers a_kept a_items a_numbers a_marks a_near a_figures a_covered a_pcells a_matrix H → va_S (cA ad) s.heap H locs → fl2 (pa_halvings_B6 v1 v3 x_psize a_pcells) n6 v4 v5 = some (r) → W p l e (rmm 5 122) s m av below meth c H locs 0 0 (MQ below (va_Ql (fun z (_ : Unit) => z = r) (fun _ t => cP D ct ad x_fed x_tk x_col x_line x_rcells x_rsize x_len x_cuts x_bare x_place x_lA x_lB x_lC x_fX x_fY x_sX x_sY x_made x_fsize x_psize x_over x_touch x_most x_mU x_mV x_area x_board a_tape a_letters a_oneSided a_free a_ends a_crowds a_wmade a_firsts a_widths a_heights a_places a_next a_pnear a_table a_overlaps a_drawers a_kept a_items a_numbers a_marks a_near a_figures a_covered a_pcells a_matrix t.heap) (cA ad)) av s 0 0 (cA ad)) (F0 m 6 ls []) := by
    intro v1 v3 x_psize a_pcells n6
    induction n6 with
    | zero => intro H locs ls v4 v5 hl hP hS h; cases h
    | succ n6 ih6 =>
      intro H locs ls v4 v5 hl hP hS h
      replace h : pa_halvings_B6 v1 v3 x_psize a_pcells (fl2 (pa_halvings_B6 v1 v3 x_psize a_pcells) n6) v4 v5 = some (r) := h
      generalize fl2 (pa_halvings_B6 v1 v3 x_psize a_pcells) n6 = k6 at h ih6
      have hJ48 : ∀ (H : Heap) (locs : List Loc) (ls : Array Slot) (v4 : Int32) (v5 : Int32) , lv_has ls 6 [(0, .ref (ad 27)), (1, .long v1), (3, .int v3), (4, .int v4), (5, .int v5)] → cP D ct ad x_fed x_tk x_col x_line x_rcells x_rsize x_len x_cuts x_bare x_place x_lA x_lB x_lC x_fX x_fY x_sX x_sY x_made x_fsize x_psize x_over x_touch x_most x_mU x_mV x_area x_board a_tape a_letters a_oneSided a_free a_ends a_crowds a_wmade a_firsts a_widths a_heights a_places a_next a_pnear a_table a_overlaps a_drawers a_kept a_items a_numbers a_marks a_near a_figures a_covered a_pcells a_matrix H → va_S (cA ad) s.heap H locs → pa_halvings_J48 k6 x_psize a_pcells v1 v3 v4 v5 = some (r) → W p l e (rmm 5 122) s m av below meth c H locs 0 0 (MQ below (va_Ql (fun z (_ : Unit) => z = r) (fun _ t => cP D ct ad x_fed x_tk x_col x_line x_rcells x_rsize x_len x_cuts x_bare x_place x_lA x_lB x_lC x_fX x_fY x_sX x_sY x_made x_fsize x_psize x_over x_touch x_most x_mU x_mV x_area x_board a_tape a_letters a_oneSided a_free a_ends a_crowds a_wmade a_firsts a_widths a_heights a_places a_next a_pnear a_table a_overlaps a_drawers a_kept a_items a_numbers a_marks a_near a_figures a_covered a_pcells a_matrix t.heap) (cA ad)) av s 0 0 (cA ad)) (F0 m 48 ls []) := by
        intro H locs ls v4 v5  hl hP hS h
        rw [pa_halvings_J48] at h
        obtain ⟨v5_9, ev5_9, h⟩ := nm_s h
        refine lv_iinc hx hb dX6_halvings_48 hl (k := 4) rfl ev5_9.symm (Nat.le_of_ble_eq_true rfl) (lv' := [(5, .int v5_9), (0, .ref (ad 27)), (1, .long v1), (3, .int v3), (4, .int v4)]) rfl (fun ls hl => ?_)
        refine lv_goto hx hb dX6_halvings_51 (tgt := 6) rfl ?_
        exact ih6 _ _ _ v4 v5_9 (lv_sub hl [1, 2, 3, 4, 0] rfl) hP hS h
      rw [pa_halvings_B6] at h
      refine lv_iload hx hb dX6_halvings_6 (lv_at hl 4 rfl) ?_
      refine lv_iconst (v := 1) hx hb dX6_halvings_8 ki_1 ?_
      refine lv_aload_n hx hb dX6_halvings_9 rfl (lv_at hl 0 rfl) ?_
      refine cg_PA_4 hx hb hw hown hK hP dX6_halvings_10 ?_
      refine lv_ishl hx hb dX6_halvings_13 ?_
      refine nmI (v := il 1 x_psize) rfl ?_
      refine lv_icmp_ge hx hb dX6_halvings_14 (tgt := 54) rfl (fun hc => ?_) (fun hc => ?_)
      · replace h := ifp h hc
        refine lv_iload hx hb dX6_halvings_54 (lv_at hl 3 rfl) ?_
        refine lv_i2l hx hb (v := v4.toInt64) dX6_halvings_56 rfl ?_
        replace h := Option.some.inj h
        subst h
        exact rc_l hx hb hr hlocks hS dX6_halvings_57 rfl hP
      · replace h := ifn h hc
        refine lv_iconst (v := 2) hx hb dX6_halvings_17 ki_2 ?_
        refine lv_iload hx hb dX6_halvings_18 (lv_at hl 4 rfl) ?_
        obtain ⟨r_10, hr_11, h⟩ := bd1_s h
        refine sc_i hx hb hml hown hw hN (c_ji_bitCount l v5 r_10 hr_11) g_RX6_76 hd_J6_bitCount_0f7a4 (rest := [.int 2]) hl.1 hS dX6_halvings_20 rfl rfl ⟨Nat.le_of_ble_eq_true rfl, Nat.le_of_ble_eq_true rfl⟩ rfl rfl (Nat.le_of_ble_eq_true rfl) ⟨Nat.zero_le _, Nat.zero_le _⟩ (fun H locs hk hS => ?_)
        have hP := cP_kept hP hk
        refine lv_imul hx hb dX6_halvings_23 ?_
        refine lv_aload_n hx hb dX6_halvings_24 rfl (lv_at hl 0 rfl) ?_
        refine cg_PA_4 hx hb hw hown hK hP dX6_halvings_25 ?_
        refine lv_icmp_ne hx hb dX6_halvings_28 (tgt := 48) rfl (fun hc => ?_) (fun hc => ?_)
        · replace h := ifn h hc
          exact hJ48 _ _ _ v4 v5 (lv_sub hl [0, 1, 2, 3, 4] rfl) hP hS h
        · replace h := ifp h hc
          refine lv_lload_n hx hb dX6_halvings_31 rfl (lv_at hl 1 rfl) ?_
          refine lv_aload_n hx hb dX6_halvings_32 rfl (lv_at hl 0 rfl) ?_
          refine lv_iload hx hb dX6_halvings_33 (lv_at hl 4 rfl) ?_
          obtain ⟨r_12, hr_13, h⟩ := bd1_s h
          refine hv_l hx hb hml hown hw cB_bl (cB_of hN hK hP) (cr_PA hK hP) (c_pa_boardOf l D ct ad hI v5 r_12 hr_13) g_RX6_80 ⟨rfl, hd_X6_boardOf⟩ (rest := [.long v1]) hl.1 hS (fun q h => h) dX6_halvings_35 rfl rfl ⟨Nat.le_of_ble_eq_true rfl, Nat.le_of_ble_eq_true rfl⟩ rfl rfl (Nat.le_of_ble_eq_true rfl) ⟨Nat.zero_le _, Nat.zero_le _⟩ (fun H locs hP _ hS => ?_)
          refine lv_iload_n hx hb dX6_halvings_38 rfl (lv_at hl 2 rfl) ?_
          obtain ⟨r_14, hr_15, h⟩ := bd1_s h
          refine sc_i hx hb hml hown hw hN (c_pa_areAlike l v1 r_12 v3 r_14 hr_15) g_RX6_84 hd_X6_areAlike (rest := []) hl.1 hS dX6_halvings_39 rfl rfl ⟨Nat.le_of_ble_eq_true rfl, Nat.le_of_ble_eq_true rfl⟩ rfl rfl (Nat.le_of_ble_eq_true rfl) ⟨Nat.zero_le _, Nat.zero_le _⟩ (fun H locs hk hS => ?_)
          have hP := cP_kept hP hk
          refine lv_if_eq hx hb dX6_halvings_42 (tgt := 48) rfl (fun hc => ?_) (fun hc => ?_)
          · replace h := ifp h hc
            exact hJ48 _ _ _ v4 v5 (lv_sub hl [0, 1, 2, 3, 4] rfl) hP hS h
          · replace h := ifn h hc
            obtain ⟨v4_16, ev4_16, h⟩ := nm_s h
            refine lv_iinc hx hb dX6_halvings_45 hl (k := 3) rfl ev4_16.symm (Nat.le_of_ble_eq_true rfl) (lv' := [(4, .int v4_16), (0, .ref (ad 27)), (1, .long v1), (3, .int v3), (5, .int v5)]) rfl (fun ls hl => ?_)
            exact hJ48 _ _ _ v4_16 v5 (lv_sub hl [1, 2, 3, 0, 4] rfl) hP hS h
  refine lv_iconst (v := 0) hx hb dX6_halvings_0 ki_0 ?_
  refine lv_istore hx hb dX6_halvings_1 hl (Nat.le_of_ble_eq_true rfl) (lv' := [(4, .int 0), (0, .ref (ad 27)), (1, .long v1), (3, .int v3)]) rfl (fun ls hl => ?_)
  refine lv_iconst (v := 1) hx hb dX6_halvings_3 ki_1 ?_
  refine lv_istore hx hb dX6_halvings_4 hl (Nat.le_of_ble_eq_true rfl) (lv' := [(5, .int 1), (4, .int 0), (0, .ref (ad 27)), (1, .long v1), (3, .int v3)]) rfl (fun ls hl => ?_)
  exact hL6 v1 v3 x_psize a_pcells FU _ _ _ 0 1 (lv_sub hl [2, 3, 4, 1, 0] rfl) hP hS h
noncomputable def pa_pairings_J92 (k16 : Int32 → (Nat → Int32) → Option (Int64 × (Nat → Int32))) (k51 : Int32 → (Nat → Int32) → Option (Int64 × (Nat → Int32))) (x_psize : Int32) (a_pnear : Nat → Int32) (v1 : Int32) (v2 : Int32) (v3 : Int32) (v4 : Int32) (v5 : Int32) (a_table : Nat → Int32)  : Option (Int64 × (Nat → Int32)) :=
  nm (v5 + Int32.ofInt 1) fun v5_1 =>
  k51 v5_1 a_table
noncomputable def pa_pairings_B51 (v1 : Int32) (v2 : Int32) (v3 : Int32) (v4 : Int32) (x_psize : Int32) (a_pnear : Nat → Int32) (k16 : Int32 → (Nat → Int32) → Option (Int64 × (Nat → Int32))) (k51 : Int32 → (Nat → Int32) → Option (Int64 × (Nat → Int32))) (v5 : Int32) (a_table : Nat → Int32) : Option (Int64 × (Nat → Int32)) :=
  if x_psize ≤ v5 then (nm (v2 + Int32.ofInt 1) fun v2_2 =>
  k16 v2_2 a_table) else
  if ((ir v4 v5) &&& 1) = 0 then (pa_pairings_J92 k16 k51 x_psize a_pnear v1 v2 v3 v4 v5 a_table) else
  ck v2 4096 <|
  nm ((v2 ^^^ v3) ^^^ (il 1 v5) : Int32) fun i_3 =>
  ck i_3 4096 <|
  nm ((a_table v2.toNatClampNeg) + (a_table i_3.toNatClampNeg) : Int32) fun w_4 =>
  ck v2 4096 <|
  nm (upd a_table v2.toNatClampNeg w_4) fun a_table_5 =>
  pa_pairings_J92 k16 k51 x_psize a_pnear v1 v2 v3 v4 v5 a_table_5
noncomputable def pa_pairings_B16 (v1 : Int32) (x_psize : Int32) (a_pnear : Nat → Int32)  (k16 : Int32 → (Nat → Int32) → Option (Int64 × (Nat → Int32))) (v2 : Int32) (a_table : Nat → Int32) : Option (Int64 × (Nat → Int32)) :=
  if v1 ≤ v2 then (nm (v1 - 1 : Int32) fun i_6 =>
  ck i_6 4096 <|
  some ((a_table i_6.toNatClampNeg).toInt64, a_table)) else
  nm (v2 &&& (-v2) : Int32) fun v3_7 =>
  bd1 (ji_bitCount (v3_7 - 1)) fun r_8 =>
  ck r_8 12 <|
  nm ((a_pnear r_8.toNatClampNeg) &&& v2 : Int32) fun v4_10 =>
  ck v2 4096 <|
  nm (upd a_table v2.toNatClampNeg 0) fun a_table_11 =>
  fl2 (pa_pairings_B51 v1 v2 v3_7 v4_10 x_psize a_pnear k16) FU 0 a_table_11
noncomputable def pa_pairings (x_psize : Int32) (a_pnear : Nat → Int32) (a_table : Nat → Int32) : Option (Int64 × (Nat → Int32)) :=
  nm (il 1 x_psize : Int32) fun v1_12 =>
  ck 0 4096 <|
  nm (upd a_table (0 : Int32).toNatClampNeg 1) fun a_table_13 =>
  fl2 (pa_pairings_B16 v1_12 x_psize a_pnear) FU 1 a_table_13
set_option maxHeartbeats 4000000 in
set_option maxRecDepth 100000 in
theorem c_pa_pairings (l : Launch) (D : va_G) (ct : Nat → ClassId) (ad : Nat → Nat) (hI : cI ad) {x_fed x_tk x_col x_line x_rcells x_rsize x_len x_cuts x_bare x_place x_lA x_lB x_lC x_fX x_fY x_sX x_sY x_made x_fsize x_psize x_over x_touch x_most x_mU x_mV x_area : Int32} {x_board : Int64} {a_tape a_letters a_oneSided a_free a_ends a_crowds a_wmade a_firsts a_widths a_heights a_places a_next a_pnear a_table a_overlaps : Nat → Int32} {a_drawers a_kept a_items a_numbers a_marks a_near a_figures a_covered a_pcells a_matrix : Nat → Int64}  (r : Int64) (z_a_table : Nat → Int32) (h : pa_pairings x_psize a_pnear a_table = some (r, z_a_table)) : Met l yX6_pairings (wm yX6_pairings cX6_pairings 6 (some .long)) (rmm 1 20) (va_Pc [.ref (ad 27)] (cB D ct ad x_fed x_tk x_col x_line x_rcells x_rsize x_len x_cuts x_bare x_place x_lA x_lB x_lC x_fX x_fY x_sX x_sY x_made x_fsize x_psize x_over x_touch x_most x_mU x_mV x_area x_board a_tape a_letters a_oneSided a_free a_ends a_crowds a_wmade a_firsts a_widths a_heights a_places a_next a_pnear a_table a_overlaps a_drawers a_kept a_items a_numbers a_marks a_near a_figures a_covered a_pcells a_matrix)) (va_Ql (fun z (_ : Unit) => z = r) (fun _ t => cP D ct ad x_fed x_tk x_col x_line x_rcells x_rsize x_len x_cuts x_bare x_place x_lA x_lB x_lC x_fX x_fY x_sX x_sY x_made x_fsize x_psize x_over x_touch x_most x_mU x_mV x_area x_board a_tape a_letters a_oneSided a_free a_ends a_crowds a_wmade a_firsts a_widths a_heights a_places a_next a_pnear z_a_table a_overlaps a_drawers a_kept a_items a_numbers a_marks a_near a_figures a_covered a_pcells a_matrix t.heap) (cA ad)) 0 0 (cA ad) := by
  refine met_s (y := yX6_pairings) (rm := rmm 1 20) (by decide) (Nat.le_of_ble_eq_true rfl) ?_
  intro p e s m below meth c hx hb hr hw hown hlocks _ hml hB ls hl
  obtain ⟨hN, hK, hP⟩ := hB
  replace hl : lv_has ls 6 [(0, .ref (ad 27))] := hl
  have hS : va_S (cA ad) s.heap s.heap [] := va_S.rf
  generalize (([.ref (ad 27)] : List Value).toArray) = av at hw ⊢
  rw [pa_pairings] at h
  have hL16 : ∀ (v1 : Int32), ∀ (x_psize : Int32), ∀ (a_pnear : Nat → Int32), ∀ (n16 : Nat) (H : Heap) (locs : List Loc) (ls : Array Slot) (v2 : Int32) (a_table : Nat → Int32), lv_has ls 6 [(0, .ref (ad 27)), (1, .int v1), (2, .int v2)] → cP D ct ad x_fed x_tk x_col x_line x_rcells x_rsize x_len x_cuts x_bare x_place x_lA x_lB x_lC x_fX x_fY x_sX x_sY x_made x_fsize x_psize x_over x_touch x_most x_mU x_mV x_area x_board a_tape a_letters a_oneSided a_free a_ends a_crowds a_wmade a_firsts a_widths a_heights a_places a_next a_pnear a_table a_overlaps a_drawers a_kept a_items a_numbers a_marks a_near a_figures a_covered a_pcells a_matrix H → va_S (cA ad) s.heap H locs → fl2 (pa_pairings_B16 v1 x_psize a_pnear) n16 v2 a_table = some (r, z_a_table) → W p l e (rmm 1 20) s m av below meth c H locs 0 0 (MQ below (va_Ql (fun z (_ : Unit) => z = r) (fun _ t => cP D ct ad x_fed x_tk x_col x_line x_rcells x_rsize x_len x_cuts x_bare x_place x_lA x_lB x_lC x_fX x_fY x_sX x_sY x_made x_fsize x_psize x_over x_touch x_most x_mU x_mV x_area x_board a_tape a_letters a_oneSided a_free a_ends a_crowds a_wmade a_firsts a_widths a_heights a_places a_next a_pnear z_a_table a_overlaps a_drawers a_kept a_items a_numbers a_marks a_near a_figures a_covered a_pcells a_matrix t.heap) (cA ad)) av s 0 0 (cA ad)) (F0 m 16 ls []) := by
    intro v1 x_psize a_pnear n16
    induction n16 with
    | zero => intro H locs ls v2 a_table hl hP hS h; cases h
    | succ n16 ih16 =>
      intro H locs ls v2 a_table hl hP hS h
      replace h : pa_pairings_B16 v1 x_psize a_pnear (fl2 (pa_pairings_B16 v1 x_psize a_pnear) n16) v2 a_table = some (r, z_a_table) := h
      generalize fl2 (pa_pairings_B16 v1 x_psize a_pnear) n16 = k16 at h ih16
      have hL51 : ∀ (v2 : Int32), ∀ (v3 : Int32), ∀ (v4 : Int32), ∀ (n51 : Nat) (H : Heap) (locs : List Loc) (ls : Array Slot) (v5 : Int32) (a_table : Nat → Int32), lv_has ls 6 [(0, .ref (ad 27)), (1, .int v1), (2, .int v2), (3, .int v3), (4, .int v4), (5, .int v5)] → cP D ct ad x_fed x_tk x_col x_line x_rcells x_rsize x_len x_cuts x_bare x_place x_lA x_lB x_lC x_fX x_fY x_sX x_sY x_made x_fsize x_psize x_over x_touch x_most x_mU x_mV x_area x_board a_tape a_letters a_oneSided a_free a_ends a_crowds a_wmade a_firsts a_widths a_heights a_places a_next a_pnear a_table a_overlaps a_drawers a_kept a_items a_numbers a_marks a_near a_figures a_covered a_pcells a_matrix H → va_S (cA ad) s.heap H locs → fl2 (pa_pairings_B51 v1 v2 v3 v4 x_psize a_pnear k16) n51 v5 a_table = some (r, z_a_table) → W p l e (rmm 1 20) s m av below meth c H locs 0 0 (MQ below (va_Ql (fun z (_ : Unit) => z = r) (fun _ t => cP D ct ad x_fed x_tk x_col x_line x_rcells x_rsize x_len x_cuts x_bare x_place x_lA x_lB x_lC x_fX x_fY x_sX x_sY x_made x_fsize x_psize x_over x_touch x_most x_mU x_mV x_area x_board a_tape a_letters a_oneSided a_free a_ends a_crowds a_wmade a_firsts a_widths a_heights a_places a_next a_pnear z_a_table a_overlaps a_drawers a_kept a_items a_numbers a_marks a_near a_figures a_covered a_pcells a_matrix t.heap) (cA ad)) av s 0 0 (cA ad)) (F0 m 51 ls []) := by
        intro v2 v3 v4 n51
        induction n51 with
        | zero => intro H locs ls v5 a_table hl hP hS h; cases h
        | succ n51 ih51 =>
          intro H locs ls v5 a_table hl hP hS h
          replace h : pa_pairings_B51 v1 v2 v3 v4 x_psize a_pnear k16 (fl2 (pa_pairings_B51 v1 v2 v3 v4 x_psize a_pnear k16) n51) v5 a_table = some (r, z_a_table) := h
          generalize fl2 (pa_pairings_B51 v1 v2 v3 v4 x_psize a_pnear k16) n51 = k51 at h ih51
          have hJ92 : ∀ (H : Heap) (locs : List Loc) (ls : Array Slot) (v5 : Int32) (a_table : Nat → Int32) , lv_has ls 6 [(0, .ref (ad 27)), (1, .int v1), (2, .int v2), (3, .int v3), (4, .int v4), (5, .int v5)] → cP D ct ad x_fed x_tk x_col x_line x_rcells x_rsize x_len x_cuts x_bare x_place x_lA x_lB x_lC x_fX x_fY x_sX x_sY x_made x_fsize x_psize x_over x_touch x_most x_mU x_mV x_area x_board a_tape a_letters a_oneSided a_free a_ends a_crowds a_wmade a_firsts a_widths a_heights a_places a_next a_pnear a_table a_overlaps a_drawers a_kept a_items a_numbers a_marks a_near a_figures a_covered a_pcells a_matrix H → va_S (cA ad) s.heap H locs → pa_pairings_J92 k16 k51 x_psize a_pnear v1 v2 v3 v4 v5 a_table = some (r, z_a_table) → W p l e (rmm 1 20) s m av below meth c H locs 0 0 (MQ below (va_Ql (fun z (_ : Unit) => z = r) (fun _ t => cP D ct ad x_fed x_tk x_col x_line x_rcells x_rsize x_len x_cuts x_bare x_place x_lA x_lB x_lC x_fX x_fY x_sX x_sY x_made x_fsize x_psize x_over x_touch x_most x_mU x_mV x_area x_board a_tape a_letters a_oneSided a_free a_ends a_crowds a_wmade a_firsts a_widths a_heights a_places a_next a_pnear z_a_table a_overlaps a_drawers a_kept a_items a_numbers a_marks a_near a_figures a_covered a_pcells a_matrix t.heap) (cA ad)) av s 0 0 (cA ad)) (F0 m 92 ls []) := by
            intro H locs ls v5 a_table  hl hP hS h
            rw [pa_pairings_J92] at h
            obtain ⟨v5_14, ev5_14, h⟩ := nm_s h
            refine lv_iinc hx hb dX6_pairings_92 hl (k := 5) rfl ev5_14.symm (Nat.le_of_ble_eq_true rfl) (lv' := [(5, .int v5_14), (0, .ref (ad 27)), (1, .int v1), (2, .int v2), (3, .int v3), (4, .int v4)]) rfl (fun ls hl => ?_)
            refine lv_goto hx hb dX6_pairings_95 (tgt := 51) rfl ?_
            exact ih51 _ _ _ v5_14 a_table (lv_sub hl [1, 2, 3, 4, 5, 0] rfl) hP hS h
          rw [pa_pairings_B51] at h
          refine lv_iload hx hb dX6_pairings_51 (lv_at hl 5 rfl) ?_
          refine lv_aload_n hx hb dX6_pairings_53 rfl (lv_at hl 0 rfl) ?_
          refine cg_PA_4 hx hb hw hown hK hP dX6_pairings_54 ?_
          refine lv_icmp_ge hx hb dX6_pairings_57 (tgt := 98) rfl (fun hc => ?_) (fun hc => ?_)
          · replace h := ifp h hc
            obtain ⟨v2_15, ev2_15, h⟩ := nm_s h
            refine lv_iinc hx hb dX6_pairings_98 hl (k := 2) rfl ev2_15.symm (Nat.le_of_ble_eq_true rfl) (lv' := [(2, .int v2_15), (0, .ref (ad 27)), (1, .int v1), (3, .int v3), (4, .int v4), (5, .int v5)]) rfl (fun ls hl => ?_)
            refine lv_goto hx hb dX6_pairings_101 (tgt := 16) rfl ?_
            exact ih16 _ _ _ v2_15 a_table (lv_sub hl [1, 2, 0] rfl) hP hS h
          · replace h := ifn h hc
            refine lv_iload hx hb dX6_pairings_60 (lv_at hl 4 rfl) ?_
            refine lv_iload hx hb dX6_pairings_62 (lv_at hl 5 rfl) ?_
            refine lv_ishr hx hb dX6_pairings_64 ?_
            refine nmI (v := ir v4 v5) rfl ?_
            refine lv_iconst (v := 1) hx hb dX6_pairings_65 ki_1 ?_
            refine lv_iand hx hb dX6_pairings_66 ?_
            refine lv_if_eq hx hb dX6_pairings_67 (tgt := 92) rfl (fun hc => ?_) (fun hc => ?_)
            · replace h := ifp h hc
              exact hJ92 _ _ _ v5 a_table (lv_sub hl [0, 1, 2, 3, 4, 5] rfl) hP hS h
            · replace h := ifn h hc
              refine lv_aload_n hx hb dX6_pairings_70 rfl (lv_at hl 0 rfl) ?_
              refine cg_PA_2 hx hb hw hown hK hP dX6_pairings_71 ?_
              refine lv_iload_n hx hb dX6_pairings_74 rfl (lv_at hl 2 rfl) ?_
              refine lv_dup2_11 hx hb dX6_pairings_75 rfl rfl ?_
              obtain ⟨hin, h⟩ := ck_s h
              refine cd_table hx hb hK hP hin dX6_pairings_76 ?_
              refine lv_aload_n hx hb dX6_pairings_77 rfl (lv_at hl 0 rfl) ?_
              refine cg_PA_2 hx hb hw hown hK hP dX6_pairings_78 ?_
              refine lv_iload_n hx hb dX6_pairings_81 rfl (lv_at hl 2 rfl) ?_
              refine lv_iload_n hx hb dX6_pairings_82 rfl (lv_at hl 3 rfl) ?_
              refine lv_ixor hx hb dX6_pairings_83 ?_
              refine lv_iconst (v := 1) hx hb dX6_pairings_84 ki_1 ?_
              refine lv_iload hx hb dX6_pairings_85 (lv_at hl 5 rfl) ?_
              refine lv_ishl hx hb dX6_pairings_87 ?_
              refine nmI (v := il 1 v5) rfl ?_
              refine lv_ixor hx hb dX6_pairings_88 ?_
              obtain ⟨i_16, ei_16, h⟩ := nm_s h
              refine nmI ei_16 ?_
              obtain ⟨hin, h⟩ := ck_s h
              refine cd_table hx hb hK hP hin dX6_pairings_89 ?_
              refine lv_iadd hx hb dX6_pairings_90 ?_
              obtain ⟨w_17, ew_17, h⟩ := nm_s h
              refine nmI ew_17 ?_
              obtain ⟨hin, h⟩ := ck_s h
              obtain ⟨a_table_18, ea_table_18, h⟩ := nm_s h
              refine cs_table hx hb hK hP hI hS hin ea_table_18 dX6_pairings_91 (fun H locs hP hS => ?_)
              exact hJ92 _ _ _ v5 a_table_18 (lv_sub hl [0, 1, 2, 3, 4, 5] rfl) hP hS h
      rw [pa_pairings_B16] at h
      refine lv_iload_n hx hb dX6_pairings_16 rfl (lv_at hl 2 rfl) ?_
      refine lv_iload_n hx hb dX6_pairings_17 rfl (lv_at hl 1 rfl) ?_
      refine lv_icmp_ge hx hb dX6_pairings_18 (tgt := 104) rfl (fun hc => ?_) (fun hc => ?_)
      · replace h := ifp h hc
        refine lv_aload_n hx hb dX6_pairings_104 rfl (lv_at hl 0 rfl) ?_
        refine cg_PA_2 hx hb hw hown hK hP dX6_pairings_105 ?_
        refine lv_iload_n hx hb dX6_pairings_108 rfl (lv_at hl 1 rfl) ?_
        refine lv_iconst (v := 1) hx hb dX6_pairings_109 ki_1 ?_
        refine lv_isub hx hb dX6_pairings_110 ?_
        obtain ⟨i_19, ei_19, h⟩ := nm_s h
        refine nmI ei_19 ?_
        obtain ⟨hin, h⟩ := ck_s h
        refine cd_table hx hb hK hP hin dX6_pairings_111 ?_
        refine lv_i2l hx hb (v := (a_table i_19.toNatClampNeg).toInt64) dX6_pairings_112 rfl ?_
        simp only [Option.some.injEq, Prod.mk.injEq] at h
        obtain ⟨rfl, rfl⟩ := h
        exact rc_l hx hb hr hlocks hS dX6_pairings_113 rfl hP
      · replace h := ifn h hc
        refine lv_iload_n hx hb dX6_pairings_21 rfl (lv_at hl 2 rfl) ?_
        refine lv_iload_n hx hb dX6_pairings_22 rfl (lv_at hl 2 rfl) ?_
        refine lv_ineg hx hb dX6_pairings_23 ?_
        refine lv_iand hx hb dX6_pairings_24 ?_
        obtain ⟨v3_20, ev3_20, h⟩ := nm_s h
        refine nmI ev3_20 ?_
        refine lv_istore_n hx hb dX6_pairings_25 rfl hl (Nat.le_of_ble_eq_true rfl) (lv' := [(3, .int v3_20), (0, .ref (ad 27)), (1, .int v1), (2, .int v2)]) rfl (fun ls hl => ?_)
        refine lv_aload_n hx hb dX6_pairings_26 rfl (lv_at hl 1 rfl) ?_
        refine cg_PA_1 hx hb hw hown hK hP dX6_pairings_27 ?_
        refine lv_iload_n hx hb dX6_pairings_30 rfl (lv_at hl 0 rfl) ?_
        refine lv_iconst (v := 1) hx hb dX6_pairings_31 ki_1 ?_
        refine lv_isub hx hb dX6_pairings_32 ?_
        obtain ⟨r_21, hr_22, h⟩ := bd1_s h
        refine sc_i hx hb hml hown hw hN (c_ji_bitCount l (v3_20 - 1) r_21 hr_22) g_RX6_76 hd_J6_bitCount_0f7a4 (rest := [.ref (ad 29)]) hl.1 hS dX6_pairings_33 rfl rfl ⟨Nat.le_of_ble_eq_true rfl, Nat.le_of_ble_eq_true rfl⟩ rfl rfl (Nat.le_of_ble_eq_true rfl) ⟨Nat.zero_le _, Nat.zero_le _⟩ (fun H locs hk hS => ?_)
        have hP := cP_kept hP hk
        obtain ⟨hin, h⟩ := ck_s h
        refine cd_pnear hx hb hK hP hin dX6_pairings_36 ?_
        refine lv_iload_n hx hb dX6_pairings_37 rfl (lv_at hl 3 rfl) ?_
        refine lv_iand hx hb dX6_pairings_38 ?_
        obtain ⟨v4_23, ev4_23, h⟩ := nm_s h
        refine nmI ev4_23 ?_
        refine lv_istore hx hb dX6_pairings_39 hl (Nat.le_of_ble_eq_true rfl) (lv' := [(4, .int v4_23), (3, .int v3_20), (0, .ref (ad 27)), (1, .int v1), (2, .int v2)]) rfl (fun ls hl => ?_)
        refine lv_aload_n hx hb dX6_pairings_41 rfl (lv_at hl 2 rfl) ?_
        refine cg_PA_2 hx hb hw hown hK hP dX6_pairings_42 ?_
        refine lv_iload_n hx hb dX6_pairings_45 rfl (lv_at hl 4 rfl) ?_
        refine lv_iconst (v := 0) hx hb dX6_pairings_46 ki_0 ?_
        obtain ⟨hin, h⟩ := ck_s h
        obtain ⟨a_table_24, ea_table_24, h⟩ := nm_s h
        refine cs_table hx hb hK hP hI hS hin ea_table_24 dX6_pairings_47 (fun H locs hP hS => ?_)
        refine lv_iconst (v := 0) hx hb dX6_pairings_48 ki_0 ?_
        refine lv_istore hx hb dX6_pairings_49 hl (Nat.le_of_ble_eq_true rfl) (lv' := [(5, .int 0), (4, .int v4_23), (3, .int v3_20), (0, .ref (ad 27)), (1, .int v1), (2, .int v2)]) rfl (fun ls hl => ?_)
        exact hL51 v2 v3_20 v4_23 FU _ _ _ 0 a_table_24 (lv_sub hl [3, 4, 5, 2, 1, 0] rfl) hP hS h
  refine lv_iconst (v := 1) hx hb dX6_pairings_0 ki_1 ?_
  refine lv_aload_n hx hb dX6_pairings_1 rfl (lv_at hl 0 rfl) ?_
  refine cg_PA_4 hx hb hw hown hK hP dX6_pairings_2 ?_
  refine lv_ishl hx hb dX6_pairings_5 ?_
  refine nmI (v := il 1 x_psize) rfl ?_
  obtain ⟨v1_25, ev1_25, h⟩ := nm_s h
  refine nmI ev1_25 ?_
  refine lv_istore_n hx hb dX6_pairings_6 rfl hl (Nat.le_of_ble_eq_true rfl) (lv' := [(1, .int v1_25), (0, .ref (ad 27))]) rfl (fun ls hl => ?_)
  refine lv_aload_n hx hb dX6_pairings_7 rfl (lv_at hl 1 rfl) ?_
  refine cg_PA_2 hx hb hw hown hK hP dX6_pairings_8 ?_
  refine lv_iconst (v := 0) hx hb dX6_pairings_11 ki_0 ?_
  refine lv_iconst (v := 1) hx hb dX6_pairings_12 ki_1 ?_
  obtain ⟨hin, h⟩ := ck_s h
  obtain ⟨a_table_26, ea_table_26, h⟩ := nm_s h
  refine cs_table hx hb hK hP hI hS hin ea_table_26 dX6_pairings_13 (fun H locs hP hS => ?_)
  refine lv_iconst (v := 1) hx hb dX6_pairings_14 ki_1 ?_
  refine lv_istore_n hx hb dX6_pairings_15 rfl hl (Nat.le_of_ble_eq_true rfl) (lv' := [(2, .int 1), (1, .int v1_25), (0, .ref (ad 27))]) rfl (fun ls hl => ?_)
  exact hL16 v1_25 x_psize a_pnear FU _ _ _ 1 a_table_26 (lv_sub hl [2, 1, 0] rfl) hP hS h
noncomputable def pa_orders_J111 (k41 : Int32 → (Nat → Int32) → Option (Int64 × (Nat → Int32))) (x_psize : Int32) (a_pnear : Nat → Int32) (v1 : Int32) (v2 : Int32) (a_table : Nat → Int32)  : Option (Int64 × (Nat → Int32)) :=
  nm (v2 + Int32.ofInt 1) fun v2_1 =>
  k41 v2_1 a_table
noncomputable def pa_orders_J105 (k41 : Int32 → (Nat → Int32) → Option (Int64 × (Nat → Int32))) (k48 : Int32 → (Nat → Int32) → Option (Int64 × (Nat → Int32))) (x_psize : Int32) (a_pnear : Nat → Int32) (v1 : Int32) (v2 : Int32) (v3 : Int32) (a_table : Nat → Int32)  : Option (Int64 × (Nat → Int32)) :=
  nm (v3 + Int32.ofInt 1) fun v3_2 =>
  k48 v3_2 a_table
noncomputable def pa_orders_B48 (v1 : Int32) (v2 : Int32) (x_psize : Int32) (a_pnear : Nat → Int32) (k41 : Int32 → (Nat → Int32) → Option (Int64 × (Nat → Int32))) (k48 : Int32 → (Nat → Int32) → Option (Int64 × (Nat → Int32))) (v3 : Int32) (a_table : Nat → Int32) : Option (Int64 × (Nat → Int32)) :=
  if x_psize ≤ v3 then (pa_orders_J111 k41 x_psize a_pnear v1 v2 a_table) else
  ck v2 4096 <|
  if (a_table v2.toNatClampNeg) = 0 then (pa_orders_J111 k41 x_psize a_pnear v1 v2 a_table) else
  nm (v2 ||| (il 1 v3) : Int32) fun v4_3 =>
  if v4_3 = v2 then (pa_orders_J105 k41 k48 x_psize a_pnear v1 v2 v3 a_table) else
  ck v3 12 <|
  if ((a_pnear v3.toNatClampNeg) &&& v2) = 0 then (pa_orders_J105 k41 k48 x_psize a_pnear v1 v2 v3 a_table) else
  ck v4_3 4096 <|
  ck v2 4096 <|
  nm ((a_table v4_3.toNatClampNeg) + (a_table v2.toNatClampNeg) : Int32) fun w_4 =>
  ck v4_3 4096 <|
  nm (upd a_table v4_3.toNatClampNeg w_4) fun a_table_5 =>
  pa_orders_J105 k41 k48 x_psize a_pnear v1 v2 v3 a_table_5
noncomputable def pa_orders_B41 (v1 : Int32) (x_psize : Int32) (a_pnear : Nat → Int32)  (k41 : Int32 → (Nat → Int32) → Option (Int64 × (Nat → Int32))) (v2 : Int32) (a_table : Nat → Int32) : Option (Int64 × (Nat → Int32)) :=
  if v1 ≤ v2 then (nm (v1 - 1 : Int32) fun i_6 =>
  ck i_6 4096 <|
  some ((a_table i_6.toNatClampNeg).toInt64, a_table)) else
  fl2 (pa_orders_B48 v1 v2 x_psize a_pnear k41) FU 0 a_table
noncomputable def pa_orders_J32 (k9 : Int32 → (Nat → Int32) → Option (Int64 × (Nat → Int32))) (x_psize : Int32) (a_pnear : Nat → Int32) (v1 : Int32) (v2 : Int32) (a_table : Nat → Int32) (t1 : Int32) (t2 : Int32) : Option (Int64 × (Nat → Int32)) :=
  ck t1 4096 <|
  nm (upd a_table t1.toNatClampNeg t2) fun a_table_7 =>
  nm (v2 + Int32.ofInt 1) fun v2_8 =>
  k9 v2_8 a_table_7
noncomputable def pa_orders_B9 (v1 : Int32) (x_psize : Int32) (a_pnear : Nat → Int32)  (k9 : Int32 → (Nat → Int32) → Option (Int64 × (Nat → Int32))) (v2 : Int32) (a_table : Nat → Int32) : Option (Int64 × (Nat → Int32)) :=
  if v1 ≤ v2 then (fl2 (pa_orders_B41 v1 x_psize a_pnear) FU 1 a_table) else
  bd1 (ji_bitCount v2) fun r_9 =>
  if r_9 = 1 then (pa_orders_J32 k9 x_psize a_pnear v1 v2 a_table v2 1) else
  pa_orders_J32 k9 x_psize a_pnear v1 v2 a_table v2 0
noncomputable def pa_orders (x_psize : Int32) (a_pnear : Nat → Int32) (a_table : Nat → Int32) : Option (Int64 × (Nat → Int32)) :=
  nm (il 1 x_psize : Int32) fun v1_11 =>
  fl2 (pa_orders_B9 v1_11 x_psize a_pnear) FU 0 a_table
set_option maxHeartbeats 4000000 in
set_option maxRecDepth 100000 in
theorem c_pa_orders (l : Launch) (D : va_G) (ct : Nat → ClassId) (ad : Nat → Nat) (hI : cI ad) {x_fed x_tk x_col x_line x_rcells x_rsize x_len x_cuts x_bare x_place x_lA x_lB x_lC x_fX x_fY x_sX x_sY x_made x_fsize x_psize x_over x_touch x_most x_mU x_mV x_area : Int32} {x_board : Int64} {a_tape a_letters a_oneSided a_free a_ends a_crowds a_wmade a_firsts a_widths a_heights a_places a_next a_pnear a_table a_overlaps : Nat → Int32} {a_drawers a_kept a_items a_numbers a_marks a_near a_figures a_covered a_pcells a_matrix : Nat → Int64}  (r : Int64) (z_a_table : Nat → Int32) (h : pa_orders x_psize a_pnear a_table = some (r, z_a_table)) : Met l yX6_orders (wm yX6_orders cX6_orders 5 (some .long)) (rmm 1 20) (va_Pc [.ref (ad 27)] (cB D ct ad x_fed x_tk x_col x_line x_rcells x_rsize x_len x_cuts x_bare x_place x_lA x_lB x_lC x_fX x_fY x_sX x_sY x_made x_fsize x_psize x_over x_touch x_most x_mU x_mV x_area x_board a_tape a_letters a_oneSided a_free a_ends a_crowds a_wmade a_firsts a_widths a_heights a_places a_next a_pnear a_table a_overlaps a_drawers a_kept a_items a_numbers a_marks a_near a_figures a_covered a_pcells a_matrix)) (va_Ql (fun z (_ : Unit) => z = r) (fun _ t => cP D ct ad x_fed x_tk x_col x_line x_rcells x_rsize x_len x_cuts x_bare x_place x_lA x_lB x_lC x_fX x_fY x_sX x_sY x_made x_fsize x_psize x_over x_touch x_most x_mU x_mV x_area x_board a_tape a_letters a_oneSided a_free a_ends a_crowds a_wmade a_firsts a_widths a_heights a_places a_next a_pnear z_a_table a_overlaps a_drawers a_kept a_items a_numbers a_marks a_near a_figures a_covered a_pcells a_matrix t.heap) (cA ad)) 0 0 (cA ad) := by
  refine met_s (y := yX6_orders) (rm := rmm 1 20) (by decide) (Nat.le_of_ble_eq_true rfl) ?_
  intro p e s m below meth c hx hb hr hw hown hlocks _ hml hB ls hl
  obtain ⟨hN, hK, hP⟩ := hB
  replace hl : lv_has ls 5 [(0, .ref (ad 27))] := hl
  have hS : va_S (cA ad) s.heap s.heap [] := va_S.rf
  generalize (([.ref (ad 27)] : List Value).toArray) = av at hw ⊢
  rw [pa_orders] at h
  have hL41 : ∀ (v1 : Int32), ∀ (x_psize : Int32), ∀ (a_pnear : Nat → Int32), ∀ (n41 : Nat) (H : Heap) (locs : List Loc) (ls : Array Slot) (v2 : Int32) (a_table : Nat → Int32), lv_has ls 5 [(0, .ref (ad 27)), (1, .int v1), (2, .int v2)] → cP D ct ad x_fed x_tk x_col x_line x_rcells x_rsize x_len x_cuts x_bare x_place x_lA x_lB x_lC x_fX x_fY x_sX x_sY x_made x_fsize x_psize x_over x_touch x_most x_mU x_mV x_area x_board a_tape a_letters a_oneSided a_free a_ends a_crowds a_wmade a_firsts a_widths a_heights a_places a_next a_pnear a_table a_overlaps a_drawers a_kept a_items a_numbers a_marks a_near a_figures a_covered a_pcells a_matrix H → va_S (cA ad) s.heap H locs → fl2 (pa_orders_B41 v1 x_psize a_pnear) n41 v2 a_table = some (r, z_a_table) → W p l e (rmm 1 20) s m av below meth c H locs 0 0 (MQ below (va_Ql (fun z (_ : Unit) => z = r) (fun _ t => cP D ct ad x_fed x_tk x_col x_line x_rcells x_rsize x_len x_cuts x_bare x_place x_lA x_lB x_lC x_fX x_fY x_sX x_sY x_made x_fsize x_psize x_over x_touch x_most x_mU x_mV x_area x_board a_tape a_letters a_oneSided a_free a_ends a_crowds a_wmade a_firsts a_widths a_heights a_places a_next a_pnear z_a_table a_overlaps a_drawers a_kept a_items a_numbers a_marks a_near a_figures a_covered a_pcells a_matrix t.heap) (cA ad)) av s 0 0 (cA ad)) (F0 m 41 ls []) := by
    intro v1 x_psize a_pnear n41
    induction n41 with
    | zero => intro H locs ls v2 a_table hl hP hS h; cases h
    | succ n41 ih41 =>
      intro H locs ls v2 a_table hl hP hS h
      replace h : pa_orders_B41 v1 x_psize a_pnear (fl2 (pa_orders_B41 v1 x_psize a_pnear) n41) v2 a_table = some (r, z_a_table) := h
      generalize fl2 (pa_orders_B41 v1 x_psize a_pnear) n41 = k41 at h ih41
      have hJ111 : ∀ (H : Heap) (locs : List Loc) (ls : Array Slot) (v2 : Int32) (a_table : Nat → Int32) , lv_has ls 5 [(0, .ref (ad 27)), (1, .int v1), (2, .int v2)] → cP D ct ad x_fed x_tk x_col x_line x_rcells x_rsize x_len x_cuts x_bare x_place x_lA x_lB x_lC x_fX x_fY x_sX x_sY x_made x_fsize x_psize x_over x_touch x_most x_mU x_mV x_area x_board a_tape a_letters a_oneSided a_free a_ends a_crowds a_wmade a_firsts a_widths a_heights a_places a_next a_pnear a_table a_overlaps a_drawers a_kept a_items a_numbers a_marks a_near a_figures a_covered a_pcells a_matrix H → va_S (cA ad) s.heap H locs → pa_orders_J111 k41 x_psize a_pnear v1 v2 a_table = some (r, z_a_table) → W p l e (rmm 1 20) s m av below meth c H locs 0 0 (MQ below (va_Ql (fun z (_ : Unit) => z = r) (fun _ t => cP D ct ad x_fed x_tk x_col x_line x_rcells x_rsize x_len x_cuts x_bare x_place x_lA x_lB x_lC x_fX x_fY x_sX x_sY x_made x_fsize x_psize x_over x_touch x_most x_mU x_mV x_area x_board a_tape a_letters a_oneSided a_free a_ends a_crowds a_wmade a_firsts a_widths a_heights a_places a_next a_pnear z_a_table a_overlaps a_drawers a_kept a_items a_numbers a_marks a_near a_figures a_covered a_pcells a_matrix t.heap) (cA ad)) av s 0 0 (cA ad)) (F0 m 111 ls []) := by
        intro H locs ls v2 a_table  hl hP hS h
        rw [pa_orders_J111] at h
        obtain ⟨v2_12, ev2_12, h⟩ := nm_s h
        refine lv_iinc hx hb dX6_orders_111 hl (k := 2) rfl ev2_12.symm (Nat.le_of_ble_eq_true rfl) (lv' := [(2, .int v2_12), (0, .ref (ad 27)), (1, .int v1)]) rfl (fun ls hl => ?_)
        refine lv_goto hx hb dX6_orders_114 (tgt := 41) rfl ?_
        exact ih41 _ _ _ v2_12 a_table (lv_sub hl [1, 2, 0] rfl) hP hS h
      have hL48 : ∀ (v2 : Int32), ∀ (n48 : Nat) (H : Heap) (locs : List Loc) (ls : Array Slot) (v3 : Int32) (a_table : Nat → Int32), lv_has ls 5 [(0, .ref (ad 27)), (1, .int v1), (2, .int v2), (3, .int v3)] → cP D ct ad x_fed x_tk x_col x_line x_rcells x_rsize x_len x_cuts x_bare x_place x_lA x_lB x_lC x_fX x_fY x_sX x_sY x_made x_fsize x_psize x_over x_touch x_most x_mU x_mV x_area x_board a_tape a_letters a_oneSided a_free a_ends a_crowds a_wmade a_firsts a_widths a_heights a_places a_next a_pnear a_table a_overlaps a_drawers a_kept a_items a_numbers a_marks a_near a_figures a_covered a_pcells a_matrix H → va_S (cA ad) s.heap H locs → fl2 (pa_orders_B48 v1 v2 x_psize a_pnear k41) n48 v3 a_table = some (r, z_a_table) → W p l e (rmm 1 20) s m av below meth c H locs 0 0 (MQ below (va_Ql (fun z (_ : Unit) => z = r) (fun _ t => cP D ct ad x_fed x_tk x_col x_line x_rcells x_rsize x_len x_cuts x_bare x_place x_lA x_lB x_lC x_fX x_fY x_sX x_sY x_made x_fsize x_psize x_over x_touch x_most x_mU x_mV x_area x_board a_tape a_letters a_oneSided a_free a_ends a_crowds a_wmade a_firsts a_widths a_heights a_places a_next a_pnear z_a_table a_overlaps a_drawers a_kept a_items a_numbers a_marks a_near a_figures a_covered a_pcells a_matrix t.heap) (cA ad)) av s 0 0 (cA ad)) (F0 m 48 ls []) := by
        intro v2 n48
        induction n48 with
        | zero => intro H locs ls v3 a_table hl hP hS h; cases h
        | succ n48 ih48 =>
          intro H locs ls v3 a_table hl hP hS h
          replace h : pa_orders_B48 v1 v2 x_psize a_pnear k41 (fl2 (pa_orders_B48 v1 v2 x_psize a_pnear k41) n48) v3 a_table = some (r, z_a_table) := h
          generalize fl2 (pa_orders_B48 v1 v2 x_psize a_pnear k41) n48 = k48 at h ih48
          have hJ105 : ∀ (H : Heap) (locs : List Loc) (ls : Array Slot) (v3 : Int32) (a_table : Nat → Int32) , lv_has ls 5 [(0, .ref (ad 27)), (1, .int v1), (2, .int v2), (3, .int v3)] → cP D ct ad x_fed x_tk x_col x_line x_rcells x_rsize x_len x_cuts x_bare x_place x_lA x_lB x_lC x_fX x_fY x_sX x_sY x_made x_fsize x_psize x_over x_touch x_most x_mU x_mV x_area x_board a_tape a_letters a_oneSided a_free a_ends a_crowds a_wmade a_firsts a_widths a_heights a_places a_next a_pnear a_table a_overlaps a_drawers a_kept a_items a_numbers a_marks a_near a_figures a_covered a_pcells a_matrix H → va_S (cA ad) s.heap H locs → pa_orders_J105 k41 k48 x_psize a_pnear v1 v2 v3 a_table = some (r, z_a_table) → W p l e (rmm 1 20) s m av below meth c H locs 0 0 (MQ below (va_Ql (fun z (_ : Unit) => z = r) (fun _ t => cP D ct ad x_fed x_tk x_col x_line x_rcells x_rsize x_len x_cuts x_bare x_place x_lA x_lB x_lC x_fX x_fY x_sX x_sY x_made x_fsize x_psize x_over x_touch x_most x_mU x_mV x_area x_board a_tape a_letters a_oneSided a_free a_ends a_crowds a_wmade a_firsts a_widths a_heights a_places a_next a_pnear z_a_table a_overlaps a_drawers a_kept a_items a_numbers a_marks a_near a_figures a_covered a_pcells a_matrix t.heap) (cA ad)) av s 0 0 (cA ad)) (F0 m 105 ls []) := by
            intro H locs ls v3 a_table  hl hP hS h
            rw [pa_orders_J105] at h
            obtain ⟨v3_13, ev3_13, h⟩ := nm_s h
            refine lv_iinc hx hb dX6_orders_105 hl (k := 3) rfl ev3_13.symm (Nat.le_of_ble_eq_true rfl) (lv' := [(3, .int v3_13), (0, .ref (ad 27)), (1, .int v1), (2, .int v2)]) rfl (fun ls hl => ?_)
            refine lv_goto hx hb dX6_orders_108 (tgt := 48) rfl ?_
            exact ih48 _ _ _ v3_13 a_table (lv_sub hl [1, 2, 3, 0] rfl) hP hS h
          rw [pa_orders_B48] at h
          refine lv_iload_n hx hb dX6_orders_48 rfl (lv_at hl 3 rfl) ?_
          refine lv_aload_n hx hb dX6_orders_49 rfl (lv_at hl 0 rfl) ?_
          refine cg_PA_4 hx hb hw hown hK hP dX6_orders_50 ?_
          refine lv_icmp_ge hx hb dX6_orders_53 (tgt := 111) rfl (fun hc => ?_) (fun hc => ?_)
          · replace h := ifp h hc
            exact hJ111 _ _ _ v2 a_table (lv_sub hl [0, 1, 2] rfl) hP hS h
          · replace h := ifn h hc
            refine lv_aload_n hx hb dX6_orders_56 rfl (lv_at hl 0 rfl) ?_
            refine cg_PA_2 hx hb hw hown hK hP dX6_orders_57 ?_
            refine lv_iload_n hx hb dX6_orders_60 rfl (lv_at hl 2 rfl) ?_
            obtain ⟨hin, h⟩ := ck_s h
            refine cd_table hx hb hK hP hin dX6_orders_61 ?_
            refine lv_if_eq hx hb dX6_orders_62 (tgt := 111) rfl (fun hc => ?_) (fun hc => ?_)
            · replace h := ifp h hc
              exact hJ111 _ _ _ v2 a_table (lv_sub hl [0, 1, 2] rfl) hP hS h
            · replace h := ifn h hc
              refine lv_iload_n hx hb dX6_orders_65 rfl (lv_at hl 2 rfl) ?_
              refine lv_iconst (v := 1) hx hb dX6_orders_66 ki_1 ?_
              refine lv_iload_n hx hb dX6_orders_67 rfl (lv_at hl 3 rfl) ?_
              refine lv_ishl hx hb dX6_orders_68 ?_
              refine nmI (v := il 1 v3) rfl ?_
              refine lv_ior hx hb dX6_orders_69 ?_
              obtain ⟨v4_14, ev4_14, h⟩ := nm_s h
              refine nmI ev4_14 ?_
              refine lv_istore hx hb dX6_orders_70 hl (Nat.le_of_ble_eq_true rfl) (lv' := [(4, .int v4_14), (0, .ref (ad 27)), (1, .int v1), (2, .int v2), (3, .int v3)]) rfl (fun ls hl => ?_)
              refine lv_iload hx hb dX6_orders_72 (lv_at hl 0 rfl) ?_
              refine lv_iload_n hx hb dX6_orders_74 rfl (lv_at hl 3 rfl) ?_
              refine lv_icmp_eq hx hb dX6_orders_75 (tgt := 105) rfl (fun hc => ?_) (fun hc => ?_)
              · replace h := ifp h hc
                exact hJ105 _ _ _ v3 a_table (lv_sub hl [1, 2, 3, 4] rfl) hP hS h
              · replace h := ifn h hc
                refine lv_aload_n hx hb dX6_orders_78 rfl (lv_at hl 1 rfl) ?_
                refine cg_PA_1 hx hb hw hown hK hP dX6_orders_79 ?_
                refine lv_iload_n hx hb dX6_orders_82 rfl (lv_at hl 4 rfl) ?_
                obtain ⟨hin, h⟩ := ck_s h
                refine cd_pnear hx hb hK hP hin dX6_orders_83 ?_
                refine lv_iload_n hx hb dX6_orders_84 rfl (lv_at hl 3 rfl) ?_
                refine lv_iand hx hb dX6_orders_85 ?_
                refine lv_if_eq hx hb dX6_orders_86 (tgt := 105) rfl (fun hc => ?_) (fun hc => ?_)
                · replace h := ifp h hc
                  exact hJ105 _ _ _ v3 a_table (lv_sub hl [1, 2, 3, 4] rfl) hP hS h
                · replace h := ifn h hc
                  refine lv_aload_n hx hb dX6_orders_89 rfl (lv_at hl 1 rfl) ?_
                  refine cg_PA_2 hx hb hw hown hK hP dX6_orders_90 ?_
                  refine lv_iload hx hb dX6_orders_93 (lv_at hl 0 rfl) ?_
                  refine lv_dup2_11 hx hb dX6_orders_95 rfl rfl ?_
                  obtain ⟨hin, h⟩ := ck_s h
                  refine cd_table hx hb hK hP hin dX6_orders_96 ?_
                  refine lv_aload_n hx hb dX6_orders_97 rfl (lv_at hl 1 rfl) ?_
                  refine cg_PA_2 hx hb hw hown hK hP dX6_orders_98 ?_
                  refine lv_iload_n hx hb dX6_orders_101 rfl (lv_at hl 3 rfl) ?_
                  obtain ⟨hin, h⟩ := ck_s h
                  refine cd_table hx hb hK hP hin dX6_orders_102 ?_
                  refine lv_iadd hx hb dX6_orders_103 ?_
                  obtain ⟨w_15, ew_15, h⟩ := nm_s h
                  refine nmI ew_15 ?_
                  obtain ⟨hin, h⟩ := ck_s h
                  obtain ⟨a_table_16, ea_table_16, h⟩ := nm_s h
                  refine cs_table hx hb hK hP hI hS hin ea_table_16 dX6_orders_104 (fun H locs hP hS => ?_)
                  exact hJ105 _ _ _ v3 a_table_16 (lv_sub hl [1, 2, 3, 4] rfl) hP hS h
      rw [pa_orders_B41] at h
      refine lv_iload_n hx hb dX6_orders_41 rfl (lv_at hl 2 rfl) ?_
      refine lv_iload_n hx hb dX6_orders_42 rfl (lv_at hl 1 rfl) ?_
      refine lv_icmp_ge hx hb dX6_orders_43 (tgt := 117) rfl (fun hc => ?_) (fun hc => ?_)
      · replace h := ifp h hc
        refine lv_aload_n hx hb dX6_orders_117 rfl (lv_at hl 0 rfl) ?_
        refine cg_PA_2 hx hb hw hown hK hP dX6_orders_118 ?_
        refine lv_iload_n hx hb dX6_orders_121 rfl (lv_at hl 1 rfl) ?_
        refine lv_iconst (v := 1) hx hb dX6_orders_122 ki_1 ?_
        refine lv_isub hx hb dX6_orders_123 ?_
        obtain ⟨i_17, ei_17, h⟩ := nm_s h
        refine nmI ei_17 ?_
        obtain ⟨hin, h⟩ := ck_s h
        refine cd_table hx hb hK hP hin dX6_orders_124 ?_
        refine lv_i2l hx hb (v := (a_table i_17.toNatClampNeg).toInt64) dX6_orders_125 rfl ?_
        simp only [Option.some.injEq, Prod.mk.injEq] at h
        obtain ⟨rfl, rfl⟩ := h
        exact rc_l hx hb hr hlocks hS dX6_orders_126 rfl hP
      · replace h := ifn h hc
        refine lv_iconst (v := 0) hx hb dX6_orders_46 ki_0 ?_
        refine lv_istore_n hx hb dX6_orders_47 rfl hl (Nat.le_of_ble_eq_true rfl) (lv' := [(3, .int 0), (0, .ref (ad 27)), (1, .int v1), (2, .int v2)]) rfl (fun ls hl => ?_)
        exact hL48 v2 FU _ _ _ 0 a_table (lv_sub hl [1, 2, 3, 0] rfl) hP hS h
  have hL9 : ∀ (v1 : Int32), ∀ (x_psize : Int32), ∀ (a_pnear : Nat → Int32), ∀ (n9 : Nat) (H : Heap) (locs : List Loc) (ls : Array Slot) (v2 : Int32) (a_table : Nat → Int32), lv_has ls 5 [(0, .ref (ad 27)), (1, .int v1), (2, .int v2)] → cP D ct ad x_fed x_tk x_col x_line x_rcells x_rsize x_len x_cuts x_bare x_place x_lA x_lB x_lC x_fX x_fY x_sX x_sY x_made x_fsize x_psize x_over x_touch x_most x_mU x_mV x_area x_board a_tape a_letters a_oneSided a_free a_ends a_crowds a_wmade a_firsts a_widths a_heights a_places a_next a_pnear a_table a_overlaps a_drawers a_kept a_items a_numbers a_marks a_near a_figures a_covered a_pcells a_matrix H → va_S (cA ad) s.heap H locs → fl2 (pa_orders_B9 v1 x_psize a_pnear) n9 v2 a_table = some (r, z_a_table) → W p l e (rmm 1 20) s m av below meth c H locs 0 0 (MQ below (va_Ql (fun z (_ : Unit) => z = r) (fun _ t => cP D ct ad x_fed x_tk x_col x_line x_rcells x_rsize x_len x_cuts x_bare x_place x_lA x_lB x_lC x_fX x_fY x_sX x_sY x_made x_fsize x_psize x_over x_touch x_most x_mU x_mV x_area x_board a_tape a_letters a_oneSided a_free a_ends a_crowds a_wmade a_firsts a_widths a_heights a_places a_next a_pnear z_a_table a_overlaps a_drawers a_kept a_items a_numbers a_marks a_near a_figures a_covered a_pcells a_matrix t.heap) (cA ad)) av s 0 0 (cA ad)) (F0 m 9 ls []) := by
    intro v1 x_psize a_pnear n9
    induction n9 with
    | zero => intro H locs ls v2 a_table hl hP hS h; cases h
    | succ n9 ih9 =>
      intro H locs ls v2 a_table hl hP hS h
      replace h : pa_orders_B9 v1 x_psize a_pnear (fl2 (pa_orders_B9 v1 x_psize a_pnear) n9) v2 a_table = some (r, z_a_table) := h
      generalize fl2 (pa_orders_B9 v1 x_psize a_pnear) n9 = k9 at h ih9
      have hJ32 : ∀ (H : Heap) (locs : List Loc) (ls : Array Slot) (v2 : Int32) (a_table : Nat → Int32) (t1 : Int32) (t2 : Int32), lv_has ls 5 [(0, .ref (ad 27)), (1, .int v1), (2, .int v2)] → cP D ct ad x_fed x_tk x_col x_line x_rcells x_rsize x_len x_cuts x_bare x_place x_lA x_lB x_lC x_fX x_fY x_sX x_sY x_made x_fsize x_psize x_over x_touch x_most x_mU x_mV x_area x_board a_tape a_letters a_oneSided a_free a_ends a_crowds a_wmade a_firsts a_widths a_heights a_places a_next a_pnear a_table a_overlaps a_drawers a_kept a_items a_numbers a_marks a_near a_figures a_covered a_pcells a_matrix H → va_S (cA ad) s.heap H locs → pa_orders_J32 k9 x_psize a_pnear v1 v2 a_table t1 t2 = some (r, z_a_table) → W p l e (rmm 1 20) s m av below meth c H locs 0 0 (MQ below (va_Ql (fun z (_ : Unit) => z = r) (fun _ t => cP D ct ad x_fed x_tk x_col x_line x_rcells x_rsize x_len x_cuts x_bare x_place x_lA x_lB x_lC x_fX x_fY x_sX x_sY x_made x_fsize x_psize x_over x_touch x_most x_mU x_mV x_area x_board a_tape a_letters a_oneSided a_free a_ends a_crowds a_wmade a_firsts a_widths a_heights a_places a_next a_pnear z_a_table a_overlaps a_drawers a_kept a_items a_numbers a_marks a_near a_figures a_covered a_pcells a_matrix t.heap) (cA ad)) av s 0 0 (cA ad)) (F0 m 32 ls [.int t2, .int t1, .ref (ad 30)]) := by
        intro H locs ls v2 a_table t1 t2 hl hP hS h
        rw [pa_orders_J32] at h
        obtain ⟨hin, h⟩ := ck_s h
        obtain ⟨a_table_18, ea_table_18, h⟩ := nm_s h
        refine cs_table hx hb hK hP hI hS hin ea_table_18 dX6_orders_32 (fun H locs hP hS => ?_)
        obtain ⟨v2_19, ev2_19, h⟩ := nm_s h
        refine lv_iinc hx hb dX6_orders_33 hl (k := 2) rfl ev2_19.symm (Nat.le_of_ble_eq_true rfl) (lv' := [(2, .int v2_19), (0, .ref (ad 27)), (1, .int v1)]) rfl (fun ls hl => ?_)
        refine lv_goto hx hb dX6_orders_36 (tgt := 9) rfl ?_
        exact ih9 _ _ _ v2_19 a_table_18 (lv_sub hl [1, 2, 0] rfl) hP hS h
      rw [pa_orders_B9] at h
      refine lv_iload_n hx hb dX6_orders_9 rfl (lv_at hl 2 rfl) ?_
      refine lv_iload_n hx hb dX6_orders_10 rfl (lv_at hl 1 rfl) ?_
      refine lv_icmp_ge hx hb dX6_orders_11 (tgt := 39) rfl (fun hc => ?_) (fun hc => ?_)
      · replace h := ifp h hc
        refine lv_iconst (v := 1) hx hb dX6_orders_39 ki_1 ?_
        refine lv_istore_n hx hb dX6_orders_40 rfl hl (Nat.le_of_ble_eq_true rfl) (lv' := [(2, .int 1), (0, .ref (ad 27)), (1, .int v1)]) rfl (fun ls hl => ?_)
        exact hL41 v1 x_psize a_pnear FU _ _ _ 1 a_table (lv_sub hl [1, 2, 0] rfl) hP hS h
      · replace h := ifn h hc
        refine lv_aload_n hx hb dX6_orders_14 rfl (lv_at hl 0 rfl) ?_
        refine cg_PA_2 hx hb hw hown hK hP dX6_orders_15 ?_
        refine lv_iload_n hx hb dX6_orders_18 rfl (lv_at hl 2 rfl) ?_
        refine lv_iload_n hx hb dX6_orders_19 rfl (lv_at hl 2 rfl) ?_
        obtain ⟨r_20, hr_21, h⟩ := bd1_s h
        refine sc_i hx hb hml hown hw hN (c_ji_bitCount l v2 r_20 hr_21) g_RX6_76 hd_J6_bitCount_0f7a4 (rest := [.int v2, .ref (ad 30)]) hl.1 hS dX6_orders_20 rfl rfl ⟨Nat.le_of_ble_eq_true rfl, Nat.le_of_ble_eq_true rfl⟩ rfl rfl (Nat.le_of_ble_eq_true rfl) ⟨Nat.zero_le _, Nat.zero_le _⟩ (fun H locs hk hS => ?_)
        have hP := cP_kept hP hk
        refine lv_iconst (v := 1) hx hb dX6_orders_23 ki_1 ?_
        refine lv_icmp_ne hx hb dX6_orders_24 (tgt := 31) rfl (fun hc => ?_) (fun hc => ?_)
        · replace h := ifn h hc
          refine lv_iconst (v := 0) hx hb dX6_orders_31 ki_0 ?_
          exact hJ32 _ _ _ v2 a_table v2 0 (lv_sub hl [0, 1, 2] rfl) hP hS h
        · replace h := ifp h hc
          refine lv_iconst (v := 1) hx hb dX6_orders_27 ki_1 ?_
          refine lv_goto hx hb dX6_orders_28 (tgt := 32) rfl ?_
          exact hJ32 _ _ _ v2 a_table v2 1 (lv_sub hl [0, 1, 2] rfl) hP hS h
  refine lv_iconst (v := 1) hx hb dX6_orders_0 ki_1 ?_
  refine lv_aload_n hx hb dX6_orders_1 rfl (lv_at hl 0 rfl) ?_
  refine cg_PA_4 hx hb hw hown hK hP dX6_orders_2 ?_
  refine lv_ishl hx hb dX6_orders_5 ?_
  refine nmI (v := il 1 x_psize) rfl ?_
  obtain ⟨v1_22, ev1_22, h⟩ := nm_s h
  refine nmI ev1_22 ?_
  refine lv_istore_n hx hb dX6_orders_6 rfl hl (Nat.le_of_ble_eq_true rfl) (lv' := [(1, .int v1_22), (0, .ref (ad 27))]) rfl (fun ls hl => ?_)
  refine lv_iconst (v := 0) hx hb dX6_orders_7 ki_0 ?_
  refine lv_istore_n hx hb dX6_orders_8 rfl hl (Nat.le_of_ble_eq_true rfl) (lv' := [(2, .int 0), (1, .int v1_22), (0, .ref (ad 27))]) rfl (fun ls hl => ?_)
  exact hL9 v1_22 x_psize a_pnear FU _ _ _ 0 a_table (lv_sub hl [2, 1, 0] rfl) hP hS h
