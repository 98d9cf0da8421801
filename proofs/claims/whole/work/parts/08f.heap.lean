noncomputable def cf_prepareMoves (v1 : Int32) (a_drawers : Nat → Int64) (x_len : Int32) (x_cuts : Int32) (x_bare : Int32) (x_place : Int32) (x_lA : Int32) (x_lB : Int32) (x_lC : Int32) (x_fX : Int32) (x_fY : Int32) (x_sX : Int32) (x_sY : Int32) (a_letters : Nat → Int32) : Option (Int32 × Int32 × Int32 × Int32 × Int32 × Int32 × Int32 × Int32 × Int32 × Int32 × Int32 × Int32 × (Nat → Int32)) :=
  ck v1 8 <|
  if (a_drawers v1.toNatClampNeg) = 0 then (some ((-2), x_len, x_cuts, x_bare, x_place, x_lA, x_lB, x_lC, x_fX, x_fY, x_sX, x_sY, a_letters)) else
  ck v1 8 <|
  bd3 (ol_trace (a_drawers v1.toNatClampNeg) x_len a_letters) fun r_1 x_len_2 a_letters_3 =>
  if r_1 = 0 then (some ((-3), x_len_2, x_cuts, x_bare, x_place, x_lA, x_lB, x_lC, x_fX, x_fY, x_sX, x_sY, a_letters_3)) else
  bd6 (ol_cut x_len_2 x_cuts x_bare x_place x_lA x_lB x_lC a_letters_3) fun x_cuts_5 x_bare_6 x_place_7 x_lA_8 x_lB_9 x_lC_10 =>
  bd1 (ol_cuttings x_cuts_5) fun r_12 =>
  if r_12 = 0 then (some ((-4), x_len_2, x_cuts_5, x_bare_6, x_place_7, x_lA_8, x_lB_9, x_lC_10, x_fX, x_fY, x_sX, x_sY, a_letters_3)) else
  bd4 (ol_findMoves x_place_7 x_lA_8 x_lB_9 x_lC_10 x_fX x_fY x_sX x_sY a_letters_3) fun x_fX_14 x_fY_15 x_sX_16 x_sY_17 =>
  some (0, x_len_2, x_cuts_5, x_bare_6, x_place_7, x_lA_8, x_lB_9, x_lC_10, x_fX_14, x_fY_15, x_sX_16, x_sY_17, a_letters_3)
set_option maxHeartbeats 4000000 in
set_option maxRecDepth 100000 in
theorem c_cf_prepareMoves (l : Launch) (D : va_G) (ct : Nat → ClassId) (ad : Nat → Nat) (hI : cI ad) {x_fed x_tk x_col x_line x_rcells x_rsize x_len x_cuts x_bare x_place x_lA x_lB x_lC x_fX x_fY x_sX x_sY x_made x_fsize x_psize x_over x_touch x_most x_mU x_mV x_area : Int32} {x_board : Int64} {a_tape a_letters a_oneSided a_free a_ends a_crowds a_wmade a_firsts a_widths a_heights a_places a_next a_pnear a_table a_overlaps : Nat → Int32} {a_drawers a_kept a_items a_numbers a_marks a_near a_figures a_covered a_pcells a_matrix : Nat → Int64} (v1 : Int32) (r : Int32) (z_x_len : Int32) (z_x_cuts : Int32) (z_x_bare : Int32) (z_x_place : Int32) (z_x_lA : Int32) (z_x_lB : Int32) (z_x_lC : Int32) (z_x_fX : Int32) (z_x_fY : Int32) (z_x_sX : Int32) (z_x_sY : Int32) (z_a_letters : Nat → Int32) (h : cf_prepareMoves v1 a_drawers x_len x_cuts x_bare x_place x_lA x_lB x_lC x_fX x_fY x_sX x_sY a_letters = some (r, z_x_len, z_x_cuts, z_x_bare, z_x_place, z_x_lA, z_x_lB, z_x_lC, z_x_fX, z_x_fY, z_x_sX, z_x_sY, z_a_letters)) : Met l yX11_prepareMoves (wm yX11_prepareMoves cX11_prepareMoves 2 (some .int)) (rmm 4 101) (va_Pc [.ref (ad 0), .int v1] (cB D ct ad x_fed x_tk x_col x_line x_rcells x_rsize x_len x_cuts x_bare x_place x_lA x_lB x_lC x_fX x_fY x_sX x_sY x_made x_fsize x_psize x_over x_touch x_most x_mU x_mV x_area x_board a_tape a_letters a_oneSided a_free a_ends a_crowds a_wmade a_firsts a_widths a_heights a_places a_next a_pnear a_table a_overlaps a_drawers a_kept a_items a_numbers a_marks a_near a_figures a_covered a_pcells a_matrix)) (va_Qi (fun z (_ : Unit) => z = r) (fun _ t => cP D ct ad x_fed x_tk x_col x_line x_rcells x_rsize z_x_len z_x_cuts z_x_bare z_x_place z_x_lA z_x_lB z_x_lC z_x_fX z_x_fY z_x_sX z_x_sY x_made x_fsize x_psize x_over x_touch x_most x_mU x_mV x_area x_board a_tape z_a_letters a_oneSided a_free a_ends a_crowds a_wmade a_firsts a_widths a_heights a_places a_next a_pnear a_table a_overlaps a_drawers a_kept a_items a_numbers a_marks a_near a_figures a_covered a_pcells a_matrix t.heap) (cA ad)) 0 0 (cA ad) := by
  refine met_s (y := yX11_prepareMoves) (rm := rmm 4 101) (by decide) (Nat.le_of_ble_eq_true rfl) ?_
  intro p e s m below meth c hx hb hr hw hown hlocks _ hml hB ls hl
  obtain ⟨hN, hK, hP⟩ := hB
  replace hl : lv_has ls 2 [(0, .ref (ad 0)), (1, .int v1)] := hl
  have hS : va_S (cA ad) s.heap s.heap [] := va_S.rf
  generalize (([.ref (ad 0), .int v1] : List Value).toArray) = av at hw ⊢
  rw [cf_prepareMoves] at h
  refine lv_aload_n hx hb dX11_prepareMoves_0 rfl (lv_at hl 0 rfl) ?_
  refine cg_CF_1 hx hb hw hown hK hP dX11_prepareMoves_1 ?_
  refine lv_iload_n hx hb dX11_prepareMoves_4 rfl (lv_at hl 1 rfl) ?_
  obtain ⟨hin, h⟩ := ck_s h
  refine cd_drawers hx hb hK hP hin dX11_prepareMoves_5 ?_
  refine lv_lconst (v := 0) hx hb dX11_prepareMoves_6 kl_0 ?_
  refine W.lcmp hx hb dX11_prepareMoves_7 ?_
  refine lv_if_ne hx hb dX11_prepareMoves_8 (tgt := 14) rfl (fun hc => ?_) (fun hc => ?_)
  · replace h := ifn h (fun q => hc ((lg_cmp_eq _ _).mpr q))
    refine lv_aload_n hx hb dX11_prepareMoves_14 rfl (lv_at hl 0 rfl) ?_
    refine cg_CF_5 hx hb hw hown hK hP dX11_prepareMoves_15 ?_
    refine lv_aload_n hx hb dX11_prepareMoves_18 rfl (lv_at hl 0 rfl) ?_
    refine cg_CF_1 hx hb hw hown hK hP dX11_prepareMoves_19 ?_
    refine lv_iload_n hx hb dX11_prepareMoves_22 rfl (lv_at hl 1 rfl) ?_
    obtain ⟨hin, h⟩ := ck_s h
    refine cd_drawers hx hb hK hP hin dX11_prepareMoves_23 ?_
    obtain ⟨r_19, x_len_20, a_letters_21, hr_22, h⟩ := bd3_s h
    refine hv_i hx hb hml hown hw cB_bl (cB_of hN hK hP) (cr_OL hK hP) (c_ol_trace l D ct ad hI (a_drawers v1.toNatClampNeg) r_19 x_len_20 a_letters_21 hr_22) g_RX11_209 ⟨rfl, hd_X5_trace⟩ (rest := []) hl.1 hS (fun q h => h) dX11_prepareMoves_24 rfl rfl ⟨Nat.le_of_ble_eq_true rfl, Nat.le_of_ble_eq_true rfl⟩ rfl rfl (Nat.le_of_ble_eq_true rfl) ⟨Nat.zero_le _, Nat.zero_le _⟩ (fun H locs hP _ hS => ?_)
    refine lv_if_ne hx hb dX11_prepareMoves_27 (tgt := 33) rfl (fun hc => ?_) (fun hc => ?_)
    · replace h := ifn h hc
      refine lv_aload_n hx hb dX11_prepareMoves_33 rfl (lv_at hl 0 rfl) ?_
      refine cg_CF_5 hx hb hw hown hK hP dX11_prepareMoves_34 ?_
      obtain ⟨x_cuts_23, x_bare_24, x_place_25, x_lA_26, x_lB_27, x_lC_28, hr_29, h⟩ := bd6_s h
      refine hv_v hx hb hml hown hw cB_bl (cB_of hN hK hP) (cr_OL hK hP) (c_ol_cut l D ct ad hI x_cuts_23 x_bare_24 x_place_25 x_lA_26 x_lB_27 x_lC_28 hr_29) g_RX11_219 ⟨rfl, hd_X5_cut⟩ (rest := []) hl.1 hS (fun q h => h) dX11_prepareMoves_37 rfl rfl ⟨Nat.le_of_ble_eq_true rfl, Nat.le_of_ble_eq_true rfl⟩ rfl rfl (Nat.le_of_ble_eq_true rfl) ⟨Nat.zero_le _, Nat.zero_le _⟩ (fun H locs hP _ hS => ?_)
      refine lv_aload_n hx hb dX11_prepareMoves_40 rfl (lv_at hl 0 rfl) ?_
      refine cg_CF_5 hx hb hw hown hK hP dX11_prepareMoves_41 ?_
      obtain ⟨r_30, hr_31, h⟩ := bd1_s h
      refine hv_i hx hb hml hown hw cB_bl (cB_of hN hK hP) (cr_OL hK hP) (c_ol_cuttings l D ct ad hI r_30 hr_31) g_RX11_222 ⟨rfl, hd_X5_cuttings⟩ (rest := []) hl.1 hS (fun q h => h) dX11_prepareMoves_44 rfl rfl ⟨Nat.le_of_ble_eq_true rfl, Nat.le_of_ble_eq_true rfl⟩ rfl rfl (Nat.le_of_ble_eq_true rfl) ⟨Nat.zero_le _, Nat.zero_le _⟩ (fun H locs hP _ hS => ?_)
      refine lv_if_ne hx hb dX11_prepareMoves_47 (tgt := 53) rfl (fun hc => ?_) (fun hc => ?_)
      · replace h := ifn h hc
        refine lv_aload_n hx hb dX11_prepareMoves_53 rfl (lv_at hl 0 rfl) ?_
        refine cg_CF_5 hx hb hw hown hK hP dX11_prepareMoves_54 ?_
        obtain ⟨x_fX_32, x_fY_33, x_sX_34, x_sY_35, hr_36, h⟩ := bd4_s h
        refine hv_v hx hb hml hown hw cB_bl (cB_of hN hK hP) (cr_OL hK hP) (c_ol_findMoves l D ct ad hI x_fX_32 x_fY_33 x_sX_34 x_sY_35 hr_36) g_RX11_285 ⟨rfl, hd_X5_findMoves⟩ (rest := []) hl.1 hS (fun q h => h) dX11_prepareMoves_57 rfl rfl ⟨Nat.le_of_ble_eq_true rfl, Nat.le_of_ble_eq_true rfl⟩ rfl rfl (Nat.le_of_ble_eq_true rfl) ⟨Nat.zero_le _, Nat.zero_le _⟩ (fun H locs hP _ hS => ?_)
        refine lv_iconst (v := 0) hx hb dX11_prepareMoves_60 ki_0 ?_
        simp only [Option.some.injEq, Prod.mk.injEq] at h
        obtain ⟨rfl, rfl, rfl, rfl, rfl, rfl, rfl, rfl, rfl, rfl, rfl, rfl, rfl⟩ := h
        exact rc_i hx hb hr hlocks hS dX11_prepareMoves_61 rfl hP
      · replace h := ifp h hc
        refine lv_bipush (v := (-4)) hx hb dX11_prepareMoves_50 kb_m4 ?_
        simp only [Option.some.injEq, Prod.mk.injEq] at h
        obtain ⟨rfl, rfl, rfl, rfl, rfl, rfl, rfl, rfl, rfl, rfl, rfl, rfl, rfl⟩ := h
        exact rc_i hx hb hr hlocks hS dX11_prepareMoves_52 rfl hP
    · replace h := ifp h hc
      refine lv_bipush (v := (-3)) hx hb dX11_prepareMoves_30 kb_m3 ?_
      simp only [Option.some.injEq, Prod.mk.injEq] at h
      obtain ⟨rfl, rfl, rfl, rfl, rfl, rfl, rfl, rfl, rfl, rfl, rfl, rfl, rfl⟩ := h
      exact rc_i hx hb hr hlocks hS dX11_prepareMoves_32 rfl hP
  · replace h := ifp h ((lg_cmp_eq _ _).mp hc)
    refine lv_bipush (v := (-2)) hx hb dX11_prepareMoves_11 kb_m2 ?_
    simp only [Option.some.injEq, Prod.mk.injEq] at h
    obtain ⟨rfl, rfl, rfl, rfl, rfl, rfl, rfl, rfl, rfl, rfl, rfl, rfl, rfl⟩ := h
    exact rc_i hx hb hr hlocks hS dX11_prepareMoves_13 rfl hP
noncomputable def cf_vector (v1 : Int32) (v2 : Int32) (a_drawers : Nat → Int64) (x_len : Int32) (x_cuts : Int32) (x_bare : Int32) (x_place : Int32) (x_lA : Int32) (x_lB : Int32) (x_lC : Int32) (x_fX : Int32) (x_fY : Int32) (x_sX : Int32) (x_sY : Int32) (a_letters : Nat → Int32) : Option (Int32 × Int32 × Int32 × Int32 × Int32 × Int32 × Int32 × Int32 × Int32 × Int32 × Int32 × Int32 × (Nat → Int32)) :=
  bd1 (cf_isDrawer v1) fun r_1 =>
  if r_1 = 0 then (some ((-1), x_len, x_cuts, x_bare, x_place, x_lA, x_lB, x_lC, x_fX, x_fY, x_sX, x_sY, a_letters)) else
  bd1 (cf_within v2 0 4) fun r_3 =>
  if r_3 = 0 then (some ((-1), x_len, x_cuts, x_bare, x_place, x_lA, x_lB, x_lC, x_fX, x_fY, x_sX, x_sY, a_letters)) else
  bd13 (cf_prepareMoves v1 a_drawers x_len x_cuts x_bare x_place x_lA x_lB x_lC x_fX x_fY x_sX x_sY a_letters) fun r_5 x_len_6 x_cuts_7 x_bare_8 x_place_9 x_lA_10 x_lB_11 x_lC_12 x_fX_13 x_fY_14 x_sX_15 x_sY_16 a_letters_17 =>
  if r_5 = 0 then (bd1 (ol_move v2 x_fX_13 x_fY_14 x_sX_15 x_sY_16) fun r_19 =>
  some (r_19, x_len_6, x_cuts_7, x_bare_8, x_place_9, x_lA_10, x_lB_11, x_lC_12, x_fX_13, x_fY_14, x_sX_15, x_sY_16, a_letters_17)) else
  some (r_5, x_len_6, x_cuts_7, x_bare_8, x_place_9, x_lA_10, x_lB_11, x_lC_12, x_fX_13, x_fY_14, x_sX_15, x_sY_16, a_letters_17)
set_option maxHeartbeats 4000000 in
set_option maxRecDepth 100000 in
theorem c_cf_vector (l : Launch) (D : va_G) (ct : Nat → ClassId) (ad : Nat → Nat) (hI : cI ad) {x_fed x_tk x_col x_line x_rcells x_rsize x_len x_cuts x_bare x_place x_lA x_lB x_lC x_fX x_fY x_sX x_sY x_made x_fsize x_psize x_over x_touch x_most x_mU x_mV x_area : Int32} {x_board : Int64} {a_tape a_letters a_oneSided a_free a_ends a_crowds a_wmade a_firsts a_widths a_heights a_places a_next a_pnear a_table a_overlaps : Nat → Int32} {a_drawers a_kept a_items a_numbers a_marks a_near a_figures a_covered a_pcells a_matrix : Nat → Int64} (v1 : Int32) (v2 : Int32) (r : Int32) (z_x_len : Int32) (z_x_cuts : Int32) (z_x_bare : Int32) (z_x_place : Int32) (z_x_lA : Int32) (z_x_lB : Int32) (z_x_lC : Int32) (z_x_fX : Int32) (z_x_fY : Int32) (z_x_sX : Int32) (z_x_sY : Int32) (z_a_letters : Nat → Int32) (h : cf_vector v1 v2 a_drawers x_len x_cuts x_bare x_place x_lA x_lB x_lC x_fX x_fY x_sX x_sY a_letters = some (r, z_x_len, z_x_cuts, z_x_bare, z_x_place, z_x_lA, z_x_lB, z_x_lC, z_x_fX, z_x_fY, z_x_sX, z_x_sY, z_a_letters)) : Met l yX11_vector (wm yX11_vector cX11_vector 4 (some .int)) (rmm 5 122) (va_Pc [.ref (ad 0), .int v1, .int v2] (cB D ct ad x_fed x_tk x_col x_line x_rcells x_rsize x_len x_cuts x_bare x_place x_lA x_lB x_lC x_fX x_fY x_sX x_sY x_made x_fsize x_psize x_over x_touch x_most x_mU x_mV x_area x_board a_tape a_letters a_oneSided a_free a_ends a_crowds a_wmade a_firsts a_widths a_heights a_places a_next a_pnear a_table a_overlaps a_drawers a_kept a_items a_numbers a_marks a_near a_figures a_covered a_pcells a_matrix)) (va_Qi (fun z (_ : Unit) => z = r) (fun _ t => cP D ct ad x_fed x_tk x_col x_line x_rcells x_rsize z_x_len z_x_cuts z_x_bare z_x_place z_x_lA z_x_lB z_x_lC z_x_fX z_x_fY z_x_sX z_x_sY x_made x_fsize x_psize x_over x_touch x_most x_mU x_mV x_area x_board a_tape z_a_letters a_oneSided a_free a_ends a_crowds a_wmade a_firsts a_widths a_heights a_places a_next a_pnear a_table a_overlaps a_drawers a_kept a_items a_numbers a_marks a_near a_figures a_covered a_pcells a_matrix t.heap) (cA ad)) 0 0 (cA ad) := by
  refine met_s (y := yX11_vector) (rm := rmm 5 122) (by decide) (Nat.le_of_ble_eq_true rfl) ?_
  intro p e s m below meth c hx hb hr hw hown hlocks _ hml hB ls hl
  obtain ⟨hN, hK, hP⟩ := hB
  replace hl : lv_has ls 4 [(0, .ref (ad 0)), (1, .int v1), (2, .int v2)] := hl
  have hS : va_S (cA ad) s.heap s.heap [] := va_S.rf
  generalize (([.ref (ad 0), .int v1, .int v2] : List Value).toArray) = av at hw ⊢
  rw [cf_vector] at h
  refine lv_iload_n hx hb dX11_vector_0 rfl (lv_at hl 1 rfl) ?_
  obtain ⟨r_21, hr_22, h⟩ := bd1_s h
  refine sc_i hx hb hml hown hw hN (c_cf_isDrawer l v1 r_21 hr_22) g_RX11_91 hd_X11_isDrawer (rest := []) hl.1 hS dX11_vector_1 rfl rfl ⟨Nat.le_of_ble_eq_true rfl, Nat.le_of_ble_eq_true rfl⟩ rfl rfl (Nat.le_of_ble_eq_true rfl) ⟨Nat.zero_le _, Nat.zero_le _⟩ (fun H locs hk hS => ?_)
  have hP := cP_kept hP hk
  refine lv_if_eq hx hb dX11_vector_4 (tgt := 16) rfl (fun hc => ?_) (fun hc => ?_)
  · replace h := ifp h hc
    refine lv_iconst (v := (-1)) hx hb dX11_vector_16 ki_m1 ?_
    simp only [Option.some.injEq, Prod.mk.injEq] at h
    obtain ⟨rfl, rfl, rfl, rfl, rfl, rfl, rfl, rfl, rfl, rfl, rfl, rfl, rfl⟩ := h
    exact rc_i hx hb hr hlocks hS dX11_vector_17 rfl hP
  · replace h := ifn h hc
    refine lv_iload_n hx hb dX11_vector_7 rfl (lv_at hl 2 rfl) ?_
    refine lv_iconst (v := 0) hx hb dX11_vector_8 ki_0 ?_
    refine lv_iconst (v := 4) hx hb dX11_vector_9 ki_4 ?_
    obtain ⟨r_23, hr_24, h⟩ := bd1_s h
    refine sc_i hx hb hml hown hw hN (c_cf_within l v2 0 4 r_23 hr_24) g_RX11_95 hd_X11_within (rest := []) hl.1 hS dX11_vector_10 rfl rfl ⟨Nat.le_of_ble_eq_true rfl, Nat.le_of_ble_eq_true rfl⟩ rfl rfl (Nat.le_of_ble_eq_true rfl) ⟨Nat.zero_le _, Nat.zero_le _⟩ (fun H locs hk hS => ?_)
    have hP := cP_kept hP hk
    refine lv_if_ne hx hb dX11_vector_13 (tgt := 18) rfl (fun hc => ?_) (fun hc => ?_)
    · replace h := ifn h hc
      refine lv_aload_n hx hb dX11_vector_18 rfl (lv_at hl 0 rfl) ?_
      refine lv_iload_n hx hb dX11_vector_19 rfl (lv_at hl 1 rfl) ?_
      obtain ⟨r_25, x_len_26, x_cuts_27, x_bare_28, x_place_29, x_lA_30, x_lB_31, x_lC_32, x_fX_33, x_fY_34, x_sX_35, x_sY_36, a_letters_37, hr_38, h⟩ := bd13_s h
      refine hv_i hx hb hml hown hw cB_bl (cB_of hN hK hP) (cr_CF hK hP) (c_cf_prepareMoves l D ct ad hI v1 r_25 x_len_26 x_cuts_27 x_bare_28 x_place_29 x_lA_30 x_lB_31 x_lC_32 x_fX_33 x_fY_34 x_sX_35 x_sY_36 a_letters_37 hr_38) g_RX11_239 ⟨rfl, hd_X11_prepareMoves⟩ (rest := []) hl.1 hS (fun q h => h) dX11_vector_20 rfl rfl ⟨Nat.le_of_ble_eq_true rfl, Nat.le_of_ble_eq_true rfl⟩ rfl rfl (Nat.le_of_ble_eq_true rfl) ⟨Nat.zero_le _, Nat.zero_le _⟩ (fun H locs hP _ hS => ?_)
      refine lv_istore_n hx hb dX11_vector_23 rfl hl (Nat.le_of_ble_eq_true rfl) (lv' := [(3, .int r_25), (0, .ref (ad 0)), (1, .int v1), (2, .int v2)]) rfl (fun ls hl => ?_)
      refine lv_iload_n hx hb dX11_vector_24 rfl (lv_at hl 0 rfl) ?_
      refine lv_if_eq hx hb dX11_vector_25 (tgt := 32) rfl (fun hc => ?_) (fun hc => ?_)
      · replace h := ifp h hc
        refine lv_aload_n hx hb dX11_vector_32 rfl (lv_at hl 1 rfl) ?_
        refine cg_CF_5 hx hb hw hown hK hP dX11_vector_33 ?_
        refine lv_iload_n hx hb dX11_vector_36 rfl (lv_at hl 3 rfl) ?_
        obtain ⟨r_39, hr_40, h⟩ := bd1_s h
        refine hv_i hx hb hml hown hw cB_bl (cB_of hN hK hP) (cr_OL hK hP) (c_ol_move l D ct ad hI v2 r_39 hr_40) g_RX11_242 ⟨rfl, hd_X5_move⟩ (rest := []) hl.1 hS (fun q h => h) dX11_vector_37 rfl rfl ⟨Nat.le_of_ble_eq_true rfl, Nat.le_of_ble_eq_true rfl⟩ rfl rfl (Nat.le_of_ble_eq_true rfl) ⟨Nat.zero_le _, Nat.zero_le _⟩ (fun H locs hP _ hS => ?_)
        simp only [Option.some.injEq, Prod.mk.injEq] at h
        obtain ⟨rfl, rfl, rfl, rfl, rfl, rfl, rfl, rfl, rfl, rfl, rfl, rfl, rfl⟩ := h
        exact rc_i hx hb hr hlocks hS dX11_vector_40 rfl hP
      · replace h := ifn h hc
        refine lv_iload_n hx hb dX11_vector_28 rfl (lv_at hl 0 rfl) ?_
        refine lv_goto hx hb dX11_vector_29 (tgt := 40) rfl ?_
        simp only [Option.some.injEq, Prod.mk.injEq] at h
        obtain ⟨rfl, rfl, rfl, rfl, rfl, rfl, rfl, rfl, rfl, rfl, rfl, rfl, rfl⟩ := h
        exact rc_i hx hb hr hlocks hS dX11_vector_40 rfl hP
    · replace h := ifp h hc
      refine lv_iconst (v := (-1)) hx hb dX11_vector_16 ki_m1 ?_
      simp only [Option.some.injEq, Prod.mk.injEq] at h
      obtain ⟨rfl, rfl, rfl, rfl, rfl, rfl, rfl, rfl, rfl, rfl, rfl, rfl, rfl⟩ := h
      exact rc_i hx hb hr hlocks hS dX11_vector_17 rfl hP
noncomputable def cf_owner (v1 : Int32) (v2 : Int32) (v3 : Int32) (v4 : Int32) (a_drawers : Nat → Int64) (x_len : Int32) (x_cuts : Int32) (x_bare : Int32) (x_place : Int32) (x_lA : Int32) (x_lB : Int32) (x_lC : Int32) (x_fX : Int32) (x_fY : Int32) (x_sX : Int32) (x_sY : Int32) (a_letters : Nat → Int32) : Option (Int32 × Int32 × Int32 × Int32 × Int32 × Int32 × Int32 × Int32 × Int32 × Int32 × Int32 × Int32 × (Nat → Int32)) :=
  bd1 (cf_isDrawer v1) fun r_1 =>
  if r_1 = 0 then (some ((-1), x_len, x_cuts, x_bare, x_place, x_lA, x_lB, x_lC, x_fX, x_fY, x_sX, x_sY, a_letters)) else
  bd1 (cf_within v2 (-20) 20) fun r_3 =>
  if r_3 = 0 then (some ((-1), x_len, x_cuts, x_bare, x_place, x_lA, x_lB, x_lC, x_fX, x_fY, x_sX, x_sY, a_letters)) else
  bd1 (cf_within v3 (-20) 20) fun r_5 =>
  if r_5 = 0 then (some ((-1), x_len, x_cuts, x_bare, x_place, x_lA, x_lB, x_lC, x_fX, x_fY, x_sX, x_sY, a_letters)) else
  bd1 (cf_within v4 0 2) fun r_7 =>
  if r_7 = 0 then (some ((-1), x_len, x_cuts, x_bare, x_place, x_lA, x_lB, x_lC, x_fX, x_fY, x_sX, x_sY, a_letters)) else
  bd13 (cf_prepareMoves v1 a_drawers x_len x_cuts x_bare x_place x_lA x_lB x_lC x_fX x_fY x_sX x_sY a_letters) fun r_9 x_len_10 x_cuts_11 x_bare_12 x_place_13 x_lA_14 x_lB_15 x_lC_16 x_fX_17 x_fY_18 x_sX_19 x_sY_20 a_letters_21 =>
  if r_9 = 0 then (ck v1 8 <|
  bd1 (ol_copyAt (a_drawers v1.toNatClampNeg) v2 v3 v4 x_fX_17 x_fY_18 x_sX_19 x_sY_20) fun r_23 =>
  some (r_23, x_len_10, x_cuts_11, x_bare_12, x_place_13, x_lA_14, x_lB_15, x_lC_16, x_fX_17, x_fY_18, x_sX_19, x_sY_20, a_letters_21)) else
  some (r_9, x_len_10, x_cuts_11, x_bare_12, x_place_13, x_lA_14, x_lB_15, x_lC_16, x_fX_17, x_fY_18, x_sX_19, x_sY_20, a_letters_21)
set_option maxHeartbeats 4000000 in
set_option maxRecDepth 100000 in
theorem c_cf_owner (l : Launch) (D : va_G) (ct : Nat → ClassId) (ad : Nat → Nat) (hI : cI ad) {x_fed x_tk x_col x_line x_rcells x_rsize x_len x_cuts x_bare x_place x_lA x_lB x_lC x_fX x_fY x_sX x_sY x_made x_fsize x_psize x_over x_touch x_most x_mU x_mV x_area : Int32} {x_board : Int64} {a_tape a_letters a_oneSided a_free a_ends a_crowds a_wmade a_firsts a_widths a_heights a_places a_next a_pnear a_table a_overlaps : Nat → Int32} {a_drawers a_kept a_items a_numbers a_marks a_near a_figures a_covered a_pcells a_matrix : Nat → Int64} (v1 : Int32) (v2 : Int32) (v3 : Int32) (v4 : Int32) (r : Int32) (z_x_len : Int32) (z_x_cuts : Int32) (z_x_bare : Int32) (z_x_place : Int32) (z_x_lA : Int32) (z_x_lB : Int32) (z_x_lC : Int32) (z_x_fX : Int32) (z_x_fY : Int32) (z_x_sX : Int32) (z_x_sY : Int32) (z_a_letters : Nat → Int32) (h : cf_owner v1 v2 v3 v4 a_drawers x_len x_cuts x_bare x_place x_lA x_lB x_lC x_fX x_fY x_sX x_sY a_letters = some (r, z_x_len, z_x_cuts, z_x_bare, z_x_place, z_x_lA, z_x_lB, z_x_lC, z_x_fX, z_x_fY, z_x_sX, z_x_sY, z_a_letters)) : Met l yX11_owner (wm yX11_owner cX11_owner 6 (some .int)) (rmm 5 122) (va_Pc [.ref (ad 0), .int v1, .int v2, .int v3, .int v4] (cB D ct ad x_fed x_tk x_col x_line x_rcells x_rsize x_len x_cuts x_bare x_place x_lA x_lB x_lC x_fX x_fY x_sX x_sY x_made x_fsize x_psize x_over x_touch x_most x_mU x_mV x_area x_board a_tape a_letters a_oneSided a_free a_ends a_crowds a_wmade a_firsts a_widths a_heights a_places a_next a_pnear a_table a_overlaps a_drawers a_kept a_items a_numbers a_marks a_near a_figures a_covered a_pcells a_matrix)) (va_Qi (fun z (_ : Unit) => z = r) (fun _ t => cP D ct ad x_fed x_tk x_col x_line x_rcells x_rsize z_x_len z_x_cuts z_x_bare z_x_place z_x_lA z_x_lB z_x_lC z_x_fX z_x_fY z_x_sX z_x_sY x_made x_fsize x_psize x_over x_touch x_most x_mU x_mV x_area x_board a_tape z_a_letters a_oneSided a_free a_ends a_crowds a_wmade a_firsts a_widths a_heights a_places a_next a_pnear a_table a_overlaps a_drawers a_kept a_items a_numbers a_marks a_near a_figures a_covered a_pcells a_matrix t.heap) (cA ad)) 0 0 (cA ad) := by
  refine met_s (y := yX11_owner) (rm := rmm 5 122) (by decide) (Nat.le_of_ble_eq_true rfl) ?_
  intro p e s m below meth c hx hb hr hw hown hlocks _ hml hB ls hl
  obtain ⟨hN, hK, hP⟩ := hB
  replace hl : lv_has ls 6 [(0, .ref (ad 0)), (1, .int v1), (2, .int v2), (3, .int v3), (4, .int v4)] := hl
  have hS : va_S (cA ad) s.heap s.heap [] := va_S.rf
  generalize (([.ref (ad 0), .int v1, .int v2, .int v3, .int v4] : List Value).toArray) = av at hw ⊢
  rw [cf_owner] at h
  refine lv_iload_n hx hb dX11_owner_0 rfl (lv_at hl 1 rfl) ?_
  obtain ⟨r_25, hr_26, h⟩ := bd1_s h
  refine sc_i hx hb hml hown hw hN (c_cf_isDrawer l v1 r_25 hr_26) g_RX11_91 hd_X11_isDrawer (rest := []) hl.1 hS dX11_owner_1 rfl rfl ⟨Nat.le_of_ble_eq_true rfl, Nat.le_of_ble_eq_true rfl⟩ rfl rfl (Nat.le_of_ble_eq_true rfl) ⟨Nat.zero_le _, Nat.zero_le _⟩ (fun H locs hk hS => ?_)
  have hP := cP_kept hP hk
  refine lv_if_eq hx hb dX11_owner_4 (tgt := 39) rfl (fun hc => ?_) (fun hc => ?_)
  · replace h := ifp h hc
    refine lv_iconst (v := (-1)) hx hb dX11_owner_39 ki_m1 ?_
    simp only [Option.some.injEq, Prod.mk.injEq] at h
    obtain ⟨rfl, rfl, rfl, rfl, rfl, rfl, rfl, rfl, rfl, rfl, rfl, rfl, rfl⟩ := h
    exact rc_i hx hb hr hlocks hS dX11_owner_40 rfl hP
  · replace h := ifn h hc
    refine lv_iload_n hx hb dX11_owner_7 rfl (lv_at hl 2 rfl) ?_
    refine lv_bipush (v := (-20)) hx hb dX11_owner_8 kb_m20 ?_
    refine lv_bipush (v := 20) hx hb dX11_owner_10 kb_20 ?_
    obtain ⟨r_27, hr_28, h⟩ := bd1_s h
    refine sc_i hx hb hml hown hw hN (c_cf_within l v2 (-20) 20 r_27 hr_28) g_RX11_95 hd_X11_within (rest := []) hl.1 hS dX11_owner_12 rfl rfl ⟨Nat.le_of_ble_eq_true rfl, Nat.le_of_ble_eq_true rfl⟩ rfl rfl (Nat.le_of_ble_eq_true rfl) ⟨Nat.zero_le _, Nat.zero_le _⟩ (fun H locs hk hS => ?_)
    have hP := cP_kept hP hk
    refine lv_if_eq hx hb dX11_owner_15 (tgt := 39) rfl (fun hc => ?_) (fun hc => ?_)
    · replace h := ifp h hc
      refine lv_iconst (v := (-1)) hx hb dX11_owner_39 ki_m1 ?_
      simp only [Option.some.injEq, Prod.mk.injEq] at h
      obtain ⟨rfl, rfl, rfl, rfl, rfl, rfl, rfl, rfl, rfl, rfl, rfl, rfl, rfl⟩ := h
      exact rc_i hx hb hr hlocks hS dX11_owner_40 rfl hP
    · replace h := ifn h hc
      refine lv_iload_n hx hb dX11_owner_18 rfl (lv_at hl 3 rfl) ?_
      refine lv_bipush (v := (-20)) hx hb dX11_owner_19 kb_m20 ?_
      refine lv_bipush (v := 20) hx hb dX11_owner_21 kb_20 ?_
      obtain ⟨r_29, hr_30, h⟩ := bd1_s h
      refine sc_i hx hb hml hown hw hN (c_cf_within l v3 (-20) 20 r_29 hr_30) g_RX11_95 hd_X11_within (rest := []) hl.1 hS dX11_owner_23 rfl rfl ⟨Nat.le_of_ble_eq_true rfl, Nat.le_of_ble_eq_true rfl⟩ rfl rfl (Nat.le_of_ble_eq_true rfl) ⟨Nat.zero_le _, Nat.zero_le _⟩ (fun H locs hk hS => ?_)
      have hP := cP_kept hP hk
      refine lv_if_eq hx hb dX11_owner_26 (tgt := 39) rfl (fun hc => ?_) (fun hc => ?_)
      · replace h := ifp h hc
        refine lv_iconst (v := (-1)) hx hb dX11_owner_39 ki_m1 ?_
        simp only [Option.some.injEq, Prod.mk.injEq] at h
        obtain ⟨rfl, rfl, rfl, rfl, rfl, rfl, rfl, rfl, rfl, rfl, rfl, rfl, rfl⟩ := h
        exact rc_i hx hb hr hlocks hS dX11_owner_40 rfl hP
      · replace h := ifn h hc
        refine lv_iload hx hb dX11_owner_29 (lv_at hl 4 rfl) ?_
        refine lv_iconst (v := 0) hx hb dX11_owner_31 ki_0 ?_
        refine lv_iconst (v := 2) hx hb dX11_owner_32 ki_2 ?_
        obtain ⟨r_31, hr_32, h⟩ := bd1_s h
        refine sc_i hx hb hml hown hw hN (c_cf_within l v4 0 2 r_31 hr_32) g_RX11_95 hd_X11_within (rest := []) hl.1 hS dX11_owner_33 rfl rfl ⟨Nat.le_of_ble_eq_true rfl, Nat.le_of_ble_eq_true rfl⟩ rfl rfl (Nat.le_of_ble_eq_true rfl) ⟨Nat.zero_le _, Nat.zero_le _⟩ (fun H locs hk hS => ?_)
        have hP := cP_kept hP hk
        refine lv_if_ne hx hb dX11_owner_36 (tgt := 41) rfl (fun hc => ?_) (fun hc => ?_)
        · replace h := ifn h hc
          refine lv_aload_n hx hb dX11_owner_41 rfl (lv_at hl 0 rfl) ?_
          refine lv_iload_n hx hb dX11_owner_42 rfl (lv_at hl 1 rfl) ?_
          obtain ⟨r_33, x_len_34, x_cuts_35, x_bare_36, x_place_37, x_lA_38, x_lB_39, x_lC_40, x_fX_41, x_fY_42, x_sX_43, x_sY_44, a_letters_45, hr_46, h⟩ := bd13_s h
          refine hv_i hx hb hml hown hw cB_bl (cB_of hN hK hP) (cr_CF hK hP) (c_cf_prepareMoves l D ct ad hI v1 r_33 x_len_34 x_cuts_35 x_bare_36 x_place_37 x_lA_38 x_lB_39 x_lC_40 x_fX_41 x_fY_42 x_sX_43 x_sY_44 a_letters_45 hr_46) g_RX11_239 ⟨rfl, hd_X11_prepareMoves⟩ (rest := []) hl.1 hS (fun q h => h) dX11_owner_43 rfl rfl ⟨Nat.le_of_ble_eq_true rfl, Nat.le_of_ble_eq_true rfl⟩ rfl rfl (Nat.le_of_ble_eq_true rfl) ⟨Nat.zero_le _, Nat.zero_le _⟩ (fun H locs hP _ hS => ?_)
          refine lv_istore hx hb dX11_owner_46 hl (Nat.le_of_ble_eq_true rfl) (lv' := [(5, .int r_33), (0, .ref (ad 0)), (1, .int v1), (2, .int v2), (3, .int v3), (4, .int v4)]) rfl (fun ls hl => ?_)
          refine lv_iload hx hb dX11_owner_48 (lv_at hl 0 rfl) ?_
          refine lv_if_eq hx hb dX11_owner_50 (tgt := 58) rfl (fun hc => ?_) (fun hc => ?_)
          · replace h := ifp h hc
            refine lv_aload_n hx hb dX11_owner_58 rfl (lv_at hl 1 rfl) ?_
            refine cg_CF_5 hx hb hw hown hK hP dX11_owner_59 ?_
            refine lv_aload_n hx hb dX11_owner_62 rfl (lv_at hl 1 rfl) ?_
            refine cg_CF_1 hx hb hw hown hK hP dX11_owner_63 ?_
            refine lv_iload_n hx hb dX11_owner_66 rfl (lv_at hl 2 rfl) ?_
            obtain ⟨hin, h⟩ := ck_s h
            refine cd_drawers hx hb hK hP hin dX11_owner_67 ?_
            refine lv_iload_n hx hb dX11_owner_68 rfl (lv_at hl 3 rfl) ?_
            refine lv_iload_n hx hb dX11_owner_69 rfl (lv_at hl 4 rfl) ?_
            refine lv_iload hx hb dX11_owner_70 (lv_at hl 5 rfl) ?_
            obtain ⟨r_47, hr_48, h⟩ := bd1_s h
            refine hv_i hx hb hml hown hw cB_bl (cB_of hN hK hP) (cr_OL hK hP) (c_ol_copyAt l D ct ad hI (a_drawers v1.toNatClampNeg) v2 v3 v4 r_47 hr_48) g_RX11_245 ⟨rfl, hd_X5_copyAt⟩ (rest := []) hl.1 hS (fun q h => h) dX11_owner_72 rfl rfl ⟨Nat.le_of_ble_eq_true rfl, Nat.le_of_ble_eq_true rfl⟩ rfl rfl (Nat.le_of_ble_eq_true rfl) ⟨Nat.zero_le _, Nat.zero_le _⟩ (fun H locs hP _ hS => ?_)
            simp only [Option.some.injEq, Prod.mk.injEq] at h
            obtain ⟨rfl, rfl, rfl, rfl, rfl, rfl, rfl, rfl, rfl, rfl, rfl, rfl, rfl⟩ := h
            exact rc_i hx hb hr hlocks hS dX11_owner_75 rfl hP
          · replace h := ifn h hc
            refine lv_iload hx hb dX11_owner_53 (lv_at hl 0 rfl) ?_
            refine lv_goto hx hb dX11_owner_55 (tgt := 75) rfl ?_
            simp only [Option.some.injEq, Prod.mk.injEq] at h
            obtain ⟨rfl, rfl, rfl, rfl, rfl, rfl, rfl, rfl, rfl, rfl, rfl, rfl, rfl⟩ := h
            exact rc_i hx hb hr hlocks hS dX11_owner_75 rfl hP
        · replace h := ifp h hc
          refine lv_iconst (v := (-1)) hx hb dX11_owner_39 ki_m1 ?_
          simp only [Option.some.injEq, Prod.mk.injEq] at h
          obtain ⟨rfl, rfl, rfl, rfl, rfl, rfl, rfl, rfl, rfl, rfl, rfl, rfl, rfl⟩ := h
          exact rc_i hx hb hr hlocks hS dX11_owner_40 rfl hP
noncomputable def cf_part (v1 : Int32) (v2 : Int32) (a_drawers : Nat → Int64) (x_psize : Int32) (a_pcells : Nat → Int64) (a_pnear : Nat → Int32) (a_table : Nat → Int32) (a_matrix : Nat → Int64) : Option (Int64 × Int32 × (Nat → Int64) × (Nat → Int32) × (Nat → Int32) × (Nat → Int64)) :=
  bd1 (cf_isDrawer v1) fun r_1 =>
  if r_1 = 0 then (some (((-1) : Int64), x_psize, a_pcells, a_pnear, a_table, a_matrix)) else
  bd1 (cf_within v2 0 7) fun r_3 =>
  if r_3 = 0 then (some (((-1) : Int64), x_psize, a_pcells, a_pnear, a_table, a_matrix)) else
  ck v1 8 <|
  if (a_drawers v1.toNatClampNeg) = 0 then (some (((-2) : Int64), x_psize, a_pcells, a_pnear, a_table, a_matrix)) else
  ck v1 8 <|
  bd6 (pa_of (a_drawers v1.toNatClampNeg) v2 x_psize a_pcells a_pnear a_table a_matrix) fun r_5 x_psize_6 a_pcells_7 a_pnear_8 a_table_9 a_matrix_10 =>
  some (r_5, x_psize_6, a_pcells_7, a_pnear_8, a_table_9, a_matrix_10)
set_option maxHeartbeats 4000000 in
set_option maxRecDepth 100000 in
theorem c_cf_part (l : Launch) (D : va_G) (ct : Nat → ClassId) (ad : Nat → Nat) (hI : cI ad) {x_fed x_tk x_col x_line x_rcells x_rsize x_len x_cuts x_bare x_place x_lA x_lB x_lC x_fX x_fY x_sX x_sY x_made x_fsize x_psize x_over x_touch x_most x_mU x_mV x_area : Int32} {x_board : Int64} {a_tape a_letters a_oneSided a_free a_ends a_crowds a_wmade a_firsts a_widths a_heights a_places a_next a_pnear a_table a_overlaps : Nat → Int32} {a_drawers a_kept a_items a_numbers a_marks a_near a_figures a_covered a_pcells a_matrix : Nat → Int64} (v1 : Int32) (v2 : Int32) (r : Int64) (z_x_psize : Int32) (z_a_pcells : Nat → Int64) (z_a_pnear : Nat → Int32) (z_a_table : Nat → Int32) (z_a_matrix : Nat → Int64) (h : cf_part v1 v2 a_drawers x_psize a_pcells a_pnear a_table a_matrix = some (r, z_x_psize, z_a_pcells, z_a_pnear, z_a_table, z_a_matrix)) : Met l yX11_part (wm yX11_part cX11_part 3 (some .long)) (rmm 7 170) (va_Pc [.ref (ad 0), .int v1, .int v2] (cB D ct ad x_fed x_tk x_col x_line x_rcells x_rsize x_len x_cuts x_bare x_place x_lA x_lB x_lC x_fX x_fY x_sX x_sY x_made x_fsize x_psize x_over x_touch x_most x_mU x_mV x_area x_board a_tape a_letters a_oneSided a_free a_ends a_crowds a_wmade a_firsts a_widths a_heights a_places a_next a_pnear a_table a_overlaps a_drawers a_kept a_items a_numbers a_marks a_near a_figures a_covered a_pcells a_matrix)) (va_Ql (fun z (_ : Unit) => z = r) (fun _ t => cP D ct ad x_fed x_tk x_col x_line x_rcells x_rsize x_len x_cuts x_bare x_place x_lA x_lB x_lC x_fX x_fY x_sX x_sY x_made x_fsize z_x_psize x_over x_touch x_most x_mU x_mV x_area x_board a_tape a_letters a_oneSided a_free a_ends a_crowds a_wmade a_firsts a_widths a_heights a_places a_next z_a_pnear z_a_table a_overlaps a_drawers a_kept a_items a_numbers a_marks a_near a_figures a_covered z_a_pcells z_a_matrix t.heap) (cA ad)) 0 0 (cA ad) := by
  refine met_s (y := yX11_part) (rm := rmm 7 170) (by decide) (Nat.le_of_ble_eq_true rfl) ?_
  intro p e s m below meth c hx hb hr hw hown hlocks _ hml hB ls hl
  obtain ⟨hN, hK, hP⟩ := hB
  replace hl : lv_has ls 3 [(0, .ref (ad 0)), (1, .int v1), (2, .int v2)] := hl
  have hS : va_S (cA ad) s.heap s.heap [] := va_S.rf
  generalize (([.ref (ad 0), .int v1, .int v2] : List Value).toArray) = av at hw ⊢
  rw [cf_part] at h
  refine lv_iload_n hx hb dX11_part_0 rfl (lv_at hl 1 rfl) ?_
  obtain ⟨r_12, hr_13, h⟩ := bd1_s h
  refine sc_i hx hb hml hown hw hN (c_cf_isDrawer l v1 r_12 hr_13) g_RX11_91 hd_X11_isDrawer (rest := []) hl.1 hS dX11_part_1 rfl rfl ⟨Nat.le_of_ble_eq_true rfl, Nat.le_of_ble_eq_true rfl⟩ rfl rfl (Nat.le_of_ble_eq_true rfl) ⟨Nat.zero_le _, Nat.zero_le _⟩ (fun H locs hk hS => ?_)
  have hP := cP_kept hP hk
  refine lv_if_eq hx hb dX11_part_4 (tgt := 17) rfl (fun hc => ?_) (fun hc => ?_)
  · replace h := ifp h hc
    refine lv_ldc2 hx hb hown (hw _ tw_19_13) dX11_part_17 ?_
    simp only [Option.some.injEq, Prod.mk.injEq] at h
    obtain ⟨rfl, rfl, rfl, rfl, rfl, rfl⟩ := h
    exact rc_l hx hb hr hlocks hS dX11_part_20 rfl hP
  · replace h := ifn h hc
    refine lv_iload_n hx hb dX11_part_7 rfl (lv_at hl 2 rfl) ?_
    refine lv_iconst (v := 0) hx hb dX11_part_8 ki_0 ?_
    refine lv_bipush (v := 7) hx hb dX11_part_9 kb_7 ?_
    obtain ⟨r_14, hr_15, h⟩ := bd1_s h
    refine sc_i hx hb hml hown hw hN (c_cf_within l v2 0 7 r_14 hr_15) g_RX11_95 hd_X11_within (rest := []) hl.1 hS dX11_part_11 rfl rfl ⟨Nat.le_of_ble_eq_true rfl, Nat.le_of_ble_eq_true rfl⟩ rfl rfl (Nat.le_of_ble_eq_true rfl) ⟨Nat.zero_le _, Nat.zero_le _⟩ (fun H locs hk hS => ?_)
    have hP := cP_kept hP hk
    refine lv_if_ne hx hb dX11_part_14 (tgt := 21) rfl (fun hc => ?_) (fun hc => ?_)
    · replace h := ifn h hc
      refine lv_aload_n hx hb dX11_part_21 rfl (lv_at hl 0 rfl) ?_
      refine cg_CF_1 hx hb hw hown hK hP dX11_part_22 ?_
      refine lv_iload_n hx hb dX11_part_25 rfl (lv_at hl 1 rfl) ?_
      obtain ⟨hin, h⟩ := ck_s h
      refine cd_drawers hx hb hK hP hin dX11_part_26 ?_
      refine lv_lconst (v := 0) hx hb dX11_part_27 kl_0 ?_
      refine W.lcmp hx hb dX11_part_28 ?_
      refine lv_if_ne hx hb dX11_part_29 (tgt := 38) rfl (fun hc => ?_) (fun hc => ?_)
      · replace h := ifn h (fun q => hc ((lg_cmp_eq _ _).mpr q))
        refine lv_aload_n hx hb dX11_part_38 rfl (lv_at hl 0 rfl) ?_
        refine cg_CF_9 hx hb hw hown hK hP dX11_part_39 ?_
        refine lv_aload_n hx hb dX11_part_42 rfl (lv_at hl 0 rfl) ?_
        refine cg_CF_1 hx hb hw hown hK hP dX11_part_43 ?_
        refine lv_iload_n hx hb dX11_part_46 rfl (lv_at hl 1 rfl) ?_
        obtain ⟨hin, h⟩ := ck_s h
        refine cd_drawers hx hb hK hP hin dX11_part_47 ?_
        refine lv_iload_n hx hb dX11_part_48 rfl (lv_at hl 2 rfl) ?_
        obtain ⟨r_16, x_psize_17, a_pcells_18, a_pnear_19, a_table_20, a_matrix_21, hr_22, h⟩ := bd6_s h
        refine hv_l hx hb hml hown hw cB_bl (cB_of hN hK hP) (cr_PA hK hP) (c_pa_of l D ct ad hI (a_drawers v1.toNatClampNeg) v2 r_16 x_psize_17 a_pcells_18 a_pnear_19 a_table_20 a_matrix_21 hr_22) g_RX11_249 ⟨rfl, hd_X6_of⟩ (rest := []) hl.1 hS (fun q h => h) dX11_part_49 rfl rfl ⟨Nat.le_of_ble_eq_true rfl, Nat.le_of_ble_eq_true rfl⟩ rfl rfl (Nat.le_of_ble_eq_true rfl) ⟨Nat.zero_le _, Nat.zero_le _⟩ (fun H locs hP _ hS => ?_)
        simp only [Option.some.injEq, Prod.mk.injEq] at h
        obtain ⟨rfl, rfl, rfl, rfl, rfl, rfl⟩ := h
        exact rc_l hx hb hr hlocks hS dX11_part_52 rfl hP
      · replace h := ifp h ((lg_cmp_eq _ _).mp hc)
        refine lv_ldc2 hx hb hown (hw _ tw_19_14) dX11_part_32 ?_
        refine lv_goto hx hb dX11_part_35 (tgt := 52) rfl ?_
        simp only [Option.some.injEq, Prod.mk.injEq] at h
        obtain ⟨rfl, rfl, rfl, rfl, rfl, rfl⟩ := h
        exact rc_l hx hb hr hlocks hS dX11_part_52 rfl hP
    · replace h := ifp h hc
      refine lv_ldc2 hx hb hown (hw _ tw_19_13) dX11_part_17 ?_
      simp only [Option.some.injEq, Prod.mk.injEq] at h
      obtain ⟨rfl, rfl, rfl, rfl, rfl, rfl⟩ := h
      exact rc_l hx hb hr hlocks hS dX11_part_20 rfl hP
noncomputable def cf_inside (v1 : Int32) (v2 : Int32) (v3 : Int32) (a_drawers : Nat → Int64) (x_rsize : Int32) (a_items : Nat → Int64) : Option (Int32 × Int32 × (Nat → Int64)) :=
  bd1 (cf_isDrawer v1) fun r_1 =>
  if r_1 = 0 then (some ((-1), x_rsize, a_items)) else
  bd1 (cf_isDrawer v2) fun r_3 =>
  if r_3 = 0 then (some ((-1), x_rsize, a_items)) else
  ck v1 8 <|
  if (a_drawers v1.toNatClampNeg) = 0 then (some ((-2), x_rsize, a_items)) else
  ck v2 8 <|
  if (a_drawers v2.toNatClampNeg) = 0 then (some ((-2), x_rsize, a_items)) else
  bd1 (rw_clear x_rsize) fun x_rsize_5 =>
  ck v1 8 <|
  bd2 (gw_addForms (a_drawers v1.toNatClampNeg) v3 x_rsize_5 a_items) fun x_rsize_7 a_items_8 =>
  ck v2 8 <|
  bd1 (me_placings (a_drawers v2.toNatClampNeg) x_rsize_7 a_items_8) fun r_10 =>
  some (r_10, x_rsize_7, a_items_8)
set_option maxHeartbeats 4000000 in
set_option maxRecDepth 100000 in
theorem c_cf_inside (l : Launch) (D : va_G) (ct : Nat → ClassId) (ad : Nat → Nat) (hI : cI ad) {x_fed x_tk x_col x_line x_rcells x_rsize x_len x_cuts x_bare x_place x_lA x_lB x_lC x_fX x_fY x_sX x_sY x_made x_fsize x_psize x_over x_touch x_most x_mU x_mV x_area : Int32} {x_board : Int64} {a_tape a_letters a_oneSided a_free a_ends a_crowds a_wmade a_firsts a_widths a_heights a_places a_next a_pnear a_table a_overlaps : Nat → Int32} {a_drawers a_kept a_items a_numbers a_marks a_near a_figures a_covered a_pcells a_matrix : Nat → Int64} (v1 : Int32) (v2 : Int32) (v3 : Int32) (r : Int32) (z_x_rsize : Int32) (z_a_items : Nat → Int64) (h : cf_inside v1 v2 v3 a_drawers x_rsize a_items = some (r, z_x_rsize, z_a_items)) : Met l yX11_inside (wm yX11_inside cX11_inside 4 (some .int)) (rmm 4 95) (va_Pc [.ref (ad 0), .int v1, .int v2, .int v3] (cB D ct ad x_fed x_tk x_col x_line x_rcells x_rsize x_len x_cuts x_bare x_place x_lA x_lB x_lC x_fX x_fY x_sX x_sY x_made x_fsize x_psize x_over x_touch x_most x_mU x_mV x_area x_board a_tape a_letters a_oneSided a_free a_ends a_crowds a_wmade a_firsts a_widths a_heights a_places a_next a_pnear a_table a_overlaps a_drawers a_kept a_items a_numbers a_marks a_near a_figures a_covered a_pcells a_matrix)) (va_Qi (fun z (_ : Unit) => z = r) (fun _ t => cP D ct ad x_fed x_tk x_col x_line x_rcells z_x_rsize x_len x_cuts x_bare x_place x_lA x_lB x_lC x_fX x_fY x_sX x_sY x_made x_fsize x_psize x_over x_touch x_most x_mU x_mV x_area x_board a_tape a_letters a_oneSided a_free a_ends a_crowds a_wmade a_firsts a_widths a_heights a_places a_next a_pnear a_table a_overlaps a_drawers a_kept z_a_items a_numbers a_marks a_near a_figures a_covered a_pcells a_matrix t.heap) (cA ad)) 0 0 (cA ad) := by
  refine met_s (y := yX11_inside) (rm := rmm 4 95) (by decide) (Nat.le_of_ble_eq_true rfl) ?_
  intro p e s m below meth c hx hb hr hw hown hlocks _ hml hB ls hl
  obtain ⟨hN, hK, hP⟩ := hB
  replace hl : lv_has ls 4 [(0, .ref (ad 0)), (1, .int v1), (2, .int v2), (3, .int v3)] := hl
  have hS : va_S (cA ad) s.heap s.heap [] := va_S.rf
  generalize (([.ref (ad 0), .int v1, .int v2, .int v3] : List Value).toArray) = av at hw ⊢
  rw [cf_inside] at h
  refine lv_iload_n hx hb dX11_inside_0 rfl (lv_at hl 1 rfl) ?_
  obtain ⟨r_12, hr_13, h⟩ := bd1_s h
  refine sc_i hx hb hml hown hw hN (c_cf_isDrawer l v1 r_12 hr_13) g_RX11_91 hd_X11_isDrawer (rest := []) hl.1 hS dX11_inside_1 rfl rfl ⟨Nat.le_of_ble_eq_true rfl, Nat.le_of_ble_eq_true rfl⟩ rfl rfl (Nat.le_of_ble_eq_true rfl) ⟨Nat.zero_le _, Nat.zero_le _⟩ (fun H locs hk hS => ?_)
  have hP := cP_kept hP hk
  refine lv_if_eq hx hb dX11_inside_4 (tgt := 14) rfl (fun hc => ?_) (fun hc => ?_)
  · replace h := ifp h hc
    refine lv_iconst (v := (-1)) hx hb dX11_inside_14 ki_m1 ?_
    simp only [Option.some.injEq, Prod.mk.injEq] at h
    obtain ⟨rfl, rfl, rfl⟩ := h
    exact rc_i hx hb hr hlocks hS dX11_inside_15 rfl hP
  · replace h := ifn h hc
    refine lv_iload_n hx hb dX11_inside_7 rfl (lv_at hl 2 rfl) ?_
    obtain ⟨r_14, hr_15, h⟩ := bd1_s h
    refine sc_i hx hb hml hown hw hN (c_cf_isDrawer l v2 r_14 hr_15) g_RX11_91 hd_X11_isDrawer (rest := []) hl.1 hS dX11_inside_8 rfl rfl ⟨Nat.le_of_ble_eq_true rfl, Nat.le_of_ble_eq_true rfl⟩ rfl rfl (Nat.le_of_ble_eq_true rfl) ⟨Nat.zero_le _, Nat.zero_le _⟩ (fun H locs hk hS => ?_)
    have hP := cP_kept hP hk
    refine lv_if_ne hx hb dX11_inside_11 (tgt := 16) rfl (fun hc => ?_) (fun hc => ?_)
    · replace h := ifn h hc
      refine lv_aload_n hx hb dX11_inside_16 rfl (lv_at hl 0 rfl) ?_
      refine cg_CF_1 hx hb hw hown hK hP dX11_inside_17 ?_
      refine lv_iload_n hx hb dX11_inside_20 rfl (lv_at hl 1 rfl) ?_
      obtain ⟨hin, h⟩ := ck_s h
      refine cd_drawers hx hb hK hP hin dX11_inside_21 ?_
      refine lv_lconst (v := 0) hx hb dX11_inside_22 kl_0 ?_
      refine W.lcmp hx hb dX11_inside_23 ?_
      refine lv_if_eq hx hb dX11_inside_24 (tgt := 38) rfl (fun hc => ?_) (fun hc => ?_)
      · replace h := ifp h ((lg_cmp_eq _ _).mp hc)
        refine lv_bipush (v := (-2)) hx hb dX11_inside_38 kb_m2 ?_
        simp only [Option.some.injEq, Prod.mk.injEq] at h
        obtain ⟨rfl, rfl, rfl⟩ := h
        exact rc_i hx hb hr hlocks hS dX11_inside_40 rfl hP
      · replace h := ifn h (fun q => hc ((lg_cmp_eq _ _).mpr q))
        refine lv_aload_n hx hb dX11_inside_27 rfl (lv_at hl 0 rfl) ?_
        refine cg_CF_1 hx hb hw hown hK hP dX11_inside_28 ?_
        refine lv_iload_n hx hb dX11_inside_31 rfl (lv_at hl 2 rfl) ?_
        obtain ⟨hin, h⟩ := ck_s h
        refine cd_drawers hx hb hK hP hin dX11_inside_32 ?_
        refine lv_lconst (v := 0) hx hb dX11_inside_33 kl_0 ?_
        refine W.lcmp hx hb dX11_inside_34 ?_
        refine lv_if_ne hx hb dX11_inside_35 (tgt := 41) rfl (fun hc => ?_) (fun hc => ?_)
        · replace h := ifn h (fun q => hc ((lg_cmp_eq _ _).mpr q))
          refine lv_aload_n hx hb dX11_inside_41 rfl (lv_at hl 0 rfl) ?_
          refine cg_CF_4 hx hb hw hown hK hP dX11_inside_42 ?_
          obtain ⟨x_rsize_16, hr_17, h⟩ := bd1_s h
          refine hv_v hx hb hml hown hw cB_bl (cB_of hN hK hP) (cr_RW hK hP) (c_rw_clear l D ct ad hI x_rsize_16 hr_17) g_RX11_228 ⟨rfl, hd_X8_clear⟩ (rest := []) hl.1 hS (fun q h => h) dX11_inside_45 rfl rfl ⟨Nat.le_of_ble_eq_true rfl, Nat.le_of_ble_eq_true rfl⟩ rfl rfl (Nat.le_of_ble_eq_true rfl) ⟨Nat.zero_le _, Nat.zero_le _⟩ (fun H locs hP _ hS => ?_)
          refine lv_aload_n hx hb dX11_inside_48 rfl (lv_at hl 0 rfl) ?_
          refine cg_CF_1 hx hb hw hown hK hP dX11_inside_49 ?_
          refine lv_iload_n hx hb dX11_inside_52 rfl (lv_at hl 1 rfl) ?_
          obtain ⟨hin, h⟩ := ck_s h
          refine cd_drawers hx hb hK hP hin dX11_inside_53 ?_
          refine lv_iload_n hx hb dX11_inside_54 rfl (lv_at hl 3 rfl) ?_
          refine lv_aload_n hx hb dX11_inside_55 rfl (lv_at hl 0 rfl) ?_
          refine cg_CF_4 hx hb hw hown hK hP dX11_inside_56 ?_
          obtain ⟨x_rsize_18, a_items_19, hr_20, h⟩ := bd2_s h
          refine hs_v hx hb hml hown hw cB_bl (cB_of hN hK hP) (c_gw_addForms l D ct ad hI (a_drawers v1.toNatClampNeg) v3 x_rsize_18 a_items_19 hr_20) g_RX11_231 hd_X3_addForms (rest := []) hl.1 hS (fun q h => h) dX11_inside_59 rfl rfl ⟨Nat.le_of_ble_eq_true rfl, Nat.le_of_ble_eq_true rfl⟩ rfl rfl (Nat.le_of_ble_eq_true rfl) ⟨Nat.zero_le _, Nat.zero_le _⟩ (fun H locs hP _ hS => ?_)
          refine lv_aload_n hx hb dX11_inside_62 rfl (lv_at hl 0 rfl) ?_
          refine cg_CF_4 hx hb hw hown hK hP dX11_inside_63 ?_
          refine lv_aload_n hx hb dX11_inside_66 rfl (lv_at hl 0 rfl) ?_
          refine cg_CF_1 hx hb hw hown hK hP dX11_inside_67 ?_
          refine lv_iload_n hx hb dX11_inside_70 rfl (lv_at hl 2 rfl) ?_
          obtain ⟨hin, h⟩ := ck_s h
          refine cd_drawers hx hb hK hP hin dX11_inside_71 ?_
          obtain ⟨r_21, hr_22, h⟩ := bd1_s h
          refine hs_i hx hb hml hown hw cB_bl (cB_of hN hK hP) (c_me_placings l D ct ad hI (a_drawers v2.toNatClampNeg) r_21 hr_22) g_RX11_251 hd_X4_placings (rest := []) hl.1 hS (fun q h => h) dX11_inside_72 rfl rfl ⟨Nat.le_of_ble_eq_true rfl, Nat.le_of_ble_eq_true rfl⟩ rfl rfl (Nat.le_of_ble_eq_true rfl) ⟨Nat.zero_le _, Nat.zero_le _⟩ (fun H locs hP _ hS => ?_)
          simp only [Option.some.injEq, Prod.mk.injEq] at h
          obtain ⟨rfl, rfl, rfl⟩ := h
          exact rc_i hx hb hr hlocks hS dX11_inside_75 rfl hP
        · replace h := ifp h ((lg_cmp_eq _ _).mp hc)
          refine lv_bipush (v := (-2)) hx hb dX11_inside_38 kb_m2 ?_
          simp only [Option.some.injEq, Prod.mk.injEq] at h
          obtain ⟨rfl, rfl, rfl⟩ := h
          exact rc_i hx hb hr hlocks hS dX11_inside_40 rfl hP
    · replace h := ifp h hc
      refine lv_iconst (v := (-1)) hx hb dX11_inside_14 ki_m1 ?_
      simp only [Option.some.injEq, Prod.mk.injEq] at h
      obtain ⟨rfl, rfl, rfl⟩ := h
      exact rc_i hx hb hr hlocks hS dX11_inside_15 rfl hP
noncomputable def cf_common (v1 : Int32) (v2 : Int32) (a_drawers : Nat → Int64) (x_rsize : Int32) (a_items : Nat → Int64) : Option (Int32 × Int32 × (Nat → Int64)) :=
  bd1 (cf_isDrawer v1) fun r_1 =>
  if r_1 = 0 then (some ((-1), x_rsize, a_items)) else
  bd1 (cf_isDrawer v2) fun r_3 =>
  if r_3 = 0 then (some ((-1), x_rsize, a_items)) else
  ck v1 8 <|
  if (a_drawers v1.toNatClampNeg) = 0 then (some ((-2), x_rsize, a_items)) else
  ck v2 8 <|
  if (a_drawers v2.toNatClampNeg) = 0 then (some ((-2), x_rsize, a_items)) else
  bd1 (rw_clear x_rsize) fun x_rsize_5 =>
  ck v1 8 <|
  bd2 (gw_addForms (a_drawers v1.toNatClampNeg) 1 x_rsize_5 a_items) fun x_rsize_7 a_items_8 =>
  ck v2 8 <|
  bd1 (me_largestCommon (a_drawers v2.toNatClampNeg) x_rsize_7 a_items_8) fun r_10 =>
  some (r_10, x_rsize_7, a_items_8)
set_option maxHeartbeats 4000000 in
set_option maxRecDepth 100000 in
theorem c_cf_common (l : Launch) (D : va_G) (ct : Nat → ClassId) (ad : Nat → Nat) (hI : cI ad) {x_fed x_tk x_col x_line x_rcells x_rsize x_len x_cuts x_bare x_place x_lA x_lB x_lC x_fX x_fY x_sX x_sY x_made x_fsize x_psize x_over x_touch x_most x_mU x_mV x_area : Int32} {x_board : Int64} {a_tape a_letters a_oneSided a_free a_ends a_crowds a_wmade a_firsts a_widths a_heights a_places a_next a_pnear a_table a_overlaps : Nat → Int32} {a_drawers a_kept a_items a_numbers a_marks a_near a_figures a_covered a_pcells a_matrix : Nat → Int64} (v1 : Int32) (v2 : Int32) (r : Int32) (z_x_rsize : Int32) (z_a_items : Nat → Int64) (h : cf_common v1 v2 a_drawers x_rsize a_items = some (r, z_x_rsize, z_a_items)) : Met l yX11_common (wm yX11_common cX11_common 3 (some .int)) (rmm 4 105) (va_Pc [.ref (ad 0), .int v1, .int v2] (cB D ct ad x_fed x_tk x_col x_line x_rcells x_rsize x_len x_cuts x_bare x_place x_lA x_lB x_lC x_fX x_fY x_sX x_sY x_made x_fsize x_psize x_over x_touch x_most x_mU x_mV x_area x_board a_tape a_letters a_oneSided a_free a_ends a_crowds a_wmade a_firsts a_widths a_heights a_places a_next a_pnear a_table a_overlaps a_drawers a_kept a_items a_numbers a_marks a_near a_figures a_covered a_pcells a_matrix)) (va_Qi (fun z (_ : Unit) => z = r) (fun _ t => cP D ct ad x_fed x_tk x_col x_line x_rcells z_x_rsize x_len x_cuts x_bare x_place x_lA x_lB x_lC x_fX x_fY x_sX x_sY x_made x_fsize x_psize x_over x_touch x_most x_mU x_mV x_area x_board a_tape a_letters a_oneSided a_free a_ends a_crowds a_wmade a_firsts a_widths a_heights a_places a_next a_pnear a_table a_overlaps a_drawers a_kept z_a_items a_numbers a_marks a_near a_figures a_covered a_pcells a_matrix t.heap) (cA ad)) 0 0 (cA ad) := by
  refine met_s (y := yX11_common) (rm := rmm 4 105) (by decide) (Nat.le_of_ble_eq_true rfl) ?_
  intro p e s m below meth c hx hb hr hw hown hlocks _ hml hB ls hl
  obtain ⟨hN, hK, hP⟩ := hB
  replace hl : lv_has ls 3 [(0, .ref (ad 0)), (1, .int v1), (2, .int v2)] := hl
  have hS : va_S (cA ad) s.heap s.heap [] := va_S.rf
  generalize (([.ref (ad 0), .int v1, .int v2] : List Value).toArray) = av at hw ⊢
  rw [cf_common] at h
  refine lv_iload_n hx hb dX11_common_0 rfl (lv_at hl 1 rfl) ?_
  obtain ⟨r_12, hr_13, h⟩ := bd1_s h
  refine sc_i hx hb hml hown hw hN (c_cf_isDrawer l v1 r_12 hr_13) g_RX11_91 hd_X11_isDrawer (rest := []) hl.1 hS dX11_common_1 rfl rfl ⟨Nat.le_of_ble_eq_true rfl, Nat.le_of_ble_eq_true rfl⟩ rfl rfl (Nat.le_of_ble_eq_true rfl) ⟨Nat.zero_le _, Nat.zero_le _⟩ (fun H locs hk hS => ?_)
  have hP := cP_kept hP hk
  refine lv_if_eq hx hb dX11_common_4 (tgt := 14) rfl (fun hc => ?_) (fun hc => ?_)
  · replace h := ifp h hc
    refine lv_iconst (v := (-1)) hx hb dX11_common_14 ki_m1 ?_
    simp only [Option.some.injEq, Prod.mk.injEq] at h
    obtain ⟨rfl, rfl, rfl⟩ := h
    exact rc_i hx hb hr hlocks hS dX11_common_15 rfl hP
  · replace h := ifn h hc
    refine lv_iload_n hx hb dX11_common_7 rfl (lv_at hl 2 rfl) ?_
    obtain ⟨r_14, hr_15, h⟩ := bd1_s h
    refine sc_i hx hb hml hown hw hN (c_cf_isDrawer l v2 r_14 hr_15) g_RX11_91 hd_X11_isDrawer (rest := []) hl.1 hS dX11_common_8 rfl rfl ⟨Nat.le_of_ble_eq_true rfl, Nat.le_of_ble_eq_true rfl⟩ rfl rfl (Nat.le_of_ble_eq_true rfl) ⟨Nat.zero_le _, Nat.zero_le _⟩ (fun H locs hk hS => ?_)
    have hP := cP_kept hP hk
    refine lv_if_ne hx hb dX11_common_11 (tgt := 16) rfl (fun hc => ?_) (fun hc => ?_)
    · replace h := ifn h hc
      refine lv_aload_n hx hb dX11_common_16 rfl (lv_at hl 0 rfl) ?_
      refine cg_CF_1 hx hb hw hown hK hP dX11_common_17 ?_
      refine lv_iload_n hx hb dX11_common_20 rfl (lv_at hl 1 rfl) ?_
      obtain ⟨hin, h⟩ := ck_s h
      refine cd_drawers hx hb hK hP hin dX11_common_21 ?_
      refine lv_lconst (v := 0) hx hb dX11_common_22 kl_0 ?_
      refine W.lcmp hx hb dX11_common_23 ?_
      refine lv_if_eq hx hb dX11_common_24 (tgt := 38) rfl (fun hc => ?_) (fun hc => ?_)
      · replace h := ifp h ((lg_cmp_eq _ _).mp hc)
        refine lv_bipush (v := (-2)) hx hb dX11_common_38 kb_m2 ?_
        simp only [Option.some.injEq, Prod.mk.injEq] at h
        obtain ⟨rfl, rfl, rfl⟩ := h
        exact rc_i hx hb hr hlocks hS dX11_common_40 rfl hP
      · replace h := ifn h (fun q => hc ((lg_cmp_eq _ _).mpr q))
        refine lv_aload_n hx hb dX11_common_27 rfl (lv_at hl 0 rfl) ?_
        refine cg_CF_1 hx hb hw hown hK hP dX11_common_28 ?_
        refine lv_iload_n hx hb dX11_common_31 rfl (lv_at hl 2 rfl) ?_
        obtain ⟨hin, h⟩ := ck_s h
        refine cd_drawers hx hb hK hP hin dX11_common_32 ?_
        refine lv_lconst (v := 0) hx hb dX11_common_33 kl_0 ?_
        refine W.lcmp hx hb dX11_common_34 ?_
        refine lv_if_ne hx hb dX11_common_35 (tgt := 41) rfl (fun hc => ?_) (fun hc => ?_)
        · replace h := ifn h (fun q => hc ((lg_cmp_eq _ _).mpr q))
          refine lv_aload_n hx hb dX11_common_41 rfl (lv_at hl 0 rfl) ?_
          refine cg_CF_4 hx hb hw hown hK hP dX11_common_42 ?_
          obtain ⟨x_rsize_16, hr_17, h⟩ := bd1_s h
          refine hv_v hx hb hml hown hw cB_bl (cB_of hN hK hP) (cr_RW hK hP) (c_rw_clear l D ct ad hI x_rsize_16 hr_17) g_RX11_228 ⟨rfl, hd_X8_clear⟩ (rest := []) hl.1 hS (fun q h => h) dX11_common_45 rfl rfl ⟨Nat.le_of_ble_eq_true rfl, Nat.le_of_ble_eq_true rfl⟩ rfl rfl (Nat.le_of_ble_eq_true rfl) ⟨Nat.zero_le _, Nat.zero_le _⟩ (fun H locs hP _ hS => ?_)
          refine lv_aload_n hx hb dX11_common_48 rfl (lv_at hl 0 rfl) ?_
          refine cg_CF_1 hx hb hw hown hK hP dX11_common_49 ?_
          refine lv_iload_n hx hb dX11_common_52 rfl (lv_at hl 1 rfl) ?_
          obtain ⟨hin, h⟩ := ck_s h
          refine cd_drawers hx hb hK hP hin dX11_common_53 ?_
          refine lv_iconst (v := 1) hx hb dX11_common_54 ki_1 ?_
          refine lv_aload_n hx hb dX11_common_55 rfl (lv_at hl 0 rfl) ?_
          refine cg_CF_4 hx hb hw hown hK hP dX11_common_56 ?_
          obtain ⟨x_rsize_18, a_items_19, hr_20, h⟩ := bd2_s h
          refine hs_v hx hb hml hown hw cB_bl (cB_of hN hK hP) (c_gw_addForms l D ct ad hI (a_drawers v1.toNatClampNeg) 1 x_rsize_18 a_items_19 hr_20) g_RX11_231 hd_X3_addForms (rest := []) hl.1 hS (fun q h => h) dX11_common_59 rfl rfl ⟨Nat.le_of_ble_eq_true rfl, Nat.le_of_ble_eq_true rfl⟩ rfl rfl (Nat.le_of_ble_eq_true rfl) ⟨Nat.zero_le _, Nat.zero_le _⟩ (fun H locs hP _ hS => ?_)
          refine lv_aload_n hx hb dX11_common_62 rfl (lv_at hl 0 rfl) ?_
          refine cg_CF_4 hx hb hw hown hK hP dX11_common_63 ?_
          refine lv_aload_n hx hb dX11_common_66 rfl (lv_at hl 0 rfl) ?_
          refine cg_CF_1 hx hb hw hown hK hP dX11_common_67 ?_
          refine lv_iload_n hx hb dX11_common_70 rfl (lv_at hl 2 rfl) ?_
          obtain ⟨hin, h⟩ := ck_s h
          refine cd_drawers hx hb hK hP hin dX11_common_71 ?_
          obtain ⟨r_21, hr_22, h⟩ := bd1_s h
          refine hs_i hx hb hml hown hw cB_bl (cB_of hN hK hP) (c_me_largestCommon l D ct ad hI (a_drawers v2.toNatClampNeg) r_21 hr_22) g_RX11_255 hd_X4_largestCommon (rest := []) hl.1 hS (fun q h => h) dX11_common_72 rfl rfl ⟨Nat.le_of_ble_eq_true rfl, Nat.le_of_ble_eq_true rfl⟩ rfl rfl (Nat.le_of_ble_eq_true rfl) ⟨Nat.zero_le _, Nat.zero_le _⟩ (fun H locs hP _ hS => ?_)
          simp only [Option.some.injEq, Prod.mk.injEq] at h
          obtain ⟨rfl, rfl, rfl⟩ := h
          exact rc_i hx hb hr hlocks hS dX11_common_75 rfl hP
        · replace h := ifp h ((lg_cmp_eq _ _).mp hc)
          refine lv_bipush (v := (-2)) hx hb dX11_common_38 kb_m2 ?_
          simp only [Option.some.injEq, Prod.mk.injEq] at h
          obtain ⟨rfl, rfl, rfl⟩ := h
          exact rc_i hx hb hr hlocks hS dX11_common_40 rfl hP
    · replace h := ifp h hc
      refine lv_iconst (v := (-1)) hx hb dX11_common_14 ki_m1 ?_
      simp only [Option.some.injEq, Prod.mk.injEq] at h
      obtain ⟨rfl, rfl, rfl⟩ := h
      exact rc_i hx hb hr hlocks hS dX11_common_15 rfl hP
noncomputable def cf_keep (x_tk : Int32) (a_drawers : Nat → Int64) (a_kept : Nat → Int64) : Option (Int32 × Int32 × (Nat → Int64)) :=
  if x_tk < 10 then (cpk (0 : Int32) (x_tk * 8) (8 : Int32) 8 80 <|
  nm (va_cpy a_drawers a_kept (0 : Int32).toNatClampNeg (x_tk * 8).toNatClampNeg (8 : Int32).toNatClampNeg) fun a_kept_1 =>
  nm (x_tk + 1 : Int32) fun x_tk_2 =>
  some (x_tk_2, x_tk_2, a_kept_1)) else
  some ((-1), x_tk, a_kept)
set_option maxHeartbeats 4000000 in
set_option maxRecDepth 100000 in
theorem c_cf_keep (l : Launch) (D : va_G) (ct : Nat → ClassId) (ad : Nat → Nat) (hI : cI ad) {x_fed x_tk x_col x_line x_rcells x_rsize x_len x_cuts x_bare x_place x_lA x_lB x_lC x_fX x_fY x_sX x_sY x_made x_fsize x_psize x_over x_touch x_most x_mU x_mV x_area : Int32} {x_board : Int64} {a_tape a_letters a_oneSided a_free a_ends a_crowds a_wmade a_firsts a_widths a_heights a_places a_next a_pnear a_table a_overlaps : Nat → Int32} {a_drawers a_kept a_items a_numbers a_marks a_near a_figures a_covered a_pcells a_matrix : Nat → Int64}  (r : Int32) (z_x_tk : Int32) (z_a_kept : Nat → Int64) (h : cf_keep x_tk a_drawers a_kept = some (r, z_x_tk, z_a_kept)) : Met l yX11_keep (wm yX11_keep cX11_keep 1 (some .int)) (rmm 1 38) (va_Pc [.ref (ad 0)] (cB D ct ad x_fed x_tk x_col x_line x_rcells x_rsize x_len x_cuts x_bare x_place x_lA x_lB x_lC x_fX x_fY x_sX x_sY x_made x_fsize x_psize x_over x_touch x_most x_mU x_mV x_area x_board a_tape a_letters a_oneSided a_free a_ends a_crowds a_wmade a_firsts a_widths a_heights a_places a_next a_pnear a_table a_overlaps a_drawers a_kept a_items a_numbers a_marks a_near a_figures a_covered a_pcells a_matrix)) (va_Qi (fun z (_ : Unit) => z = r) (fun _ t => cP D ct ad x_fed z_x_tk x_col x_line x_rcells x_rsize x_len x_cuts x_bare x_place x_lA x_lB x_lC x_fX x_fY x_sX x_sY x_made x_fsize x_psize x_over x_touch x_most x_mU x_mV x_area x_board a_tape a_letters a_oneSided a_free a_ends a_crowds a_wmade a_firsts a_widths a_heights a_places a_next a_pnear a_table a_overlaps a_drawers z_a_kept a_items a_numbers a_marks a_near a_figures a_covered a_pcells a_matrix t.heap) (cA ad)) 0 0 (cA ad) := by
  refine met_s (y := yX11_keep) (rm := rmm 1 38) (by decide) (Nat.le_of_ble_eq_true rfl) ?_
  intro p e s m below meth c hx hb hr hw hown hlocks _ hml hB ls hl
  obtain ⟨hN, hK, hP⟩ := hB
  replace hl : lv_has ls 1 [(0, .ref (ad 0))] := hl
  have hS : va_S (cA ad) s.heap s.heap [] := va_S.rf
  generalize (([.ref (ad 0)] : List Value).toArray) = av at hw ⊢
  rw [cf_keep] at h
  refine lv_aload_n hx hb dX11_keep_0 rfl (lv_at hl 0 rfl) ?_
  refine cg_CF_12 hx hb hw hown hK hP dX11_keep_1 ?_
  refine lv_bipush (v := 10) hx hb dX11_keep_4 kb_10 ?_
  refine lv_icmp_lt hx hb dX11_keep_6 (tgt := 11) rfl (fun hc => ?_) (fun hc => ?_)
  · replace h := ifp h hc
    refine lv_aload_n hx hb dX11_keep_11 rfl (lv_at hl 0 rfl) ?_
    refine cg_CF_1 hx hb hw hown hK hP dX11_keep_12 ?_
    refine lv_iconst (v := 0) hx hb dX11_keep_15 ki_0 ?_
    refine lv_aload_n hx hb dX11_keep_16 rfl (lv_at hl 0 rfl) ?_
    refine cg_CF_2 hx hb hw hown hK hP dX11_keep_17 ?_
    refine lv_aload_n hx hb dX11_keep_20 rfl (lv_at hl 0 rfl) ?_
    refine cg_CF_12 hx hb hw hown hK hP dX11_keep_21 ?_
    refine lv_bipush (v := 8) hx hb dX11_keep_24 kb_8 ?_
    refine lv_imul hx hb dX11_keep_26 ?_
    refine lv_bipush (v := 8) hx hb dX11_keep_27 kb_8 ?_
    obtain ⟨hcp, h⟩ := cpk_s h
    obtain ⟨a_kept_3, ea_kept_3, h⟩ := nm_s h
    refine cy_drawers_kept hx hb (hml.trans hl.1.symm) hw hown hK hP hI hS hcp ea_kept_3 (Nat.le_of_ble_eq_true rfl) (by decide) dX11_keep_29 (fun H locs hP hS => ?_)
    refine lv_aload_n hx hb dX11_keep_32 rfl (lv_at hl 0 rfl) ?_
    refine lv_dup hx hb dX11_keep_33 rfl ?_
    refine cg_CF_12 hx hb hw hown hK hP dX11_keep_34 ?_
    refine lv_iconst (v := 1) hx hb dX11_keep_37 ki_1 ?_
    refine lv_iadd hx hb dX11_keep_38 ?_
    obtain ⟨x_tk_4, ex_tk_4, h⟩ := nm_s h
    refine nmI ex_tk_4 ?_
    refine cp_CF_12 hx hb hw hown hK hP hI hS dX11_keep_39 (fun H locs hP hS => ?_)
    refine lv_aload_n hx hb dX11_keep_42 rfl (lv_at hl 0 rfl) ?_
    refine cg_CF_12 hx hb hw hown hK hP dX11_keep_43 ?_
    simp only [Option.some.injEq, Prod.mk.injEq] at h
    obtain ⟨rfl, rfl, rfl⟩ := h
    exact rc_i hx hb hr hlocks hS dX11_keep_46 rfl hP
  · replace h := ifn h hc
    refine lv_iconst (v := (-1)) hx hb dX11_keep_9 ki_m1 ?_
    simp only [Option.some.injEq, Prod.mk.injEq] at h
    obtain ⟨rfl, rfl, rfl⟩ := h
    exact rc_i hx hb hr hlocks hS dX11_keep_10 rfl hP
noncomputable def cf_back (x_tk : Int32) (a_drawers : Nat → Int64) (a_kept : Nat → Int64) : Option (Int32 × Int32 × (Nat → Int64)) :=
  if 0 < x_tk then (nm (x_tk - 1 : Int32) fun x_tk_1 =>
  cpk (x_tk_1 * 8) (0 : Int32) (8 : Int32) 80 8 <|
  nm (va_cpy a_kept a_drawers (x_tk_1 * 8).toNatClampNeg (0 : Int32).toNatClampNeg (8 : Int32).toNatClampNeg) fun a_drawers_2 =>
  some (x_tk_1, x_tk_1, a_drawers_2)) else
  some ((-1), x_tk, a_drawers)
set_option maxHeartbeats 4000000 in
set_option maxRecDepth 100000 in
theorem c_cf_back (l : Launch) (D : va_G) (ct : Nat → ClassId) (ad : Nat → Nat) (hI : cI ad) {x_fed x_tk x_col x_line x_rcells x_rsize x_len x_cuts x_bare x_place x_lA x_lB x_lC x_fX x_fY x_sX x_sY x_made x_fsize x_psize x_over x_touch x_most x_mU x_mV x_area : Int32} {x_board : Int64} {a_tape a_letters a_oneSided a_free a_ends a_crowds a_wmade a_firsts a_widths a_heights a_places a_next a_pnear a_table a_overlaps : Nat → Int32} {a_drawers a_kept a_items a_numbers a_marks a_near a_figures a_covered a_pcells a_matrix : Nat → Int64}  (r : Int32) (z_x_tk : Int32) (z_a_drawers : Nat → Int64) (h : cf_back x_tk a_drawers a_kept = some (r, z_x_tk, z_a_drawers)) : Met l yX11_back (wm yX11_back cX11_back 1 (some .int)) (rmm 1 38) (va_Pc [.ref (ad 0)] (cB D ct ad x_fed x_tk x_col x_line x_rcells x_rsize x_len x_cuts x_bare x_place x_lA x_lB x_lC x_fX x_fY x_sX x_sY x_made x_fsize x_psize x_over x_touch x_most x_mU x_mV x_area x_board a_tape a_letters a_oneSided a_free a_ends a_crowds a_wmade a_firsts a_widths a_heights a_places a_next a_pnear a_table a_overlaps a_drawers a_kept a_items a_numbers a_marks a_near a_figures a_covered a_pcells a_matrix)) (va_Qi (fun z (_ : Unit) => z = r) (fun _ t => cP D ct ad x_fed z_x_tk x_col x_line x_rcells x_rsize x_len x_cuts x_bare x_place x_lA x_lB x_lC x_fX x_fY x_sX x_sY x_made x_fsize x_psize x_over x_touch x_most x_mU x_mV x_area x_board a_tape a_letters a_oneSided a_free a_ends a_crowds a_wmade a_firsts a_widths a_heights a_places a_next a_pnear a_table a_overlaps z_a_drawers a_kept a_items a_numbers a_marks a_near a_figures a_covered a_pcells a_matrix t.heap) (cA ad)) 0 0 (cA ad) := by
  refine met_s (y := yX11_back) (rm := rmm 1 38) (by decide) (Nat.le_of_ble_eq_true rfl) ?_
  intro p e s m below meth c hx hb hr hw hown hlocks _ hml hB ls hl
  obtain ⟨hN, hK, hP⟩ := hB
  replace hl : lv_has ls 1 [(0, .ref (ad 0))] := hl
  have hS : va_S (cA ad) s.heap s.heap [] := va_S.rf
  generalize (([.ref (ad 0)] : List Value).toArray) = av at hw ⊢
  rw [cf_back] at h
  refine lv_aload_n hx hb dX11_back_0 rfl (lv_at hl 0 rfl) ?_
  refine cg_CF_12 hx hb hw hown hK hP dX11_back_1 ?_
  refine lv_if_gt hx hb dX11_back_4 (tgt := 9) rfl (fun hc => ?_) (fun hc => ?_)
  · replace h := ifp h hc
    refine lv_aload_n hx hb dX11_back_9 rfl (lv_at hl 0 rfl) ?_
    refine lv_dup hx hb dX11_back_10 rfl ?_
    refine cg_CF_12 hx hb hw hown hK hP dX11_back_11 ?_
    refine lv_iconst (v := 1) hx hb dX11_back_14 ki_1 ?_
    refine lv_isub hx hb dX11_back_15 ?_
    obtain ⟨x_tk_3, ex_tk_3, h⟩ := nm_s h
    refine nmI ex_tk_3 ?_
    refine cp_CF_12 hx hb hw hown hK hP hI hS dX11_back_16 (fun H locs hP hS => ?_)
    refine lv_aload_n hx hb dX11_back_19 rfl (lv_at hl 0 rfl) ?_
    refine cg_CF_2 hx hb hw hown hK hP dX11_back_20 ?_
    refine lv_aload_n hx hb dX11_back_23 rfl (lv_at hl 0 rfl) ?_
    refine cg_CF_12 hx hb hw hown hK hP dX11_back_24 ?_
    refine lv_bipush (v := 8) hx hb dX11_back_27 kb_8 ?_
    refine lv_imul hx hb dX11_back_29 ?_
    refine lv_aload_n hx hb dX11_back_30 rfl (lv_at hl 0 rfl) ?_
    refine cg_CF_1 hx hb hw hown hK hP dX11_back_31 ?_
    refine lv_iconst (v := 0) hx hb dX11_back_34 ki_0 ?_
    refine lv_bipush (v := 8) hx hb dX11_back_35 kb_8 ?_
    obtain ⟨hcp, h⟩ := cpk_s h
    obtain ⟨a_drawers_4, ea_drawers_4, h⟩ := nm_s h
    refine cy_kept_drawers hx hb (hml.trans hl.1.symm) hw hown hK hP hI hS hcp ea_drawers_4 (Nat.le_of_ble_eq_true rfl) (by decide) dX11_back_37 (fun H locs hP hS => ?_)
    refine lv_aload_n hx hb dX11_back_40 rfl (lv_at hl 0 rfl) ?_
    refine cg_CF_12 hx hb hw hown hK hP dX11_back_41 ?_
    simp only [Option.some.injEq, Prod.mk.injEq] at h
    obtain ⟨rfl, rfl, rfl⟩ := h
    exact rc_i hx hb hr hlocks hS dX11_back_44 rfl hP
  · replace h := ifn h hc
    refine lv_iconst (v := (-1)) hx hb dX11_back_7 ki_m1 ?_
    simp only [Option.some.injEq, Prod.mk.injEq] at h
    obtain ⟨rfl, rfl, rfl⟩ := h
    exact rc_i hx hb hr hlocks hS dX11_back_8 rfl hP
noncomputable def cf_join (v1 : Int32) (v2 : Int32) (v3 : Int32) (v4 : Int32) (v5 : Int32) (a_drawers : Nat → Int64) : Option (Int32 × (Nat → Int64)) :=
  bd1 (cf_isDrawer v1) fun r_1 =>
  if r_1 = 0 then (some ((-1), a_drawers)) else
  bd1 (cf_isDrawer v2) fun r_3 =>
  if r_3 = 0 then (some ((-1), a_drawers)) else
  bd1 (cf_isMove v3 v4) fun r_5 =>
  if r_5 = 0 then (some ((-1), a_drawers)) else
  ck v1 8 <|
  if (a_drawers v1.toNatClampNeg) = 0 then (some ((-2), a_drawers)) else
  ck v2 8 <|
  if (a_drawers v2.toNatClampNeg) = 0 then (some ((-2), a_drawers)) else
  if v5 = 0 then (ck v1 8 <|
  ck v2 8 <|
  bd1 (gr_moved (a_drawers v2.toNatClampNeg) v3 v4) fun r_7 =>
  bd2 (cf_store v1 ((a_drawers v1.toNatClampNeg) &&& (r_7 ^^^ (((-1) : Int64)))) a_drawers) fun r_9 a_drawers_10 =>
  some (r_9, a_drawers_10)) else
  ck v1 8 <|
  ck v2 8 <|
  bd1 (gr_united (a_drawers v1.toNatClampNeg) (a_drawers v2.toNatClampNeg) v3 v4) fun r_12 =>
  bd2 (cf_store v1 r_12 a_drawers) fun r_14 a_drawers_15 =>
  some (r_14, a_drawers_15)
set_option maxHeartbeats 4000000 in
set_option maxRecDepth 100000 in
theorem c_cf_join (l : Launch) (D : va_G) (ct : Nat → ClassId) (ad : Nat → Nat) (hI : cI ad) {x_fed x_tk x_col x_line x_rcells x_rsize x_len x_cuts x_bare x_place x_lA x_lB x_lC x_fX x_fY x_sX x_sY x_made x_fsize x_psize x_over x_touch x_most x_mU x_mV x_area : Int32} {x_board : Int64} {a_tape a_letters a_oneSided a_free a_ends a_crowds a_wmade a_firsts a_widths a_heights a_places a_next a_pnear a_table a_overlaps : Nat → Int32} {a_drawers a_kept a_items a_numbers a_marks a_near a_figures a_covered a_pcells a_matrix : Nat → Int64} (v1 : Int32) (v2 : Int32) (v3 : Int32) (v4 : Int32) (v5 : Int32) (r : Int32) (z_a_drawers : Nat → Int64) (h : cf_join v1 v2 v3 v4 v5 a_drawers = some (r, z_a_drawers)) : Met l yX11_join (wm yX11_join cX11_join 6 (some .int)) (rmm 5 116) (va_Pc [.ref (ad 0), .int v1, .int v2, .int v3, .int v4, .int v5] (cB D ct ad x_fed x_tk x_col x_line x_rcells x_rsize x_len x_cuts x_bare x_place x_lA x_lB x_lC x_fX x_fY x_sX x_sY x_made x_fsize x_psize x_over x_touch x_most x_mU x_mV x_area x_board a_tape a_letters a_oneSided a_free a_ends a_crowds a_wmade a_firsts a_widths a_heights a_places a_next a_pnear a_table a_overlaps a_drawers a_kept a_items a_numbers a_marks a_near a_figures a_covered a_pcells a_matrix)) (va_Qi (fun z (_ : Unit) => z = r) (fun _ t => cP D ct ad x_fed x_tk x_col x_line x_rcells x_rsize x_len x_cuts x_bare x_place x_lA x_lB x_lC x_fX x_fY x_sX x_sY x_made x_fsize x_psize x_over x_touch x_most x_mU x_mV x_area x_board a_tape a_letters a_oneSided a_free a_ends a_crowds a_wmade a_firsts a_widths a_heights a_places a_next a_pnear a_table a_overlaps z_a_drawers a_kept a_items a_numbers a_marks a_near a_figures a_covered a_pcells a_matrix t.heap) (cA ad)) 0 0 (cA ad) := by
  refine met_s (y := yX11_join) (rm := rmm 5 116) (by decide) (Nat.le_of_ble_eq_true rfl) ?_
  intro p e s m below meth c hx hb hr hw hown hlocks _ hml hB ls hl
  obtain ⟨hN, hK, hP⟩ := hB
  replace hl : lv_has ls 6 [(0, .ref (ad 0)), (1, .int v1), (2, .int v2), (3, .int v3), (4, .int v4), (5, .int v5)] := hl
  have hS : va_S (cA ad) s.heap s.heap [] := va_S.rf
  generalize (([.ref (ad 0), .int v1, .int v2, .int v3, .int v4, .int v5] : List Value).toArray) = av at hw ⊢
  rw [cf_join] at h
  refine lv_iload_n hx hb dX11_join_0 rfl (lv_at hl 1 rfl) ?_
  obtain ⟨r_17, hr_18, h⟩ := bd1_s h
  refine sc_i hx hb hml hown hw hN (c_cf_isDrawer l v1 r_17 hr_18) g_RX11_91 hd_X11_isDrawer (rest := []) hl.1 hS dX11_join_1 rfl rfl ⟨Nat.le_of_ble_eq_true rfl, Nat.le_of_ble_eq_true rfl⟩ rfl rfl (Nat.le_of_ble_eq_true rfl) ⟨Nat.zero_le _, Nat.zero_le _⟩ (fun H locs hk hS => ?_)
  have hP := cP_kept hP hk
  refine lv_if_eq hx hb dX11_join_4 (tgt := 23) rfl (fun hc => ?_) (fun hc => ?_)
  · replace h := ifp h hc
    refine lv_iconst (v := (-1)) hx hb dX11_join_23 ki_m1 ?_
    simp only [Option.some.injEq, Prod.mk.injEq] at h
    obtain ⟨rfl, rfl⟩ := h
    exact rc_i hx hb hr hlocks hS dX11_join_24 rfl hP
  · replace h := ifn h hc
    refine lv_iload_n hx hb dX11_join_7 rfl (lv_at hl 2 rfl) ?_
    obtain ⟨r_19, hr_20, h⟩ := bd1_s h
    refine sc_i hx hb hml hown hw hN (c_cf_isDrawer l v2 r_19 hr_20) g_RX11_91 hd_X11_isDrawer (rest := []) hl.1 hS dX11_join_8 rfl rfl ⟨Nat.le_of_ble_eq_true rfl, Nat.le_of_ble_eq_true rfl⟩ rfl rfl (Nat.le_of_ble_eq_true rfl) ⟨Nat.zero_le _, Nat.zero_le _⟩ (fun H locs hk hS => ?_)
    have hP := cP_kept hP hk
    refine lv_if_eq hx hb dX11_join_11 (tgt := 23) rfl (fun hc => ?_) (fun hc => ?_)
    · replace h := ifp h hc
      refine lv_iconst (v := (-1)) hx hb dX11_join_23 ki_m1 ?_
      simp only [Option.some.injEq, Prod.mk.injEq] at h
      obtain ⟨rfl, rfl⟩ := h
      exact rc_i hx hb hr hlocks hS dX11_join_24 rfl hP
    · replace h := ifn h hc
      refine lv_iload_n hx hb dX11_join_14 rfl (lv_at hl 3 rfl) ?_
      refine lv_iload hx hb dX11_join_15 (lv_at hl 4 rfl) ?_
      obtain ⟨r_21, hr_22, h⟩ := bd1_s h
      refine sc_i hx hb hml hown hw hN (c_cf_isMove l v3 v4 r_21 hr_22) g_RX11_264 hd_X11_isMove (rest := []) hl.1 hS dX11_join_17 rfl rfl ⟨Nat.le_of_ble_eq_true rfl, Nat.le_of_ble_eq_true rfl⟩ rfl rfl (Nat.le_of_ble_eq_true rfl) ⟨Nat.zero_le _, Nat.zero_le _⟩ (fun H locs hk hS => ?_)
      have hP := cP_kept hP hk
      refine lv_if_ne hx hb dX11_join_20 (tgt := 25) rfl (fun hc => ?_) (fun hc => ?_)
      · replace h := ifn h hc
        refine lv_aload_n hx hb dX11_join_25 rfl (lv_at hl 0 rfl) ?_
        refine cg_CF_1 hx hb hw hown hK hP dX11_join_26 ?_
        refine lv_iload_n hx hb dX11_join_29 rfl (lv_at hl 1 rfl) ?_
        obtain ⟨hin, h⟩ := ck_s h
        refine cd_drawers hx hb hK hP hin dX11_join_30 ?_
        refine lv_lconst (v := 0) hx hb dX11_join_31 kl_0 ?_
        refine W.lcmp hx hb dX11_join_32 ?_
        refine lv_if_eq hx hb dX11_join_33 (tgt := 47) rfl (fun hc => ?_) (fun hc => ?_)
        · replace h := ifp h ((lg_cmp_eq _ _).mp hc)
          refine lv_bipush (v := (-2)) hx hb dX11_join_47 kb_m2 ?_
          simp only [Option.some.injEq, Prod.mk.injEq] at h
          obtain ⟨rfl, rfl⟩ := h
          exact rc_i hx hb hr hlocks hS dX11_join_49 rfl hP
        · replace h := ifn h (fun q => hc ((lg_cmp_eq _ _).mpr q))
          refine lv_aload_n hx hb dX11_join_36 rfl (lv_at hl 0 rfl) ?_
          refine cg_CF_1 hx hb hw hown hK hP dX11_join_37 ?_
          refine lv_iload_n hx hb dX11_join_40 rfl (lv_at hl 2 rfl) ?_
          obtain ⟨hin, h⟩ := ck_s h
          refine cd_drawers hx hb hK hP hin dX11_join_41 ?_
          refine lv_lconst (v := 0) hx hb dX11_join_42 kl_0 ?_
          refine W.lcmp hx hb dX11_join_43 ?_
          refine lv_if_ne hx hb dX11_join_44 (tgt := 50) rfl (fun hc => ?_) (fun hc => ?_)
          · replace h := ifn h (fun q => hc ((lg_cmp_eq _ _).mpr q))
            refine lv_iload hx hb dX11_join_50 (lv_at hl 5 rfl) ?_
            refine lv_if_eq hx hb dX11_join_52 (tgt := 81) rfl (fun hc => ?_) (fun hc => ?_)
            · replace h := ifp h hc
              refine lv_aload_n hx hb dX11_join_81 rfl (lv_at hl 0 rfl) ?_
              refine lv_iload_n hx hb dX11_join_82 rfl (lv_at hl 1 rfl) ?_
              refine lv_aload_n hx hb dX11_join_83 rfl (lv_at hl 0 rfl) ?_
              refine cg_CF_1 hx hb hw hown hK hP dX11_join_84 ?_
              refine lv_iload_n hx hb dX11_join_87 rfl (lv_at hl 1 rfl) ?_
              obtain ⟨hin, h⟩ := ck_s h
              refine cd_drawers hx hb hK hP hin dX11_join_88 ?_
              refine lv_aload_n hx hb dX11_join_89 rfl (lv_at hl 0 rfl) ?_
              refine cg_CF_1 hx hb hw hown hK hP dX11_join_90 ?_
              refine lv_iload_n hx hb dX11_join_93 rfl (lv_at hl 2 rfl) ?_
              obtain ⟨hin, h⟩ := ck_s h
              refine cd_drawers hx hb hK hP hin dX11_join_94 ?_
              refine lv_iload_n hx hb dX11_join_95 rfl (lv_at hl 3 rfl) ?_
              refine lv_iload hx hb dX11_join_96 (lv_at hl 4 rfl) ?_
              obtain ⟨r_23, hr_24, h⟩ := bd1_s h
              refine sc_l hx hb hml hown hw hN (c_gr_moved l (a_drawers v2.toNatClampNeg) v3 v4 r_23 hr_24) g_RX11_145 hd_X2_moved (rest := [.long (a_drawers v1.toNatClampNeg), .int v1, .ref (ad 0)]) hl.1 hS dX11_join_98 rfl rfl ⟨Nat.le_of_ble_eq_true rfl, Nat.le_of_ble_eq_true rfl⟩ rfl rfl (Nat.le_of_ble_eq_true rfl) ⟨Nat.zero_le _, Nat.zero_le _⟩ (fun H locs hk hS => ?_)
              have hP := cP_kept hP hk
              refine lv_ldc2 hx hb hown (hw _ tw_19_13) dX11_join_101 ?_
              refine lv_lxor hx hb dX11_join_104 ?_
              refine lv_land hx hb dX11_join_105 ?_
              obtain ⟨r_25, a_drawers_26, hr_27, h⟩ := bd2_s h
              refine hv_i hx hb hml hown hw cB_bl (cB_of hN hK hP) (cr_CF hK hP) (c_cf_store l D ct ad hI v1 ((a_drawers v1.toNatClampNeg) &&& (r_23 ^^^ (((-1) : Int64)))) r_25 a_drawers_26 hr_27) g_RX11_107 ⟨rfl, hd_X11_store⟩ (rest := []) hl.1 hS (fun q h => h) dX11_join_106 rfl rfl ⟨Nat.le_of_ble_eq_true rfl, Nat.le_of_ble_eq_true rfl⟩ rfl rfl (Nat.le_of_ble_eq_true rfl) ⟨Nat.zero_le _, Nat.zero_le _⟩ (fun H locs hP _ hS => ?_)
              simp only [Option.some.injEq, Prod.mk.injEq] at h
              obtain ⟨rfl, rfl⟩ := h
              exact rc_i hx hb hr hlocks hS dX11_join_109 rfl hP
            · replace h := ifn h hc
              refine lv_aload_n hx hb dX11_join_55 rfl (lv_at hl 0 rfl) ?_
              refine lv_iload_n hx hb dX11_join_56 rfl (lv_at hl 1 rfl) ?_
              refine lv_aload_n hx hb dX11_join_57 rfl (lv_at hl 0 rfl) ?_
              refine cg_CF_1 hx hb hw hown hK hP dX11_join_58 ?_
              refine lv_iload_n hx hb dX11_join_61 rfl (lv_at hl 1 rfl) ?_
              obtain ⟨hin, h⟩ := ck_s h
              refine cd_drawers hx hb hK hP hin dX11_join_62 ?_
              refine lv_aload_n hx hb dX11_join_63 rfl (lv_at hl 0 rfl) ?_
              refine cg_CF_1 hx hb hw hown hK hP dX11_join_64 ?_
              refine lv_iload_n hx hb dX11_join_67 rfl (lv_at hl 2 rfl) ?_
              obtain ⟨hin, h⟩ := ck_s h
              refine cd_drawers hx hb hK hP hin dX11_join_68 ?_
              refine lv_iload_n hx hb dX11_join_69 rfl (lv_at hl 3 rfl) ?_
              refine lv_iload hx hb dX11_join_70 (lv_at hl 4 rfl) ?_
              obtain ⟨r_28, hr_29, h⟩ := bd1_s h
              refine sc_l hx hb hml hown hw hN (c_gr_united l (a_drawers v1.toNatClampNeg) (a_drawers v2.toNatClampNeg) v3 v4 r_28 hr_29) g_RX11_141 hd_X2_united (rest := [.int v1, .ref (ad 0)]) hl.1 hS dX11_join_72 rfl rfl ⟨Nat.le_of_ble_eq_true rfl, Nat.le_of_ble_eq_true rfl⟩ rfl rfl (Nat.le_of_ble_eq_true rfl) ⟨Nat.zero_le _, Nat.zero_le _⟩ (fun H locs hk hS => ?_)
              have hP := cP_kept hP hk
              obtain ⟨r_30, a_drawers_31, hr_32, h⟩ := bd2_s h
              refine hv_i hx hb hml hown hw cB_bl (cB_of hN hK hP) (cr_CF hK hP) (c_cf_store l D ct ad hI v1 r_28 r_30 a_drawers_31 hr_32) g_RX11_107 ⟨rfl, hd_X11_store⟩ (rest := []) hl.1 hS (fun q h => h) dX11_join_75 rfl rfl ⟨Nat.le_of_ble_eq_true rfl, Nat.le_of_ble_eq_true rfl⟩ rfl rfl (Nat.le_of_ble_eq_true rfl) ⟨Nat.zero_le _, Nat.zero_le _⟩ (fun H locs hP _ hS => ?_)
              refine lv_goto hx hb dX11_join_78 (tgt := 109) rfl ?_
              simp only [Option.some.injEq, Prod.mk.injEq] at h
              obtain ⟨rfl, rfl⟩ := h
              exact rc_i hx hb hr hlocks hS dX11_join_109 rfl hP
          · replace h := ifp h ((lg_cmp_eq _ _).mp hc)
            refine lv_bipush (v := (-2)) hx hb dX11_join_47 kb_m2 ?_
            simp only [Option.some.injEq, Prod.mk.injEq] at h
            obtain ⟨rfl, rfl⟩ := h
            exact rc_i hx hb hr hlocks hS dX11_join_49 rfl hP
      · replace h := ifp h hc
        refine lv_iconst (v := (-1)) hx hb dX11_join_23 ki_m1 ?_
        simp only [Option.some.injEq, Prod.mk.injEq] at h
        obtain ⟨rfl, rfl⟩ := h
        exact rc_i hx hb hr hlocks hS dX11_join_24 rfl hP
noncomputable def cf_swap (v1 : Int32) (v2 : Int32) (a_drawers : Nat → Int64) : Option (Int32 × (Nat → Int64)) :=
  bd1 (cf_isDrawer v1) fun r_1 =>
  if r_1 = 0 then (some ((-1), a_drawers)) else
  bd1 (cf_isDrawer v2) fun r_3 =>
  if r_3 = 0 then (some ((-1), a_drawers)) else
  ck v1 8 <|
  ck v2 8 <|
  if (a_drawers v1.toNatClampNeg) = (a_drawers v2.toNatClampNeg) then (some (0, a_drawers)) else
  ck v1 8 <|
  nm (a_drawers v1.toNatClampNeg : Int64) fun v3_5 =>
  ck v2 8 <|
  nm (a_drawers v2.toNatClampNeg : Int64) fun w_6 =>
  ck v1 8 <|
  nm (vp_updL a_drawers v1.toNatClampNeg w_6) fun a_drawers_7 =>
  ck v2 8 <|
  nm (vp_updL a_drawers_7 v2.toNatClampNeg v3_5) fun a_drawers_8 =>
  some (1, a_drawers_8)
set_option maxHeartbeats 4000000 in
set_option maxRecDepth 100000 in
theorem c_cf_swap (l : Launch) (D : va_G) (ct : Nat → ClassId) (ad : Nat → Nat) (hI : cI ad) {x_fed x_tk x_col x_line x_rcells x_rsize x_len x_cuts x_bare x_place x_lA x_lB x_lC x_fX x_fY x_sX x_sY x_made x_fsize x_psize x_over x_touch x_most x_mU x_mV x_area : Int32} {x_board : Int64} {a_tape a_letters a_oneSided a_free a_ends a_crowds a_wmade a_firsts a_widths a_heights a_places a_next a_pnear a_table a_overlaps : Nat → Int32} {a_drawers a_kept a_items a_numbers a_marks a_near a_figures a_covered a_pcells a_matrix : Nat → Int64} (v1 : Int32) (v2 : Int32) (r : Int32) (z_a_drawers : Nat → Int64) (h : cf_swap v1 v2 a_drawers = some (r, z_a_drawers)) : Met l yX11_swap (wm yX11_swap cX11_swap 5 (some .int)) (rmm 2 42) (va_Pc [.ref (ad 0), .int v1, .int v2] (cB D ct ad x_fed x_tk x_col x_line x_rcells x_rsize x_len x_cuts x_bare x_place x_lA x_lB x_lC x_fX x_fY x_sX x_sY x_made x_fsize x_psize x_over x_touch x_most x_mU x_mV x_area x_board a_tape a_letters a_oneSided a_free a_ends a_crowds a_wmade a_firsts a_widths a_heights a_places a_next a_pnear a_table a_overlaps a_drawers a_kept a_items a_numbers a_marks a_near a_figures a_covered a_pcells a_matrix)) (va_Qi (fun z (_ : Unit) => z = r) (fun _ t => cP D ct ad x_fed x_tk x_col x_line x_rcells x_rsize x_len x_cuts x_bare x_place x_lA x_lB x_lC x_fX x_fY x_sX x_sY x_made x_fsize x_psize x_over x_touch x_most x_mU x_mV x_area x_board a_tape a_letters a_oneSided a_free a_ends a_crowds a_wmade a_firsts a_widths a_heights a_places a_next a_pnear a_table a_overlaps z_a_drawers a_kept a_items a_numbers a_marks a_near a_figures a_covered a_pcells a_matrix t.heap) (cA ad)) 0 0 (cA ad) := by
  refine met_s (y := yX11_swap) (rm := rmm 2 42) (by decide) (Nat.le_of_ble_eq_true rfl) ?_
  intro p e s m below meth c hx hb hr hw hown hlocks _ hml hB ls hl
  obtain ⟨hN, hK, hP⟩ := hB
  replace hl : lv_has ls 5 [(0, .ref (ad 0)), (1, .int v1), (2, .int v2)] := hl
  have hS : va_S (cA ad) s.heap s.heap [] := va_S.rf
  generalize (([.ref (ad 0), .int v1, .int v2] : List Value).toArray) = av at hw ⊢
  rw [cf_swap] at h
  refine lv_iload_n hx hb dX11_swap_0 rfl (lv_at hl 1 rfl) ?_
  obtain ⟨r_9, hr_10, h⟩ := bd1_s h
  refine sc_i hx hb hml hown hw hN (c_cf_isDrawer l v1 r_9 hr_10) g_RX11_91 hd_X11_isDrawer (rest := []) hl.1 hS dX11_swap_1 rfl rfl ⟨Nat.le_of_ble_eq_true rfl, Nat.le_of_ble_eq_true rfl⟩ rfl rfl (Nat.le_of_ble_eq_true rfl) ⟨Nat.zero_le _, Nat.zero_le _⟩ (fun H locs hk hS => ?_)
  have hP := cP_kept hP hk
  refine lv_if_eq hx hb dX11_swap_4 (tgt := 14) rfl (fun hc => ?_) (fun hc => ?_)
  · replace h := ifp h hc
    refine lv_iconst (v := (-1)) hx hb dX11_swap_14 ki_m1 ?_
    simp only [Option.some.injEq, Prod.mk.injEq] at h
    obtain ⟨rfl, rfl⟩ := h
    exact rc_i hx hb hr hlocks hS dX11_swap_15 rfl hP
  · replace h := ifn h hc
    refine lv_iload_n hx hb dX11_swap_7 rfl (lv_at hl 2 rfl) ?_
    obtain ⟨r_11, hr_12, h⟩ := bd1_s h
    refine sc_i hx hb hml hown hw hN (c_cf_isDrawer l v2 r_11 hr_12) g_RX11_91 hd_X11_isDrawer (rest := []) hl.1 hS dX11_swap_8 rfl rfl ⟨Nat.le_of_ble_eq_true rfl, Nat.le_of_ble_eq_true rfl⟩ rfl rfl (Nat.le_of_ble_eq_true rfl) ⟨Nat.zero_le _, Nat.zero_le _⟩ (fun H locs hk hS => ?_)
    have hP := cP_kept hP hk
    refine lv_if_ne hx hb dX11_swap_11 (tgt := 16) rfl (fun hc => ?_) (fun hc => ?_)
    · replace h := ifn h hc
      refine lv_aload_n hx hb dX11_swap_16 rfl (lv_at hl 0 rfl) ?_
      refine cg_CF_1 hx hb hw hown hK hP dX11_swap_17 ?_
      refine lv_iload_n hx hb dX11_swap_20 rfl (lv_at hl 1 rfl) ?_
      obtain ⟨hin, h⟩ := ck_s h
      refine cd_drawers hx hb hK hP hin dX11_swap_21 ?_
      refine lv_aload_n hx hb dX11_swap_22 rfl (lv_at hl 0 rfl) ?_
      refine cg_CF_1 hx hb hw hown hK hP dX11_swap_23 ?_
      refine lv_iload_n hx hb dX11_swap_26 rfl (lv_at hl 2 rfl) ?_
      obtain ⟨hin, h⟩ := ck_s h
      refine cd_drawers hx hb hK hP hin dX11_swap_27 ?_
      refine W.lcmp hx hb dX11_swap_28 ?_
      refine lv_if_ne hx hb dX11_swap_29 (tgt := 34) rfl (fun hc => ?_) (fun hc => ?_)
      · replace h := ifn h (fun q => hc ((lg_cmp_eq _ _).mpr q))
        refine lv_aload_n hx hb dX11_swap_34 rfl (lv_at hl 0 rfl) ?_
        refine cg_CF_1 hx hb hw hown hK hP dX11_swap_35 ?_
        refine lv_iload_n hx hb dX11_swap_38 rfl (lv_at hl 1 rfl) ?_
        obtain ⟨hin, h⟩ := ck_s h
        refine cd_drawers hx hb hK hP hin dX11_swap_39 ?_
        obtain ⟨v3_13, ev3_13, h⟩ := nm_s h
        refine nmL ev3_13 ?_
        refine lv_lstore_n hx hb dX11_swap_40 rfl hl (Nat.le_of_ble_eq_true rfl) (lv' := [(3, .long v3_13), (0, .ref (ad 0)), (1, .int v1), (2, .int v2)]) rfl (fun ls hl => ?_)
        refine lv_aload_n hx hb dX11_swap_41 rfl (lv_at hl 1 rfl) ?_
        refine cg_CF_1 hx hb hw hown hK hP dX11_swap_42 ?_
        refine lv_iload_n hx hb dX11_swap_45 rfl (lv_at hl 2 rfl) ?_
        refine lv_aload_n hx hb dX11_swap_46 rfl (lv_at hl 1 rfl) ?_
        refine cg_CF_1 hx hb hw hown hK hP dX11_swap_47 ?_
        refine lv_iload_n hx hb dX11_swap_50 rfl (lv_at hl 3 rfl) ?_
        obtain ⟨hin, h⟩ := ck_s h
        refine cd_drawers hx hb hK hP hin dX11_swap_51 ?_
        obtain ⟨w_14, ew_14, h⟩ := nm_s h
        refine nmL ew_14 ?_
        obtain ⟨hin, h⟩ := ck_s h
        obtain ⟨a_drawers_15, ea_drawers_15, h⟩ := nm_s h
        refine cs_drawers hx hb hK hP hI hS hin ea_drawers_15 dX11_swap_52 (fun H locs hP hS => ?_)
        refine lv_aload_n hx hb dX11_swap_53 rfl (lv_at hl 1 rfl) ?_
        refine cg_CF_1 hx hb hw hown hK hP dX11_swap_54 ?_
        refine lv_iload_n hx hb dX11_swap_57 rfl (lv_at hl 3 rfl) ?_
        refine lv_lload_n hx hb dX11_swap_58 rfl (lv_at hl 0 rfl) ?_
        obtain ⟨hin, h⟩ := ck_s h
        obtain ⟨a_drawers_16, ea_drawers_16, h⟩ := nm_s h
        refine cs_drawers hx hb hK hP hI hS hin ea_drawers_16 dX11_swap_59 (fun H locs hP hS => ?_)
        refine lv_iconst (v := 1) hx hb dX11_swap_60 ki_1 ?_
        simp only [Option.some.injEq, Prod.mk.injEq] at h
        obtain ⟨rfl, rfl⟩ := h
        exact rc_i hx hb hr hlocks hS dX11_swap_61 rfl hP
      · replace h := ifp h ((lg_cmp_eq _ _).mp hc)
        refine lv_iconst (v := 0) hx hb dX11_swap_32 ki_0 ?_
        simp only [Option.some.injEq, Prod.mk.injEq] at h
        obtain ⟨rfl, rfl⟩ := h
        exact rc_i hx hb hr hlocks hS dX11_swap_33 rfl hP
    · replace h := ifp h hc
      refine lv_iconst (v := (-1)) hx hb dX11_swap_14 ki_m1 ?_
      simp only [Option.some.injEq, Prod.mk.injEq] at h
      obtain ⟨rfl, rfl⟩ := h
      exact rc_i hx hb hr hlocks hS dX11_swap_15 rfl hP
noncomputable def cf_share (v1 : Int32) (v2 : Int32) (v3 : Int32) (v4 : Int32) (a_drawers : Nat → Int64) : Option (Int32) :=
  bd1 (cf_isDrawer v1) fun r_1 =>
  if r_1 = 0 then (some ((-1))) else
  bd1 (cf_isDrawer v2) fun r_3 =>
  if r_3 = 0 then (some ((-1))) else
  bd1 (cf_isMove v3 v4) fun r_5 =>
  if r_5 = 0 then (some ((-1))) else
  ck v1 8 <|
  if (a_drawers v1.toNatClampNeg) = 0 then (some ((-2))) else
  ck v2 8 <|
  if (a_drawers v2.toNatClampNeg) = 0 then (some ((-2))) else
  ck v1 8 <|
  ck v2 8 <|
  bd1 (me_overlap (a_drawers v1.toNatClampNeg) (a_drawers v2.toNatClampNeg) v3 v4) fun r_7 =>
  if r_7 ≤ 0 then (ck v1 8 <|
  ck v2 8 <|
  bd1 (me_sharedSides (a_drawers v1.toNatClampNeg) (a_drawers v2.toNatClampNeg) v3 v4) fun r_9 =>
  some (r_9)) else
  some ((-3))
set_option maxHeartbeats 4000000 in
set_option maxRecDepth 100000 in
theorem c_cf_share (l : Launch) (D : va_G) (ct : Nat → ClassId) (ad : Nat → Nat) (hI : cI ad) {x_fed x_tk x_col x_line x_rcells x_rsize x_len x_cuts x_bare x_place x_lA x_lB x_lC x_fX x_fY x_sX x_sY x_made x_fsize x_psize x_over x_touch x_most x_mU x_mV x_area : Int32} {x_board : Int64} {a_tape a_letters a_oneSided a_free a_ends a_crowds a_wmade a_firsts a_widths a_heights a_places a_next a_pnear a_table a_overlaps : Nat → Int32} {a_drawers a_kept a_items a_numbers a_marks a_near a_figures a_covered a_pcells a_matrix : Nat → Int64} (v1 : Int32) (v2 : Int32) (v3 : Int32) (v4 : Int32) (r : Int32)  (h : cf_share v1 v2 v3 v4 a_drawers = some (r)) : Met l yX11_share (wm yX11_share cX11_share 5 (some .int)) (rmm 4 97) (va_Pc [.ref (ad 0), .int v1, .int v2, .int v3, .int v4] (cB D ct ad x_fed x_tk x_col x_line x_rcells x_rsize x_len x_cuts x_bare x_place x_lA x_lB x_lC x_fX x_fY x_sX x_sY x_made x_fsize x_psize x_over x_touch x_most x_mU x_mV x_area x_board a_tape a_letters a_oneSided a_free a_ends a_crowds a_wmade a_firsts a_widths a_heights a_places a_next a_pnear a_table a_overlaps a_drawers a_kept a_items a_numbers a_marks a_near a_figures a_covered a_pcells a_matrix)) (va_Qi (fun z (_ : Unit) => z = r) (fun _ t => cP D ct ad x_fed x_tk x_col x_line x_rcells x_rsize x_len x_cuts x_bare x_place x_lA x_lB x_lC x_fX x_fY x_sX x_sY x_made x_fsize x_psize x_over x_touch x_most x_mU x_mV x_area x_board a_tape a_letters a_oneSided a_free a_ends a_crowds a_wmade a_firsts a_widths a_heights a_places a_next a_pnear a_table a_overlaps a_drawers a_kept a_items a_numbers a_marks a_near a_figures a_covered a_pcells a_matrix t.heap) (cA ad)) 0 0 (cA ad) := by
  refine met_s (y := yX11_share) (rm := rmm 4 97) (by decide) (Nat.le_of_ble_eq_true rfl) ?_
  intro p e s m below meth c hx hb hr hw hown hlocks _ hml hB ls hl
  obtain ⟨hN, hK, hP⟩ := hB
  replace hl : lv_has ls 5 [(0, .ref (ad 0)), (1, .int v1), (2, .int v2), (3, .int v3), (4, .int v4)] := hl
  have hS : va_S (cA ad) s.heap s.heap [] := va_S.rf
  generalize (([.ref (ad 0), .int v1, .int v2, .int v3, .int v4] : List Value).toArray) = av at hw ⊢
  rw [cf_share] at h
  refine lv_iload_n hx hb dX11_share_0 rfl (lv_at hl 1 rfl) ?_
  obtain ⟨r_11, hr_12, h⟩ := bd1_s h
  refine sc_i hx hb hml hown hw hN (c_cf_isDrawer l v1 r_11 hr_12) g_RX11_91 hd_X11_isDrawer (rest := []) hl.1 hS dX11_share_1 rfl rfl ⟨Nat.le_of_ble_eq_true rfl, Nat.le_of_ble_eq_true rfl⟩ rfl rfl (Nat.le_of_ble_eq_true rfl) ⟨Nat.zero_le _, Nat.zero_le _⟩ (fun H locs hk hS => ?_)
  have hP := cP_kept hP hk
  refine lv_if_eq hx hb dX11_share_4 (tgt := 23) rfl (fun hc => ?_) (fun hc => ?_)
  · replace h := ifp h hc
    refine lv_iconst (v := (-1)) hx hb dX11_share_23 ki_m1 ?_
    replace h := Option.some.inj h
    subst h
    exact rc_i hx hb hr hlocks hS dX11_share_24 rfl hP
  · replace h := ifn h hc
    refine lv_iload_n hx hb dX11_share_7 rfl (lv_at hl 2 rfl) ?_
    obtain ⟨r_13, hr_14, h⟩ := bd1_s h
    refine sc_i hx hb hml hown hw hN (c_cf_isDrawer l v2 r_13 hr_14) g_RX11_91 hd_X11_isDrawer (rest := []) hl.1 hS dX11_share_8 rfl rfl ⟨Nat.le_of_ble_eq_true rfl, Nat.le_of_ble_eq_true rfl⟩ rfl rfl (Nat.le_of_ble_eq_true rfl) ⟨Nat.zero_le _, Nat.zero_le _⟩ (fun H locs hk hS => ?_)
    have hP := cP_kept hP hk
    refine lv_if_eq hx hb dX11_share_11 (tgt := 23) rfl (fun hc => ?_) (fun hc => ?_)
    · replace h := ifp h hc
      refine lv_iconst (v := (-1)) hx hb dX11_share_23 ki_m1 ?_
      replace h := Option.some.inj h
      subst h
      exact rc_i hx hb hr hlocks hS dX11_share_24 rfl hP
    · replace h := ifn h hc
      refine lv_iload_n hx hb dX11_share_14 rfl (lv_at hl 3 rfl) ?_
      refine lv_iload hx hb dX11_share_15 (lv_at hl 4 rfl) ?_
      obtain ⟨r_15, hr_16, h⟩ := bd1_s h
      refine sc_i hx hb hml hown hw hN (c_cf_isMove l v3 v4 r_15 hr_16) g_RX11_264 hd_X11_isMove (rest := []) hl.1 hS dX11_share_17 rfl rfl ⟨Nat.le_of_ble_eq_true rfl, Nat.le_of_ble_eq_true rfl⟩ rfl rfl (Nat.le_of_ble_eq_true rfl) ⟨Nat.zero_le _, Nat.zero_le _⟩ (fun H locs hk hS => ?_)
      have hP := cP_kept hP hk
      refine lv_if_ne hx hb dX11_share_20 (tgt := 25) rfl (fun hc => ?_) (fun hc => ?_)
      · replace h := ifn h hc
        refine lv_aload_n hx hb dX11_share_25 rfl (lv_at hl 0 rfl) ?_
        refine cg_CF_1 hx hb hw hown hK hP dX11_share_26 ?_
        refine lv_iload_n hx hb dX11_share_29 rfl (lv_at hl 1 rfl) ?_
        obtain ⟨hin, h⟩ := ck_s h
        refine cd_drawers hx hb hK hP hin dX11_share_30 ?_
        refine lv_lconst (v := 0) hx hb dX11_share_31 kl_0 ?_
        refine W.lcmp hx hb dX11_share_32 ?_
        refine lv_if_eq hx hb dX11_share_33 (tgt := 47) rfl (fun hc => ?_) (fun hc => ?_)
        · replace h := ifp h ((lg_cmp_eq _ _).mp hc)
          refine lv_bipush (v := (-2)) hx hb dX11_share_47 kb_m2 ?_
          replace h := Option.some.inj h
          subst h
          exact rc_i hx hb hr hlocks hS dX11_share_49 rfl hP
        · replace h := ifn h (fun q => hc ((lg_cmp_eq _ _).mpr q))
          refine lv_aload_n hx hb dX11_share_36 rfl (lv_at hl 0 rfl) ?_
          refine cg_CF_1 hx hb hw hown hK hP dX11_share_37 ?_
          refine lv_iload_n hx hb dX11_share_40 rfl (lv_at hl 2 rfl) ?_
          obtain ⟨hin, h⟩ := ck_s h
          refine cd_drawers hx hb hK hP hin dX11_share_41 ?_
          refine lv_lconst (v := 0) hx hb dX11_share_42 kl_0 ?_
          refine W.lcmp hx hb dX11_share_43 ?_
          refine lv_if_ne hx hb dX11_share_44 (tgt := 50) rfl (fun hc => ?_) (fun hc => ?_)
          · replace h := ifn h (fun q => hc ((lg_cmp_eq _ _).mpr q))
            refine lv_aload_n hx hb dX11_share_50 rfl (lv_at hl 0 rfl) ?_
            refine cg_CF_1 hx hb hw hown hK hP dX11_share_51 ?_
            refine lv_iload_n hx hb dX11_share_54 rfl (lv_at hl 1 rfl) ?_
            obtain ⟨hin, h⟩ := ck_s h
            refine cd_drawers hx hb hK hP hin dX11_share_55 ?_
            refine lv_aload_n hx hb dX11_share_56 rfl (lv_at hl 0 rfl) ?_
            refine cg_CF_1 hx hb hw hown hK hP dX11_share_57 ?_
            refine lv_iload_n hx hb dX11_share_60 rfl (lv_at hl 2 rfl) ?_
            obtain ⟨hin, h⟩ := ck_s h
            refine cd_drawers hx hb hK hP hin dX11_share_61 ?_
            refine lv_iload_n hx hb dX11_share_62 rfl (lv_at hl 3 rfl) ?_
            refine lv_iload hx hb dX11_share_63 (lv_at hl 4 rfl) ?_
            obtain ⟨r_17, hr_18, h⟩ := bd1_s h
            refine sc_i hx hb hml hown hw hN (c_me_overlap l (a_drawers v1.toNatClampNeg) (a_drawers v2.toNatClampNeg) v3 v4 r_17 hr_18) g_RX11_267 hd_X4_overlap (rest := []) hl.1 hS dX11_share_65 rfl rfl ⟨Nat.le_of_ble_eq_true rfl, Nat.le_of_ble_eq_true rfl⟩ rfl rfl (Nat.le_of_ble_eq_true rfl) ⟨Nat.zero_le _, Nat.zero_le _⟩ (fun H locs hk hS => ?_)
            have hP := cP_kept hP hk
            refine lv_if_le hx hb dX11_share_68 (tgt := 74) rfl (fun hc => ?_) (fun hc => ?_)
            · replace h := ifp h hc
              refine lv_aload_n hx hb dX11_share_74 rfl (lv_at hl 0 rfl) ?_
              refine cg_CF_1 hx hb hw hown hK hP dX11_share_75 ?_
              refine lv_iload_n hx hb dX11_share_78 rfl (lv_at hl 1 rfl) ?_
              obtain ⟨hin, h⟩ := ck_s h
              refine cd_drawers hx hb hK hP hin dX11_share_79 ?_
              refine lv_aload_n hx hb dX11_share_80 rfl (lv_at hl 0 rfl) ?_
              refine cg_CF_1 hx hb hw hown hK hP dX11_share_81 ?_
              refine lv_iload_n hx hb dX11_share_84 rfl (lv_at hl 2 rfl) ?_
              obtain ⟨hin, h⟩ := ck_s h
              refine cd_drawers hx hb hK hP hin dX11_share_85 ?_
              refine lv_iload_n hx hb dX11_share_86 rfl (lv_at hl 3 rfl) ?_
              refine lv_iload hx hb dX11_share_87 (lv_at hl 4 rfl) ?_
              obtain ⟨r_19, hr_20, h⟩ := bd1_s h
              refine sc_i hx hb hml hown hw hN (c_me_sharedSides l (a_drawers v1.toNatClampNeg) (a_drawers v2.toNatClampNeg) v3 v4 r_19 hr_20) g_RX11_271 hd_X4_sharedSides (rest := []) hl.1 hS dX11_share_89 rfl rfl ⟨Nat.le_of_ble_eq_true rfl, Nat.le_of_ble_eq_true rfl⟩ rfl rfl (Nat.le_of_ble_eq_true rfl) ⟨Nat.zero_le _, Nat.zero_le _⟩ (fun H locs hk hS => ?_)
              have hP := cP_kept hP hk
              replace h := Option.some.inj h
              subst h
              exact rc_i hx hb hr hlocks hS dX11_share_92 rfl hP
            · replace h := ifn h hc
              refine lv_bipush (v := (-3)) hx hb dX11_share_71 kb_m3 ?_
              replace h := Option.some.inj h
              subst h
              exact rc_i hx hb hr hlocks hS dX11_share_73 rfl hP
          · replace h := ifp h ((lg_cmp_eq _ _).mp hc)
            refine lv_bipush (v := (-2)) hx hb dX11_share_47 kb_m2 ?_
            replace h := Option.some.inj h
            subst h
            exact rc_i hx hb hr hlocks hS dX11_share_49 rfl hP
      · replace h := ifp h hc
        refine lv_iconst (v := (-1)) hx hb dX11_share_23 ki_m1 ?_
        replace h := Option.some.inj h
        subst h
        exact rc_i hx hb hr hlocks hS dX11_share_24 rfl hP
noncomputable def cf_touch (v1 : Int32) (v2 : Int32) (v3 : Int32) (a_drawers : Nat → Int64) (x_over : Int32) (x_touch : Int32) (x_most : Int32) (x_mU : Int32) (x_mV : Int32) (x_area : Int32) (a_overlaps : Nat → Int32) : Option (Int32 × Int32 × Int32 × Int32 × Int32 × Int32 × Int32 × (Nat → Int32)) :=
  bd1 (cf_isDrawer v1) fun r_1 =>
  if r_1 = 0 then (some ((-1), x_over, x_touch, x_most, x_mU, x_mV, x_area, a_overlaps)) else
  bd1 (cf_isDrawer v2) fun r_3 =>
  if r_3 = 0 then (some ((-1), x_over, x_touch, x_most, x_mU, x_mV, x_area, a_overlaps)) else
  bd1 (cf_within v3 0 5) fun r_5 =>
  if r_5 = 0 then (some ((-1), x_over, x_touch, x_most, x_mU, x_mV, x_area, a_overlaps)) else
  ck v1 8 <|
  if (a_drawers v1.toNatClampNeg) = 0 then (some ((-2), x_over, x_touch, x_most, x_mU, x_mV, x_area, a_overlaps)) else
  ck v2 8 <|
  if (a_drawers v2.toNatClampNeg) = 0 then (some ((-2), x_over, x_touch, x_most, x_mU, x_mV, x_area, a_overlaps)) else
  ck v1 8 <|
  ck v2 8 <|
  bd7 (me_measure (a_drawers v1.toNatClampNeg) (a_drawers v2.toNatClampNeg) x_over x_touch x_most x_mU x_mV x_area a_overlaps) fun x_over_7 x_touch_8 x_most_9 x_mU_10 x_mV_11 x_area_12 a_overlaps_13 =>
  bd1 (me_measured v3 x_over_7 x_touch_8 x_most_9 x_mU_10 x_mV_11 x_area_12) fun r_15 =>
  some (r_15, x_over_7, x_touch_8, x_most_9, x_mU_10, x_mV_11, x_area_12, a_overlaps_13)
set_option maxHeartbeats 4000000 in
set_option maxRecDepth 100000 in
theorem c_cf_touch (l : Launch) (D : va_G) (ct : Nat → ClassId) (ad : Nat → Nat) (hI : cI ad) {x_fed x_tk x_col x_line x_rcells x_rsize x_len x_cuts x_bare x_place x_lA x_lB x_lC x_fX x_fY x_sX x_sY x_made x_fsize x_psize x_over x_touch x_most x_mU x_mV x_area : Int32} {x_board : Int64} {a_tape a_letters a_oneSided a_free a_ends a_crowds a_wmade a_firsts a_widths a_heights a_places a_next a_pnear a_table a_overlaps : Nat → Int32} {a_drawers a_kept a_items a_numbers a_marks a_near a_figures a_covered a_pcells a_matrix : Nat → Int64} (v1 : Int32) (v2 : Int32) (v3 : Int32) (r : Int32) (z_x_over : Int32) (z_x_touch : Int32) (z_x_most : Int32) (z_x_mU : Int32) (z_x_mV : Int32) (z_x_area : Int32) (z_a_overlaps : Nat → Int32) (h : cf_touch v1 v2 v3 a_drawers x_over x_touch x_most x_mU x_mV x_area a_overlaps = some (r, z_x_over, z_x_touch, z_x_most, z_x_mU, z_x_mV, z_x_area, z_a_overlaps)) : Met l yX11_touch (wm yX11_touch cX11_touch 4 (some .int)) (rmm 4 98) (va_Pc [.ref (ad 0), .int v1, .int v2, .int v3] (cB D ct ad x_fed x_tk x_col x_line x_rcells x_rsize x_len x_cuts x_bare x_place x_lA x_lB x_lC x_fX x_fY x_sX x_sY x_made x_fsize x_psize x_over x_touch x_most x_mU x_mV x_area x_board a_tape a_letters a_oneSided a_free a_ends a_crowds a_wmade a_firsts a_widths a_heights a_places a_next a_pnear a_table a_overlaps a_drawers a_kept a_items a_numbers a_marks a_near a_figures a_covered a_pcells a_matrix)) (va_Qi (fun z (_ : Unit) => z = r) (fun _ t => cP D ct ad x_fed x_tk x_col x_line x_rcells x_rsize x_len x_cuts x_bare x_place x_lA x_lB x_lC x_fX x_fY x_sX x_sY x_made x_fsize x_psize z_x_over z_x_touch z_x_most z_x_mU z_x_mV z_x_area x_board a_tape a_letters a_oneSided a_free a_ends a_crowds a_wmade a_firsts a_widths a_heights a_places a_next a_pnear a_table z_a_overlaps a_drawers a_kept a_items a_numbers a_marks a_near a_figures a_covered a_pcells a_matrix t.heap) (cA ad)) 0 0 (cA ad) := by
  refine met_s (y := yX11_touch) (rm := rmm 4 98) (by decide) (Nat.le_of_ble_eq_true rfl) ?_
  intro p e s m below meth c hx hb hr hw hown hlocks _ hml hB ls hl
  obtain ⟨hN, hK, hP⟩ := hB
  replace hl : lv_has ls 4 [(0, .ref (ad 0)), (1, .int v1), (2, .int v2), (3, .int v3)] := hl
  have hS : va_S (cA ad) s.heap s.heap [] := va_S.rf
  generalize (([.ref (ad 0), .int v1, .int v2, .int v3] : List Value).toArray) = av at hw ⊢
  rw [cf_touch] at h
  refine lv_iload_n hx hb dX11_touch_0 rfl (lv_at hl 1 rfl) ?_
  obtain ⟨r_17, hr_18, h⟩ := bd1_s h
  refine sc_i hx hb hml hown hw hN (c_cf_isDrawer l v1 r_17 hr_18) g_RX11_91 hd_X11_isDrawer (rest := []) hl.1 hS dX11_touch_1 rfl rfl ⟨Nat.le_of_ble_eq_true rfl, Nat.le_of_ble_eq_true rfl⟩ rfl rfl (Nat.le_of_ble_eq_true rfl) ⟨Nat.zero_le _, Nat.zero_le _⟩ (fun H locs hk hS => ?_)
  have hP := cP_kept hP hk
  refine lv_if_eq hx hb dX11_touch_4 (tgt := 23) rfl (fun hc => ?_) (fun hc => ?_)
  · replace h := ifp h hc
    refine lv_iconst (v := (-1)) hx hb dX11_touch_23 ki_m1 ?_
    simp only [Option.some.injEq, Prod.mk.injEq] at h
    obtain ⟨rfl, rfl, rfl, rfl, rfl, rfl, rfl, rfl⟩ := h
    exact rc_i hx hb hr hlocks hS dX11_touch_24 rfl hP
  · replace h := ifn h hc
    refine lv_iload_n hx hb dX11_touch_7 rfl (lv_at hl 2 rfl) ?_
    obtain ⟨r_19, hr_20, h⟩ := bd1_s h
    refine sc_i hx hb hml hown hw hN (c_cf_isDrawer l v2 r_19 hr_20) g_RX11_91 hd_X11_isDrawer (rest := []) hl.1 hS dX11_touch_8 rfl rfl ⟨Nat.le_of_ble_eq_true rfl, Nat.le_of_ble_eq_true rfl⟩ rfl rfl (Nat.le_of_ble_eq_true rfl) ⟨Nat.zero_le _, Nat.zero_le _⟩ (fun H locs hk hS => ?_)
    have hP := cP_kept hP hk
    refine lv_if_eq hx hb dX11_touch_11 (tgt := 23) rfl (fun hc => ?_) (fun hc => ?_)
    · replace h := ifp h hc
      refine lv_iconst (v := (-1)) hx hb dX11_touch_23 ki_m1 ?_
      simp only [Option.some.injEq, Prod.mk.injEq] at h
      obtain ⟨rfl, rfl, rfl, rfl, rfl, rfl, rfl, rfl⟩ := h
      exact rc_i hx hb hr hlocks hS dX11_touch_24 rfl hP
    · replace h := ifn h hc
      refine lv_iload_n hx hb dX11_touch_14 rfl (lv_at hl 3 rfl) ?_
      refine lv_iconst (v := 0) hx hb dX11_touch_15 ki_0 ?_
      refine lv_iconst (v := 5) hx hb dX11_touch_16 ki_5 ?_
      obtain ⟨r_21, hr_22, h⟩ := bd1_s h
      refine sc_i hx hb hml hown hw hN (c_cf_within l v3 0 5 r_21 hr_22) g_RX11_95 hd_X11_within (rest := []) hl.1 hS dX11_touch_17 rfl rfl ⟨Nat.le_of_ble_eq_true rfl, Nat.le_of_ble_eq_true rfl⟩ rfl rfl (Nat.le_of_ble_eq_true rfl) ⟨Nat.zero_le _, Nat.zero_le _⟩ (fun H locs hk hS => ?_)
      have hP := cP_kept hP hk
      refine lv_if_ne hx hb dX11_touch_20 (tgt := 25) rfl (fun hc => ?_) (fun hc => ?_)
      · replace h := ifn h hc
        refine lv_aload_n hx hb dX11_touch_25 rfl (lv_at hl 0 rfl) ?_
        refine cg_CF_1 hx hb hw hown hK hP dX11_touch_26 ?_
        refine lv_iload_n hx hb dX11_touch_29 rfl (lv_at hl 1 rfl) ?_
        obtain ⟨hin, h⟩ := ck_s h
        refine cd_drawers hx hb hK hP hin dX11_touch_30 ?_
        refine lv_lconst (v := 0) hx hb dX11_touch_31 kl_0 ?_
        refine W.lcmp hx hb dX11_touch_32 ?_
        refine lv_if_eq hx hb dX11_touch_33 (tgt := 47) rfl (fun hc => ?_) (fun hc => ?_)
        · replace h := ifp h ((lg_cmp_eq _ _).mp hc)
          refine lv_bipush (v := (-2)) hx hb dX11_touch_47 kb_m2 ?_
          simp only [Option.some.injEq, Prod.mk.injEq] at h
          obtain ⟨rfl, rfl, rfl, rfl, rfl, rfl, rfl, rfl⟩ := h
          exact rc_i hx hb hr hlocks hS dX11_touch_49 rfl hP
        · replace h := ifn h (fun q => hc ((lg_cmp_eq _ _).mpr q))
          refine lv_aload_n hx hb dX11_touch_36 rfl (lv_at hl 0 rfl) ?_
          refine cg_CF_1 hx hb hw hown hK hP dX11_touch_37 ?_
          refine lv_iload_n hx hb dX11_touch_40 rfl (lv_at hl 2 rfl) ?_
          obtain ⟨hin, h⟩ := ck_s h
          refine cd_drawers hx hb hK hP hin dX11_touch_41 ?_
          refine lv_lconst (v := 0) hx hb dX11_touch_42 kl_0 ?_
          refine W.lcmp hx hb dX11_touch_43 ?_
          refine lv_if_ne hx hb dX11_touch_44 (tgt := 50) rfl (fun hc => ?_) (fun hc => ?_)
          · replace h := ifn h (fun q => hc ((lg_cmp_eq _ _).mpr q))
            refine lv_aload_n hx hb dX11_touch_50 rfl (lv_at hl 0 rfl) ?_
            refine cg_CF_10 hx hb hw hown hK hP dX11_touch_51 ?_
            refine lv_aload_n hx hb dX11_touch_54 rfl (lv_at hl 0 rfl) ?_
            refine cg_CF_1 hx hb hw hown hK hP dX11_touch_55 ?_
            refine lv_iload_n hx hb dX11_touch_58 rfl (lv_at hl 1 rfl) ?_
            obtain ⟨hin, h⟩ := ck_s h
            refine cd_drawers hx hb hK hP hin dX11_touch_59 ?_
            refine lv_aload_n hx hb dX11_touch_60 rfl (lv_at hl 0 rfl) ?_
            refine cg_CF_1 hx hb hw hown hK hP dX11_touch_61 ?_
            refine lv_iload_n hx hb dX11_touch_64 rfl (lv_at hl 2 rfl) ?_
            obtain ⟨hin, h⟩ := ck_s h
            refine cd_drawers hx hb hK hP hin dX11_touch_65 ?_
            obtain ⟨x_over_23, x_touch_24, x_most_25, x_mU_26, x_mV_27, x_area_28, a_overlaps_29, hr_30, h⟩ := bd7_s h
            refine hv_v hx hb hml hown hw cB_bl (cB_of hN hK hP) (cr_ME hK hP) (c_me_measure l D ct ad hI (a_drawers v1.toNatClampNeg) (a_drawers v2.toNatClampNeg) x_over_23 x_touch_24 x_most_25 x_mU_26 x_mV_27 x_area_28 a_overlaps_29 hr_30) g_RX11_274 ⟨rfl, hd_X4_measure⟩ (rest := []) hl.1 hS (fun q h => h) dX11_touch_66 rfl rfl ⟨Nat.le_of_ble_eq_true rfl, Nat.le_of_ble_eq_true rfl⟩ rfl rfl (Nat.le_of_ble_eq_true rfl) ⟨Nat.zero_le _, Nat.zero_le _⟩ (fun H locs hP _ hS => ?_)
            refine lv_aload_n hx hb dX11_touch_69 rfl (lv_at hl 0 rfl) ?_
            refine cg_CF_10 hx hb hw hown hK hP dX11_touch_70 ?_
            refine lv_iload_n hx hb dX11_touch_73 rfl (lv_at hl 3 rfl) ?_
            obtain ⟨r_31, hr_32, h⟩ := bd1_s h
            refine hv_i hx hb hml hown hw cB_bl (cB_of hN hK hP) (cr_ME hK hP) (c_me_measured l D ct ad hI v3 r_31 hr_32) g_RX11_278 ⟨rfl, hd_X4_measured⟩ (rest := []) hl.1 hS (fun q h => h) dX11_touch_74 rfl rfl ⟨Nat.le_of_ble_eq_true rfl, Nat.le_of_ble_eq_true rfl⟩ rfl rfl (Nat.le_of_ble_eq_true rfl) ⟨Nat.zero_le _, Nat.zero_le _⟩ (fun H locs hP _ hS => ?_)
            simp only [Option.some.injEq, Prod.mk.injEq] at h
            obtain ⟨rfl, rfl, rfl, rfl, rfl, rfl, rfl, rfl⟩ := h
            exact rc_i hx hb hr hlocks hS dX11_touch_77 rfl hP
          · replace h := ifp h ((lg_cmp_eq _ _).mp hc)
            refine lv_bipush (v := (-2)) hx hb dX11_touch_47 kb_m2 ?_
            simp only [Option.some.injEq, Prod.mk.injEq] at h
            obtain ⟨rfl, rfl, rfl, rfl, rfl, rfl, rfl, rfl⟩ := h
            exact rc_i hx hb hr hlocks hS dX11_touch_49 rfl hP
      · replace h := ifp h hc
        refine lv_iconst (v := (-1)) hx hb dX11_touch_23 ki_m1 ?_
        simp only [Option.some.injEq, Prod.mk.injEq] at h
        obtain ⟨rfl, rfl, rfl, rfl, rfl, rfl, rfl, rfl⟩ := h
        exact rc_i hx hb hr hlocks hS dX11_touch_24 rfl hP
noncomputable def cf_count_J56 (k28 : Int32 → Int32 → Int32 → Option (Int32)) (x_fed : Int32) (a_drawers : Nat → Int64) (v1 : Int32) (v3 : Int32) (v4 : Int32) (t0 : Int32) (t1 : Int32) : Option (Int32) :=
  nm (t0 ||| t1 : Int32) fun v2_1 =>
  ck v4 8 <|
  bd1 (jl_bitCount (a_drawers v4.toNatClampNeg)) fun r_2 =>
  nm (v3 + r_2 : Int32) fun v3_4 =>
  nm (v4 + Int32.ofInt 1) fun v4_5 =>
  k28 v2_1 v3_4 v4_5
noncomputable def cf_count_B28 (v1 : Int32) (x_fed : Int32) (a_drawers : Nat → Int64)  (k28 : Int32 → Int32 → Int32 → Option (Int32)) (v2 : Int32) (v3 : Int32) (v4 : Int32) : Option (Int32) :=
  if 8 ≤ v4 then (if v1 = 0 then (some (v2)) else
  some (v3)) else
  ck v4 8 <|
  if (a_drawers v4.toNatClampNeg) = 0 then (cf_count_J56 k28 x_fed a_drawers v1 v3 v4 v2 0) else
  cf_count_J56 k28 x_fed a_drawers v1 v3 v4 v2 (il 1 v4)
noncomputable def cf_count (v1 : Int32) (x_fed : Int32) (a_drawers : Nat → Int64) : Option (Int32) :=
  bd1 (cf_within v1 0 2) fun r_6 =>
  if r_6 = 0 then (some ((-1))) else
  if v1 = 1 then (some (x_fed)) else
  fl3 (cf_count_B28 v1 x_fed a_drawers) FU 0 0 0
set_option maxHeartbeats 4000000 in
set_option maxRecDepth 100000 in
theorem c_cf_count (l : Launch) (D : va_G) (ct : Nat → ClassId) (ad : Nat → Nat) (hI : cI ad) {x_fed x_tk x_col x_line x_rcells x_rsize x_len x_cuts x_bare x_place x_lA x_lB x_lC x_fX x_fY x_sX x_sY x_made x_fsize x_psize x_over x_touch x_most x_mU x_mV x_area : Int32} {x_board : Int64} {a_tape a_letters a_oneSided a_free a_ends a_crowds a_wmade a_firsts a_widths a_heights a_places a_next a_pnear a_table a_overlaps : Nat → Int32} {a_drawers a_kept a_items a_numbers a_marks a_near a_figures a_covered a_pcells a_matrix : Nat → Int64} (v1 : Int32) (r : Int32)  (h : cf_count v1 x_fed a_drawers = some (r)) : Met l yX11_count (wm yX11_count cX11_count 5 (some .int)) (rmm 1 22) (va_Pc [.ref (ad 0), .int v1] (cB D ct ad x_fed x_tk x_col x_line x_rcells x_rsize x_len x_cuts x_bare x_place x_lA x_lB x_lC x_fX x_fY x_sX x_sY x_made x_fsize x_psize x_over x_touch x_most x_mU x_mV x_area x_board a_tape a_letters a_oneSided a_free a_ends a_crowds a_wmade a_firsts a_widths a_heights a_places a_next a_pnear a_table a_overlaps a_drawers a_kept a_items a_numbers a_marks a_near a_figures a_covered a_pcells a_matrix)) (va_Qi (fun z (_ : Unit) => z = r) (fun _ t => cP D ct ad x_fed x_tk x_col x_line x_rcells x_rsize x_len x_cuts x_bare x_place x_lA x_lB x_lC x_fX x_fY x_sX x_sY x_made x_fsize x_psize x_over x_touch x_most x_mU x_mV x_area x_board a_tape a_letters a_oneSided a_free a_ends a_crowds a_wmade a_firsts a_widths a_heights a_places a_next a_pnear a_table a_overlaps a_drawers a_kept a_items a_numbers a_marks a_near a_figures a_covered a_pcells a_matrix t.heap) (cA ad)) 0 0 (cA ad) := by
  refine met_s (y := yX11_count) (rm := rmm 1 22) (by decide) (Nat.le_of_ble_eq_true rfl) ?_
  intro p e s m below meth c hx hb hr hw hown hlocks _ hml hB ls hl
  obtain ⟨hN, hK, hP⟩ := hB
  replace hl : lv_has ls 5 [(0, .ref (ad 0)), (1, .int v1)] := hl
  have hS : va_S (cA ad) s.heap s.heap [] := va_S.rf
  generalize (([.ref (ad 0), .int v1] : List Value).toArray) = av at hw ⊢
  rw [cf_count] at h
  have hL28 : ∀ (v1 : Int32), ∀ (x_fed : Int32), ∀ (a_drawers : Nat → Int64), ∀ (n28 : Nat) (H : Heap) (locs : List Loc) (ls : Array Slot) (v2 : Int32) (v3 : Int32) (v4 : Int32), lv_has ls 5 [(0, .ref (ad 0)), (1, .int v1), (2, .int v2), (3, .int v3), (4, .int v4)] → cP D ct ad x_fed x_tk x_col x_line x_rcells x_rsize x_len x_cuts x_bare x_place x_lA x_lB x_lC x_fX x_fY x_sX x_sY x_made x_fsize x_psize x_over x_touch x_most x_mU x_mV x_area x_board a_tape a_letters a_oneSided a_free a_ends a_crowds a_wmade a_firsts a_widths a_heights a_places a_next a_pnear a_table a_overlaps a_drawers a_kept a_items a_numbers a_marks a_near a_figures a_covered a_pcells a_matrix H → va_S (cA ad) s.heap H locs → fl3 (cf_count_B28 v1 x_fed a_drawers) n28 v2 v3 v4 = some (r) → W p l e (rmm 1 22) s m av below meth c H locs 0 0 (MQ below (va_Qi (fun z (_ : Unit) => z = r) (fun _ t => cP D ct ad x_fed x_tk x_col x_line x_rcells x_rsize x_len x_cuts x_bare x_place x_lA x_lB x_lC x_fX x_fY x_sX x_sY x_made x_fsize x_psize x_over x_touch x_most x_mU x_mV x_area x_board a_tape a_letters a_oneSided a_free a_ends a_crowds a_wmade a_firsts a_widths a_heights a_places a_next a_pnear a_table a_overlaps a_drawers a_kept a_items a_numbers a_marks a_near a_figures a_covered a_pcells a_matrix t.heap) (cA ad)) av s 0 0 (cA ad)) (F0 m 28 ls []) := by
    intro v1 x_fed a_drawers n28
    induction n28 with
    | zero => intro H locs ls v2 v3 v4 hl hP hS h; cases h
    | succ n28 ih28 =>
      intro H locs ls v2 v3 v4 hl hP hS h
      replace h : cf_count_B28 v1 x_fed a_drawers (fl3 (cf_count_B28 v1 x_fed a_drawers) n28) v2 v3 v4 = some (r) := h
      generalize fl3 (cf_count_B28 v1 x_fed a_drawers) n28 = k28 at h ih28
      have hJ56 : ∀ (H : Heap) (locs : List Loc) (ls : Array Slot) (v3 : Int32) (v4 : Int32) (t0 : Int32) (t1 : Int32), lv_has ls 5 [(0, .ref (ad 0)), (1, .int v1), (3, .int v3), (4, .int v4)] → cP D ct ad x_fed x_tk x_col x_line x_rcells x_rsize x_len x_cuts x_bare x_place x_lA x_lB x_lC x_fX x_fY x_sX x_sY x_made x_fsize x_psize x_over x_touch x_most x_mU x_mV x_area x_board a_tape a_letters a_oneSided a_free a_ends a_crowds a_wmade a_firsts a_widths a_heights a_places a_next a_pnear a_table a_overlaps a_drawers a_kept a_items a_numbers a_marks a_near a_figures a_covered a_pcells a_matrix H → va_S (cA ad) s.heap H locs → cf_count_J56 k28 x_fed a_drawers v1 v3 v4 t0 t1 = some (r) → W p l e (rmm 1 22) s m av below meth c H locs 0 0 (MQ below (va_Qi (fun z (_ : Unit) => z = r) (fun _ t => cP D ct ad x_fed x_tk x_col x_line x_rcells x_rsize x_len x_cuts x_bare x_place x_lA x_lB x_lC x_fX x_fY x_sX x_sY x_made x_fsize x_psize x_over x_touch x_most x_mU x_mV x_area x_board a_tape a_letters a_oneSided a_free a_ends a_crowds a_wmade a_firsts a_widths a_heights a_places a_next a_pnear a_table a_overlaps a_drawers a_kept a_items a_numbers a_marks a_near a_figures a_covered a_pcells a_matrix t.heap) (cA ad)) av s 0 0 (cA ad)) (F0 m 56 ls [.int t1, .int t0]) := by
        intro H locs ls v3 v4 t0 t1 hl hP hS h
        rw [cf_count_J56] at h
        refine lv_ior hx hb dX11_count_56 ?_
        obtain ⟨v2_8, ev2_8, h⟩ := nm_s h
        refine nmI ev2_8 ?_
        refine lv_istore_n hx hb dX11_count_57 rfl hl (Nat.le_of_ble_eq_true rfl) (lv' := [(2, .int v2_8), (0, .ref (ad 0)), (1, .int v1), (3, .int v3), (4, .int v4)]) rfl (fun ls hl => ?_)
        refine lv_iload_n hx hb dX11_count_58 rfl (lv_at hl 3 rfl) ?_
        refine lv_aload_n hx hb dX11_count_59 rfl (lv_at hl 1 rfl) ?_
        refine cg_CF_1 hx hb hw hown hK hP dX11_count_60 ?_
        refine lv_iload hx hb dX11_count_63 (lv_at hl 4 rfl) ?_
        obtain ⟨hin, h⟩ := ck_s h
        refine cd_drawers hx hb hK hP hin dX11_count_65 ?_
        obtain ⟨r_9, hr_10, h⟩ := bd1_s h
        refine sc_i hx hb hml hown hw hN (c_jl_bitCount l (a_drawers v4.toNatClampNeg) r_9 hr_10) g_RX11_164 hd_J13_bitCount_95d88 (rest := [.int v3]) hl.1 hS dX11_count_66 rfl rfl ⟨Nat.le_of_ble_eq_true rfl, Nat.le_of_ble_eq_true rfl⟩ rfl rfl (Nat.le_of_ble_eq_true rfl) ⟨Nat.zero_le _, Nat.zero_le _⟩ (fun H locs hk hS => ?_)
        have hP := cP_kept hP hk
        refine lv_iadd hx hb dX11_count_69 ?_
        obtain ⟨v3_11, ev3_11, h⟩ := nm_s h
        refine nmI ev3_11 ?_
        refine lv_istore_n hx hb dX11_count_70 rfl hl (Nat.le_of_ble_eq_true rfl) (lv' := [(3, .int v3_11), (2, .int v2_8), (0, .ref (ad 0)), (1, .int v1), (4, .int v4)]) rfl (fun ls hl => ?_)
        obtain ⟨v4_12, ev4_12, h⟩ := nm_s h
        refine lv_iinc hx hb dX11_count_71 hl (k := 4) rfl ev4_12.symm (Nat.le_of_ble_eq_true rfl) (lv' := [(4, .int v4_12), (3, .int v3_11), (2, .int v2_8), (0, .ref (ad 0)), (1, .int v1)]) rfl (fun ls hl => ?_)
        refine lv_goto hx hb dX11_count_74 (tgt := 28) rfl ?_
        exact ih28 _ _ _ v2_8 v3_11 v4_12 (lv_sub hl [3, 4, 2, 1, 0] rfl) hP hS h
      rw [cf_count_B28] at h
      refine lv_iload hx hb dX11_count_28 (lv_at hl 4 rfl) ?_
      refine lv_bipush (v := 8) hx hb dX11_count_30 kb_8 ?_
      refine lv_icmp_ge hx hb dX11_count_32 (tgt := 77) rfl (fun hc => ?_) (fun hc => ?_)
      · replace h := ifp h hc
        refine lv_iload_n hx hb dX11_count_77 rfl (lv_at hl 1 rfl) ?_
        refine lv_if_ne hx hb dX11_count_78 (tgt := 85) rfl (fun hc => ?_) (fun hc => ?_)
        · replace h := ifn h hc
          refine lv_iload_n hx hb dX11_count_85 rfl (lv_at hl 3 rfl) ?_
          replace h := Option.some.inj h
          subst h
          exact rc_i hx hb hr hlocks hS dX11_count_86 rfl hP
        · replace h := ifp h hc
          refine lv_iload_n hx hb dX11_count_81 rfl (lv_at hl 2 rfl) ?_
          refine lv_goto hx hb dX11_count_82 (tgt := 86) rfl ?_
          replace h := Option.some.inj h
          subst h
          exact rc_i hx hb hr hlocks hS dX11_count_86 rfl hP
      · replace h := ifn h hc
        refine lv_iload_n hx hb dX11_count_35 rfl (lv_at hl 2 rfl) ?_
        refine lv_aload_n hx hb dX11_count_36 rfl (lv_at hl 0 rfl) ?_
        refine cg_CF_1 hx hb hw hown hK hP dX11_count_37 ?_
        refine lv_iload hx hb dX11_count_40 (lv_at hl 4 rfl) ?_
        obtain ⟨hin, h⟩ := ck_s h
        refine cd_drawers hx hb hK hP hin dX11_count_42 ?_
        refine lv_lconst (v := 0) hx hb dX11_count_43 kl_0 ?_
        refine W.lcmp hx hb dX11_count_44 ?_
        refine lv_if_ne hx hb dX11_count_45 (tgt := 52) rfl (fun hc => ?_) (fun hc => ?_)
        · replace h := ifn h (fun q => hc ((lg_cmp_eq _ _).mpr q))
          refine lv_iconst (v := 1) hx hb dX11_count_52 ki_1 ?_
          refine lv_iload hx hb dX11_count_53 (lv_at hl 4 rfl) ?_
          refine lv_ishl hx hb dX11_count_55 ?_
          refine nmI (v := il 1 v4) rfl ?_
          exact hJ56 _ _ _ v3 v4 v2 (il 1 v4) (lv_sub hl [0, 1, 3, 4] rfl) hP hS h
        · replace h := ifp h ((lg_cmp_eq _ _).mp hc)
          refine lv_iconst (v := 0) hx hb dX11_count_48 ki_0 ?_
          refine lv_goto hx hb dX11_count_49 (tgt := 56) rfl ?_
          exact hJ56 _ _ _ v3 v4 v2 0 (lv_sub hl [0, 1, 3, 4] rfl) hP hS h
  refine lv_iload_n hx hb dX11_count_0 rfl (lv_at hl 1 rfl) ?_
  refine lv_iconst (v := 0) hx hb dX11_count_1 ki_0 ?_
  refine lv_iconst (v := 2) hx hb dX11_count_2 ki_2 ?_
  obtain ⟨r_13, hr_14, h⟩ := bd1_s h
  refine sc_i hx hb hml hown hw hN (c_cf_within l v1 0 2 r_13 hr_14) g_RX11_95 hd_X11_within (rest := []) hl.1 hS dX11_count_3 rfl rfl ⟨Nat.le_of_ble_eq_true rfl, Nat.le_of_ble_eq_true rfl⟩ rfl rfl (Nat.le_of_ble_eq_true rfl) ⟨Nat.zero_le _, Nat.zero_le _⟩ (fun H locs hk hS => ?_)
  have hP := cP_kept hP hk
  refine lv_if_ne hx hb dX11_count_6 (tgt := 11) rfl (fun hc => ?_) (fun hc => ?_)
  · replace h := ifn h hc
    refine lv_iload_n hx hb dX11_count_11 rfl (lv_at hl 1 rfl) ?_
    refine lv_iconst (v := 1) hx hb dX11_count_12 ki_1 ?_
    refine lv_icmp_ne hx hb dX11_count_13 (tgt := 21) rfl (fun hc => ?_) (fun hc => ?_)
    · replace h := ifn h hc
      refine lv_iconst (v := 0) hx hb dX11_count_21 ki_0 ?_
      refine lv_istore_n hx hb dX11_count_22 rfl hl (Nat.le_of_ble_eq_true rfl) (lv' := [(2, .int 0), (0, .ref (ad 0)), (1, .int v1)]) rfl (fun ls hl => ?_)
      refine lv_iconst (v := 0) hx hb dX11_count_23 ki_0 ?_
      refine lv_istore_n hx hb dX11_count_24 rfl hl (Nat.le_of_ble_eq_true rfl) (lv' := [(3, .int 0), (2, .int 0), (0, .ref (ad 0)), (1, .int v1)]) rfl (fun ls hl => ?_)
      refine lv_iconst (v := 0) hx hb dX11_count_25 ki_0 ?_
      refine lv_istore hx hb dX11_count_26 hl (Nat.le_of_ble_eq_true rfl) (lv' := [(4, .int 0), (3, .int 0), (2, .int 0), (0, .ref (ad 0)), (1, .int v1)]) rfl (fun ls hl => ?_)
      exact hL28 v1 x_fed a_drawers FU _ _ _ 0 0 0 (lv_sub hl [3, 4, 2, 1, 0] rfl) hP hS h
    · replace h := ifp h hc
      refine lv_aload_n hx hb dX11_count_16 rfl (lv_at hl 0 rfl) ?_
      refine cg_CF_11 hx hb hw hown hK hP dX11_count_17 ?_
      replace h := Option.some.inj h
      subst h
      exact rc_i hx hb hr hlocks hS dX11_count_20 rfl hP
  · replace h := ifp h hc
    refine lv_iconst (v := (-1)) hx hb dX11_count_9 ki_m1 ?_
    replace h := Option.some.inj h
    subst h
    exact rc_i hx hb hr hlocks hS dX11_count_10 rfl hP
