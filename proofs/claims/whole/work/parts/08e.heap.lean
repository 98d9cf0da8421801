noncomputable def cf_alike (v1 : Int32) (v2 : Int32) (v3 : Int32) (a_drawers : Nat → Int64) : Option (Int32) :=
  bd1 (cf_isDrawer v1) fun r_1 =>
  if r_1 = 0 then (some ((-1))) else
  bd1 (cf_isDrawer v2) fun r_3 =>
  if r_3 = 0 then (some ((-1))) else
  bd1 (cf_isKind v3) fun r_5 =>
  if r_5 = 0 then (some ((-1))) else
  ck v1 8 <|
  if (a_drawers v1.toNatClampNeg) = 0 then (some ((-2))) else
  ck v2 8 <|
  if (a_drawers v2.toNatClampNeg) = 0 then (some ((-2))) else
  ck v1 8 <|
  bd1 (gr_least (a_drawers v1.toNatClampNeg) v3) fun r_7 =>
  ck v2 8 <|
  bd1 (gr_least (a_drawers v2.toNatClampNeg) v3) fun r_9 =>
  if r_7 = r_9 then (some (1)) else
  some (0)
set_option maxHeartbeats 4000000 in
set_option maxRecDepth 100000 in
theorem c_cf_alike (l : Launch) (D : va_G) (ct : Nat → ClassId) (ad : Nat → Nat) (hI : cI ad) {x_fed x_tk x_col x_line x_rcells x_rsize x_len x_cuts x_bare x_place x_lA x_lB x_lC x_fX x_fY x_sX x_sY x_made x_fsize x_psize x_over x_touch x_most x_mU x_mV x_area : Int32} {x_board : Int64} {a_tape a_letters a_oneSided a_free a_ends a_crowds a_wmade a_firsts a_widths a_heights a_places a_next a_pnear a_table a_overlaps : Nat → Int32} {a_drawers a_kept a_items a_numbers a_marks a_near a_figures a_covered a_pcells a_matrix : Nat → Int64} (v1 : Int32) (v2 : Int32) (v3 : Int32) (r : Int32)  (h : cf_alike v1 v2 v3 a_drawers = some (r)) : Met l yX11_alike (wm yX11_alike cX11_alike 4 (some .int)) (rmm 4 96) (va_Pc [.ref (ad 0), .int v1, .int v2, .int v3] (cB D ct ad x_fed x_tk x_col x_line x_rcells x_rsize x_len x_cuts x_bare x_place x_lA x_lB x_lC x_fX x_fY x_sX x_sY x_made x_fsize x_psize x_over x_touch x_most x_mU x_mV x_area x_board a_tape a_letters a_oneSided a_free a_ends a_crowds a_wmade a_firsts a_widths a_heights a_places a_next a_pnear a_table a_overlaps a_drawers a_kept a_items a_numbers a_marks a_near a_figures a_covered a_pcells a_matrix)) (va_Qi (fun z (_ : Unit) => z = r) (fun _ t => cP D ct ad x_fed x_tk x_col x_line x_rcells x_rsize x_len x_cuts x_bare x_place x_lA x_lB x_lC x_fX x_fY x_sX x_sY x_made x_fsize x_psize x_over x_touch x_most x_mU x_mV x_area x_board a_tape a_letters a_oneSided a_free a_ends a_crowds a_wmade a_firsts a_widths a_heights a_places a_next a_pnear a_table a_overlaps a_drawers a_kept a_items a_numbers a_marks a_near a_figures a_covered a_pcells a_matrix t.heap) (cA ad)) 0 0 (cA ad) := by
  refine met_s (y := yX11_alike) (rm := rmm 4 96) (by decide) (Nat.le_of_ble_eq_true rfl) ?_
  intro p e s m below meth c hx hb hr hw hown hlocks _ hml hB ls hl
  obtain ⟨hN, hK, hP⟩ := hB
  replace hl : lv_has ls 4 [(0, .ref (ad 0)), (1, .int v1), (2, .int v2), (3, .int v3)] := hl
  have hS : va_S (cA ad) s.heap s.heap [] := va_S.rf
  generalize (([.ref (ad 0), .int v1, .int v2, .int v3] : List Value).toArray) = av at hw ⊢
  rw [cf_alike] at h
  refine lv_iload_n hx hb dX11_alike_0 rfl (lv_at hl 1 rfl) ?_
  obtain ⟨r_11, hr_12, h⟩ := bd1_s h
  refine sc_i hx hb hml hown hw hN (c_cf_isDrawer l v1 r_11 hr_12) g_RX11_91 hd_X11_isDrawer (rest := []) hl.1 hS dX11_alike_1 rfl rfl ⟨Nat.le_of_ble_eq_true rfl, Nat.le_of_ble_eq_true rfl⟩ rfl rfl (Nat.le_of_ble_eq_true rfl) ⟨Nat.zero_le _, Nat.zero_le _⟩ (fun H locs hk hS => ?_)
  have hP := cP_kept hP hk
  refine lv_if_eq hx hb dX11_alike_4 (tgt := 21) rfl (fun hc => ?_) (fun hc => ?_)
  · replace h := ifp h hc
    refine lv_iconst (v := (-1)) hx hb dX11_alike_21 ki_m1 ?_
    replace h := Option.some.inj h
    subst h
    exact rc_i hx hb hr hlocks hS dX11_alike_22 rfl hP
  · replace h := ifn h hc
    refine lv_iload_n hx hb dX11_alike_7 rfl (lv_at hl 2 rfl) ?_
    obtain ⟨r_13, hr_14, h⟩ := bd1_s h
    refine sc_i hx hb hml hown hw hN (c_cf_isDrawer l v2 r_13 hr_14) g_RX11_91 hd_X11_isDrawer (rest := []) hl.1 hS dX11_alike_8 rfl rfl ⟨Nat.le_of_ble_eq_true rfl, Nat.le_of_ble_eq_true rfl⟩ rfl rfl (Nat.le_of_ble_eq_true rfl) ⟨Nat.zero_le _, Nat.zero_le _⟩ (fun H locs hk hS => ?_)
    have hP := cP_kept hP hk
    refine lv_if_eq hx hb dX11_alike_11 (tgt := 21) rfl (fun hc => ?_) (fun hc => ?_)
    · replace h := ifp h hc
      refine lv_iconst (v := (-1)) hx hb dX11_alike_21 ki_m1 ?_
      replace h := Option.some.inj h
      subst h
      exact rc_i hx hb hr hlocks hS dX11_alike_22 rfl hP
    · replace h := ifn h hc
      refine lv_iload_n hx hb dX11_alike_14 rfl (lv_at hl 3 rfl) ?_
      obtain ⟨r_15, hr_16, h⟩ := bd1_s h
      refine sc_i hx hb hml hown hw hN (c_cf_isKind l v3 r_15 hr_16) g_RX11_127 hd_X11_isKind (rest := []) hl.1 hS dX11_alike_15 rfl rfl ⟨Nat.le_of_ble_eq_true rfl, Nat.le_of_ble_eq_true rfl⟩ rfl rfl (Nat.le_of_ble_eq_true rfl) ⟨Nat.zero_le _, Nat.zero_le _⟩ (fun H locs hk hS => ?_)
      have hP := cP_kept hP hk
      refine lv_if_ne hx hb dX11_alike_18 (tgt := 23) rfl (fun hc => ?_) (fun hc => ?_)
      · replace h := ifn h hc
        refine lv_aload_n hx hb dX11_alike_23 rfl (lv_at hl 0 rfl) ?_
        refine cg_CF_1 hx hb hw hown hK hP dX11_alike_24 ?_
        refine lv_iload_n hx hb dX11_alike_27 rfl (lv_at hl 1 rfl) ?_
        obtain ⟨hin, h⟩ := ck_s h
        refine cd_drawers hx hb hK hP hin dX11_alike_28 ?_
        refine lv_lconst (v := 0) hx hb dX11_alike_29 kl_0 ?_
        refine W.lcmp hx hb dX11_alike_30 ?_
        refine lv_if_eq hx hb dX11_alike_31 (tgt := 45) rfl (fun hc => ?_) (fun hc => ?_)
        · replace h := ifp h ((lg_cmp_eq _ _).mp hc)
          refine lv_bipush (v := (-2)) hx hb dX11_alike_45 kb_m2 ?_
          replace h := Option.some.inj h
          subst h
          exact rc_i hx hb hr hlocks hS dX11_alike_47 rfl hP
        · replace h := ifn h (fun q => hc ((lg_cmp_eq _ _).mpr q))
          refine lv_aload_n hx hb dX11_alike_34 rfl (lv_at hl 0 rfl) ?_
          refine cg_CF_1 hx hb hw hown hK hP dX11_alike_35 ?_
          refine lv_iload_n hx hb dX11_alike_38 rfl (lv_at hl 2 rfl) ?_
          obtain ⟨hin, h⟩ := ck_s h
          refine cd_drawers hx hb hK hP hin dX11_alike_39 ?_
          refine lv_lconst (v := 0) hx hb dX11_alike_40 kl_0 ?_
          refine W.lcmp hx hb dX11_alike_41 ?_
          refine lv_if_ne hx hb dX11_alike_42 (tgt := 48) rfl (fun hc => ?_) (fun hc => ?_)
          · replace h := ifn h (fun q => hc ((lg_cmp_eq _ _).mpr q))
            refine lv_aload_n hx hb dX11_alike_48 rfl (lv_at hl 0 rfl) ?_
            refine cg_CF_1 hx hb hw hown hK hP dX11_alike_49 ?_
            refine lv_iload_n hx hb dX11_alike_52 rfl (lv_at hl 1 rfl) ?_
            obtain ⟨hin, h⟩ := ck_s h
            refine cd_drawers hx hb hK hP hin dX11_alike_53 ?_
            refine lv_iload_n hx hb dX11_alike_54 rfl (lv_at hl 3 rfl) ?_
            obtain ⟨r_17, hr_18, h⟩ := bd1_s h
            refine sc_l hx hb hml hown hw hN (c_gr_least l (a_drawers v1.toNatClampNeg) v3 r_17 hr_18) g_RX11_134 hd_X2_least (rest := []) hl.1 hS dX11_alike_55 rfl rfl ⟨Nat.le_of_ble_eq_true rfl, Nat.le_of_ble_eq_true rfl⟩ rfl rfl (Nat.le_of_ble_eq_true rfl) ⟨Nat.zero_le _, Nat.zero_le _⟩ (fun H locs hk hS => ?_)
            have hP := cP_kept hP hk
            refine lv_aload_n hx hb dX11_alike_58 rfl (lv_at hl 0 rfl) ?_
            refine cg_CF_1 hx hb hw hown hK hP dX11_alike_59 ?_
            refine lv_iload_n hx hb dX11_alike_62 rfl (lv_at hl 2 rfl) ?_
            obtain ⟨hin, h⟩ := ck_s h
            refine cd_drawers hx hb hK hP hin dX11_alike_63 ?_
            refine lv_iload_n hx hb dX11_alike_64 rfl (lv_at hl 3 rfl) ?_
            obtain ⟨r_19, hr_20, h⟩ := bd1_s h
            refine sc_l hx hb hml hown hw hN (c_gr_least l (a_drawers v2.toNatClampNeg) v3 r_19 hr_20) g_RX11_134 hd_X2_least (rest := [.long r_17]) hl.1 hS dX11_alike_65 rfl rfl ⟨Nat.le_of_ble_eq_true rfl, Nat.le_of_ble_eq_true rfl⟩ rfl rfl (Nat.le_of_ble_eq_true rfl) ⟨Nat.zero_le _, Nat.zero_le _⟩ (fun H locs hk hS => ?_)
            have hP := cP_kept hP hk
            refine W.lcmp hx hb dX11_alike_68 ?_
            refine lv_if_ne hx hb dX11_alike_69 (tgt := 76) rfl (fun hc => ?_) (fun hc => ?_)
            · replace h := ifn h (fun q => hc ((lg_cmp_eq _ _).mpr q))
              refine lv_iconst (v := 0) hx hb dX11_alike_76 ki_0 ?_
              replace h := Option.some.inj h
              subst h
              exact rc_i hx hb hr hlocks hS dX11_alike_77 rfl hP
            · replace h := ifp h ((lg_cmp_eq _ _).mp hc)
              refine lv_iconst (v := 1) hx hb dX11_alike_72 ki_1 ?_
              refine lv_goto hx hb dX11_alike_73 (tgt := 77) rfl ?_
              replace h := Option.some.inj h
              subst h
              exact rc_i hx hb hr hlocks hS dX11_alike_77 rfl hP
          · replace h := ifp h ((lg_cmp_eq _ _).mp hc)
            refine lv_bipush (v := (-2)) hx hb dX11_alike_45 kb_m2 ?_
            replace h := Option.some.inj h
            subst h
            exact rc_i hx hb hr hlocks hS dX11_alike_47 rfl hP
      · replace h := ifp h hc
        refine lv_iconst (v := (-1)) hx hb dX11_alike_21 ki_m1 ?_
        replace h := Option.some.inj h
        subst h
        exact rc_i hx hb hr hlocks hS dX11_alike_22 rfl hP
noncomputable def cf_change (v1 : Int32) (v2 : Int32) (v3 : Int32) (v4 : Int32) (a_drawers : Nat → Int64) : Option (Int32 × (Nat → Int64)) :=
  bd1 (cf_isDrawer v1) fun r_1 =>
  if r_1 = 0 then (some ((-1), a_drawers)) else
  bd1 (cf_within v2 (-1) 7) fun r_3 =>
  if r_3 = 0 then (some ((-1), a_drawers)) else
  bd1 (cf_within v3 (-1) 7) fun r_5 =>
  if r_5 = 0 then (some ((-1), a_drawers)) else
  ck v1 8 <|
  if (a_drawers v1.toNatClampNeg) = 0 then (some ((-2), a_drawers)) else
  ck v1 8 <|
  bd1 (gr_has (a_drawers v1.toNatClampNeg) v2 v3) fun r_7 =>
  if r_7 = v4 then (some ((-3), a_drawers)) else
  if v4 = 0 then (ck v1 8 <|
  bd1 (gr_moved 1 v2 v3) fun r_9 =>
  bd2 (cf_store v1 ((a_drawers v1.toNatClampNeg) &&& (r_9 ^^^ (((-1) : Int64)))) a_drawers) fun r_11 a_drawers_12 =>
  some (r_11, a_drawers_12)) else
  ck v1 8 <|
  bd1 (gr_united (a_drawers v1.toNatClampNeg) 1 v2 v3) fun r_14 =>
  bd2 (cf_store v1 r_14 a_drawers) fun r_16 a_drawers_17 =>
  some (r_16, a_drawers_17)
set_option maxHeartbeats 4000000 in
set_option maxRecDepth 100000 in
theorem c_cf_change (l : Launch) (D : va_G) (ct : Nat → ClassId) (ad : Nat → Nat) (hI : cI ad) {x_fed x_tk x_col x_line x_rcells x_rsize x_len x_cuts x_bare x_place x_lA x_lB x_lC x_fX x_fY x_sX x_sY x_made x_fsize x_psize x_over x_touch x_most x_mU x_mV x_area : Int32} {x_board : Int64} {a_tape a_letters a_oneSided a_free a_ends a_crowds a_wmade a_firsts a_widths a_heights a_places a_next a_pnear a_table a_overlaps : Nat → Int32} {a_drawers a_kept a_items a_numbers a_marks a_near a_figures a_covered a_pcells a_matrix : Nat → Int64} (v1 : Int32) (v2 : Int32) (v3 : Int32) (v4 : Int32) (r : Int32) (z_a_drawers : Nat → Int64) (h : cf_change v1 v2 v3 v4 a_drawers = some (r, z_a_drawers)) : Met l yX11_change (wm yX11_change cX11_change 5 (some .int)) (rmm 5 116) (va_Pc [.ref (ad 0), .int v1, .int v2, .int v3, .int v4] (cB D ct ad x_fed x_tk x_col x_line x_rcells x_rsize x_len x_cuts x_bare x_place x_lA x_lB x_lC x_fX x_fY x_sX x_sY x_made x_fsize x_psize x_over x_touch x_most x_mU x_mV x_area x_board a_tape a_letters a_oneSided a_free a_ends a_crowds a_wmade a_firsts a_widths a_heights a_places a_next a_pnear a_table a_overlaps a_drawers a_kept a_items a_numbers a_marks a_near a_figures a_covered a_pcells a_matrix)) (va_Qi (fun z (_ : Unit) => z = r) (fun _ t => cP D ct ad x_fed x_tk x_col x_line x_rcells x_rsize x_len x_cuts x_bare x_place x_lA x_lB x_lC x_fX x_fY x_sX x_sY x_made x_fsize x_psize x_over x_touch x_most x_mU x_mV x_area x_board a_tape a_letters a_oneSided a_free a_ends a_crowds a_wmade a_firsts a_widths a_heights a_places a_next a_pnear a_table a_overlaps z_a_drawers a_kept a_items a_numbers a_marks a_near a_figures a_covered a_pcells a_matrix t.heap) (cA ad)) 0 0 (cA ad) := by
  refine met_s (y := yX11_change) (rm := rmm 5 116) (by decide) (Nat.le_of_ble_eq_true rfl) ?_
  intro p e s m below meth c hx hb hr hw hown hlocks _ hml hB ls hl
  obtain ⟨hN, hK, hP⟩ := hB
  replace hl : lv_has ls 5 [(0, .ref (ad 0)), (1, .int v1), (2, .int v2), (3, .int v3), (4, .int v4)] := hl
  have hS : va_S (cA ad) s.heap s.heap [] := va_S.rf
  generalize (([.ref (ad 0), .int v1, .int v2, .int v3, .int v4] : List Value).toArray) = av at hw ⊢
  rw [cf_change] at h
  refine lv_iload_n hx hb dX11_change_0 rfl (lv_at hl 1 rfl) ?_
  obtain ⟨r_19, hr_20, h⟩ := bd1_s h
  refine sc_i hx hb hml hown hw hN (c_cf_isDrawer l v1 r_19 hr_20) g_RX11_91 hd_X11_isDrawer (rest := []) hl.1 hS dX11_change_1 rfl rfl ⟨Nat.le_of_ble_eq_true rfl, Nat.le_of_ble_eq_true rfl⟩ rfl rfl (Nat.le_of_ble_eq_true rfl) ⟨Nat.zero_le _, Nat.zero_le _⟩ (fun H locs hk hS => ?_)
  have hP := cP_kept hP hk
  refine lv_if_eq hx hb dX11_change_4 (tgt := 27) rfl (fun hc => ?_) (fun hc => ?_)
  · replace h := ifp h hc
    refine lv_iconst (v := (-1)) hx hb dX11_change_27 ki_m1 ?_
    simp only [Option.some.injEq, Prod.mk.injEq] at h
    obtain ⟨rfl, rfl⟩ := h
    exact rc_i hx hb hr hlocks hS dX11_change_28 rfl hP
  · replace h := ifn h hc
    refine lv_iload_n hx hb dX11_change_7 rfl (lv_at hl 2 rfl) ?_
    refine lv_iconst (v := (-1)) hx hb dX11_change_8 ki_m1 ?_
    refine lv_bipush (v := 7) hx hb dX11_change_9 kb_7 ?_
    obtain ⟨r_21, hr_22, h⟩ := bd1_s h
    refine sc_i hx hb hml hown hw hN (c_cf_within l v2 (-1) 7 r_21 hr_22) g_RX11_95 hd_X11_within (rest := []) hl.1 hS dX11_change_11 rfl rfl ⟨Nat.le_of_ble_eq_true rfl, Nat.le_of_ble_eq_true rfl⟩ rfl rfl (Nat.le_of_ble_eq_true rfl) ⟨Nat.zero_le _, Nat.zero_le _⟩ (fun H locs hk hS => ?_)
    have hP := cP_kept hP hk
    refine lv_if_eq hx hb dX11_change_14 (tgt := 27) rfl (fun hc => ?_) (fun hc => ?_)
    · replace h := ifp h hc
      refine lv_iconst (v := (-1)) hx hb dX11_change_27 ki_m1 ?_
      simp only [Option.some.injEq, Prod.mk.injEq] at h
      obtain ⟨rfl, rfl⟩ := h
      exact rc_i hx hb hr hlocks hS dX11_change_28 rfl hP
    · replace h := ifn h hc
      refine lv_iload_n hx hb dX11_change_17 rfl (lv_at hl 3 rfl) ?_
      refine lv_iconst (v := (-1)) hx hb dX11_change_18 ki_m1 ?_
      refine lv_bipush (v := 7) hx hb dX11_change_19 kb_7 ?_
      obtain ⟨r_23, hr_24, h⟩ := bd1_s h
      refine sc_i hx hb hml hown hw hN (c_cf_within l v3 (-1) 7 r_23 hr_24) g_RX11_95 hd_X11_within (rest := []) hl.1 hS dX11_change_21 rfl rfl ⟨Nat.le_of_ble_eq_true rfl, Nat.le_of_ble_eq_true rfl⟩ rfl rfl (Nat.le_of_ble_eq_true rfl) ⟨Nat.zero_le _, Nat.zero_le _⟩ (fun H locs hk hS => ?_)
      have hP := cP_kept hP hk
      refine lv_if_ne hx hb dX11_change_24 (tgt := 29) rfl (fun hc => ?_) (fun hc => ?_)
      · replace h := ifn h hc
        refine lv_aload_n hx hb dX11_change_29 rfl (lv_at hl 0 rfl) ?_
        refine cg_CF_1 hx hb hw hown hK hP dX11_change_30 ?_
        refine lv_iload_n hx hb dX11_change_33 rfl (lv_at hl 1 rfl) ?_
        obtain ⟨hin, h⟩ := ck_s h
        refine cd_drawers hx hb hK hP hin dX11_change_34 ?_
        refine lv_lconst (v := 0) hx hb dX11_change_35 kl_0 ?_
        refine W.lcmp hx hb dX11_change_36 ?_
        refine lv_if_ne hx hb dX11_change_37 (tgt := 43) rfl (fun hc => ?_) (fun hc => ?_)
        · replace h := ifn h (fun q => hc ((lg_cmp_eq _ _).mpr q))
          refine lv_aload_n hx hb dX11_change_43 rfl (lv_at hl 0 rfl) ?_
          refine cg_CF_1 hx hb hw hown hK hP dX11_change_44 ?_
          refine lv_iload_n hx hb dX11_change_47 rfl (lv_at hl 1 rfl) ?_
          obtain ⟨hin, h⟩ := ck_s h
          refine cd_drawers hx hb hK hP hin dX11_change_48 ?_
          refine lv_iload_n hx hb dX11_change_49 rfl (lv_at hl 2 rfl) ?_
          refine lv_iload_n hx hb dX11_change_50 rfl (lv_at hl 3 rfl) ?_
          obtain ⟨r_25, hr_26, h⟩ := bd1_s h
          refine sc_i hx hb hml hown hw hN (c_gr_has l (a_drawers v1.toNatClampNeg) v2 v3 r_25 hr_26) g_RX11_123 hd_X2_has (rest := []) hl.1 hS dX11_change_51 rfl rfl ⟨Nat.le_of_ble_eq_true rfl, Nat.le_of_ble_eq_true rfl⟩ rfl rfl (Nat.le_of_ble_eq_true rfl) ⟨Nat.zero_le _, Nat.zero_le _⟩ (fun H locs hk hS => ?_)
          have hP := cP_kept hP hk
          refine lv_iload hx hb dX11_change_54 (lv_at hl 4 rfl) ?_
          refine lv_icmp_ne hx hb dX11_change_56 (tgt := 62) rfl (fun hc => ?_) (fun hc => ?_)
          · replace h := ifn h hc
            refine lv_iload hx hb dX11_change_62 (lv_at hl 4 rfl) ?_
            refine lv_if_eq hx hb dX11_change_64 (tgt := 87) rfl (fun hc => ?_) (fun hc => ?_)
            · replace h := ifp h hc
              refine lv_aload_n hx hb dX11_change_87 rfl (lv_at hl 0 rfl) ?_
              refine lv_iload_n hx hb dX11_change_88 rfl (lv_at hl 1 rfl) ?_
              refine lv_aload_n hx hb dX11_change_89 rfl (lv_at hl 0 rfl) ?_
              refine cg_CF_1 hx hb hw hown hK hP dX11_change_90 ?_
              refine lv_iload_n hx hb dX11_change_93 rfl (lv_at hl 1 rfl) ?_
              obtain ⟨hin, h⟩ := ck_s h
              refine cd_drawers hx hb hK hP hin dX11_change_94 ?_
              refine lv_lconst (v := 1) hx hb dX11_change_95 kl_1 ?_
              refine lv_iload_n hx hb dX11_change_96 rfl (lv_at hl 2 rfl) ?_
              refine lv_iload_n hx hb dX11_change_97 rfl (lv_at hl 3 rfl) ?_
              obtain ⟨r_27, hr_28, h⟩ := bd1_s h
              refine sc_l hx hb hml hown hw hN (c_gr_moved l 1 v2 v3 r_27 hr_28) g_RX11_145 hd_X2_moved (rest := [.long (a_drawers v1.toNatClampNeg), .int v1, .ref (ad 0)]) hl.1 hS dX11_change_98 rfl rfl ⟨Nat.le_of_ble_eq_true rfl, Nat.le_of_ble_eq_true rfl⟩ rfl rfl (Nat.le_of_ble_eq_true rfl) ⟨Nat.zero_le _, Nat.zero_le _⟩ (fun H locs hk hS => ?_)
              have hP := cP_kept hP hk
              refine lv_ldc2 hx hb hown (hw _ tw_19_13) dX11_change_101 ?_
              refine lv_lxor hx hb dX11_change_104 ?_
              refine lv_land hx hb dX11_change_105 ?_
              obtain ⟨r_29, a_drawers_30, hr_31, h⟩ := bd2_s h
              refine hv_i hx hb hml hown hw cB_bl (cB_of hN hK hP) (cr_CF hK hP) (c_cf_store l D ct ad hI v1 ((a_drawers v1.toNatClampNeg) &&& (r_27 ^^^ (((-1) : Int64)))) r_29 a_drawers_30 hr_31) g_RX11_107 ⟨rfl, hd_X11_store⟩ (rest := []) hl.1 hS (fun q h => h) dX11_change_106 rfl rfl ⟨Nat.le_of_ble_eq_true rfl, Nat.le_of_ble_eq_true rfl⟩ rfl rfl (Nat.le_of_ble_eq_true rfl) ⟨Nat.zero_le _, Nat.zero_le _⟩ (fun H locs hP _ hS => ?_)
              simp only [Option.some.injEq, Prod.mk.injEq] at h
              obtain ⟨rfl, rfl⟩ := h
              exact rc_i hx hb hr hlocks hS dX11_change_109 rfl hP
            · replace h := ifn h hc
              refine lv_aload_n hx hb dX11_change_67 rfl (lv_at hl 0 rfl) ?_
              refine lv_iload_n hx hb dX11_change_68 rfl (lv_at hl 1 rfl) ?_
              refine lv_aload_n hx hb dX11_change_69 rfl (lv_at hl 0 rfl) ?_
              refine cg_CF_1 hx hb hw hown hK hP dX11_change_70 ?_
              refine lv_iload_n hx hb dX11_change_73 rfl (lv_at hl 1 rfl) ?_
              obtain ⟨hin, h⟩ := ck_s h
              refine cd_drawers hx hb hK hP hin dX11_change_74 ?_
              refine lv_lconst (v := 1) hx hb dX11_change_75 kl_1 ?_
              refine lv_iload_n hx hb dX11_change_76 rfl (lv_at hl 2 rfl) ?_
              refine lv_iload_n hx hb dX11_change_77 rfl (lv_at hl 3 rfl) ?_
              obtain ⟨r_32, hr_33, h⟩ := bd1_s h
              refine sc_l hx hb hml hown hw hN (c_gr_united l (a_drawers v1.toNatClampNeg) 1 v2 v3 r_32 hr_33) g_RX11_141 hd_X2_united (rest := [.int v1, .ref (ad 0)]) hl.1 hS dX11_change_78 rfl rfl ⟨Nat.le_of_ble_eq_true rfl, Nat.le_of_ble_eq_true rfl⟩ rfl rfl (Nat.le_of_ble_eq_true rfl) ⟨Nat.zero_le _, Nat.zero_le _⟩ (fun H locs hk hS => ?_)
              have hP := cP_kept hP hk
              obtain ⟨r_34, a_drawers_35, hr_36, h⟩ := bd2_s h
              refine hv_i hx hb hml hown hw cB_bl (cB_of hN hK hP) (cr_CF hK hP) (c_cf_store l D ct ad hI v1 r_32 r_34 a_drawers_35 hr_36) g_RX11_107 ⟨rfl, hd_X11_store⟩ (rest := []) hl.1 hS (fun q h => h) dX11_change_81 rfl rfl ⟨Nat.le_of_ble_eq_true rfl, Nat.le_of_ble_eq_true rfl⟩ rfl rfl (Nat.le_of_ble_eq_true rfl) ⟨Nat.zero_le _, Nat.zero_le _⟩ (fun H locs hP _ hS => ?_)
              refine lv_goto hx hb dX11_change_84 (tgt := 109) rfl ?_
              simp only [Option.some.injEq, Prod.mk.injEq] at h
              obtain ⟨rfl, rfl⟩ := h
              exact rc_i hx hb hr hlocks hS dX11_change_109 rfl hP
          · replace h := ifp h hc
            refine lv_bipush (v := (-3)) hx hb dX11_change_59 kb_m3 ?_
            simp only [Option.some.injEq, Prod.mk.injEq] at h
            obtain ⟨rfl, rfl⟩ := h
            exact rc_i hx hb hr hlocks hS dX11_change_61 rfl hP
        · replace h := ifp h ((lg_cmp_eq _ _).mp hc)
          refine lv_bipush (v := (-2)) hx hb dX11_change_40 kb_m2 ?_
          simp only [Option.some.injEq, Prod.mk.injEq] at h
          obtain ⟨rfl, rfl⟩ := h
          exact rc_i hx hb hr hlocks hS dX11_change_42 rfl hP
      · replace h := ifp h hc
        refine lv_iconst (v := (-1)) hx hb dX11_change_27 ki_m1 ?_
        simp only [Option.some.injEq, Prod.mk.injEq] at h
        obtain ⟨rfl, rfl⟩ := h
        exact rc_i hx hb hr hlocks hS dX11_change_28 rfl hP
noncomputable def cf_list (v1 : Int32) (v2 : Int32) (x_made : Int32) (a_numbers : Nat → Int64) (a_oneSided : Nat → Int32) (a_free : Nat → Int32) (a_ends : Nat → Int32) : Option (Int32 × Int32 × (Nat → Int64) × (Nat → Int32) × (Nat → Int32) × (Nat → Int32)) :=
  bd1 (cf_isList v1 v2) fun r_1 =>
  if r_1 = 0 then (some ((-1), x_made, a_numbers, a_oneSided, a_free, a_ends)) else
  bd5 (ca_prepare v1 x_made a_numbers a_oneSided a_free a_ends) fun x_made_3 a_numbers_4 a_oneSided_5 a_free_6 a_ends_7 =>
  bd1 (ca_size v1 v2 a_ends_7) fun r_9 =>
  some (r_9, x_made_3, a_numbers_4, a_oneSided_5, a_free_6, a_ends_7)
set_option maxHeartbeats 4000000 in
set_option maxRecDepth 100000 in
theorem c_cf_list (l : Launch) (D : va_G) (ct : Nat → ClassId) (ad : Nat → Nat) (hI : cI ad) {x_fed x_tk x_col x_line x_rcells x_rsize x_len x_cuts x_bare x_place x_lA x_lB x_lC x_fX x_fY x_sX x_sY x_made x_fsize x_psize x_over x_touch x_most x_mU x_mV x_area : Int32} {x_board : Int64} {a_tape a_letters a_oneSided a_free a_ends a_crowds a_wmade a_firsts a_widths a_heights a_places a_next a_pnear a_table a_overlaps : Nat → Int32} {a_drawers a_kept a_items a_numbers a_marks a_near a_figures a_covered a_pcells a_matrix : Nat → Int64} (v1 : Int32) (v2 : Int32) (r : Int32) (z_x_made : Int32) (z_a_numbers : Nat → Int64) (z_a_oneSided : Nat → Int32) (z_a_free : Nat → Int32) (z_a_ends : Nat → Int32) (h : cf_list v1 v2 x_made a_numbers a_oneSided a_free a_ends = some (r, z_x_made, z_a_numbers, z_a_oneSided, z_a_free, z_a_ends)) : Met l yX11_list (wm yX11_list cX11_list 3 (some .int)) (rmm 6 144) (va_Pc [.ref (ad 0), .int v1, .int v2] (cB D ct ad x_fed x_tk x_col x_line x_rcells x_rsize x_len x_cuts x_bare x_place x_lA x_lB x_lC x_fX x_fY x_sX x_sY x_made x_fsize x_psize x_over x_touch x_most x_mU x_mV x_area x_board a_tape a_letters a_oneSided a_free a_ends a_crowds a_wmade a_firsts a_widths a_heights a_places a_next a_pnear a_table a_overlaps a_drawers a_kept a_items a_numbers a_marks a_near a_figures a_covered a_pcells a_matrix)) (va_Qi (fun z (_ : Unit) => z = r) (fun _ t => cP D ct ad x_fed x_tk x_col x_line x_rcells x_rsize x_len x_cuts x_bare x_place x_lA x_lB x_lC x_fX x_fY x_sX x_sY z_x_made x_fsize x_psize x_over x_touch x_most x_mU x_mV x_area x_board a_tape a_letters z_a_oneSided z_a_free z_a_ends a_crowds a_wmade a_firsts a_widths a_heights a_places a_next a_pnear a_table a_overlaps a_drawers a_kept a_items z_a_numbers a_marks a_near a_figures a_covered a_pcells a_matrix t.heap) (cA ad)) 0 0 (cA ad) := by
  refine met_s (y := yX11_list) (rm := rmm 6 144) (by decide) (Nat.le_of_ble_eq_true rfl) ?_
  intro p e s m below meth c hx hb hr hw hown hlocks _ hml hB ls hl
  obtain ⟨hN, hK, hP⟩ := hB
  replace hl : lv_has ls 3 [(0, .ref (ad 0)), (1, .int v1), (2, .int v2)] := hl
  have hS : va_S (cA ad) s.heap s.heap [] := va_S.rf
  generalize (([.ref (ad 0), .int v1, .int v2] : List Value).toArray) = av at hw ⊢
  rw [cf_list] at h
  refine lv_iload_n hx hb dX11_list_0 rfl (lv_at hl 1 rfl) ?_
  refine lv_iload_n hx hb dX11_list_1 rfl (lv_at hl 2 rfl) ?_
  obtain ⟨r_11, hr_12, h⟩ := bd1_s h
  refine sc_i hx hb hml hown hw hN (c_cf_isList l v1 v2 r_11 hr_12) g_RX11_149 hd_X11_isList (rest := []) hl.1 hS dX11_list_2 rfl rfl ⟨Nat.le_of_ble_eq_true rfl, Nat.le_of_ble_eq_true rfl⟩ rfl rfl (Nat.le_of_ble_eq_true rfl) ⟨Nat.zero_le _, Nat.zero_le _⟩ (fun H locs hk hS => ?_)
  have hP := cP_kept hP hk
  refine lv_if_ne hx hb dX11_list_5 (tgt := 10) rfl (fun hc => ?_) (fun hc => ?_)
  · replace h := ifn h hc
    refine lv_aload_n hx hb dX11_list_10 rfl (lv_at hl 0 rfl) ?_
    refine cg_CF_6 hx hb hw hown hK hP dX11_list_11 ?_
    refine lv_iload_n hx hb dX11_list_14 rfl (lv_at hl 1 rfl) ?_
    obtain ⟨x_made_13, a_numbers_14, a_oneSided_15, a_free_16, a_ends_17, hr_18, h⟩ := bd5_s h
    refine hv_v hx hb hml hown hw cB_bl (cB_of hN hK hP) (cr_CA hK hP) (c_ca_prepare l D ct ad hI v1 x_made_13 a_numbers_14 a_oneSided_15 a_free_16 a_ends_17 hr_18) g_RX11_153 ⟨rfl, hd_X0_prepare⟩ (rest := []) hl.1 hS (fun q h => h) dX11_list_15 rfl rfl ⟨Nat.le_of_ble_eq_true rfl, Nat.le_of_ble_eq_true rfl⟩ rfl rfl (Nat.le_of_ble_eq_true rfl) ⟨Nat.zero_le _, Nat.zero_le _⟩ (fun H locs hP _ hS => ?_)
    refine lv_aload_n hx hb dX11_list_18 rfl (lv_at hl 0 rfl) ?_
    refine cg_CF_6 hx hb hw hown hK hP dX11_list_19 ?_
    refine lv_iload_n hx hb dX11_list_22 rfl (lv_at hl 1 rfl) ?_
    refine lv_iload_n hx hb dX11_list_23 rfl (lv_at hl 2 rfl) ?_
    obtain ⟨r_19, hr_20, h⟩ := bd1_s h
    refine hv_i hx hb hml hown hw cB_bl (cB_of hN hK hP) (cr_CA hK hP) (c_ca_size l D ct ad hI v1 v2 r_19 hr_20) g_RX11_156 ⟨rfl, hd_X0_size⟩ (rest := []) hl.1 hS (fun q h => h) dX11_list_24 rfl rfl ⟨Nat.le_of_ble_eq_true rfl, Nat.le_of_ble_eq_true rfl⟩ rfl rfl (Nat.le_of_ble_eq_true rfl) ⟨Nat.zero_le _, Nat.zero_le _⟩ (fun H locs hP _ hS => ?_)
    simp only [Option.some.injEq, Prod.mk.injEq] at h
    obtain ⟨rfl, rfl, rfl, rfl, rfl, rfl⟩ := h
    exact rc_i hx hb hr hlocks hS dX11_list_27 rfl hP
  · replace h := ifp h hc
    refine lv_iconst (v := (-1)) hx hb dX11_list_8 ki_m1 ?_
    simp only [Option.some.injEq, Prod.mk.injEq] at h
    obtain ⟨rfl, rfl, rfl, rfl, rfl, rfl⟩ := h
    exact rc_i hx hb hr hlocks hS dX11_list_9 rfl hP
noncomputable def cf_listed (v1 : Int32) (v2 : Int32) (v3 : Int32) (x_made : Int32) (a_numbers : Nat → Int64) (a_oneSided : Nat → Int32) (a_free : Nat → Int32) (a_ends : Nat → Int32) : Option (Int64 × Int32 × (Nat → Int64) × (Nat → Int32) × (Nat → Int32) × (Nat → Int32)) :=
  bd1 (cf_isList v1 v2) fun r_1 =>
  if r_1 = 0 then (some (((-1) : Int64), x_made, a_numbers, a_oneSided, a_free, a_ends)) else
  if 0 ≤ v3 then (bd5 (ca_prepare v1 x_made a_numbers a_oneSided a_free a_ends) fun x_made_3 a_numbers_4 a_oneSided_5 a_free_6 a_ends_7 =>
  bd1 (ca_size v1 v2 a_ends_7) fun r_9 =>
  if r_9 ≤ v3 then (some (((-2) : Int64), x_made_3, a_numbers_4, a_oneSided_5, a_free_6, a_ends_7)) else
  bd1 (ca_at v1 v2 v3 a_numbers_4 a_oneSided_5 a_free_6 a_ends_7) fun r_11 =>
  some (r_11, x_made_3, a_numbers_4, a_oneSided_5, a_free_6, a_ends_7)) else
  some (((-1) : Int64), x_made, a_numbers, a_oneSided, a_free, a_ends)
set_option maxHeartbeats 4000000 in
set_option maxRecDepth 100000 in
theorem c_cf_listed (l : Launch) (D : va_G) (ct : Nat → ClassId) (ad : Nat → Nat) (hI : cI ad) {x_fed x_tk x_col x_line x_rcells x_rsize x_len x_cuts x_bare x_place x_lA x_lB x_lC x_fX x_fY x_sX x_sY x_made x_fsize x_psize x_over x_touch x_most x_mU x_mV x_area : Int32} {x_board : Int64} {a_tape a_letters a_oneSided a_free a_ends a_crowds a_wmade a_firsts a_widths a_heights a_places a_next a_pnear a_table a_overlaps : Nat → Int32} {a_drawers a_kept a_items a_numbers a_marks a_near a_figures a_covered a_pcells a_matrix : Nat → Int64} (v1 : Int32) (v2 : Int32) (v3 : Int32) (r : Int64) (z_x_made : Int32) (z_a_numbers : Nat → Int64) (z_a_oneSided : Nat → Int32) (z_a_free : Nat → Int32) (z_a_ends : Nat → Int32) (h : cf_listed v1 v2 v3 x_made a_numbers a_oneSided a_free a_ends = some (r, z_x_made, z_a_numbers, z_a_oneSided, z_a_free, z_a_ends)) : Met l yX11_listed (wm yX11_listed cX11_listed 4 (some .long)) (rmm 6 144) (va_Pc [.ref (ad 0), .int v1, .int v2, .int v3] (cB D ct ad x_fed x_tk x_col x_line x_rcells x_rsize x_len x_cuts x_bare x_place x_lA x_lB x_lC x_fX x_fY x_sX x_sY x_made x_fsize x_psize x_over x_touch x_most x_mU x_mV x_area x_board a_tape a_letters a_oneSided a_free a_ends a_crowds a_wmade a_firsts a_widths a_heights a_places a_next a_pnear a_table a_overlaps a_drawers a_kept a_items a_numbers a_marks a_near a_figures a_covered a_pcells a_matrix)) (va_Ql (fun z (_ : Unit) => z = r) (fun _ t => cP D ct ad x_fed x_tk x_col x_line x_rcells x_rsize x_len x_cuts x_bare x_place x_lA x_lB x_lC x_fX x_fY x_sX x_sY z_x_made x_fsize x_psize x_over x_touch x_most x_mU x_mV x_area x_board a_tape a_letters z_a_oneSided z_a_free z_a_ends a_crowds a_wmade a_firsts a_widths a_heights a_places a_next a_pnear a_table a_overlaps a_drawers a_kept a_items z_a_numbers a_marks a_near a_figures a_covered a_pcells a_matrix t.heap) (cA ad)) 0 0 (cA ad) := by
  refine met_s (y := yX11_listed) (rm := rmm 6 144) (by decide) (Nat.le_of_ble_eq_true rfl) ?_
  intro p e s m below meth c hx hb hr hw hown hlocks _ hml hB ls hl
  obtain ⟨hN, hK, hP⟩ := hB
  replace hl : lv_has ls 4 [(0, .ref (ad 0)), (1, .int v1), (2, .int v2), (3, .int v3)] := hl
  have hS : va_S (cA ad) s.heap s.heap [] := va_S.rf
  generalize (([.ref (ad 0), .int v1, .int v2, .int v3] : List Value).toArray) = av at hw ⊢
  rw [cf_listed] at h
  refine lv_iload_n hx hb dX11_listed_0 rfl (lv_at hl 1 rfl) ?_
  refine lv_iload_n hx hb dX11_listed_1 rfl (lv_at hl 2 rfl) ?_
  obtain ⟨r_13, hr_14, h⟩ := bd1_s h
  refine sc_i hx hb hml hown hw hN (c_cf_isList l v1 v2 r_13 hr_14) g_RX11_149 hd_X11_isList (rest := []) hl.1 hS dX11_listed_2 rfl rfl ⟨Nat.le_of_ble_eq_true rfl, Nat.le_of_ble_eq_true rfl⟩ rfl rfl (Nat.le_of_ble_eq_true rfl) ⟨Nat.zero_le _, Nat.zero_le _⟩ (fun H locs hk hS => ?_)
  have hP := cP_kept hP hk
  refine lv_if_eq hx hb dX11_listed_5 (tgt := 12) rfl (fun hc => ?_) (fun hc => ?_)
  · replace h := ifp h hc
    refine lv_ldc2 hx hb hown (hw _ tw_19_13) dX11_listed_12 ?_
    simp only [Option.some.injEq, Prod.mk.injEq] at h
    obtain ⟨rfl, rfl, rfl, rfl, rfl, rfl⟩ := h
    exact rc_l hx hb hr hlocks hS dX11_listed_15 rfl hP
  · replace h := ifn h hc
    refine lv_iload_n hx hb dX11_listed_8 rfl (lv_at hl 3 rfl) ?_
    refine lv_if_ge hx hb dX11_listed_9 (tgt := 16) rfl (fun hc => ?_) (fun hc => ?_)
    · replace h := ifp h hc
      refine lv_aload_n hx hb dX11_listed_16 rfl (lv_at hl 0 rfl) ?_
      refine cg_CF_6 hx hb hw hown hK hP dX11_listed_17 ?_
      refine lv_iload_n hx hb dX11_listed_20 rfl (lv_at hl 1 rfl) ?_
      obtain ⟨x_made_15, a_numbers_16, a_oneSided_17, a_free_18, a_ends_19, hr_20, h⟩ := bd5_s h
      refine hv_v hx hb hml hown hw cB_bl (cB_of hN hK hP) (cr_CA hK hP) (c_ca_prepare l D ct ad hI v1 x_made_15 a_numbers_16 a_oneSided_17 a_free_18 a_ends_19 hr_20) g_RX11_153 ⟨rfl, hd_X0_prepare⟩ (rest := []) hl.1 hS (fun q h => h) dX11_listed_21 rfl rfl ⟨Nat.le_of_ble_eq_true rfl, Nat.le_of_ble_eq_true rfl⟩ rfl rfl (Nat.le_of_ble_eq_true rfl) ⟨Nat.zero_le _, Nat.zero_le _⟩ (fun H locs hP _ hS => ?_)
      refine lv_iload_n hx hb dX11_listed_24 rfl (lv_at hl 3 rfl) ?_
      refine lv_aload_n hx hb dX11_listed_25 rfl (lv_at hl 0 rfl) ?_
      refine cg_CF_6 hx hb hw hown hK hP dX11_listed_26 ?_
      refine lv_iload_n hx hb dX11_listed_29 rfl (lv_at hl 1 rfl) ?_
      refine lv_iload_n hx hb dX11_listed_30 rfl (lv_at hl 2 rfl) ?_
      obtain ⟨r_21, hr_22, h⟩ := bd1_s h
      refine hv_i hx hb hml hown hw cB_bl (cB_of hN hK hP) (cr_CA hK hP) (c_ca_size l D ct ad hI v1 v2 r_21 hr_22) g_RX11_156 ⟨rfl, hd_X0_size⟩ (rest := [.int v3]) hl.1 hS (fun q h => h) dX11_listed_31 rfl rfl ⟨Nat.le_of_ble_eq_true rfl, Nat.le_of_ble_eq_true rfl⟩ rfl rfl (Nat.le_of_ble_eq_true rfl) ⟨Nat.zero_le _, Nat.zero_le _⟩ (fun H locs hP _ hS => ?_)
      refine lv_icmp_ge hx hb dX11_listed_34 (tgt := 50) rfl (fun hc => ?_) (fun hc => ?_)
      · replace h := ifp h hc
        refine lv_ldc2 hx hb hown (hw _ tw_19_14) dX11_listed_50 ?_
        simp only [Option.some.injEq, Prod.mk.injEq] at h
        obtain ⟨rfl, rfl, rfl, rfl, rfl, rfl⟩ := h
        exact rc_l hx hb hr hlocks hS dX11_listed_53 rfl hP
      · replace h := ifn h hc
        refine lv_aload_n hx hb dX11_listed_37 rfl (lv_at hl 0 rfl) ?_
        refine cg_CF_6 hx hb hw hown hK hP dX11_listed_38 ?_
        refine lv_iload_n hx hb dX11_listed_41 rfl (lv_at hl 1 rfl) ?_
        refine lv_iload_n hx hb dX11_listed_42 rfl (lv_at hl 2 rfl) ?_
        refine lv_iload_n hx hb dX11_listed_43 rfl (lv_at hl 3 rfl) ?_
        obtain ⟨r_23, hr_24, h⟩ := bd1_s h
        refine hv_l hx hb hml hown hw cB_bl (cB_of hN hK hP) (cr_CA hK hP) (c_ca_at l D ct ad hI v1 v2 v3 r_23 hr_24) g_RX11_160 ⟨rfl, hd_X0_at⟩ (rest := []) hl.1 hS (fun q h => h) dX11_listed_44 rfl rfl ⟨Nat.le_of_ble_eq_true rfl, Nat.le_of_ble_eq_true rfl⟩ rfl rfl (Nat.le_of_ble_eq_true rfl) ⟨Nat.zero_le _, Nat.zero_le _⟩ (fun H locs hP _ hS => ?_)
        refine lv_goto hx hb dX11_listed_47 (tgt := 53) rfl ?_
        simp only [Option.some.injEq, Prod.mk.injEq] at h
        obtain ⟨rfl, rfl, rfl, rfl, rfl, rfl⟩ := h
        exact rc_l hx hb hr hlocks hS dX11_listed_53 rfl hP
    · replace h := ifn h hc
      refine lv_ldc2 hx hb hown (hw _ tw_19_13) dX11_listed_12 ?_
      simp only [Option.some.injEq, Prod.mk.injEq] at h
      obtain ⟨rfl, rfl, rfl, rfl, rfl, rfl⟩ := h
      exact rc_l hx hb hr hlocks hS dX11_listed_15 rfl hP
noncomputable def cf_place (v1 : Int32) (v2 : Int32) (a_drawers : Nat → Int64) (x_made : Int32) (a_numbers : Nat → Int64) (a_oneSided : Nat → Int32) (a_free : Nat → Int32) (a_ends : Nat → Int32) : Option (Int32 × Int32 × (Nat → Int64) × (Nat → Int32) × (Nat → Int32) × (Nat → Int32)) :=
  bd1 (cf_isDrawer v1) fun r_1 =>
  if r_1 = 0 then (some ((-1), x_made, a_numbers, a_oneSided, a_free, a_ends)) else
  bd1 (cf_isKind v2) fun r_3 =>
  if r_3 = 0 then (some ((-1), x_made, a_numbers, a_oneSided, a_free, a_ends)) else
  ck v1 8 <|
  if (a_drawers v1.toNatClampNeg) = 0 then (some ((-2), x_made, a_numbers, a_oneSided, a_free, a_ends)) else
  ck v1 8 <|
  bd1 (jl_bitCount (a_drawers v1.toNatClampNeg)) fun r_5 =>
  if r_5 ≤ 7 then (bd5 (ca_prepare r_5 x_made a_numbers a_oneSided a_free a_ends) fun x_made_7 a_numbers_8 a_oneSided_9 a_free_10 a_ends_11 =>
  ck v1 8 <|
  bd1 (gr_least (a_drawers v1.toNatClampNeg) v2) fun r_13 =>
  bd1 (ca_indexOf r_5 v2 r_13 a_numbers_8 a_oneSided_9 a_free_10 a_ends_11) fun r_15 =>
  some (r_15, x_made_7, a_numbers_8, a_oneSided_9, a_free_10, a_ends_11)) else
  some ((-3), x_made, a_numbers, a_oneSided, a_free, a_ends)
set_option maxHeartbeats 4000000 in
set_option maxRecDepth 100000 in
theorem c_cf_place (l : Launch) (D : va_G) (ct : Nat → ClassId) (ad : Nat → Nat) (hI : cI ad) {x_fed x_tk x_col x_line x_rcells x_rsize x_len x_cuts x_bare x_place x_lA x_lB x_lC x_fX x_fY x_sX x_sY x_made x_fsize x_psize x_over x_touch x_most x_mU x_mV x_area : Int32} {x_board : Int64} {a_tape a_letters a_oneSided a_free a_ends a_crowds a_wmade a_firsts a_widths a_heights a_places a_next a_pnear a_table a_overlaps : Nat → Int32} {a_drawers a_kept a_items a_numbers a_marks a_near a_figures a_covered a_pcells a_matrix : Nat → Int64} (v1 : Int32) (v2 : Int32) (r : Int32) (z_x_made : Int32) (z_a_numbers : Nat → Int64) (z_a_oneSided : Nat → Int32) (z_a_free : Nat → Int32) (z_a_ends : Nat → Int32) (h : cf_place v1 v2 a_drawers x_made a_numbers a_oneSided a_free a_ends = some (r, z_x_made, z_a_numbers, z_a_oneSided, z_a_free, z_a_ends)) : Met l yX11_place (wm yX11_place cX11_place 4 (some .int)) (rmm 6 144) (va_Pc [.ref (ad 0), .int v1, .int v2] (cB D ct ad x_fed x_tk x_col x_line x_rcells x_rsize x_len x_cuts x_bare x_place x_lA x_lB x_lC x_fX x_fY x_sX x_sY x_made x_fsize x_psize x_over x_touch x_most x_mU x_mV x_area x_board a_tape a_letters a_oneSided a_free a_ends a_crowds a_wmade a_firsts a_widths a_heights a_places a_next a_pnear a_table a_overlaps a_drawers a_kept a_items a_numbers a_marks a_near a_figures a_covered a_pcells a_matrix)) (va_Qi (fun z (_ : Unit) => z = r) (fun _ t => cP D ct ad x_fed x_tk x_col x_line x_rcells x_rsize x_len x_cuts x_bare x_place x_lA x_lB x_lC x_fX x_fY x_sX x_sY z_x_made x_fsize x_psize x_over x_touch x_most x_mU x_mV x_area x_board a_tape a_letters z_a_oneSided z_a_free z_a_ends a_crowds a_wmade a_firsts a_widths a_heights a_places a_next a_pnear a_table a_overlaps a_drawers a_kept a_items z_a_numbers a_marks a_near a_figures a_covered a_pcells a_matrix t.heap) (cA ad)) 0 0 (cA ad) := by
  refine met_s (y := yX11_place) (rm := rmm 6 144) (by decide) (Nat.le_of_ble_eq_true rfl) ?_
  intro p e s m below meth c hx hb hr hw hown hlocks _ hml hB ls hl
  obtain ⟨hN, hK, hP⟩ := hB
  replace hl : lv_has ls 4 [(0, .ref (ad 0)), (1, .int v1), (2, .int v2)] := hl
  have hS : va_S (cA ad) s.heap s.heap [] := va_S.rf
  generalize (([.ref (ad 0), .int v1, .int v2] : List Value).toArray) = av at hw ⊢
  rw [cf_place] at h
  refine lv_iload_n hx hb dX11_place_0 rfl (lv_at hl 1 rfl) ?_
  obtain ⟨r_17, hr_18, h⟩ := bd1_s h
  refine sc_i hx hb hml hown hw hN (c_cf_isDrawer l v1 r_17 hr_18) g_RX11_91 hd_X11_isDrawer (rest := []) hl.1 hS dX11_place_1 rfl rfl ⟨Nat.le_of_ble_eq_true rfl, Nat.le_of_ble_eq_true rfl⟩ rfl rfl (Nat.le_of_ble_eq_true rfl) ⟨Nat.zero_le _, Nat.zero_le _⟩ (fun H locs hk hS => ?_)
  have hP := cP_kept hP hk
  refine lv_if_eq hx hb dX11_place_4 (tgt := 14) rfl (fun hc => ?_) (fun hc => ?_)
  · replace h := ifp h hc
    refine lv_iconst (v := (-1)) hx hb dX11_place_14 ki_m1 ?_
    simp only [Option.some.injEq, Prod.mk.injEq] at h
    obtain ⟨rfl, rfl, rfl, rfl, rfl, rfl⟩ := h
    exact rc_i hx hb hr hlocks hS dX11_place_15 rfl hP
  · replace h := ifn h hc
    refine lv_iload_n hx hb dX11_place_7 rfl (lv_at hl 2 rfl) ?_
    obtain ⟨r_19, hr_20, h⟩ := bd1_s h
    refine sc_i hx hb hml hown hw hN (c_cf_isKind l v2 r_19 hr_20) g_RX11_127 hd_X11_isKind (rest := []) hl.1 hS dX11_place_8 rfl rfl ⟨Nat.le_of_ble_eq_true rfl, Nat.le_of_ble_eq_true rfl⟩ rfl rfl (Nat.le_of_ble_eq_true rfl) ⟨Nat.zero_le _, Nat.zero_le _⟩ (fun H locs hk hS => ?_)
    have hP := cP_kept hP hk
    refine lv_if_ne hx hb dX11_place_11 (tgt := 16) rfl (fun hc => ?_) (fun hc => ?_)
    · replace h := ifn h hc
      refine lv_aload_n hx hb dX11_place_16 rfl (lv_at hl 0 rfl) ?_
      refine cg_CF_1 hx hb hw hown hK hP dX11_place_17 ?_
      refine lv_iload_n hx hb dX11_place_20 rfl (lv_at hl 1 rfl) ?_
      obtain ⟨hin, h⟩ := ck_s h
      refine cd_drawers hx hb hK hP hin dX11_place_21 ?_
      refine lv_lconst (v := 0) hx hb dX11_place_22 kl_0 ?_
      refine W.lcmp hx hb dX11_place_23 ?_
      refine lv_if_ne hx hb dX11_place_24 (tgt := 30) rfl (fun hc => ?_) (fun hc => ?_)
      · replace h := ifn h (fun q => hc ((lg_cmp_eq _ _).mpr q))
        refine lv_aload_n hx hb dX11_place_30 rfl (lv_at hl 0 rfl) ?_
        refine cg_CF_1 hx hb hw hown hK hP dX11_place_31 ?_
        refine lv_iload_n hx hb dX11_place_34 rfl (lv_at hl 1 rfl) ?_
        obtain ⟨hin, h⟩ := ck_s h
        refine cd_drawers hx hb hK hP hin dX11_place_35 ?_
        obtain ⟨r_21, hr_22, h⟩ := bd1_s h
        refine sc_i hx hb hml hown hw hN (c_jl_bitCount l (a_drawers v1.toNatClampNeg) r_21 hr_22) g_RX11_164 hd_J13_bitCount_95d88 (rest := []) hl.1 hS dX11_place_36 rfl rfl ⟨Nat.le_of_ble_eq_true rfl, Nat.le_of_ble_eq_true rfl⟩ rfl rfl (Nat.le_of_ble_eq_true rfl) ⟨Nat.zero_le _, Nat.zero_le _⟩ (fun H locs hk hS => ?_)
        have hP := cP_kept hP hk
        refine lv_istore_n hx hb dX11_place_39 rfl hl (Nat.le_of_ble_eq_true rfl) (lv' := [(3, .int r_21), (0, .ref (ad 0)), (1, .int v1), (2, .int v2)]) rfl (fun ls hl => ?_)
        refine lv_iload_n hx hb dX11_place_40 rfl (lv_at hl 0 rfl) ?_
        refine lv_bipush (v := 7) hx hb dX11_place_41 kb_7 ?_
        refine lv_icmp_le hx hb dX11_place_43 (tgt := 49) rfl (fun hc => ?_) (fun hc => ?_)
        · replace h := ifp h hc
          refine lv_aload_n hx hb dX11_place_49 rfl (lv_at hl 1 rfl) ?_
          refine cg_CF_6 hx hb hw hown hK hP dX11_place_50 ?_
          refine lv_iload_n hx hb dX11_place_53 rfl (lv_at hl 0 rfl) ?_
          obtain ⟨x_made_23, a_numbers_24, a_oneSided_25, a_free_26, a_ends_27, hr_28, h⟩ := bd5_s h
          refine hv_v hx hb hml hown hw cB_bl (cB_of hN hK hP) (cr_CA hK hP) (c_ca_prepare l D ct ad hI r_21 x_made_23 a_numbers_24 a_oneSided_25 a_free_26 a_ends_27 hr_28) g_RX11_153 ⟨rfl, hd_X0_prepare⟩ (rest := []) hl.1 hS (fun q h => h) dX11_place_54 rfl rfl ⟨Nat.le_of_ble_eq_true rfl, Nat.le_of_ble_eq_true rfl⟩ rfl rfl (Nat.le_of_ble_eq_true rfl) ⟨Nat.zero_le _, Nat.zero_le _⟩ (fun H locs hP _ hS => ?_)
          refine lv_aload_n hx hb dX11_place_57 rfl (lv_at hl 1 rfl) ?_
          refine cg_CF_6 hx hb hw hown hK hP dX11_place_58 ?_
          refine lv_iload_n hx hb dX11_place_61 rfl (lv_at hl 0 rfl) ?_
          refine lv_iload_n hx hb dX11_place_62 rfl (lv_at hl 3 rfl) ?_
          refine lv_aload_n hx hb dX11_place_63 rfl (lv_at hl 1 rfl) ?_
          refine cg_CF_1 hx hb hw hown hK hP dX11_place_64 ?_
          refine lv_iload_n hx hb dX11_place_67 rfl (lv_at hl 2 rfl) ?_
          obtain ⟨hin, h⟩ := ck_s h
          refine cd_drawers hx hb hK hP hin dX11_place_68 ?_
          refine lv_iload_n hx hb dX11_place_69 rfl (lv_at hl 3 rfl) ?_
          obtain ⟨r_29, hr_30, h⟩ := bd1_s h
          refine sc_l hx hb hml hown hw hN (c_gr_least l (a_drawers v1.toNatClampNeg) v2 r_29 hr_30) g_RX11_134 hd_X2_least (rest := [.int v2, .int r_21, .ref (ad 9)]) hl.1 hS dX11_place_70 rfl rfl ⟨Nat.le_of_ble_eq_true rfl, Nat.le_of_ble_eq_true rfl⟩ rfl rfl (Nat.le_of_ble_eq_true rfl) ⟨Nat.zero_le _, Nat.zero_le _⟩ (fun H locs hk hS => ?_)
          have hP := cP_kept hP hk
          obtain ⟨r_31, hr_32, h⟩ := bd1_s h
          refine hv_i hx hb hml hown hw cB_bl (cB_of hN hK hP) (cr_CA hK hP) (c_ca_indexOf l D ct ad hI r_21 v2 r_29 r_31 hr_32) g_RX11_170 ⟨rfl, hd_X0_indexOf⟩ (rest := []) hl.1 hS (fun q h => h) dX11_place_73 rfl rfl ⟨Nat.le_of_ble_eq_true rfl, Nat.le_of_ble_eq_true rfl⟩ rfl rfl (Nat.le_of_ble_eq_true rfl) ⟨Nat.zero_le _, Nat.zero_le _⟩ (fun H locs hP _ hS => ?_)
          simp only [Option.some.injEq, Prod.mk.injEq] at h
          obtain ⟨rfl, rfl, rfl, rfl, rfl, rfl⟩ := h
          exact rc_i hx hb hr hlocks hS dX11_place_76 rfl hP
        · replace h := ifn h hc
          refine lv_bipush (v := (-3)) hx hb dX11_place_46 kb_m3 ?_
          simp only [Option.some.injEq, Prod.mk.injEq] at h
          obtain ⟨rfl, rfl, rfl, rfl, rfl, rfl⟩ := h
          exact rc_i hx hb hr hlocks hS dX11_place_48 rfl hP
      · replace h := ifp h ((lg_cmp_eq _ _).mp hc)
        refine lv_bipush (v := (-2)) hx hb dX11_place_27 kb_m2 ?_
        simp only [Option.some.injEq, Prod.mk.injEq] at h
        obtain ⟨rfl, rfl, rfl, rfl, rfl, rfl⟩ := h
        exact rc_i hx hb hr hlocks hS dX11_place_29 rfl hP
    · replace h := ifp h hc
      refine lv_iconst (v := (-1)) hx hb dX11_place_14 ki_m1 ?_
      simp only [Option.some.injEq, Prod.mk.injEq] at h
      obtain ⟨rfl, rfl, rfl, rfl, rfl, rfl⟩ := h
      exact rc_i hx hb hr hlocks hS dX11_place_15 rfl hP
noncomputable def cf_many_J84 (k52 : Int32 → Int32 → Int32 → Int32 → Int32 → Int32 → Int32 → Int32 → Int32 → (Nat → Int32) → (Nat → Int64) → Option (Int32 × Int32 × Int32 × Int32 × Int32 × Int32 × Int32 × Int32 × (Nat → Int32) × Int32 × (Nat → Int64) × (Nat → Int32) × (Nat → Int32) × (Nat → Int32) × (Nat → Int64))) (v1 : Int32) (v2 : Int32) (v3 : Int32) (v4 : Int32) (v5 : Int32) (v6 : Int32) (v7 : Int32) (v8 : Int32) (x_len : Int32) (x_cuts : Int32) (x_bare : Int32) (x_place : Int32) (x_lA : Int32) (x_lB : Int32) (x_lC : Int32) (a_letters : Nat → Int32) (x_made : Int32) (a_numbers : Nat → Int64) (a_oneSided : Nat → Int32) (a_free : Nat → Int32) (a_ends : Nat → Int32) (a_marks : Nat → Int64)  : Option (Int32 × Int32 × Int32 × Int32 × Int32 × Int32 × Int32 × Int32 × (Nat → Int32) × Int32 × (Nat → Int64) × (Nat → Int32) × (Nat → Int32) × (Nat → Int32) × (Nat → Int64)) :=
  nm (v8 + Int32.ofInt 1) fun v8_1 =>
  k52 v7 v8_1 x_len x_cuts x_bare x_place x_lA x_lB x_lC a_letters a_marks
noncomputable def cf_many_B52 (v1 : Int32) (v2 : Int32) (v3 : Int32) (v4 : Int32) (v5 : Int32) (v6 : Int32) (x_made : Int32) (a_numbers : Nat → Int64) (a_oneSided : Nat → Int32) (a_free : Nat → Int32) (a_ends : Nat → Int32)  (k52 : Int32 → Int32 → Int32 → Int32 → Int32 → Int32 → Int32 → Int32 → Int32 → (Nat → Int32) → (Nat → Int64) → Option (Int32 × Int32 × Int32 × Int32 × Int32 × Int32 × Int32 × Int32 × (Nat → Int32) × Int32 × (Nat → Int64) × (Nat → Int32) × (Nat → Int32) × (Nat → Int32) × (Nat → Int64))) (v7 : Int32) (v8 : Int32) (x_len : Int32) (x_cuts : Int32) (x_bare : Int32) (x_place : Int32) (x_lA : Int32) (x_lB : Int32) (x_lC : Int32) (a_letters : Nat → Int32) (a_marks : Nat → Int64) : Option (Int32 × Int32 × Int32 × Int32 × Int32 × Int32 × Int32 × Int32 × (Nat → Int32) × Int32 × (Nat → Int64) × (Nat → Int32) × (Nat → Int32) × (Nat → Int32) × (Nat → Int64)) :=
  if v6 ≤ v8 then (some (v7, x_len, x_cuts, x_bare, x_place, x_lA, x_lB, x_lC, a_letters, x_made, a_numbers, a_oneSided, a_free, a_ends, a_marks)) else
  bd10 (ca_trait v1 v2 v8 v3 x_len x_cuts x_bare x_place x_lA x_lB x_lC a_letters a_numbers a_oneSided a_free a_ends a_marks) fun r_2 x_len_3 x_cuts_4 x_bare_5 x_place_6 x_lA_7 x_lB_8 x_lC_9 a_letters_10 a_marks_11 =>
  bd1 (cf_within r_2 v4 v5) fun r_13 =>
  if r_13 = 0 then (cf_many_J84 k52 v1 v2 v3 v4 v5 v6 v7 v8 x_len_3 x_cuts_4 x_bare_5 x_place_6 x_lA_7 x_lB_8 x_lC_9 a_letters_10 x_made a_numbers a_oneSided a_free a_ends a_marks_11) else
  nm (v7 + Int32.ofInt 1) fun v7_15 =>
  cf_many_J84 k52 v1 v2 v3 v4 v5 v6 v7_15 v8 x_len_3 x_cuts_4 x_bare_5 x_place_6 x_lA_7 x_lB_8 x_lC_9 a_letters_10 x_made a_numbers a_oneSided a_free a_ends a_marks_11
noncomputable def cf_many (v1 : Int32) (v2 : Int32) (v3 : Int32) (v4 : Int32) (v5 : Int32) (x_len : Int32) (x_cuts : Int32) (x_bare : Int32) (x_place : Int32) (x_lA : Int32) (x_lB : Int32) (x_lC : Int32) (a_letters : Nat → Int32) (x_made : Int32) (a_numbers : Nat → Int64) (a_oneSided : Nat → Int32) (a_free : Nat → Int32) (a_ends : Nat → Int32) (a_marks : Nat → Int64) : Option (Int32 × Int32 × Int32 × Int32 × Int32 × Int32 × Int32 × Int32 × (Nat → Int32) × Int32 × (Nat → Int64) × (Nat → Int32) × (Nat → Int32) × (Nat → Int32) × (Nat → Int64)) :=
  bd1 (cf_isList v1 v2) fun r_16 =>
  if r_16 = 0 then (some ((-1), x_len, x_cuts, x_bare, x_place, x_lA, x_lB, x_lC, a_letters, x_made, a_numbers, a_oneSided, a_free, a_ends, a_marks)) else
  bd1 (cf_within v3 0 14) fun r_18 =>
  if r_18 = 0 then (some ((-1), x_len, x_cuts, x_bare, x_place, x_lA, x_lB, x_lC, a_letters, x_made, a_numbers, a_oneSided, a_free, a_ends, a_marks)) else
  if v4 ≤ v5 then (bd5 (ca_prepare v1 x_made a_numbers a_oneSided a_free a_ends) fun x_made_20 a_numbers_21 a_oneSided_22 a_free_23 a_ends_24 =>
  bd1 (ca_size v1 v2 a_ends_24) fun r_26 =>
  fl11 (cf_many_B52 v1 v2 v3 v4 v5 r_26 x_made_20 a_numbers_21 a_oneSided_22 a_free_23 a_ends_24) FU 0 0 x_len x_cuts x_bare x_place x_lA x_lB x_lC a_letters a_marks) else
  some ((-1), x_len, x_cuts, x_bare, x_place, x_lA, x_lB, x_lC, a_letters, x_made, a_numbers, a_oneSided, a_free, a_ends, a_marks)
set_option maxHeartbeats 4000000 in
set_option maxRecDepth 100000 in
theorem c_cf_many (l : Launch) (D : va_G) (ct : Nat → ClassId) (ad : Nat → Nat) (hI : cI ad) {x_fed x_tk x_col x_line x_rcells x_rsize x_len x_cuts x_bare x_place x_lA x_lB x_lC x_fX x_fY x_sX x_sY x_made x_fsize x_psize x_over x_touch x_most x_mU x_mV x_area : Int32} {x_board : Int64} {a_tape a_letters a_oneSided a_free a_ends a_crowds a_wmade a_firsts a_widths a_heights a_places a_next a_pnear a_table a_overlaps : Nat → Int32} {a_drawers a_kept a_items a_numbers a_marks a_near a_figures a_covered a_pcells a_matrix : Nat → Int64} (v1 : Int32) (v2 : Int32) (v3 : Int32) (v4 : Int32) (v5 : Int32) (r : Int32) (z_x_len : Int32) (z_x_cuts : Int32) (z_x_bare : Int32) (z_x_place : Int32) (z_x_lA : Int32) (z_x_lB : Int32) (z_x_lC : Int32) (z_a_letters : Nat → Int32) (z_x_made : Int32) (z_a_numbers : Nat → Int64) (z_a_oneSided : Nat → Int32) (z_a_free : Nat → Int32) (z_a_ends : Nat → Int32) (z_a_marks : Nat → Int64) (h : cf_many v1 v2 v3 v4 v5 x_len x_cuts x_bare x_place x_lA x_lB x_lC a_letters x_made a_numbers a_oneSided a_free a_ends a_marks = some (r, z_x_len, z_x_cuts, z_x_bare, z_x_place, z_x_lA, z_x_lB, z_x_lC, z_a_letters, z_x_made, z_a_numbers, z_a_oneSided, z_a_free, z_a_ends, z_a_marks)) : Met l yX11_many (wm yX11_many cX11_many 9 (some .int)) (rmm 6 151) (va_Pc [.ref (ad 0), .int v1, .int v2, .int v3, .int v4, .int v5] (cB D ct ad x_fed x_tk x_col x_line x_rcells x_rsize x_len x_cuts x_bare x_place x_lA x_lB x_lC x_fX x_fY x_sX x_sY x_made x_fsize x_psize x_over x_touch x_most x_mU x_mV x_area x_board a_tape a_letters a_oneSided a_free a_ends a_crowds a_wmade a_firsts a_widths a_heights a_places a_next a_pnear a_table a_overlaps a_drawers a_kept a_items a_numbers a_marks a_near a_figures a_covered a_pcells a_matrix)) (va_Qi (fun z (_ : Unit) => z = r) (fun _ t => cP D ct ad x_fed x_tk x_col x_line x_rcells x_rsize z_x_len z_x_cuts z_x_bare z_x_place z_x_lA z_x_lB z_x_lC x_fX x_fY x_sX x_sY z_x_made x_fsize x_psize x_over x_touch x_most x_mU x_mV x_area x_board a_tape z_a_letters z_a_oneSided z_a_free z_a_ends a_crowds a_wmade a_firsts a_widths a_heights a_places a_next a_pnear a_table a_overlaps a_drawers a_kept a_items z_a_numbers z_a_marks a_near a_figures a_covered a_pcells a_matrix t.heap) (cA ad)) 0 0 (cA ad) := by
  refine met_s (y := yX11_many) (rm := rmm 6 151) (by decide) (Nat.le_of_ble_eq_true rfl) ?_
  intro p e s m below meth c hx hb hr hw hown hlocks _ hml hB ls hl
  obtain ⟨hN, hK, hP⟩ := hB
  replace hl : lv_has ls 9 [(0, .ref (ad 0)), (1, .int v1), (2, .int v2), (3, .int v3), (4, .int v4), (5, .int v5)] := hl
  have hS : va_S (cA ad) s.heap s.heap [] := va_S.rf
  generalize (([.ref (ad 0), .int v1, .int v2, .int v3, .int v4, .int v5] : List Value).toArray) = av at hw ⊢
  rw [cf_many] at h
  have hL52 : ∀ (v1 : Int32), ∀ (v2 : Int32), ∀ (v3 : Int32), ∀ (v4 : Int32), ∀ (v5 : Int32), ∀ (v6 : Int32), ∀ (x_made : Int32), ∀ (a_numbers : Nat → Int64), ∀ (a_oneSided : Nat → Int32), ∀ (a_free : Nat → Int32), ∀ (a_ends : Nat → Int32), ∀ (n52 : Nat) (H : Heap) (locs : List Loc) (ls : Array Slot) (v7 : Int32) (v8 : Int32) (x_len : Int32) (x_cuts : Int32) (x_bare : Int32) (x_place : Int32) (x_lA : Int32) (x_lB : Int32) (x_lC : Int32) (a_letters : Nat → Int32) (a_marks : Nat → Int64), lv_has ls 9 [(0, .ref (ad 0)), (1, .int v1), (2, .int v2), (3, .int v3), (4, .int v4), (5, .int v5), (6, .int v6), (7, .int v7), (8, .int v8)] → cP D ct ad x_fed x_tk x_col x_line x_rcells x_rsize x_len x_cuts x_bare x_place x_lA x_lB x_lC x_fX x_fY x_sX x_sY x_made x_fsize x_psize x_over x_touch x_most x_mU x_mV x_area x_board a_tape a_letters a_oneSided a_free a_ends a_crowds a_wmade a_firsts a_widths a_heights a_places a_next a_pnear a_table a_overlaps a_drawers a_kept a_items a_numbers a_marks a_near a_figures a_covered a_pcells a_matrix H → va_S (cA ad) s.heap H locs → fl11 (cf_many_B52 v1 v2 v3 v4 v5 v6 x_made a_numbers a_oneSided a_free a_ends) n52 v7 v8 x_len x_cuts x_bare x_place x_lA x_lB x_lC a_letters a_marks = some (r, z_x_len, z_x_cuts, z_x_bare, z_x_place, z_x_lA, z_x_lB, z_x_lC, z_a_letters, z_x_made, z_a_numbers, z_a_oneSided, z_a_free, z_a_ends, z_a_marks) → W p l e (rmm 6 151) s m av below meth c H locs 0 0 (MQ below (va_Qi (fun z (_ : Unit) => z = r) (fun _ t => cP D ct ad x_fed x_tk x_col x_line x_rcells x_rsize z_x_len z_x_cuts z_x_bare z_x_place z_x_lA z_x_lB z_x_lC x_fX x_fY x_sX x_sY z_x_made x_fsize x_psize x_over x_touch x_most x_mU x_mV x_area x_board a_tape z_a_letters z_a_oneSided z_a_free z_a_ends a_crowds a_wmade a_firsts a_widths a_heights a_places a_next a_pnear a_table a_overlaps a_drawers a_kept a_items z_a_numbers z_a_marks a_near a_figures a_covered a_pcells a_matrix t.heap) (cA ad)) av s 0 0 (cA ad)) (F0 m 52 ls []) := by
    intro v1 v2 v3 v4 v5 v6 x_made a_numbers a_oneSided a_free a_ends n52
    induction n52 with
    | zero => intro H locs ls v7 v8 x_len x_cuts x_bare x_place x_lA x_lB x_lC a_letters a_marks hl hP hS h; cases h
    | succ n52 ih52 =>
      intro H locs ls v7 v8 x_len x_cuts x_bare x_place x_lA x_lB x_lC a_letters a_marks hl hP hS h
      replace h : cf_many_B52 v1 v2 v3 v4 v5 v6 x_made a_numbers a_oneSided a_free a_ends (fl11 (cf_many_B52 v1 v2 v3 v4 v5 v6 x_made a_numbers a_oneSided a_free a_ends) n52) v7 v8 x_len x_cuts x_bare x_place x_lA x_lB x_lC a_letters a_marks = some (r, z_x_len, z_x_cuts, z_x_bare, z_x_place, z_x_lA, z_x_lB, z_x_lC, z_a_letters, z_x_made, z_a_numbers, z_a_oneSided, z_a_free, z_a_ends, z_a_marks) := h
      generalize fl11 (cf_many_B52 v1 v2 v3 v4 v5 v6 x_made a_numbers a_oneSided a_free a_ends) n52 = k52 at h ih52
      have hJ84 : ∀ (H : Heap) (locs : List Loc) (ls : Array Slot) (v7 : Int32) (v8 : Int32) (x_len : Int32) (x_cuts : Int32) (x_bare : Int32) (x_place : Int32) (x_lA : Int32) (x_lB : Int32) (x_lC : Int32) (a_letters : Nat → Int32) (a_marks : Nat → Int64) , lv_has ls 9 [(0, .ref (ad 0)), (1, .int v1), (2, .int v2), (3, .int v3), (4, .int v4), (5, .int v5), (6, .int v6), (7, .int v7), (8, .int v8)] → cP D ct ad x_fed x_tk x_col x_line x_rcells x_rsize x_len x_cuts x_bare x_place x_lA x_lB x_lC x_fX x_fY x_sX x_sY x_made x_fsize x_psize x_over x_touch x_most x_mU x_mV x_area x_board a_tape a_letters a_oneSided a_free a_ends a_crowds a_wmade a_firsts a_widths a_heights a_places a_next a_pnear a_table a_overlaps a_drawers a_kept a_items a_numbers a_marks a_near a_figures a_covered a_pcells a_matrix H → va_S (cA ad) s.heap H locs → cf_many_J84 k52 v1 v2 v3 v4 v5 v6 v7 v8 x_len x_cuts x_bare x_place x_lA x_lB x_lC a_letters x_made a_numbers a_oneSided a_free a_ends a_marks = some (r, z_x_len, z_x_cuts, z_x_bare, z_x_place, z_x_lA, z_x_lB, z_x_lC, z_a_letters, z_x_made, z_a_numbers, z_a_oneSided, z_a_free, z_a_ends, z_a_marks) → W p l e (rmm 6 151) s m av below meth c H locs 0 0 (MQ below (va_Qi (fun z (_ : Unit) => z = r) (fun _ t => cP D ct ad x_fed x_tk x_col x_line x_rcells x_rsize z_x_len z_x_cuts z_x_bare z_x_place z_x_lA z_x_lB z_x_lC x_fX x_fY x_sX x_sY z_x_made x_fsize x_psize x_over x_touch x_most x_mU x_mV x_area x_board a_tape z_a_letters z_a_oneSided z_a_free z_a_ends a_crowds a_wmade a_firsts a_widths a_heights a_places a_next a_pnear a_table a_overlaps a_drawers a_kept a_items z_a_numbers z_a_marks a_near a_figures a_covered a_pcells a_matrix t.heap) (cA ad)) av s 0 0 (cA ad)) (F0 m 84 ls []) := by
        intro H locs ls v7 v8 x_len x_cuts x_bare x_place x_lA x_lB x_lC a_letters a_marks  hl hP hS h
        rw [cf_many_J84] at h
        obtain ⟨v8_28, ev8_28, h⟩ := nm_s h
        refine lv_iinc hx hb dX11_many_84 hl (k := 8) rfl ev8_28.symm (Nat.le_of_ble_eq_true rfl) (lv' := [(8, .int v8_28), (0, .ref (ad 0)), (1, .int v1), (2, .int v2), (3, .int v3), (4, .int v4), (5, .int v5), (6, .int v6), (7, .int v7)]) rfl (fun ls hl => ?_)
        refine lv_goto hx hb dX11_many_87 (tgt := 52) rfl ?_
        exact ih52 _ _ _ v7 v8_28 x_len x_cuts x_bare x_place x_lA x_lB x_lC a_letters a_marks (lv_sub hl [1, 2, 3, 4, 5, 6, 7, 8, 0] rfl) hP hS h
      rw [cf_many_B52] at h
      refine lv_iload hx hb dX11_many_52 (lv_at hl 8 rfl) ?_
      refine lv_iload hx hb dX11_many_54 (lv_at hl 6 rfl) ?_
      refine lv_icmp_ge hx hb dX11_many_56 (tgt := 90) rfl (fun hc => ?_) (fun hc => ?_)
      · replace h := ifp h hc
        refine lv_iload hx hb dX11_many_90 (lv_at hl 7 rfl) ?_
        simp only [Option.some.injEq, Prod.mk.injEq] at h
        obtain ⟨rfl, rfl, rfl, rfl, rfl, rfl, rfl, rfl, rfl, rfl, rfl, rfl, rfl, rfl, rfl⟩ := h
        exact rc_i hx hb hr hlocks hS dX11_many_92 rfl hP
      · replace h := ifn h hc
        refine lv_aload_n hx hb dX11_many_59 rfl (lv_at hl 0 rfl) ?_
        refine cg_CF_6 hx hb hw hown hK hP dX11_many_60 ?_
        refine lv_iload_n hx hb dX11_many_63 rfl (lv_at hl 1 rfl) ?_
        refine lv_iload_n hx hb dX11_many_64 rfl (lv_at hl 2 rfl) ?_
        refine lv_iload hx hb dX11_many_65 (lv_at hl 8 rfl) ?_
        refine lv_iload_n hx hb dX11_many_67 rfl (lv_at hl 3 rfl) ?_
        obtain ⟨r_29, x_len_30, x_cuts_31, x_bare_32, x_place_33, x_lA_34, x_lB_35, x_lC_36, a_letters_37, a_marks_38, hr_39, h⟩ := bd10_s h
        refine hv_i hx hb hml hown hw cB_bl (cB_of hN hK hP) (cr_CA hK hP) (c_ca_trait l D ct ad hI v1 v2 v8 v3 r_29 x_len_30 x_cuts_31 x_bare_32 x_place_33 x_lA_34 x_lB_35 x_lC_36 a_letters_37 a_marks_38 hr_39) g_RX11_174 ⟨rfl, hd_X0_trait⟩ (rest := []) hl.1 hS (fun q h => h) dX11_many_68 rfl rfl ⟨Nat.le_of_ble_eq_true rfl, Nat.le_of_ble_eq_true rfl⟩ rfl rfl (Nat.le_of_ble_eq_true rfl) ⟨Nat.zero_le _, Nat.zero_le _⟩ (fun H locs hP _ hS => ?_)
        refine lv_iload hx hb dX11_many_71 (lv_at hl 4 rfl) ?_
        refine lv_iload hx hb dX11_many_73 (lv_at hl 5 rfl) ?_
        obtain ⟨r_40, hr_41, h⟩ := bd1_s h
        refine sc_i hx hb hml hown hw hN (c_cf_within l r_29 v4 v5 r_40 hr_41) g_RX11_95 hd_X11_within (rest := []) hl.1 hS dX11_many_75 rfl rfl ⟨Nat.le_of_ble_eq_true rfl, Nat.le_of_ble_eq_true rfl⟩ rfl rfl (Nat.le_of_ble_eq_true rfl) ⟨Nat.zero_le _, Nat.zero_le _⟩ (fun H locs hk hS => ?_)
        have hP := cP_kept hP hk
        refine lv_if_eq hx hb dX11_many_78 (tgt := 84) rfl (fun hc => ?_) (fun hc => ?_)
        · replace h := ifp h hc
          exact hJ84 _ _ _ v7 v8 x_len_30 x_cuts_31 x_bare_32 x_place_33 x_lA_34 x_lB_35 x_lC_36 a_letters_37 a_marks_38 (lv_sub hl [0, 1, 2, 3, 4, 5, 6, 7, 8] rfl) hP hS h
        · replace h := ifn h hc
          obtain ⟨v7_42, ev7_42, h⟩ := nm_s h
          refine lv_iinc hx hb dX11_many_81 hl (k := 7) rfl ev7_42.symm (Nat.le_of_ble_eq_true rfl) (lv' := [(7, .int v7_42), (0, .ref (ad 0)), (1, .int v1), (2, .int v2), (3, .int v3), (4, .int v4), (5, .int v5), (6, .int v6), (8, .int v8)]) rfl (fun ls hl => ?_)
          exact hJ84 _ _ _ v7_42 v8 x_len_30 x_cuts_31 x_bare_32 x_place_33 x_lA_34 x_lB_35 x_lC_36 a_letters_37 a_marks_38 (lv_sub hl [1, 2, 3, 4, 5, 6, 7, 0, 8] rfl) hP hS h
  refine lv_iload_n hx hb dX11_many_0 rfl (lv_at hl 1 rfl) ?_
  refine lv_iload_n hx hb dX11_many_1 rfl (lv_at hl 2 rfl) ?_
  obtain ⟨r_43, hr_44, h⟩ := bd1_s h
  refine sc_i hx hb hml hown hw hN (c_cf_isList l v1 v2 r_43 hr_44) g_RX11_149 hd_X11_isList (rest := []) hl.1 hS dX11_many_2 rfl rfl ⟨Nat.le_of_ble_eq_true rfl, Nat.le_of_ble_eq_true rfl⟩ rfl rfl (Nat.le_of_ble_eq_true rfl) ⟨Nat.zero_le _, Nat.zero_le _⟩ (fun H locs hk hS => ?_)
  have hP := cP_kept hP hk
  refine lv_if_eq hx hb dX11_many_5 (tgt := 25) rfl (fun hc => ?_) (fun hc => ?_)
  · replace h := ifp h hc
    refine lv_iconst (v := (-1)) hx hb dX11_many_25 ki_m1 ?_
    simp only [Option.some.injEq, Prod.mk.injEq] at h
    obtain ⟨rfl, rfl, rfl, rfl, rfl, rfl, rfl, rfl, rfl, rfl, rfl, rfl, rfl, rfl, rfl⟩ := h
    exact rc_i hx hb hr hlocks hS dX11_many_26 rfl hP
  · replace h := ifn h hc
    refine lv_iload_n hx hb dX11_many_8 rfl (lv_at hl 3 rfl) ?_
    refine lv_iconst (v := 0) hx hb dX11_many_9 ki_0 ?_
    refine lv_bipush (v := 14) hx hb dX11_many_10 kb_14 ?_
    obtain ⟨r_45, hr_46, h⟩ := bd1_s h
    refine sc_i hx hb hml hown hw hN (c_cf_within l v3 0 14 r_45 hr_46) g_RX11_95 hd_X11_within (rest := []) hl.1 hS dX11_many_12 rfl rfl ⟨Nat.le_of_ble_eq_true rfl, Nat.le_of_ble_eq_true rfl⟩ rfl rfl (Nat.le_of_ble_eq_true rfl) ⟨Nat.zero_le _, Nat.zero_le _⟩ (fun H locs hk hS => ?_)
    have hP := cP_kept hP hk
    refine lv_if_eq hx hb dX11_many_15 (tgt := 25) rfl (fun hc => ?_) (fun hc => ?_)
    · replace h := ifp h hc
      refine lv_iconst (v := (-1)) hx hb dX11_many_25 ki_m1 ?_
      simp only [Option.some.injEq, Prod.mk.injEq] at h
      obtain ⟨rfl, rfl, rfl, rfl, rfl, rfl, rfl, rfl, rfl, rfl, rfl, rfl, rfl, rfl, rfl⟩ := h
      exact rc_i hx hb hr hlocks hS dX11_many_26 rfl hP
    · replace h := ifn h hc
      refine lv_iload hx hb dX11_many_18 (lv_at hl 5 rfl) ?_
      refine lv_iload hx hb dX11_many_20 (lv_at hl 4 rfl) ?_
      refine lv_icmp_ge hx hb dX11_many_22 (tgt := 27) rfl (fun hc => ?_) (fun hc => ?_)
      · replace h := ifp h hc
        refine lv_aload_n hx hb dX11_many_27 rfl (lv_at hl 0 rfl) ?_
        refine cg_CF_6 hx hb hw hown hK hP dX11_many_28 ?_
        refine lv_iload_n hx hb dX11_many_31 rfl (lv_at hl 1 rfl) ?_
        obtain ⟨x_made_47, a_numbers_48, a_oneSided_49, a_free_50, a_ends_51, hr_52, h⟩ := bd5_s h
        refine hv_v hx hb hml hown hw cB_bl (cB_of hN hK hP) (cr_CA hK hP) (c_ca_prepare l D ct ad hI v1 x_made_47 a_numbers_48 a_oneSided_49 a_free_50 a_ends_51 hr_52) g_RX11_153 ⟨rfl, hd_X0_prepare⟩ (rest := []) hl.1 hS (fun q h => h) dX11_many_32 rfl rfl ⟨Nat.le_of_ble_eq_true rfl, Nat.le_of_ble_eq_true rfl⟩ rfl rfl (Nat.le_of_ble_eq_true rfl) ⟨Nat.zero_le _, Nat.zero_le _⟩ (fun H locs hP _ hS => ?_)
        refine lv_aload_n hx hb dX11_many_35 rfl (lv_at hl 0 rfl) ?_
        refine cg_CF_6 hx hb hw hown hK hP dX11_many_36 ?_
        refine lv_iload_n hx hb dX11_many_39 rfl (lv_at hl 1 rfl) ?_
        refine lv_iload_n hx hb dX11_many_40 rfl (lv_at hl 2 rfl) ?_
        obtain ⟨r_53, hr_54, h⟩ := bd1_s h
        refine hv_i hx hb hml hown hw cB_bl (cB_of hN hK hP) (cr_CA hK hP) (c_ca_size l D ct ad hI v1 v2 r_53 hr_54) g_RX11_156 ⟨rfl, hd_X0_size⟩ (rest := []) hl.1 hS (fun q h => h) dX11_many_41 rfl rfl ⟨Nat.le_of_ble_eq_true rfl, Nat.le_of_ble_eq_true rfl⟩ rfl rfl (Nat.le_of_ble_eq_true rfl) ⟨Nat.zero_le _, Nat.zero_le _⟩ (fun H locs hP _ hS => ?_)
        refine lv_istore hx hb dX11_many_44 hl (Nat.le_of_ble_eq_true rfl) (lv' := [(6, .int r_53), (0, .ref (ad 0)), (1, .int v1), (2, .int v2), (3, .int v3), (4, .int v4), (5, .int v5)]) rfl (fun ls hl => ?_)
        refine lv_iconst (v := 0) hx hb dX11_many_46 ki_0 ?_
        refine lv_istore hx hb dX11_many_47 hl (Nat.le_of_ble_eq_true rfl) (lv' := [(7, .int 0), (6, .int r_53), (0, .ref (ad 0)), (1, .int v1), (2, .int v2), (3, .int v3), (4, .int v4), (5, .int v5)]) rfl (fun ls hl => ?_)
        refine lv_iconst (v := 0) hx hb dX11_many_49 ki_0 ?_
        refine lv_istore hx hb dX11_many_50 hl (Nat.le_of_ble_eq_true rfl) (lv' := [(8, .int 0), (7, .int 0), (6, .int r_53), (0, .ref (ad 0)), (1, .int v1), (2, .int v2), (3, .int v3), (4, .int v4), (5, .int v5)]) rfl (fun ls hl => ?_)
        exact hL52 v1 v2 v3 v4 v5 r_53 x_made_47 a_numbers_48 a_oneSided_49 a_free_50 a_ends_51 FU _ _ _ 0 0 x_len x_cuts x_bare x_place x_lA x_lB x_lC a_letters a_marks (lv_sub hl [3, 4, 5, 6, 7, 8, 2, 1, 0] rfl) hP hS h
      · replace h := ifn h hc
        refine lv_iconst (v := (-1)) hx hb dX11_many_25 ki_m1 ?_
        simp only [Option.some.injEq, Prod.mk.injEq] at h
        obtain ⟨rfl, rfl, rfl, rfl, rfl, rfl, rfl, rfl, rfl, rfl, rfl, rfl, rfl, rfl, rfl⟩ := h
        exact rc_i hx hb hr hlocks hS dX11_many_26 rfl hP
noncomputable def cf_found_J109 (k60 : Int32 → Int32 → Int32 → Int32 → Int32 → Int32 → Int32 → Int32 → Int32 → (Nat → Int32) → (Nat → Int64) → Option (Int64 × Int32 × Int32 × Int32 × Int32 × Int32 × Int32 × Int32 × (Nat → Int32) × Int32 × (Nat → Int64) × (Nat → Int32) × (Nat → Int32) × (Nat → Int32) × (Nat → Int64))) (v1 : Int32) (v2 : Int32) (v3 : Int32) (v4 : Int32) (v5 : Int32) (v7 : Int32) (v8 : Int32) (v9 : Int32) (x_len : Int32) (x_cuts : Int32) (x_bare : Int32) (x_place : Int32) (x_lA : Int32) (x_lB : Int32) (x_lC : Int32) (a_letters : Nat → Int32) (x_made : Int32) (a_numbers : Nat → Int64) (a_oneSided : Nat → Int32) (a_free : Nat → Int32) (a_ends : Nat → Int32) (a_marks : Nat → Int64)  : Option (Int64 × Int32 × Int32 × Int32 × Int32 × Int32 × Int32 × Int32 × (Nat → Int32) × Int32 × (Nat → Int64) × (Nat → Int32) × (Nat → Int32) × (Nat → Int32) × (Nat → Int64)) :=
  nm (v9 + Int32.ofInt 1) fun v9_1 =>
  k60 v8 v9_1 x_len x_cuts x_bare x_place x_lA x_lB x_lC a_letters a_marks
noncomputable def cf_found_B60 (v1 : Int32) (v2 : Int32) (v3 : Int32) (v4 : Int32) (v5 : Int32) (v7 : Int32) (x_made : Int32) (a_numbers : Nat → Int64) (a_oneSided : Nat → Int32) (a_free : Nat → Int32) (a_ends : Nat → Int32)  (k60 : Int32 → Int32 → Int32 → Int32 → Int32 → Int32 → Int32 → Int32 → Int32 → (Nat → Int32) → (Nat → Int64) → Option (Int64 × Int32 × Int32 × Int32 × Int32 × Int32 × Int32 × Int32 × (Nat → Int32) × Int32 × (Nat → Int64) × (Nat → Int32) × (Nat → Int32) × (Nat → Int32) × (Nat → Int64))) (v8 : Int32) (v9 : Int32) (x_len : Int32) (x_cuts : Int32) (x_bare : Int32) (x_place : Int32) (x_lA : Int32) (x_lB : Int32) (x_lC : Int32) (a_letters : Nat → Int32) (a_marks : Nat → Int64) : Option (Int64 × Int32 × Int32 × Int32 × Int32 × Int32 × Int32 × Int32 × (Nat → Int32) × Int32 × (Nat → Int64) × (Nat → Int32) × (Nat → Int32) × (Nat → Int32) × (Nat → Int64)) :=
  if v7 ≤ v9 then (some (((-2) : Int64), x_len, x_cuts, x_bare, x_place, x_lA, x_lB, x_lC, a_letters, x_made, a_numbers, a_oneSided, a_free, a_ends, a_marks)) else
  bd10 (ca_trait v1 v2 v9 v3 x_len x_cuts x_bare x_place x_lA x_lB x_lC a_letters a_numbers a_oneSided a_free a_ends a_marks) fun r_2 x_len_3 x_cuts_4 x_bare_5 x_place_6 x_lA_7 x_lB_8 x_lC_9 a_letters_10 a_marks_11 =>
  bd1 (cf_within r_2 v4 v5) fun r_13 =>
  if r_13 = 0 then (cf_found_J109 k60 v1 v2 v3 v4 v5 v7 v8 v9 x_len_3 x_cuts_4 x_bare_5 x_place_6 x_lA_7 x_lB_8 x_lC_9 a_letters_10 x_made a_numbers a_oneSided a_free a_ends a_marks_11) else
  if v8 = 0 then (bd1 (ca_at v1 v2 v9 a_numbers a_oneSided a_free a_ends) fun r_16 =>
  some (r_16, x_len_3, x_cuts_4, x_bare_5, x_place_6, x_lA_7, x_lB_8, x_lC_9, a_letters_10, x_made, a_numbers, a_oneSided, a_free, a_ends, a_marks_11)) else
  nm (v8 + Int32.ofInt (-1)) fun v8_15 =>
  cf_found_J109 k60 v1 v2 v3 v4 v5 v7 v8_15 v9 x_len_3 x_cuts_4 x_bare_5 x_place_6 x_lA_7 x_lB_8 x_lC_9 a_letters_10 x_made a_numbers a_oneSided a_free a_ends a_marks_11
noncomputable def cf_found (v1 : Int32) (v2 : Int32) (v3 : Int32) (v4 : Int32) (v5 : Int32) (v6 : Int32) (x_len : Int32) (x_cuts : Int32) (x_bare : Int32) (x_place : Int32) (x_lA : Int32) (x_lB : Int32) (x_lC : Int32) (a_letters : Nat → Int32) (x_made : Int32) (a_numbers : Nat → Int64) (a_oneSided : Nat → Int32) (a_free : Nat → Int32) (a_ends : Nat → Int32) (a_marks : Nat → Int64) : Option (Int64 × Int32 × Int32 × Int32 × Int32 × Int32 × Int32 × Int32 × (Nat → Int32) × Int32 × (Nat → Int64) × (Nat → Int32) × (Nat → Int32) × (Nat → Int32) × (Nat → Int64)) :=
  bd1 (cf_isList v1 v2) fun r_18 =>
  if r_18 = 0 then (some (((-1) : Int64), x_len, x_cuts, x_bare, x_place, x_lA, x_lB, x_lC, a_letters, x_made, a_numbers, a_oneSided, a_free, a_ends, a_marks)) else
  bd1 (cf_within v3 0 14) fun r_20 =>
  if r_20 = 0 then (some (((-1) : Int64), x_len, x_cuts, x_bare, x_place, x_lA, x_lB, x_lC, a_letters, x_made, a_numbers, a_oneSided, a_free, a_ends, a_marks)) else
  if v5 < v4 then (some (((-1) : Int64), x_len, x_cuts, x_bare, x_place, x_lA, x_lB, x_lC, a_letters, x_made, a_numbers, a_oneSided, a_free, a_ends, a_marks)) else
  if 0 ≤ v6 then (bd5 (ca_prepare v1 x_made a_numbers a_oneSided a_free a_ends) fun x_made_22 a_numbers_23 a_oneSided_24 a_free_25 a_ends_26 =>
  bd1 (ca_size v1 v2 a_ends_26) fun r_28 =>
  fl11 (cf_found_B60 v1 v2 v3 v4 v5 r_28 x_made_22 a_numbers_23 a_oneSided_24 a_free_25 a_ends_26) FU v6 0 x_len x_cuts x_bare x_place x_lA x_lB x_lC a_letters a_marks) else
  some (((-1) : Int64), x_len, x_cuts, x_bare, x_place, x_lA, x_lB, x_lC, a_letters, x_made, a_numbers, a_oneSided, a_free, a_ends, a_marks)
set_option maxHeartbeats 4000000 in
set_option maxRecDepth 100000 in
theorem c_cf_found (l : Launch) (D : va_G) (ct : Nat → ClassId) (ad : Nat → Nat) (hI : cI ad) {x_fed x_tk x_col x_line x_rcells x_rsize x_len x_cuts x_bare x_place x_lA x_lB x_lC x_fX x_fY x_sX x_sY x_made x_fsize x_psize x_over x_touch x_most x_mU x_mV x_area : Int32} {x_board : Int64} {a_tape a_letters a_oneSided a_free a_ends a_crowds a_wmade a_firsts a_widths a_heights a_places a_next a_pnear a_table a_overlaps : Nat → Int32} {a_drawers a_kept a_items a_numbers a_marks a_near a_figures a_covered a_pcells a_matrix : Nat → Int64} (v1 : Int32) (v2 : Int32) (v3 : Int32) (v4 : Int32) (v5 : Int32) (v6 : Int32) (r : Int64) (z_x_len : Int32) (z_x_cuts : Int32) (z_x_bare : Int32) (z_x_place : Int32) (z_x_lA : Int32) (z_x_lB : Int32) (z_x_lC : Int32) (z_a_letters : Nat → Int32) (z_x_made : Int32) (z_a_numbers : Nat → Int64) (z_a_oneSided : Nat → Int32) (z_a_free : Nat → Int32) (z_a_ends : Nat → Int32) (z_a_marks : Nat → Int64) (h : cf_found v1 v2 v3 v4 v5 v6 x_len x_cuts x_bare x_place x_lA x_lB x_lC a_letters x_made a_numbers a_oneSided a_free a_ends a_marks = some (r, z_x_len, z_x_cuts, z_x_bare, z_x_place, z_x_lA, z_x_lB, z_x_lC, z_a_letters, z_x_made, z_a_numbers, z_a_oneSided, z_a_free, z_a_ends, z_a_marks)) : Met l yX11_found (wm yX11_found cX11_found 10 (some .long)) (rmm 6 151) (va_Pc [.ref (ad 0), .int v1, .int v2, .int v3, .int v4, .int v5, .int v6] (cB D ct ad x_fed x_tk x_col x_line x_rcells x_rsize x_len x_cuts x_bare x_place x_lA x_lB x_lC x_fX x_fY x_sX x_sY x_made x_fsize x_psize x_over x_touch x_most x_mU x_mV x_area x_board a_tape a_letters a_oneSided a_free a_ends a_crowds a_wmade a_firsts a_widths a_heights a_places a_next a_pnear a_table a_overlaps a_drawers a_kept a_items a_numbers a_marks a_near a_figures a_covered a_pcells a_matrix)) (va_Ql (fun z (_ : Unit) => z = r) (fun _ t => cP D ct ad x_fed x_tk x_col x_line x_rcells x_rsize z_x_len z_x_cuts z_x_bare z_x_place z_x_lA z_x_lB z_x_lC x_fX x_fY x_sX x_sY z_x_made x_fsize x_psize x_over x_touch x_most x_mU x_mV x_area x_board a_tape z_a_letters z_a_oneSided z_a_free z_a_ends a_crowds a_wmade a_firsts a_widths a_heights a_places a_next a_pnear a_table a_overlaps a_drawers a_kept a_items z_a_numbers z_a_marks a_near a_figures a_covered a_pcells a_matrix t.heap) (cA ad)) 0 0 (cA ad) := by
  refine met_s (y := yX11_found) (rm := rmm 6 151) (by decide) (Nat.le_of_ble_eq_true rfl) ?_
  intro p e s m below meth c hx hb hr hw hown hlocks _ hml hB ls hl
  obtain ⟨hN, hK, hP⟩ := hB
  replace hl : lv_has ls 10 [(0, .ref (ad 0)), (1, .int v1), (2, .int v2), (3, .int v3), (4, .int v4), (5, .int v5), (6, .int v6)] := hl
  have hS : va_S (cA ad) s.heap s.heap [] := va_S.rf
  generalize (([.ref (ad 0), .int v1, .int v2, .int v3, .int v4, .int v5, .int v6] : List Value).toArray) = av at hw ⊢
  rw [cf_found] at h
  have hL60 : ∀ (v1 : Int32), ∀ (v2 : Int32), ∀ (v3 : Int32), ∀ (v4 : Int32), ∀ (v5 : Int32), ∀ (v7 : Int32), ∀ (x_made : Int32), ∀ (a_numbers : Nat → Int64), ∀ (a_oneSided : Nat → Int32), ∀ (a_free : Nat → Int32), ∀ (a_ends : Nat → Int32), ∀ (n60 : Nat) (H : Heap) (locs : List Loc) (ls : Array Slot) (v8 : Int32) (v9 : Int32) (x_len : Int32) (x_cuts : Int32) (x_bare : Int32) (x_place : Int32) (x_lA : Int32) (x_lB : Int32) (x_lC : Int32) (a_letters : Nat → Int32) (a_marks : Nat → Int64), lv_has ls 10 [(0, .ref (ad 0)), (1, .int v1), (2, .int v2), (3, .int v3), (4, .int v4), (5, .int v5), (7, .int v7), (8, .int v8), (9, .int v9)] → cP D ct ad x_fed x_tk x_col x_line x_rcells x_rsize x_len x_cuts x_bare x_place x_lA x_lB x_lC x_fX x_fY x_sX x_sY x_made x_fsize x_psize x_over x_touch x_most x_mU x_mV x_area x_board a_tape a_letters a_oneSided a_free a_ends a_crowds a_wmade a_firsts a_widths a_heights a_places a_next a_pnear a_table a_overlaps a_drawers a_kept a_items a_numbers a_marks a_near a_figures a_covered a_pcells a_matrix H → va_S (cA ad) s.heap H locs → fl11 (cf_found_B60 v1 v2 v3 v4 v5 v7 x_made a_numbers a_oneSided a_free a_ends) n60 v8 v9 x_len x_cuts x_bare x_place x_lA x_lB x_lC a_letters a_marks = some (r, z_x_len, z_x_cuts, z_x_bare, z_x_place, z_x_lA, z_x_lB, z_x_lC, z_a_letters, z_x_made, z_a_numbers, z_a_oneSided, z_a_free, z_a_ends, z_a_marks) → W p l e (rmm 6 151) s m av below meth c H locs 0 0 (MQ below (va_Ql (fun z (_ : Unit) => z = r) (fun _ t => cP D ct ad x_fed x_tk x_col x_line x_rcells x_rsize z_x_len z_x_cuts z_x_bare z_x_place z_x_lA z_x_lB z_x_lC x_fX x_fY x_sX x_sY z_x_made x_fsize x_psize x_over x_touch x_most x_mU x_mV x_area x_board a_tape z_a_letters z_a_oneSided z_a_free z_a_ends a_crowds a_wmade a_firsts a_widths a_heights a_places a_next a_pnear a_table a_overlaps a_drawers a_kept a_items z_a_numbers z_a_marks a_near a_figures a_covered a_pcells a_matrix t.heap) (cA ad)) av s 0 0 (cA ad)) (F0 m 60 ls []) := by
    intro v1 v2 v3 v4 v5 v7 x_made a_numbers a_oneSided a_free a_ends n60
    induction n60 with
    | zero => intro H locs ls v8 v9 x_len x_cuts x_bare x_place x_lA x_lB x_lC a_letters a_marks hl hP hS h; cases h
    | succ n60 ih60 =>
      intro H locs ls v8 v9 x_len x_cuts x_bare x_place x_lA x_lB x_lC a_letters a_marks hl hP hS h
      replace h : cf_found_B60 v1 v2 v3 v4 v5 v7 x_made a_numbers a_oneSided a_free a_ends (fl11 (cf_found_B60 v1 v2 v3 v4 v5 v7 x_made a_numbers a_oneSided a_free a_ends) n60) v8 v9 x_len x_cuts x_bare x_place x_lA x_lB x_lC a_letters a_marks = some (r, z_x_len, z_x_cuts, z_x_bare, z_x_place, z_x_lA, z_x_lB, z_x_lC, z_a_letters, z_x_made, z_a_numbers, z_a_oneSided, z_a_free, z_a_ends, z_a_marks) := h
      generalize fl11 (cf_found_B60 v1 v2 v3 v4 v5 v7 x_made a_numbers a_oneSided a_free a_ends) n60 = k60 at h ih60
      have hJ109 : ∀ (H : Heap) (locs : List Loc) (ls : Array Slot) (v8 : Int32) (v9 : Int32) (x_len : Int32) (x_cuts : Int32) (x_bare : Int32) (x_place : Int32) (x_lA : Int32) (x_lB : Int32) (x_lC : Int32) (a_letters : Nat → Int32) (a_marks : Nat → Int64) , lv_has ls 10 [(0, .ref (ad 0)), (1, .int v1), (2, .int v2), (3, .int v3), (4, .int v4), (5, .int v5), (7, .int v7), (8, .int v8), (9, .int v9)] → cP D ct ad x_fed x_tk x_col x_line x_rcells x_rsize x_len x_cuts x_bare x_place x_lA x_lB x_lC x_fX x_fY x_sX x_sY x_made x_fsize x_psize x_over x_touch x_most x_mU x_mV x_area x_board a_tape a_letters a_oneSided a_free a_ends a_crowds a_wmade a_firsts a_widths a_heights a_places a_next a_pnear a_table a_overlaps a_drawers a_kept a_items a_numbers a_marks a_near a_figures a_covered a_pcells a_matrix H → va_S (cA ad) s.heap H locs → cf_found_J109 k60 v1 v2 v3 v4 v5 v7 v8 v9 x_len x_cuts x_bare x_place x_lA x_lB x_lC a_letters x_made a_numbers a_oneSided a_free a_ends a_marks = some (r, z_x_len, z_x_cuts, z_x_bare, z_x_place, z_x_lA, z_x_lB, z_x_lC, z_a_letters, z_x_made, z_a_numbers, z_a_oneSided, z_a_free, z_a_ends, z_a_marks) → W p l e (rmm 6 151) s m av below meth c H locs 0 0 (MQ below (va_Ql (fun z (_ : Unit) => z = r) (fun _ t => cP D ct ad x_fed x_tk x_col x_line x_rcells x_rsize z_x_len z_x_cuts z_x_bare z_x_place z_x_lA z_x_lB z_x_lC x_fX x_fY x_sX x_sY z_x_made x_fsize x_psize x_over x_touch x_most x_mU x_mV x_area x_board a_tape z_a_letters z_a_oneSided z_a_free z_a_ends a_crowds a_wmade a_firsts a_widths a_heights a_places a_next a_pnear a_table a_overlaps a_drawers a_kept a_items z_a_numbers z_a_marks a_near a_figures a_covered a_pcells a_matrix t.heap) (cA ad)) av s 0 0 (cA ad)) (F0 m 109 ls []) := by
        intro H locs ls v8 v9 x_len x_cuts x_bare x_place x_lA x_lB x_lC a_letters a_marks  hl hP hS h
        rw [cf_found_J109] at h
        obtain ⟨v9_30, ev9_30, h⟩ := nm_s h
        refine lv_iinc hx hb dX11_found_109 hl (k := 8) rfl ev9_30.symm (Nat.le_of_ble_eq_true rfl) (lv' := [(9, .int v9_30), (0, .ref (ad 0)), (1, .int v1), (2, .int v2), (3, .int v3), (4, .int v4), (5, .int v5), (7, .int v7), (8, .int v8)]) rfl (fun ls hl => ?_)
        refine lv_goto hx hb dX11_found_112 (tgt := 60) rfl ?_
        exact ih60 _ _ _ v8 v9_30 x_len x_cuts x_bare x_place x_lA x_lB x_lC a_letters a_marks (lv_sub hl [1, 2, 3, 4, 5, 6, 7, 8, 0] rfl) hP hS h
      rw [cf_found_B60] at h
      refine lv_iload hx hb dX11_found_60 (lv_at hl 8 rfl) ?_
      refine lv_iload hx hb dX11_found_62 (lv_at hl 6 rfl) ?_
      refine lv_icmp_ge hx hb dX11_found_64 (tgt := 115) rfl (fun hc => ?_) (fun hc => ?_)
      · replace h := ifp h hc
        refine lv_ldc2 hx hb hown (hw _ tw_19_14) dX11_found_115 ?_
        simp only [Option.some.injEq, Prod.mk.injEq] at h
        obtain ⟨rfl, rfl, rfl, rfl, rfl, rfl, rfl, rfl, rfl, rfl, rfl, rfl, rfl, rfl, rfl⟩ := h
        exact rc_l hx hb hr hlocks hS dX11_found_118 rfl hP
      · replace h := ifn h hc
        refine lv_aload_n hx hb dX11_found_67 rfl (lv_at hl 0 rfl) ?_
        refine cg_CF_6 hx hb hw hown hK hP dX11_found_68 ?_
        refine lv_iload_n hx hb dX11_found_71 rfl (lv_at hl 1 rfl) ?_
        refine lv_iload_n hx hb dX11_found_72 rfl (lv_at hl 2 rfl) ?_
        refine lv_iload hx hb dX11_found_73 (lv_at hl 8 rfl) ?_
        refine lv_iload_n hx hb dX11_found_75 rfl (lv_at hl 3 rfl) ?_
        obtain ⟨r_31, x_len_32, x_cuts_33, x_bare_34, x_place_35, x_lA_36, x_lB_37, x_lC_38, a_letters_39, a_marks_40, hr_41, h⟩ := bd10_s h
        refine hv_i hx hb hml hown hw cB_bl (cB_of hN hK hP) (cr_CA hK hP) (c_ca_trait l D ct ad hI v1 v2 v9 v3 r_31 x_len_32 x_cuts_33 x_bare_34 x_place_35 x_lA_36 x_lB_37 x_lC_38 a_letters_39 a_marks_40 hr_41) g_RX11_174 ⟨rfl, hd_X0_trait⟩ (rest := []) hl.1 hS (fun q h => h) dX11_found_76 rfl rfl ⟨Nat.le_of_ble_eq_true rfl, Nat.le_of_ble_eq_true rfl⟩ rfl rfl (Nat.le_of_ble_eq_true rfl) ⟨Nat.zero_le _, Nat.zero_le _⟩ (fun H locs hP _ hS => ?_)
        refine lv_iload hx hb dX11_found_79 (lv_at hl 4 rfl) ?_
        refine lv_iload hx hb dX11_found_81 (lv_at hl 5 rfl) ?_
        obtain ⟨r_42, hr_43, h⟩ := bd1_s h
        refine sc_i hx hb hml hown hw hN (c_cf_within l r_31 v4 v5 r_42 hr_43) g_RX11_95 hd_X11_within (rest := []) hl.1 hS dX11_found_83 rfl rfl ⟨Nat.le_of_ble_eq_true rfl, Nat.le_of_ble_eq_true rfl⟩ rfl rfl (Nat.le_of_ble_eq_true rfl) ⟨Nat.zero_le _, Nat.zero_le _⟩ (fun H locs hk hS => ?_)
        have hP := cP_kept hP hk
        refine lv_if_eq hx hb dX11_found_86 (tgt := 109) rfl (fun hc => ?_) (fun hc => ?_)
        · replace h := ifp h hc
          exact hJ109 _ _ _ v8 v9 x_len_32 x_cuts_33 x_bare_34 x_place_35 x_lA_36 x_lB_37 x_lC_38 a_letters_39 a_marks_40 (lv_sub hl [0, 1, 2, 3, 4, 5, 6, 7, 8] rfl) hP hS h
        · replace h := ifn h hc
          refine lv_iload hx hb dX11_found_89 (lv_at hl 7 rfl) ?_
          refine lv_if_ne hx hb dX11_found_91 (tgt := 106) rfl (fun hc => ?_) (fun hc => ?_)
          · replace h := ifn h hc
            obtain ⟨v8_44, ev8_44, h⟩ := nm_s h
            refine lv_iinc hx hb dX11_found_106 hl (k := 7) rfl ev8_44.symm (Nat.le_of_ble_eq_true rfl) (lv' := [(8, .int v8_44), (0, .ref (ad 0)), (1, .int v1), (2, .int v2), (3, .int v3), (4, .int v4), (5, .int v5), (7, .int v7), (9, .int v9)]) rfl (fun ls hl => ?_)
            exact hJ109 _ _ _ v8_44 v9 x_len_32 x_cuts_33 x_bare_34 x_place_35 x_lA_36 x_lB_37 x_lC_38 a_letters_39 a_marks_40 (lv_sub hl [1, 2, 3, 4, 5, 6, 7, 0, 8] rfl) hP hS h
          · replace h := ifp h hc
            refine lv_aload_n hx hb dX11_found_94 rfl (lv_at hl 0 rfl) ?_
            refine cg_CF_6 hx hb hw hown hK hP dX11_found_95 ?_
            refine lv_iload_n hx hb dX11_found_98 rfl (lv_at hl 1 rfl) ?_
            refine lv_iload_n hx hb dX11_found_99 rfl (lv_at hl 2 rfl) ?_
            refine lv_iload hx hb dX11_found_100 (lv_at hl 8 rfl) ?_
            obtain ⟨r_45, hr_46, h⟩ := bd1_s h
            refine hv_l hx hb hml hown hw cB_bl (cB_of hN hK hP) (cr_CA hK hP) (c_ca_at l D ct ad hI v1 v2 v9 r_45 hr_46) g_RX11_160 ⟨rfl, hd_X0_at⟩ (rest := []) hl.1 hS (fun q h => h) dX11_found_102 rfl rfl ⟨Nat.le_of_ble_eq_true rfl, Nat.le_of_ble_eq_true rfl⟩ rfl rfl (Nat.le_of_ble_eq_true rfl) ⟨Nat.zero_le _, Nat.zero_le _⟩ (fun H locs hP _ hS => ?_)
            simp only [Option.some.injEq, Prod.mk.injEq] at h
            obtain ⟨rfl, rfl, rfl, rfl, rfl, rfl, rfl, rfl, rfl, rfl, rfl, rfl, rfl, rfl, rfl⟩ := h
            exact rc_l hx hb hr hlocks hS dX11_found_105 rfl hP
  refine lv_iload_n hx hb dX11_found_0 rfl (lv_at hl 1 rfl) ?_
  refine lv_iload_n hx hb dX11_found_1 rfl (lv_at hl 2 rfl) ?_
  obtain ⟨r_47, hr_48, h⟩ := bd1_s h
  refine sc_i hx hb hml hown hw hN (c_cf_isList l v1 v2 r_47 hr_48) g_RX11_149 hd_X11_isList (rest := []) hl.1 hS dX11_found_2 rfl rfl ⟨Nat.le_of_ble_eq_true rfl, Nat.le_of_ble_eq_true rfl⟩ rfl rfl (Nat.le_of_ble_eq_true rfl) ⟨Nat.zero_le _, Nat.zero_le _⟩ (fun H locs hk hS => ?_)
  have hP := cP_kept hP hk
  refine lv_if_eq hx hb dX11_found_5 (tgt := 30) rfl (fun hc => ?_) (fun hc => ?_)
  · replace h := ifp h hc
    refine lv_ldc2 hx hb hown (hw _ tw_19_13) dX11_found_30 ?_
    simp only [Option.some.injEq, Prod.mk.injEq] at h
    obtain ⟨rfl, rfl, rfl, rfl, rfl, rfl, rfl, rfl, rfl, rfl, rfl, rfl, rfl, rfl, rfl⟩ := h
    exact rc_l hx hb hr hlocks hS dX11_found_33 rfl hP
  · replace h := ifn h hc
    refine lv_iload_n hx hb dX11_found_8 rfl (lv_at hl 3 rfl) ?_
    refine lv_iconst (v := 0) hx hb dX11_found_9 ki_0 ?_
    refine lv_bipush (v := 14) hx hb dX11_found_10 kb_14 ?_
    obtain ⟨r_49, hr_50, h⟩ := bd1_s h
    refine sc_i hx hb hml hown hw hN (c_cf_within l v3 0 14 r_49 hr_50) g_RX11_95 hd_X11_within (rest := []) hl.1 hS dX11_found_12 rfl rfl ⟨Nat.le_of_ble_eq_true rfl, Nat.le_of_ble_eq_true rfl⟩ rfl rfl (Nat.le_of_ble_eq_true rfl) ⟨Nat.zero_le _, Nat.zero_le _⟩ (fun H locs hk hS => ?_)
    have hP := cP_kept hP hk
    refine lv_if_eq hx hb dX11_found_15 (tgt := 30) rfl (fun hc => ?_) (fun hc => ?_)
    · replace h := ifp h hc
      refine lv_ldc2 hx hb hown (hw _ tw_19_13) dX11_found_30 ?_
      simp only [Option.some.injEq, Prod.mk.injEq] at h
      obtain ⟨rfl, rfl, rfl, rfl, rfl, rfl, rfl, rfl, rfl, rfl, rfl, rfl, rfl, rfl, rfl⟩ := h
      exact rc_l hx hb hr hlocks hS dX11_found_33 rfl hP
    · replace h := ifn h hc
      refine lv_iload hx hb dX11_found_18 (lv_at hl 5 rfl) ?_
      refine lv_iload hx hb dX11_found_20 (lv_at hl 4 rfl) ?_
      refine lv_icmp_lt hx hb dX11_found_22 (tgt := 30) rfl (fun hc => ?_) (fun hc => ?_)
      · replace h := ifp h hc
        refine lv_ldc2 hx hb hown (hw _ tw_19_13) dX11_found_30 ?_
        simp only [Option.some.injEq, Prod.mk.injEq] at h
        obtain ⟨rfl, rfl, rfl, rfl, rfl, rfl, rfl, rfl, rfl, rfl, rfl, rfl, rfl, rfl, rfl⟩ := h
        exact rc_l hx hb hr hlocks hS dX11_found_33 rfl hP
      · replace h := ifn h hc
        refine lv_iload hx hb dX11_found_25 (lv_at hl 6 rfl) ?_
        refine lv_if_ge hx hb dX11_found_27 (tgt := 34) rfl (fun hc => ?_) (fun hc => ?_)
        · replace h := ifp h hc
          refine lv_aload_n hx hb dX11_found_34 rfl (lv_at hl 0 rfl) ?_
          refine cg_CF_6 hx hb hw hown hK hP dX11_found_35 ?_
          refine lv_iload_n hx hb dX11_found_38 rfl (lv_at hl 1 rfl) ?_
          obtain ⟨x_made_51, a_numbers_52, a_oneSided_53, a_free_54, a_ends_55, hr_56, h⟩ := bd5_s h
          refine hv_v hx hb hml hown hw cB_bl (cB_of hN hK hP) (cr_CA hK hP) (c_ca_prepare l D ct ad hI v1 x_made_51 a_numbers_52 a_oneSided_53 a_free_54 a_ends_55 hr_56) g_RX11_153 ⟨rfl, hd_X0_prepare⟩ (rest := []) hl.1 hS (fun q h => h) dX11_found_39 rfl rfl ⟨Nat.le_of_ble_eq_true rfl, Nat.le_of_ble_eq_true rfl⟩ rfl rfl (Nat.le_of_ble_eq_true rfl) ⟨Nat.zero_le _, Nat.zero_le _⟩ (fun H locs hP _ hS => ?_)
          refine lv_aload_n hx hb dX11_found_42 rfl (lv_at hl 0 rfl) ?_
          refine cg_CF_6 hx hb hw hown hK hP dX11_found_43 ?_
          refine lv_iload_n hx hb dX11_found_46 rfl (lv_at hl 1 rfl) ?_
          refine lv_iload_n hx hb dX11_found_47 rfl (lv_at hl 2 rfl) ?_
          obtain ⟨r_57, hr_58, h⟩ := bd1_s h
          refine hv_i hx hb hml hown hw cB_bl (cB_of hN hK hP) (cr_CA hK hP) (c_ca_size l D ct ad hI v1 v2 r_57 hr_58) g_RX11_156 ⟨rfl, hd_X0_size⟩ (rest := []) hl.1 hS (fun q h => h) dX11_found_48 rfl rfl ⟨Nat.le_of_ble_eq_true rfl, Nat.le_of_ble_eq_true rfl⟩ rfl rfl (Nat.le_of_ble_eq_true rfl) ⟨Nat.zero_le _, Nat.zero_le _⟩ (fun H locs hP _ hS => ?_)
          refine lv_istore hx hb dX11_found_51 hl (Nat.le_of_ble_eq_true rfl) (lv' := [(7, .int r_57), (0, .ref (ad 0)), (1, .int v1), (2, .int v2), (3, .int v3), (4, .int v4), (5, .int v5), (6, .int v6)]) rfl (fun ls hl => ?_)
          refine lv_iload hx hb dX11_found_53 (lv_at hl 7 rfl) ?_
          refine lv_istore hx hb dX11_found_55 hl (Nat.le_of_ble_eq_true rfl) (lv' := [(8, .int v6), (7, .int r_57), (0, .ref (ad 0)), (1, .int v1), (2, .int v2), (3, .int v3), (4, .int v4), (5, .int v5), (6, .int v6)]) rfl (fun ls hl => ?_)
          refine lv_iconst (v := 0) hx hb dX11_found_57 ki_0 ?_
          refine lv_istore hx hb dX11_found_58 hl (Nat.le_of_ble_eq_true rfl) (lv' := [(9, .int 0), (8, .int v6), (7, .int r_57), (0, .ref (ad 0)), (1, .int v1), (2, .int v2), (3, .int v3), (4, .int v4), (5, .int v5), (6, .int v6)]) rfl (fun ls hl => ?_)
          exact hL60 v1 v2 v3 v4 v5 r_57 x_made_51 a_numbers_52 a_oneSided_53 a_free_54 a_ends_55 FU _ _ _ v6 0 x_len x_cuts x_bare x_place x_lA x_lB x_lC a_letters a_marks (lv_sub hl [3, 4, 5, 6, 7, 8, 2, 1, 0] rfl) hP hS h
        · replace h := ifn h hc
          refine lv_ldc2 hx hb hown (hw _ tw_19_13) dX11_found_30 ?_
          simp only [Option.some.injEq, Prod.mk.injEq] at h
          obtain ⟨rfl, rfl, rfl, rfl, rfl, rfl, rfl, rfl, rfl, rfl, rfl, rfl, rfl, rfl, rfl⟩ := h
          exact rc_l hx hb hr hlocks hS dX11_found_33 rfl hP
noncomputable def cf_crowd (v1 : Int32) (v2 : Int32) (v3 : Int32) (v4 : Int32) (x_len : Int32) (x_cuts : Int32) (x_bare : Int32) (x_place : Int32) (x_lA : Int32) (x_lB : Int32) (x_lC : Int32) (a_letters : Nat → Int32) (x_made : Int32) (a_numbers : Nat → Int64) (a_oneSided : Nat → Int32) (a_free : Nat → Int32) (a_ends : Nat → Int32) (a_marks : Nat → Int64) (a_crowds : Nat → Int32) : Option (Int32 × Int32 × Int32 × Int32 × Int32 × Int32 × Int32 × Int32 × (Nat → Int32) × Int32 × (Nat → Int64) × (Nat → Int32) × (Nat → Int32) × (Nat → Int32) × (Nat → Int64) × (Nat → Int32)) :=
  bd1 (cf_isList v1 v2) fun r_1 =>
  if r_1 = 0 then (some ((-1), x_len, x_cuts, x_bare, x_place, x_lA, x_lB, x_lC, a_letters, x_made, a_numbers, a_oneSided, a_free, a_ends, a_marks, a_crowds)) else
  bd1 (cf_within v3 0 14) fun r_3 =>
  if r_3 = 0 then (some ((-1), x_len, x_cuts, x_bare, x_place, x_lA, x_lB, x_lC, a_letters, x_made, a_numbers, a_oneSided, a_free, a_ends, a_marks, a_crowds)) else
  bd5 (ca_prepare v1 x_made a_numbers a_oneSided a_free a_ends) fun x_made_5 a_numbers_6 a_oneSided_7 a_free_8 a_ends_9 =>
  bd11 (ca_crowds v1 v2 v3 v4 x_len x_cuts x_bare x_place x_lA x_lB x_lC a_letters a_numbers_6 a_oneSided_7 a_free_8 a_ends_9 a_marks a_crowds) fun r_11 x_len_12 x_cuts_13 x_bare_14 x_place_15 x_lA_16 x_lB_17 x_lC_18 a_letters_19 a_marks_20 a_crowds_21 =>
  some (r_11, x_len_12, x_cuts_13, x_bare_14, x_place_15, x_lA_16, x_lB_17, x_lC_18, a_letters_19, x_made_5, a_numbers_6, a_oneSided_7, a_free_8, a_ends_9, a_marks_20, a_crowds_21)
set_option maxHeartbeats 4000000 in
set_option maxRecDepth 100000 in
theorem c_cf_crowd (l : Launch) (D : va_G) (ct : Nat → ClassId) (ad : Nat → Nat) (hI : cI ad) {x_fed x_tk x_col x_line x_rcells x_rsize x_len x_cuts x_bare x_place x_lA x_lB x_lC x_fX x_fY x_sX x_sY x_made x_fsize x_psize x_over x_touch x_most x_mU x_mV x_area : Int32} {x_board : Int64} {a_tape a_letters a_oneSided a_free a_ends a_crowds a_wmade a_firsts a_widths a_heights a_places a_next a_pnear a_table a_overlaps : Nat → Int32} {a_drawers a_kept a_items a_numbers a_marks a_near a_figures a_covered a_pcells a_matrix : Nat → Int64} (v1 : Int32) (v2 : Int32) (v3 : Int32) (v4 : Int32) (r : Int32) (z_x_len : Int32) (z_x_cuts : Int32) (z_x_bare : Int32) (z_x_place : Int32) (z_x_lA : Int32) (z_x_lB : Int32) (z_x_lC : Int32) (z_a_letters : Nat → Int32) (z_x_made : Int32) (z_a_numbers : Nat → Int64) (z_a_oneSided : Nat → Int32) (z_a_free : Nat → Int32) (z_a_ends : Nat → Int32) (z_a_marks : Nat → Int64) (z_a_crowds : Nat → Int32) (h : cf_crowd v1 v2 v3 v4 x_len x_cuts x_bare x_place x_lA x_lB x_lC a_letters x_made a_numbers a_oneSided a_free a_ends a_marks a_crowds = some (r, z_x_len, z_x_cuts, z_x_bare, z_x_place, z_x_lA, z_x_lB, z_x_lC, z_a_letters, z_x_made, z_a_numbers, z_a_oneSided, z_a_free, z_a_ends, z_a_marks, z_a_crowds)) : Met l yX11_crowd (wm yX11_crowd cX11_crowd 5 (some .int)) (rmm 7 180) (va_Pc [.ref (ad 0), .int v1, .int v2, .int v3, .int v4] (cB D ct ad x_fed x_tk x_col x_line x_rcells x_rsize x_len x_cuts x_bare x_place x_lA x_lB x_lC x_fX x_fY x_sX x_sY x_made x_fsize x_psize x_over x_touch x_most x_mU x_mV x_area x_board a_tape a_letters a_oneSided a_free a_ends a_crowds a_wmade a_firsts a_widths a_heights a_places a_next a_pnear a_table a_overlaps a_drawers a_kept a_items a_numbers a_marks a_near a_figures a_covered a_pcells a_matrix)) (va_Qi (fun z (_ : Unit) => z = r) (fun _ t => cP D ct ad x_fed x_tk x_col x_line x_rcells x_rsize z_x_len z_x_cuts z_x_bare z_x_place z_x_lA z_x_lB z_x_lC x_fX x_fY x_sX x_sY z_x_made x_fsize x_psize x_over x_touch x_most x_mU x_mV x_area x_board a_tape z_a_letters z_a_oneSided z_a_free z_a_ends z_a_crowds a_wmade a_firsts a_widths a_heights a_places a_next a_pnear a_table a_overlaps a_drawers a_kept a_items z_a_numbers z_a_marks a_near a_figures a_covered a_pcells a_matrix t.heap) (cA ad)) 0 0 (cA ad) := by
  refine met_s (y := yX11_crowd) (rm := rmm 7 180) (by decide) (Nat.le_of_ble_eq_true rfl) ?_
  intro p e s m below meth c hx hb hr hw hown hlocks _ hml hB ls hl
  obtain ⟨hN, hK, hP⟩ := hB
  replace hl : lv_has ls 5 [(0, .ref (ad 0)), (1, .int v1), (2, .int v2), (3, .int v3), (4, .int v4)] := hl
  have hS : va_S (cA ad) s.heap s.heap [] := va_S.rf
  generalize (([.ref (ad 0), .int v1, .int v2, .int v3, .int v4] : List Value).toArray) = av at hw ⊢
  rw [cf_crowd] at h
  refine lv_iload_n hx hb dX11_crowd_0 rfl (lv_at hl 1 rfl) ?_
  refine lv_iload_n hx hb dX11_crowd_1 rfl (lv_at hl 2 rfl) ?_
  obtain ⟨r_23, hr_24, h⟩ := bd1_s h
  refine sc_i hx hb hml hown hw hN (c_cf_isList l v1 v2 r_23 hr_24) g_RX11_149 hd_X11_isList (rest := []) hl.1 hS dX11_crowd_2 rfl rfl ⟨Nat.le_of_ble_eq_true rfl, Nat.le_of_ble_eq_true rfl⟩ rfl rfl (Nat.le_of_ble_eq_true rfl) ⟨Nat.zero_le _, Nat.zero_le _⟩ (fun H locs hk hS => ?_)
  have hP := cP_kept hP hk
  refine lv_if_eq hx hb dX11_crowd_5 (tgt := 18) rfl (fun hc => ?_) (fun hc => ?_)
  · replace h := ifp h hc
    refine lv_iconst (v := (-1)) hx hb dX11_crowd_18 ki_m1 ?_
    simp only [Option.some.injEq, Prod.mk.injEq] at h
    obtain ⟨rfl, rfl, rfl, rfl, rfl, rfl, rfl, rfl, rfl, rfl, rfl, rfl, rfl, rfl, rfl, rfl⟩ := h
    exact rc_i hx hb hr hlocks hS dX11_crowd_19 rfl hP
  · replace h := ifn h hc
    refine lv_iload_n hx hb dX11_crowd_8 rfl (lv_at hl 3 rfl) ?_
    refine lv_iconst (v := 0) hx hb dX11_crowd_9 ki_0 ?_
    refine lv_bipush (v := 14) hx hb dX11_crowd_10 kb_14 ?_
    obtain ⟨r_25, hr_26, h⟩ := bd1_s h
    refine sc_i hx hb hml hown hw hN (c_cf_within l v3 0 14 r_25 hr_26) g_RX11_95 hd_X11_within (rest := []) hl.1 hS dX11_crowd_12 rfl rfl ⟨Nat.le_of_ble_eq_true rfl, Nat.le_of_ble_eq_true rfl⟩ rfl rfl (Nat.le_of_ble_eq_true rfl) ⟨Nat.zero_le _, Nat.zero_le _⟩ (fun H locs hk hS => ?_)
    have hP := cP_kept hP hk
    refine lv_if_ne hx hb dX11_crowd_15 (tgt := 20) rfl (fun hc => ?_) (fun hc => ?_)
    · replace h := ifn h hc
      refine lv_aload_n hx hb dX11_crowd_20 rfl (lv_at hl 0 rfl) ?_
      refine cg_CF_6 hx hb hw hown hK hP dX11_crowd_21 ?_
      refine lv_iload_n hx hb dX11_crowd_24 rfl (lv_at hl 1 rfl) ?_
      obtain ⟨x_made_27, a_numbers_28, a_oneSided_29, a_free_30, a_ends_31, hr_32, h⟩ := bd5_s h
      refine hv_v hx hb hml hown hw cB_bl (cB_of hN hK hP) (cr_CA hK hP) (c_ca_prepare l D ct ad hI v1 x_made_27 a_numbers_28 a_oneSided_29 a_free_30 a_ends_31 hr_32) g_RX11_153 ⟨rfl, hd_X0_prepare⟩ (rest := []) hl.1 hS (fun q h => h) dX11_crowd_25 rfl rfl ⟨Nat.le_of_ble_eq_true rfl, Nat.le_of_ble_eq_true rfl⟩ rfl rfl (Nat.le_of_ble_eq_true rfl) ⟨Nat.zero_le _, Nat.zero_le _⟩ (fun H locs hP _ hS => ?_)
      refine lv_aload_n hx hb dX11_crowd_28 rfl (lv_at hl 0 rfl) ?_
      refine cg_CF_6 hx hb hw hown hK hP dX11_crowd_29 ?_
      refine lv_iload_n hx hb dX11_crowd_32 rfl (lv_at hl 1 rfl) ?_
      refine lv_iload_n hx hb dX11_crowd_33 rfl (lv_at hl 2 rfl) ?_
      refine lv_iload_n hx hb dX11_crowd_34 rfl (lv_at hl 3 rfl) ?_
      refine lv_iload hx hb dX11_crowd_35 (lv_at hl 4 rfl) ?_
      obtain ⟨r_33, x_len_34, x_cuts_35, x_bare_36, x_place_37, x_lA_38, x_lB_39, x_lC_40, a_letters_41, a_marks_42, a_crowds_43, hr_44, h⟩ := bd11_s h
      refine hv_i hx hb hml hown hw cB_bl (cB_of hN hK hP) (cr_CA hK hP) (c_ca_crowds l D ct ad hI v1 v2 v3 v4 r_33 x_len_34 x_cuts_35 x_bare_36 x_place_37 x_lA_38 x_lB_39 x_lC_40 a_letters_41 a_marks_42 a_crowds_43 hr_44) g_RX11_178 ⟨rfl, hd_X0_crowds⟩ (rest := []) hl.1 hS (fun q h => h) dX11_crowd_37 rfl rfl ⟨Nat.le_of_ble_eq_true rfl, Nat.le_of_ble_eq_true rfl⟩ rfl rfl (Nat.le_of_ble_eq_true rfl) ⟨Nat.zero_le _, Nat.zero_le _⟩ (fun H locs hP _ hS => ?_)
      simp only [Option.some.injEq, Prod.mk.injEq] at h
      obtain ⟨rfl, rfl, rfl, rfl, rfl, rfl, rfl, rfl, rfl, rfl, rfl, rfl, rfl, rfl, rfl, rfl⟩ := h
      exact rc_i hx hb hr hlocks hS dX11_crowd_40 rfl hP
    · replace h := ifp h hc
      refine lv_iconst (v := (-1)) hx hb dX11_crowd_18 ki_m1 ?_
      simp only [Option.some.injEq, Prod.mk.injEq] at h
      obtain ⟨rfl, rfl, rfl, rfl, rfl, rfl, rfl, rfl, rfl, rfl, rfl, rfl, rfl, rfl, rfl, rfl⟩ := h
      exact rc_i hx hb hr hlocks hS dX11_crowd_19 rfl hP
noncomputable def cf_kin (v1 : Int32) (v2 : Int32) (v3 : Int32) (a_drawers : Nat → Int64) (x_rsize : Int32) (a_items : Nat → Int64) : Option (Int32 × Int32 × (Nat → Int64)) :=
  bd1 (cf_isDrawer v1) fun r_1 =>
  if r_1 = 0 then (some ((-1), x_rsize, a_items)) else
  bd1 (cf_isKind v2) fun r_3 =>
  if r_3 = 0 then (some ((-1), x_rsize, a_items)) else
  ck v1 8 <|
  if (a_drawers v1.toNatClampNeg) = 0 then (some ((-2), x_rsize, a_items)) else
  ck v1 8 <|
  bd2 (gw_gather (a_drawers v1.toNatClampNeg) v2 v3 x_rsize a_items) fun x_rsize_5 a_items_6 =>
  bd1 (rw_size x_rsize_5) fun r_8 =>
  some (r_8, x_rsize_5, a_items_6)
set_option maxHeartbeats 4000000 in
set_option maxRecDepth 100000 in
theorem c_cf_kin (l : Launch) (D : va_G) (ct : Nat → ClassId) (ad : Nat → Nat) (hI : cI ad) {x_fed x_tk x_col x_line x_rcells x_rsize x_len x_cuts x_bare x_place x_lA x_lB x_lC x_fX x_fY x_sX x_sY x_made x_fsize x_psize x_over x_touch x_most x_mU x_mV x_area : Int32} {x_board : Int64} {a_tape a_letters a_oneSided a_free a_ends a_crowds a_wmade a_firsts a_widths a_heights a_places a_next a_pnear a_table a_overlaps : Nat → Int32} {a_drawers a_kept a_items a_numbers a_marks a_near a_figures a_covered a_pcells a_matrix : Nat → Int64} (v1 : Int32) (v2 : Int32) (v3 : Int32) (r : Int32) (z_x_rsize : Int32) (z_a_items : Nat → Int64) (h : cf_kin v1 v2 v3 a_drawers x_rsize a_items = some (r, z_x_rsize, z_a_items)) : Met l yX11_kin (wm yX11_kin cX11_kin 4 (some .int)) (rmm 6 151) (va_Pc [.ref (ad 0), .int v1, .int v2, .int v3] (cB D ct ad x_fed x_tk x_col x_line x_rcells x_rsize x_len x_cuts x_bare x_place x_lA x_lB x_lC x_fX x_fY x_sX x_sY x_made x_fsize x_psize x_over x_touch x_most x_mU x_mV x_area x_board a_tape a_letters a_oneSided a_free a_ends a_crowds a_wmade a_firsts a_widths a_heights a_places a_next a_pnear a_table a_overlaps a_drawers a_kept a_items a_numbers a_marks a_near a_figures a_covered a_pcells a_matrix)) (va_Qi (fun z (_ : Unit) => z = r) (fun _ t => cP D ct ad x_fed x_tk x_col x_line x_rcells z_x_rsize x_len x_cuts x_bare x_place x_lA x_lB x_lC x_fX x_fY x_sX x_sY x_made x_fsize x_psize x_over x_touch x_most x_mU x_mV x_area x_board a_tape a_letters a_oneSided a_free a_ends a_crowds a_wmade a_firsts a_widths a_heights a_places a_next a_pnear a_table a_overlaps a_drawers a_kept z_a_items a_numbers a_marks a_near a_figures a_covered a_pcells a_matrix t.heap) (cA ad)) 0 0 (cA ad) := by
  refine met_s (y := yX11_kin) (rm := rmm 6 151) (by decide) (Nat.le_of_ble_eq_true rfl) ?_
  intro p e s m below meth c hx hb hr hw hown hlocks _ hml hB ls hl
  obtain ⟨hN, hK, hP⟩ := hB
  replace hl : lv_has ls 4 [(0, .ref (ad 0)), (1, .int v1), (2, .int v2), (3, .int v3)] := hl
  have hS : va_S (cA ad) s.heap s.heap [] := va_S.rf
  generalize (([.ref (ad 0), .int v1, .int v2, .int v3] : List Value).toArray) = av at hw ⊢
  rw [cf_kin] at h
  refine lv_iload_n hx hb dX11_kin_0 rfl (lv_at hl 1 rfl) ?_
  obtain ⟨r_10, hr_11, h⟩ := bd1_s h
  refine sc_i hx hb hml hown hw hN (c_cf_isDrawer l v1 r_10 hr_11) g_RX11_91 hd_X11_isDrawer (rest := []) hl.1 hS dX11_kin_1 rfl rfl ⟨Nat.le_of_ble_eq_true rfl, Nat.le_of_ble_eq_true rfl⟩ rfl rfl (Nat.le_of_ble_eq_true rfl) ⟨Nat.zero_le _, Nat.zero_le _⟩ (fun H locs hk hS => ?_)
  have hP := cP_kept hP hk
  refine lv_if_eq hx hb dX11_kin_4 (tgt := 14) rfl (fun hc => ?_) (fun hc => ?_)
  · replace h := ifp h hc
    refine lv_iconst (v := (-1)) hx hb dX11_kin_14 ki_m1 ?_
    simp only [Option.some.injEq, Prod.mk.injEq] at h
    obtain ⟨rfl, rfl, rfl⟩ := h
    exact rc_i hx hb hr hlocks hS dX11_kin_15 rfl hP
  · replace h := ifn h hc
    refine lv_iload_n hx hb dX11_kin_7 rfl (lv_at hl 2 rfl) ?_
    obtain ⟨r_12, hr_13, h⟩ := bd1_s h
    refine sc_i hx hb hml hown hw hN (c_cf_isKind l v2 r_12 hr_13) g_RX11_127 hd_X11_isKind (rest := []) hl.1 hS dX11_kin_8 rfl rfl ⟨Nat.le_of_ble_eq_true rfl, Nat.le_of_ble_eq_true rfl⟩ rfl rfl (Nat.le_of_ble_eq_true rfl) ⟨Nat.zero_le _, Nat.zero_le _⟩ (fun H locs hk hS => ?_)
    have hP := cP_kept hP hk
    refine lv_if_ne hx hb dX11_kin_11 (tgt := 16) rfl (fun hc => ?_) (fun hc => ?_)
    · replace h := ifn h hc
      refine lv_aload_n hx hb dX11_kin_16 rfl (lv_at hl 0 rfl) ?_
      refine cg_CF_1 hx hb hw hown hK hP dX11_kin_17 ?_
      refine lv_iload_n hx hb dX11_kin_20 rfl (lv_at hl 1 rfl) ?_
      obtain ⟨hin, h⟩ := ck_s h
      refine cd_drawers hx hb hK hP hin dX11_kin_21 ?_
      refine lv_lconst (v := 0) hx hb dX11_kin_22 kl_0 ?_
      refine W.lcmp hx hb dX11_kin_23 ?_
      refine lv_if_ne hx hb dX11_kin_24 (tgt := 30) rfl (fun hc => ?_) (fun hc => ?_)
      · replace h := ifn h (fun q => hc ((lg_cmp_eq _ _).mpr q))
        refine lv_aload_n hx hb dX11_kin_30 rfl (lv_at hl 0 rfl) ?_
        refine cg_CF_1 hx hb hw hown hK hP dX11_kin_31 ?_
        refine lv_iload_n hx hb dX11_kin_34 rfl (lv_at hl 1 rfl) ?_
        obtain ⟨hin, h⟩ := ck_s h
        refine cd_drawers hx hb hK hP hin dX11_kin_35 ?_
        refine lv_iload_n hx hb dX11_kin_36 rfl (lv_at hl 2 rfl) ?_
        refine lv_iload_n hx hb dX11_kin_37 rfl (lv_at hl 3 rfl) ?_
        refine lv_aload_n hx hb dX11_kin_38 rfl (lv_at hl 0 rfl) ?_
        refine cg_CF_4 hx hb hw hown hK hP dX11_kin_39 ?_
        obtain ⟨x_rsize_14, a_items_15, hr_16, h⟩ := bd2_s h
        refine hs_v hx hb hml hown hw cB_bl (cB_of hN hK hP) (c_gw_gather l D ct ad hI (a_drawers v1.toNatClampNeg) v2 v3 x_rsize_14 a_items_15 hr_16) g_RX11_182 hd_X3_gather (rest := []) hl.1 hS (fun q h => h) dX11_kin_42 rfl rfl ⟨Nat.le_of_ble_eq_true rfl, Nat.le_of_ble_eq_true rfl⟩ rfl rfl (Nat.le_of_ble_eq_true rfl) ⟨Nat.zero_le _, Nat.zero_le _⟩ (fun H locs hP _ hS => ?_)
        refine lv_aload_n hx hb dX11_kin_45 rfl (lv_at hl 0 rfl) ?_
        refine cg_CF_4 hx hb hw hown hK hP dX11_kin_46 ?_
        obtain ⟨r_17, hr_18, h⟩ := bd1_s h
        refine hv_i hx hb hml hown hw cB_bl (cB_of hN hK hP) (cr_RW hK hP) (c_rw_size l D ct ad hI r_17 hr_18) g_RX11_188 ⟨rfl, hd_X8_size⟩ (rest := []) hl.1 hS (fun q h => h) dX11_kin_49 rfl rfl ⟨Nat.le_of_ble_eq_true rfl, Nat.le_of_ble_eq_true rfl⟩ rfl rfl (Nat.le_of_ble_eq_true rfl) ⟨Nat.zero_le _, Nat.zero_le _⟩ (fun H locs hP _ hS => ?_)
        simp only [Option.some.injEq, Prod.mk.injEq] at h
        obtain ⟨rfl, rfl, rfl⟩ := h
        exact rc_i hx hb hr hlocks hS dX11_kin_52 rfl hP
      · replace h := ifp h ((lg_cmp_eq _ _).mp hc)
        refine lv_bipush (v := (-2)) hx hb dX11_kin_27 kb_m2 ?_
        simp only [Option.some.injEq, Prod.mk.injEq] at h
        obtain ⟨rfl, rfl, rfl⟩ := h
        exact rc_i hx hb hr hlocks hS dX11_kin_29 rfl hP
    · replace h := ifp h hc
      refine lv_iconst (v := (-1)) hx hb dX11_kin_14 ki_m1 ?_
      simp only [Option.some.injEq, Prod.mk.injEq] at h
      obtain ⟨rfl, rfl, rfl⟩ := h
      exact rc_i hx hb hr hlocks hS dX11_kin_15 rfl hP
noncomputable def cf_kinAt (v1 : Int32) (v2 : Int32) (v3 : Int32) (v4 : Int32) (a_drawers : Nat → Int64) (x_rsize : Int32) (a_items : Nat → Int64) : Option (Int64 × Int32 × (Nat → Int64)) :=
  bd1 (cf_isDrawer v1) fun r_1 =>
  if r_1 = 0 then (some (((-1) : Int64), x_rsize, a_items)) else
  bd1 (cf_isKind v2) fun r_3 =>
  if r_3 = 0 then (some (((-1) : Int64), x_rsize, a_items)) else
  if 0 ≤ v4 then (ck v1 8 <|
  if (a_drawers v1.toNatClampNeg) = 0 then (some (((-2) : Int64), x_rsize, a_items)) else
  ck v1 8 <|
  bd2 (gw_gather (a_drawers v1.toNatClampNeg) v2 v3 x_rsize a_items) fun x_rsize_5 a_items_6 =>
  bd1 (rw_size x_rsize_5) fun r_8 =>
  if r_8 ≤ v4 then (some (((-3) : Int64), x_rsize_5, a_items_6)) else
  bd1 (rw_at v4 x_rsize_5 a_items_6) fun r_10 =>
  some (r_10, x_rsize_5, a_items_6)) else
  some (((-1) : Int64), x_rsize, a_items)
set_option maxHeartbeats 4000000 in
set_option maxRecDepth 100000 in
theorem c_cf_kinAt (l : Launch) (D : va_G) (ct : Nat → ClassId) (ad : Nat → Nat) (hI : cI ad) {x_fed x_tk x_col x_line x_rcells x_rsize x_len x_cuts x_bare x_place x_lA x_lB x_lC x_fX x_fY x_sX x_sY x_made x_fsize x_psize x_over x_touch x_most x_mU x_mV x_area : Int32} {x_board : Int64} {a_tape a_letters a_oneSided a_free a_ends a_crowds a_wmade a_firsts a_widths a_heights a_places a_next a_pnear a_table a_overlaps : Nat → Int32} {a_drawers a_kept a_items a_numbers a_marks a_near a_figures a_covered a_pcells a_matrix : Nat → Int64} (v1 : Int32) (v2 : Int32) (v3 : Int32) (v4 : Int32) (r : Int64) (z_x_rsize : Int32) (z_a_items : Nat → Int64) (h : cf_kinAt v1 v2 v3 v4 a_drawers x_rsize a_items = some (r, z_x_rsize, z_a_items)) : Met l yX11_kinAt (wm yX11_kinAt cX11_kinAt 5 (some .long)) (rmm 6 151) (va_Pc [.ref (ad 0), .int v1, .int v2, .int v3, .int v4] (cB D ct ad x_fed x_tk x_col x_line x_rcells x_rsize x_len x_cuts x_bare x_place x_lA x_lB x_lC x_fX x_fY x_sX x_sY x_made x_fsize x_psize x_over x_touch x_most x_mU x_mV x_area x_board a_tape a_letters a_oneSided a_free a_ends a_crowds a_wmade a_firsts a_widths a_heights a_places a_next a_pnear a_table a_overlaps a_drawers a_kept a_items a_numbers a_marks a_near a_figures a_covered a_pcells a_matrix)) (va_Ql (fun z (_ : Unit) => z = r) (fun _ t => cP D ct ad x_fed x_tk x_col x_line x_rcells z_x_rsize x_len x_cuts x_bare x_place x_lA x_lB x_lC x_fX x_fY x_sX x_sY x_made x_fsize x_psize x_over x_touch x_most x_mU x_mV x_area x_board a_tape a_letters a_oneSided a_free a_ends a_crowds a_wmade a_firsts a_widths a_heights a_places a_next a_pnear a_table a_overlaps a_drawers a_kept z_a_items a_numbers a_marks a_near a_figures a_covered a_pcells a_matrix t.heap) (cA ad)) 0 0 (cA ad) := by
  refine met_s (y := yX11_kinAt) (rm := rmm 6 151) (by decide) (Nat.le_of_ble_eq_true rfl) ?_
  intro p e s m below meth c hx hb hr hw hown hlocks _ hml hB ls hl
  obtain ⟨hN, hK, hP⟩ := hB
  replace hl : lv_has ls 5 [(0, .ref (ad 0)), (1, .int v1), (2, .int v2), (3, .int v3), (4, .int v4)] := hl
  have hS : va_S (cA ad) s.heap s.heap [] := va_S.rf
  generalize (([.ref (ad 0), .int v1, .int v2, .int v3, .int v4] : List Value).toArray) = av at hw ⊢
  rw [cf_kinAt] at h
  refine lv_iload_n hx hb dX11_kinAt_0 rfl (lv_at hl 1 rfl) ?_
  obtain ⟨r_12, hr_13, h⟩ := bd1_s h
  refine sc_i hx hb hml hown hw hN (c_cf_isDrawer l v1 r_12 hr_13) g_RX11_91 hd_X11_isDrawer (rest := []) hl.1 hS dX11_kinAt_1 rfl rfl ⟨Nat.le_of_ble_eq_true rfl, Nat.le_of_ble_eq_true rfl⟩ rfl rfl (Nat.le_of_ble_eq_true rfl) ⟨Nat.zero_le _, Nat.zero_le _⟩ (fun H locs hk hS => ?_)
  have hP := cP_kept hP hk
  refine lv_if_eq hx hb dX11_kinAt_4 (tgt := 19) rfl (fun hc => ?_) (fun hc => ?_)
  · replace h := ifp h hc
    refine lv_ldc2 hx hb hown (hw _ tw_19_13) dX11_kinAt_19 ?_
    simp only [Option.some.injEq, Prod.mk.injEq] at h
    obtain ⟨rfl, rfl, rfl⟩ := h
    exact rc_l hx hb hr hlocks hS dX11_kinAt_22 rfl hP
  · replace h := ifn h hc
    refine lv_iload_n hx hb dX11_kinAt_7 rfl (lv_at hl 2 rfl) ?_
    obtain ⟨r_14, hr_15, h⟩ := bd1_s h
    refine sc_i hx hb hml hown hw hN (c_cf_isKind l v2 r_14 hr_15) g_RX11_127 hd_X11_isKind (rest := []) hl.1 hS dX11_kinAt_8 rfl rfl ⟨Nat.le_of_ble_eq_true rfl, Nat.le_of_ble_eq_true rfl⟩ rfl rfl (Nat.le_of_ble_eq_true rfl) ⟨Nat.zero_le _, Nat.zero_le _⟩ (fun H locs hk hS => ?_)
    have hP := cP_kept hP hk
    refine lv_if_eq hx hb dX11_kinAt_11 (tgt := 19) rfl (fun hc => ?_) (fun hc => ?_)
    · replace h := ifp h hc
      refine lv_ldc2 hx hb hown (hw _ tw_19_13) dX11_kinAt_19 ?_
      simp only [Option.some.injEq, Prod.mk.injEq] at h
      obtain ⟨rfl, rfl, rfl⟩ := h
      exact rc_l hx hb hr hlocks hS dX11_kinAt_22 rfl hP
    · replace h := ifn h hc
      refine lv_iload hx hb dX11_kinAt_14 (lv_at hl 4 rfl) ?_
      refine lv_if_ge hx hb dX11_kinAt_16 (tgt := 23) rfl (fun hc => ?_) (fun hc => ?_)
      · replace h := ifp h hc
        refine lv_aload_n hx hb dX11_kinAt_23 rfl (lv_at hl 0 rfl) ?_
        refine cg_CF_1 hx hb hw hown hK hP dX11_kinAt_24 ?_
        refine lv_iload_n hx hb dX11_kinAt_27 rfl (lv_at hl 1 rfl) ?_
        obtain ⟨hin, h⟩ := ck_s h
        refine cd_drawers hx hb hK hP hin dX11_kinAt_28 ?_
        refine lv_lconst (v := 0) hx hb dX11_kinAt_29 kl_0 ?_
        refine W.lcmp hx hb dX11_kinAt_30 ?_
        refine lv_if_ne hx hb dX11_kinAt_31 (tgt := 38) rfl (fun hc => ?_) (fun hc => ?_)
        · replace h := ifn h (fun q => hc ((lg_cmp_eq _ _).mpr q))
          refine lv_aload_n hx hb dX11_kinAt_38 rfl (lv_at hl 0 rfl) ?_
          refine cg_CF_1 hx hb hw hown hK hP dX11_kinAt_39 ?_
          refine lv_iload_n hx hb dX11_kinAt_42 rfl (lv_at hl 1 rfl) ?_
          obtain ⟨hin, h⟩ := ck_s h
          refine cd_drawers hx hb hK hP hin dX11_kinAt_43 ?_
          refine lv_iload_n hx hb dX11_kinAt_44 rfl (lv_at hl 2 rfl) ?_
          refine lv_iload_n hx hb dX11_kinAt_45 rfl (lv_at hl 3 rfl) ?_
          refine lv_aload_n hx hb dX11_kinAt_46 rfl (lv_at hl 0 rfl) ?_
          refine cg_CF_4 hx hb hw hown hK hP dX11_kinAt_47 ?_
          obtain ⟨x_rsize_16, a_items_17, hr_18, h⟩ := bd2_s h
          refine hs_v hx hb hml hown hw cB_bl (cB_of hN hK hP) (c_gw_gather l D ct ad hI (a_drawers v1.toNatClampNeg) v2 v3 x_rsize_16 a_items_17 hr_18) g_RX11_182 hd_X3_gather (rest := []) hl.1 hS (fun q h => h) dX11_kinAt_50 rfl rfl ⟨Nat.le_of_ble_eq_true rfl, Nat.le_of_ble_eq_true rfl⟩ rfl rfl (Nat.le_of_ble_eq_true rfl) ⟨Nat.zero_le _, Nat.zero_le _⟩ (fun H locs hP _ hS => ?_)
          refine lv_iload hx hb dX11_kinAt_53 (lv_at hl 4 rfl) ?_
          refine lv_aload_n hx hb dX11_kinAt_55 rfl (lv_at hl 0 rfl) ?_
          refine cg_CF_4 hx hb hw hown hK hP dX11_kinAt_56 ?_
          obtain ⟨r_19, hr_20, h⟩ := bd1_s h
          refine hv_i hx hb hml hown hw cB_bl (cB_of hN hK hP) (cr_RW hK hP) (c_rw_size l D ct ad hI r_19 hr_20) g_RX11_188 ⟨rfl, hd_X8_size⟩ (rest := [.int v4]) hl.1 hS (fun q h => h) dX11_kinAt_59 rfl rfl ⟨Nat.le_of_ble_eq_true rfl, Nat.le_of_ble_eq_true rfl⟩ rfl rfl (Nat.le_of_ble_eq_true rfl) ⟨Nat.zero_le _, Nat.zero_le _⟩ (fun H locs hP _ hS => ?_)
          refine lv_icmp_ge hx hb dX11_kinAt_62 (tgt := 77) rfl (fun hc => ?_) (fun hc => ?_)
          · replace h := ifp h hc
            refine lv_ldc2 hx hb hown (hw _ tw_32_11) dX11_kinAt_77 ?_
            simp only [Option.some.injEq, Prod.mk.injEq] at h
            obtain ⟨rfl, rfl, rfl⟩ := h
            exact rc_l hx hb hr hlocks hS dX11_kinAt_80 rfl hP
          · replace h := ifn h hc
            refine lv_aload_n hx hb dX11_kinAt_65 rfl (lv_at hl 0 rfl) ?_
            refine cg_CF_4 hx hb hw hown hK hP dX11_kinAt_66 ?_
            refine lv_iload hx hb dX11_kinAt_69 (lv_at hl 4 rfl) ?_
            obtain ⟨r_21, hr_22, h⟩ := bd1_s h
            refine hv_l hx hb hml hown hw cB_bl (cB_of hN hK hP) (cr_RW hK hP) (c_rw_at l D ct ad hI v4 r_21 hr_22) g_RX11_191 ⟨rfl, hd_X8_at⟩ (rest := []) hl.1 hS (fun q h => h) dX11_kinAt_71 rfl rfl ⟨Nat.le_of_ble_eq_true rfl, Nat.le_of_ble_eq_true rfl⟩ rfl rfl (Nat.le_of_ble_eq_true rfl) ⟨Nat.zero_le _, Nat.zero_le _⟩ (fun H locs hP _ hS => ?_)
            refine lv_goto hx hb dX11_kinAt_74 (tgt := 80) rfl ?_
            simp only [Option.some.injEq, Prod.mk.injEq] at h
            obtain ⟨rfl, rfl, rfl⟩ := h
            exact rc_l hx hb hr hlocks hS dX11_kinAt_80 rfl hP
        · replace h := ifp h ((lg_cmp_eq _ _).mp hc)
          refine lv_ldc2 hx hb hown (hw _ tw_19_14) dX11_kinAt_34 ?_
          simp only [Option.some.injEq, Prod.mk.injEq] at h
          obtain ⟨rfl, rfl, rfl⟩ := h
          exact rc_l hx hb hr hlocks hS dX11_kinAt_37 rfl hP
      · replace h := ifn h hc
        refine lv_ldc2 hx hb hown (hw _ tw_19_13) dX11_kinAt_19 ?_
        simp only [Option.some.injEq, Prod.mk.injEq] at h
        obtain ⟨rfl, rfl, rfl⟩ := h
        exact rc_l hx hb hr hlocks hS dX11_kinAt_22 rfl hP
noncomputable def cf_way (v1 : Int32) (v2 : Int32) (a_drawers : Nat → Int64) (x_made : Int32) (a_numbers : Nat → Int64) (a_oneSided : Nat → Int32) (a_free : Nat → Int32) (a_ends : Nat → Int32) (a_near : Nat → Int64) (a_wmade : Nat → Int32) : Option (Int32 × Int32 × (Nat → Int64) × (Nat → Int32) × (Nat → Int32) × (Nat → Int32) × (Nat → Int64) × (Nat → Int32)) :=
  bd1 (cf_isDrawer v1) fun r_1 =>
  if r_1 = 0 then (some ((-1), x_made, a_numbers, a_oneSided, a_free, a_ends, a_near, a_wmade)) else
  bd1 (cf_isDrawer v2) fun r_3 =>
  if r_3 = 0 then (some ((-1), x_made, a_numbers, a_oneSided, a_free, a_ends, a_near, a_wmade)) else
  ck v1 8 <|
  if (a_drawers v1.toNatClampNeg) = 0 then (some ((-2), x_made, a_numbers, a_oneSided, a_free, a_ends, a_near, a_wmade)) else
  ck v2 8 <|
  if (a_drawers v2.toNatClampNeg) = 0 then (some ((-2), x_made, a_numbers, a_oneSided, a_free, a_ends, a_near, a_wmade)) else
  ck v1 8 <|
  bd1 (jl_bitCount (a_drawers v1.toNatClampNeg)) fun r_5 =>
  ck v2 8 <|
  bd1 (jl_bitCount (a_drawers v2.toNatClampNeg)) fun r_7 =>
  if r_5 = r_7 then (if r_5 ≤ 6 then (bd5 (ca_prepare r_5 x_made a_numbers a_oneSided a_free a_ends) fun x_made_9 a_numbers_10 a_oneSided_11 a_free_12 a_ends_13 =>
  bd2 (wy_prepare r_5 a_numbers_10 a_oneSided_11 a_free_12 a_ends_13 a_near a_wmade) fun a_near_15 a_wmade_16 =>
  ck v1 8 <|
  ck v2 8 <|
  bd1 (wy_steps r_5 (a_drawers v1.toNatClampNeg) (a_drawers v2.toNatClampNeg) a_numbers_10 a_oneSided_11 a_free_12 a_ends_13 a_near_15) fun r_18 =>
  some (r_18, x_made_9, a_numbers_10, a_oneSided_11, a_free_12, a_ends_13, a_near_15, a_wmade_16)) else
  some ((-3), x_made, a_numbers, a_oneSided, a_free, a_ends, a_near, a_wmade)) else
  some ((-3), x_made, a_numbers, a_oneSided, a_free, a_ends, a_near, a_wmade)
set_option maxHeartbeats 4000000 in
set_option maxRecDepth 100000 in
theorem c_cf_way (l : Launch) (D : va_G) (ct : Nat → ClassId) (ad : Nat → Nat) (hI : cI ad) {x_fed x_tk x_col x_line x_rcells x_rsize x_len x_cuts x_bare x_place x_lA x_lB x_lC x_fX x_fY x_sX x_sY x_made x_fsize x_psize x_over x_touch x_most x_mU x_mV x_area : Int32} {x_board : Int64} {a_tape a_letters a_oneSided a_free a_ends a_crowds a_wmade a_firsts a_widths a_heights a_places a_next a_pnear a_table a_overlaps : Nat → Int32} {a_drawers a_kept a_items a_numbers a_marks a_near a_figures a_covered a_pcells a_matrix : Nat → Int64} (v1 : Int32) (v2 : Int32) (r : Int32) (z_x_made : Int32) (z_a_numbers : Nat → Int64) (z_a_oneSided : Nat → Int32) (z_a_free : Nat → Int32) (z_a_ends : Nat → Int32) (z_a_near : Nat → Int64) (z_a_wmade : Nat → Int32) (h : cf_way v1 v2 a_drawers x_made a_numbers a_oneSided a_free a_ends a_near a_wmade = some (r, z_x_made, z_a_numbers, z_a_oneSided, z_a_free, z_a_ends, z_a_near, z_a_wmade)) : Met l yX11_way (wm yX11_way cX11_way 4 (some .int)) (rmm 6 160) (va_Pc [.ref (ad 0), .int v1, .int v2] (cB D ct ad x_fed x_tk x_col x_line x_rcells x_rsize x_len x_cuts x_bare x_place x_lA x_lB x_lC x_fX x_fY x_sX x_sY x_made x_fsize x_psize x_over x_touch x_most x_mU x_mV x_area x_board a_tape a_letters a_oneSided a_free a_ends a_crowds a_wmade a_firsts a_widths a_heights a_places a_next a_pnear a_table a_overlaps a_drawers a_kept a_items a_numbers a_marks a_near a_figures a_covered a_pcells a_matrix)) (va_Qi (fun z (_ : Unit) => z = r) (fun _ t => cP D ct ad x_fed x_tk x_col x_line x_rcells x_rsize x_len x_cuts x_bare x_place x_lA x_lB x_lC x_fX x_fY x_sX x_sY z_x_made x_fsize x_psize x_over x_touch x_most x_mU x_mV x_area x_board a_tape a_letters z_a_oneSided z_a_free z_a_ends a_crowds z_a_wmade a_firsts a_widths a_heights a_places a_next a_pnear a_table a_overlaps a_drawers a_kept a_items z_a_numbers a_marks z_a_near a_figures a_covered a_pcells a_matrix t.heap) (cA ad)) 0 0 (cA ad) := by
  refine met_s (y := yX11_way) (rm := rmm 6 160) (by decide) (Nat.le_of_ble_eq_true rfl) ?_
  intro p e s m below meth c hx hb hr hw hown hlocks _ hml hB ls hl
  obtain ⟨hN, hK, hP⟩ := hB
  replace hl : lv_has ls 4 [(0, .ref (ad 0)), (1, .int v1), (2, .int v2)] := hl
  have hS : va_S (cA ad) s.heap s.heap [] := va_S.rf
  generalize (([.ref (ad 0), .int v1, .int v2] : List Value).toArray) = av at hw ⊢
  rw [cf_way] at h
  refine lv_iload_n hx hb dX11_way_0 rfl (lv_at hl 1 rfl) ?_
  obtain ⟨r_20, hr_21, h⟩ := bd1_s h
  refine sc_i hx hb hml hown hw hN (c_cf_isDrawer l v1 r_20 hr_21) g_RX11_91 hd_X11_isDrawer (rest := []) hl.1 hS dX11_way_1 rfl rfl ⟨Nat.le_of_ble_eq_true rfl, Nat.le_of_ble_eq_true rfl⟩ rfl rfl (Nat.le_of_ble_eq_true rfl) ⟨Nat.zero_le _, Nat.zero_le _⟩ (fun H locs hk hS => ?_)
  have hP := cP_kept hP hk
  refine lv_if_eq hx hb dX11_way_4 (tgt := 14) rfl (fun hc => ?_) (fun hc => ?_)
  · replace h := ifp h hc
    refine lv_iconst (v := (-1)) hx hb dX11_way_14 ki_m1 ?_
    simp only [Option.some.injEq, Prod.mk.injEq] at h
    obtain ⟨rfl, rfl, rfl, rfl, rfl, rfl, rfl, rfl⟩ := h
    exact rc_i hx hb hr hlocks hS dX11_way_15 rfl hP
  · replace h := ifn h hc
    refine lv_iload_n hx hb dX11_way_7 rfl (lv_at hl 2 rfl) ?_
    obtain ⟨r_22, hr_23, h⟩ := bd1_s h
    refine sc_i hx hb hml hown hw hN (c_cf_isDrawer l v2 r_22 hr_23) g_RX11_91 hd_X11_isDrawer (rest := []) hl.1 hS dX11_way_8 rfl rfl ⟨Nat.le_of_ble_eq_true rfl, Nat.le_of_ble_eq_true rfl⟩ rfl rfl (Nat.le_of_ble_eq_true rfl) ⟨Nat.zero_le _, Nat.zero_le _⟩ (fun H locs hk hS => ?_)
    have hP := cP_kept hP hk
    refine lv_if_ne hx hb dX11_way_11 (tgt := 16) rfl (fun hc => ?_) (fun hc => ?_)
    · replace h := ifn h hc
      refine lv_aload_n hx hb dX11_way_16 rfl (lv_at hl 0 rfl) ?_
      refine cg_CF_1 hx hb hw hown hK hP dX11_way_17 ?_
      refine lv_iload_n hx hb dX11_way_20 rfl (lv_at hl 1 rfl) ?_
      obtain ⟨hin, h⟩ := ck_s h
      refine cd_drawers hx hb hK hP hin dX11_way_21 ?_
      refine lv_lconst (v := 0) hx hb dX11_way_22 kl_0 ?_
      refine W.lcmp hx hb dX11_way_23 ?_
      refine lv_if_eq hx hb dX11_way_24 (tgt := 38) rfl (fun hc => ?_) (fun hc => ?_)
      · replace h := ifp h ((lg_cmp_eq _ _).mp hc)
        refine lv_bipush (v := (-2)) hx hb dX11_way_38 kb_m2 ?_
        simp only [Option.some.injEq, Prod.mk.injEq] at h
        obtain ⟨rfl, rfl, rfl, rfl, rfl, rfl, rfl, rfl⟩ := h
        exact rc_i hx hb hr hlocks hS dX11_way_40 rfl hP
      · replace h := ifn h (fun q => hc ((lg_cmp_eq _ _).mpr q))
        refine lv_aload_n hx hb dX11_way_27 rfl (lv_at hl 0 rfl) ?_
        refine cg_CF_1 hx hb hw hown hK hP dX11_way_28 ?_
        refine lv_iload_n hx hb dX11_way_31 rfl (lv_at hl 2 rfl) ?_
        obtain ⟨hin, h⟩ := ck_s h
        refine cd_drawers hx hb hK hP hin dX11_way_32 ?_
        refine lv_lconst (v := 0) hx hb dX11_way_33 kl_0 ?_
        refine W.lcmp hx hb dX11_way_34 ?_
        refine lv_if_ne hx hb dX11_way_35 (tgt := 41) rfl (fun hc => ?_) (fun hc => ?_)
        · replace h := ifn h (fun q => hc ((lg_cmp_eq _ _).mpr q))
          refine lv_aload_n hx hb dX11_way_41 rfl (lv_at hl 0 rfl) ?_
          refine cg_CF_1 hx hb hw hown hK hP dX11_way_42 ?_
          refine lv_iload_n hx hb dX11_way_45 rfl (lv_at hl 1 rfl) ?_
          obtain ⟨hin, h⟩ := ck_s h
          refine cd_drawers hx hb hK hP hin dX11_way_46 ?_
          obtain ⟨r_24, hr_25, h⟩ := bd1_s h
          refine sc_i hx hb hml hown hw hN (c_jl_bitCount l (a_drawers v1.toNatClampNeg) r_24 hr_25) g_RX11_164 hd_J13_bitCount_95d88 (rest := []) hl.1 hS dX11_way_47 rfl rfl ⟨Nat.le_of_ble_eq_true rfl, Nat.le_of_ble_eq_true rfl⟩ rfl rfl (Nat.le_of_ble_eq_true rfl) ⟨Nat.zero_le _, Nat.zero_le _⟩ (fun H locs hk hS => ?_)
          have hP := cP_kept hP hk
          refine lv_istore_n hx hb dX11_way_50 rfl hl (Nat.le_of_ble_eq_true rfl) (lv' := [(3, .int r_24), (0, .ref (ad 0)), (1, .int v1), (2, .int v2)]) rfl (fun ls hl => ?_)
          refine lv_iload_n hx hb dX11_way_51 rfl (lv_at hl 0 rfl) ?_
          refine lv_aload_n hx hb dX11_way_52 rfl (lv_at hl 1 rfl) ?_
          refine cg_CF_1 hx hb hw hown hK hP dX11_way_53 ?_
          refine lv_iload_n hx hb dX11_way_56 rfl (lv_at hl 3 rfl) ?_
          obtain ⟨hin, h⟩ := ck_s h
          refine cd_drawers hx hb hK hP hin dX11_way_57 ?_
          obtain ⟨r_26, hr_27, h⟩ := bd1_s h
          refine sc_i hx hb hml hown hw hN (c_jl_bitCount l (a_drawers v2.toNatClampNeg) r_26 hr_27) g_RX11_164 hd_J13_bitCount_95d88 (rest := [.int r_24]) hl.1 hS dX11_way_58 rfl rfl ⟨Nat.le_of_ble_eq_true rfl, Nat.le_of_ble_eq_true rfl⟩ rfl rfl (Nat.le_of_ble_eq_true rfl) ⟨Nat.zero_le _, Nat.zero_le _⟩ (fun H locs hk hS => ?_)
          have hP := cP_kept hP hk
          refine lv_icmp_ne hx hb dX11_way_61 (tgt := 70) rfl (fun hc => ?_) (fun hc => ?_)
          · replace h := ifn h hc
            refine lv_bipush (v := (-3)) hx hb dX11_way_70 kb_m3 ?_
            simp only [Option.some.injEq, Prod.mk.injEq] at h
            obtain ⟨rfl, rfl, rfl, rfl, rfl, rfl, rfl, rfl⟩ := h
            exact rc_i hx hb hr hlocks hS dX11_way_72 rfl hP
          · replace h := ifp h hc
            refine lv_iload_n hx hb dX11_way_64 rfl (lv_at hl 0 rfl) ?_
            refine lv_bipush (v := 6) hx hb dX11_way_65 kb_6 ?_
            refine lv_icmp_le hx hb dX11_way_67 (tgt := 73) rfl (fun hc => ?_) (fun hc => ?_)
            · replace h := ifp h hc
              refine lv_aload_n hx hb dX11_way_73 rfl (lv_at hl 1 rfl) ?_
              refine cg_CF_6 hx hb hw hown hK hP dX11_way_74 ?_
              refine lv_iload_n hx hb dX11_way_77 rfl (lv_at hl 0 rfl) ?_
              obtain ⟨x_made_28, a_numbers_29, a_oneSided_30, a_free_31, a_ends_32, hr_33, h⟩ := bd5_s h
              refine hv_v hx hb hml hown hw cB_bl (cB_of hN hK hP) (cr_CA hK hP) (c_ca_prepare l D ct ad hI r_24 x_made_28 a_numbers_29 a_oneSided_30 a_free_31 a_ends_32 hr_33) g_RX11_153 ⟨rfl, hd_X0_prepare⟩ (rest := []) hl.1 hS (fun q h => h) dX11_way_78 rfl rfl ⟨Nat.le_of_ble_eq_true rfl, Nat.le_of_ble_eq_true rfl⟩ rfl rfl (Nat.le_of_ble_eq_true rfl) ⟨Nat.zero_le _, Nat.zero_le _⟩ (fun H locs hP _ hS => ?_)
              refine lv_aload_n hx hb dX11_way_81 rfl (lv_at hl 1 rfl) ?_
              refine cg_CF_7 hx hb hw hown hK hP dX11_way_82 ?_
              refine lv_iload_n hx hb dX11_way_85 rfl (lv_at hl 0 rfl) ?_
              obtain ⟨a_near_34, a_wmade_35, hr_36, h⟩ := bd2_s h
              refine hv_v hx hb hml hown hw cB_bl (cB_of hN hK hP) (cr_WY hK hP) (c_wy_prepare l D ct ad hI r_24 a_near_34 a_wmade_35 hr_36) g_RX11_196 ⟨rfl, hd_X10_prepare⟩ (rest := []) hl.1 hS (fun q h => h) dX11_way_86 rfl rfl ⟨Nat.le_of_ble_eq_true rfl, Nat.le_of_ble_eq_true rfl⟩ rfl rfl (Nat.le_of_ble_eq_true rfl) ⟨Nat.zero_le _, Nat.zero_le _⟩ (fun H locs hP _ hS => ?_)
              refine lv_aload_n hx hb dX11_way_89 rfl (lv_at hl 1 rfl) ?_
              refine cg_CF_7 hx hb hw hown hK hP dX11_way_90 ?_
              refine lv_iload_n hx hb dX11_way_93 rfl (lv_at hl 0 rfl) ?_
              refine lv_aload_n hx hb dX11_way_94 rfl (lv_at hl 1 rfl) ?_
              refine cg_CF_1 hx hb hw hown hK hP dX11_way_95 ?_
              refine lv_iload_n hx hb dX11_way_98 rfl (lv_at hl 2 rfl) ?_
              obtain ⟨hin, h⟩ := ck_s h
              refine cd_drawers hx hb hK hP hin dX11_way_99 ?_
              refine lv_aload_n hx hb dX11_way_100 rfl (lv_at hl 1 rfl) ?_
              refine cg_CF_1 hx hb hw hown hK hP dX11_way_101 ?_
              refine lv_iload_n hx hb dX11_way_104 rfl (lv_at hl 3 rfl) ?_
              obtain ⟨hin, h⟩ := ck_s h
              refine cd_drawers hx hb hK hP hin dX11_way_105 ?_
              obtain ⟨r_37, hr_38, h⟩ := bd1_s h
              refine hv_i hx hb hml hown hw cB_bl (cB_of hN hK hP) (cr_WY hK hP) (c_wy_steps l D ct ad hI r_24 (a_drawers v1.toNatClampNeg) (a_drawers v2.toNatClampNeg) r_37 hr_38) g_RX11_197 ⟨rfl, hd_X10_steps⟩ (rest := []) hl.1 hS (fun q h => h) dX11_way_106 rfl rfl ⟨Nat.le_of_ble_eq_true rfl, Nat.le_of_ble_eq_true rfl⟩ rfl rfl (Nat.le_of_ble_eq_true rfl) ⟨Nat.zero_le _, Nat.zero_le _⟩ (fun H locs hP _ hS => ?_)
              simp only [Option.some.injEq, Prod.mk.injEq] at h
              obtain ⟨rfl, rfl, rfl, rfl, rfl, rfl, rfl, rfl⟩ := h
              exact rc_i hx hb hr hlocks hS dX11_way_109 rfl hP
            · replace h := ifn h hc
              refine lv_bipush (v := (-3)) hx hb dX11_way_70 kb_m3 ?_
              simp only [Option.some.injEq, Prod.mk.injEq] at h
              obtain ⟨rfl, rfl, rfl, rfl, rfl, rfl, rfl, rfl⟩ := h
              exact rc_i hx hb hr hlocks hS dX11_way_72 rfl hP
        · replace h := ifp h ((lg_cmp_eq _ _).mp hc)
          refine lv_bipush (v := (-2)) hx hb dX11_way_38 kb_m2 ?_
          simp only [Option.some.injEq, Prod.mk.injEq] at h
          obtain ⟨rfl, rfl, rfl, rfl, rfl, rfl, rfl, rfl⟩ := h
          exact rc_i hx hb hr hlocks hS dX11_way_40 rfl hP
    · replace h := ifp h hc
      refine lv_iconst (v := (-1)) hx hb dX11_way_14 ki_m1 ?_
      simp only [Option.some.injEq, Prod.mk.injEq] at h
      obtain ⟨rfl, rfl, rfl, rfl, rfl, rfl, rfl, rfl⟩ := h
      exact rc_i hx hb hr hlocks hS dX11_way_15 rfl hP
noncomputable def cf_farthest (v1 : Int32) (v2 : Int32) (a_drawers : Nat → Int64) (x_made : Int32) (a_numbers : Nat → Int64) (a_oneSided : Nat → Int32) (a_free : Nat → Int32) (a_ends : Nat → Int32) (a_near : Nat → Int64) (a_wmade : Nat → Int32) : Option (Int32 × Int32 × (Nat → Int64) × (Nat → Int32) × (Nat → Int32) × (Nat → Int32) × (Nat → Int64) × (Nat → Int32)) :=
  bd1 (cf_isDrawer v1) fun r_1 =>
  if r_1 = 0 then (some ((-1), x_made, a_numbers, a_oneSided, a_free, a_ends, a_near, a_wmade)) else
  ck v1 8 <|
  if (a_drawers v1.toNatClampNeg) = 0 then (some ((-2), x_made, a_numbers, a_oneSided, a_free, a_ends, a_near, a_wmade)) else
  ck v1 8 <|
  bd1 (jl_bitCount (a_drawers v1.toNatClampNeg)) fun r_3 =>
  if r_3 ≤ 6 then (bd5 (ca_prepare r_3 x_made a_numbers a_oneSided a_free a_ends) fun x_made_5 a_numbers_6 a_oneSided_7 a_free_8 a_ends_9 =>
  bd2 (wy_prepare r_3 a_numbers_6 a_oneSided_7 a_free_8 a_ends_9 a_near a_wmade) fun a_near_11 a_wmade_12 =>
  ck v1 8 <|
  bd1 (wy_edge r_3 (a_drawers v1.toNatClampNeg) v2 a_numbers_6 a_oneSided_7 a_free_8 a_ends_9 a_near_11) fun r_14 =>
  some (r_14, x_made_5, a_numbers_6, a_oneSided_7, a_free_8, a_ends_9, a_near_11, a_wmade_12)) else
  some ((-3), x_made, a_numbers, a_oneSided, a_free, a_ends, a_near, a_wmade)
set_option maxHeartbeats 4000000 in
set_option maxRecDepth 100000 in
theorem c_cf_farthest (l : Launch) (D : va_G) (ct : Nat → ClassId) (ad : Nat → Nat) (hI : cI ad) {x_fed x_tk x_col x_line x_rcells x_rsize x_len x_cuts x_bare x_place x_lA x_lB x_lC x_fX x_fY x_sX x_sY x_made x_fsize x_psize x_over x_touch x_most x_mU x_mV x_area : Int32} {x_board : Int64} {a_tape a_letters a_oneSided a_free a_ends a_crowds a_wmade a_firsts a_widths a_heights a_places a_next a_pnear a_table a_overlaps : Nat → Int32} {a_drawers a_kept a_items a_numbers a_marks a_near a_figures a_covered a_pcells a_matrix : Nat → Int64} (v1 : Int32) (v2 : Int32) (r : Int32) (z_x_made : Int32) (z_a_numbers : Nat → Int64) (z_a_oneSided : Nat → Int32) (z_a_free : Nat → Int32) (z_a_ends : Nat → Int32) (z_a_near : Nat → Int64) (z_a_wmade : Nat → Int32) (h : cf_farthest v1 v2 a_drawers x_made a_numbers a_oneSided a_free a_ends a_near a_wmade = some (r, z_x_made, z_a_numbers, z_a_oneSided, z_a_free, z_a_ends, z_a_near, z_a_wmade)) : Met l yX11_farthest (wm yX11_farthest cX11_farthest 4 (some .int)) (rmm 6 160) (va_Pc [.ref (ad 0), .int v1, .int v2] (cB D ct ad x_fed x_tk x_col x_line x_rcells x_rsize x_len x_cuts x_bare x_place x_lA x_lB x_lC x_fX x_fY x_sX x_sY x_made x_fsize x_psize x_over x_touch x_most x_mU x_mV x_area x_board a_tape a_letters a_oneSided a_free a_ends a_crowds a_wmade a_firsts a_widths a_heights a_places a_next a_pnear a_table a_overlaps a_drawers a_kept a_items a_numbers a_marks a_near a_figures a_covered a_pcells a_matrix)) (va_Qi (fun z (_ : Unit) => z = r) (fun _ t => cP D ct ad x_fed x_tk x_col x_line x_rcells x_rsize x_len x_cuts x_bare x_place x_lA x_lB x_lC x_fX x_fY x_sX x_sY z_x_made x_fsize x_psize x_over x_touch x_most x_mU x_mV x_area x_board a_tape a_letters z_a_oneSided z_a_free z_a_ends a_crowds z_a_wmade a_firsts a_widths a_heights a_places a_next a_pnear a_table a_overlaps a_drawers a_kept a_items z_a_numbers a_marks z_a_near a_figures a_covered a_pcells a_matrix t.heap) (cA ad)) 0 0 (cA ad) := by
  refine met_s (y := yX11_farthest) (rm := rmm 6 160) (by decide) (Nat.le_of_ble_eq_true rfl) ?_
  intro p e s m below meth c hx hb hr hw hown hlocks _ hml hB ls hl
  obtain ⟨hN, hK, hP⟩ := hB
  replace hl : lv_has ls 4 [(0, .ref (ad 0)), (1, .int v1), (2, .int v2)] := hl
  have hS : va_S (cA ad) s.heap s.heap [] := va_S.rf
  generalize (([.ref (ad 0), .int v1, .int v2] : List Value).toArray) = av at hw ⊢
  rw [cf_farthest] at h
  refine lv_iload_n hx hb dX11_farthest_0 rfl (lv_at hl 1 rfl) ?_
  obtain ⟨r_16, hr_17, h⟩ := bd1_s h
  refine sc_i hx hb hml hown hw hN (c_cf_isDrawer l v1 r_16 hr_17) g_RX11_91 hd_X11_isDrawer (rest := []) hl.1 hS dX11_farthest_1 rfl rfl ⟨Nat.le_of_ble_eq_true rfl, Nat.le_of_ble_eq_true rfl⟩ rfl rfl (Nat.le_of_ble_eq_true rfl) ⟨Nat.zero_le _, Nat.zero_le _⟩ (fun H locs hk hS => ?_)
  have hP := cP_kept hP hk
  refine lv_if_ne hx hb dX11_farthest_4 (tgt := 9) rfl (fun hc => ?_) (fun hc => ?_)
  · replace h := ifn h hc
    refine lv_aload_n hx hb dX11_farthest_9 rfl (lv_at hl 0 rfl) ?_
    refine cg_CF_1 hx hb hw hown hK hP dX11_farthest_10 ?_
    refine lv_iload_n hx hb dX11_farthest_13 rfl (lv_at hl 1 rfl) ?_
    obtain ⟨hin, h⟩ := ck_s h
    refine cd_drawers hx hb hK hP hin dX11_farthest_14 ?_
    refine lv_lconst (v := 0) hx hb dX11_farthest_15 kl_0 ?_
    refine W.lcmp hx hb dX11_farthest_16 ?_
    refine lv_if_ne hx hb dX11_farthest_17 (tgt := 23) rfl (fun hc => ?_) (fun hc => ?_)
    · replace h := ifn h (fun q => hc ((lg_cmp_eq _ _).mpr q))
      refine lv_aload_n hx hb dX11_farthest_23 rfl (lv_at hl 0 rfl) ?_
      refine cg_CF_1 hx hb hw hown hK hP dX11_farthest_24 ?_
      refine lv_iload_n hx hb dX11_farthest_27 rfl (lv_at hl 1 rfl) ?_
      obtain ⟨hin, h⟩ := ck_s h
      refine cd_drawers hx hb hK hP hin dX11_farthest_28 ?_
      obtain ⟨r_18, hr_19, h⟩ := bd1_s h
      refine sc_i hx hb hml hown hw hN (c_jl_bitCount l (a_drawers v1.toNatClampNeg) r_18 hr_19) g_RX11_164 hd_J13_bitCount_95d88 (rest := []) hl.1 hS dX11_farthest_29 rfl rfl ⟨Nat.le_of_ble_eq_true rfl, Nat.le_of_ble_eq_true rfl⟩ rfl rfl (Nat.le_of_ble_eq_true rfl) ⟨Nat.zero_le _, Nat.zero_le _⟩ (fun H locs hk hS => ?_)
      have hP := cP_kept hP hk
      refine lv_istore_n hx hb dX11_farthest_32 rfl hl (Nat.le_of_ble_eq_true rfl) (lv' := [(3, .int r_18), (0, .ref (ad 0)), (1, .int v1), (2, .int v2)]) rfl (fun ls hl => ?_)
      refine lv_iload_n hx hb dX11_farthest_33 rfl (lv_at hl 0 rfl) ?_
      refine lv_bipush (v := 6) hx hb dX11_farthest_34 kb_6 ?_
      refine lv_icmp_le hx hb dX11_farthest_36 (tgt := 42) rfl (fun hc => ?_) (fun hc => ?_)
      · replace h := ifp h hc
        refine lv_aload_n hx hb dX11_farthest_42 rfl (lv_at hl 1 rfl) ?_
        refine cg_CF_6 hx hb hw hown hK hP dX11_farthest_43 ?_
        refine lv_iload_n hx hb dX11_farthest_46 rfl (lv_at hl 0 rfl) ?_
        obtain ⟨x_made_20, a_numbers_21, a_oneSided_22, a_free_23, a_ends_24, hr_25, h⟩ := bd5_s h
        refine hv_v hx hb hml hown hw cB_bl (cB_of hN hK hP) (cr_CA hK hP) (c_ca_prepare l D ct ad hI r_18 x_made_20 a_numbers_21 a_oneSided_22 a_free_23 a_ends_24 hr_25) g_RX11_153 ⟨rfl, hd_X0_prepare⟩ (rest := []) hl.1 hS (fun q h => h) dX11_farthest_47 rfl rfl ⟨Nat.le_of_ble_eq_true rfl, Nat.le_of_ble_eq_true rfl⟩ rfl rfl (Nat.le_of_ble_eq_true rfl) ⟨Nat.zero_le _, Nat.zero_le _⟩ (fun H locs hP _ hS => ?_)
        refine lv_aload_n hx hb dX11_farthest_50 rfl (lv_at hl 1 rfl) ?_
        refine cg_CF_7 hx hb hw hown hK hP dX11_farthest_51 ?_
        refine lv_iload_n hx hb dX11_farthest_54 rfl (lv_at hl 0 rfl) ?_
        obtain ⟨a_near_26, a_wmade_27, hr_28, h⟩ := bd2_s h
        refine hv_v hx hb hml hown hw cB_bl (cB_of hN hK hP) (cr_WY hK hP) (c_wy_prepare l D ct ad hI r_18 a_near_26 a_wmade_27 hr_28) g_RX11_196 ⟨rfl, hd_X10_prepare⟩ (rest := []) hl.1 hS (fun q h => h) dX11_farthest_55 rfl rfl ⟨Nat.le_of_ble_eq_true rfl, Nat.le_of_ble_eq_true rfl⟩ rfl rfl (Nat.le_of_ble_eq_true rfl) ⟨Nat.zero_le _, Nat.zero_le _⟩ (fun H locs hP _ hS => ?_)
        refine lv_aload_n hx hb dX11_farthest_58 rfl (lv_at hl 1 rfl) ?_
        refine cg_CF_7 hx hb hw hown hK hP dX11_farthest_59 ?_
        refine lv_iload_n hx hb dX11_farthest_62 rfl (lv_at hl 0 rfl) ?_
        refine lv_aload_n hx hb dX11_farthest_63 rfl (lv_at hl 1 rfl) ?_
        refine cg_CF_1 hx hb hw hown hK hP dX11_farthest_64 ?_
        refine lv_iload_n hx hb dX11_farthest_67 rfl (lv_at hl 2 rfl) ?_
        obtain ⟨hin, h⟩ := ck_s h
        refine cd_drawers hx hb hK hP hin dX11_farthest_68 ?_
        refine lv_iload_n hx hb dX11_farthest_69 rfl (lv_at hl 3 rfl) ?_
        obtain ⟨r_29, hr_30, h⟩ := bd1_s h
        refine hv_i hx hb hml hown hw cB_bl (cB_of hN hK hP) (cr_WY hK hP) (c_wy_edge l D ct ad hI r_18 (a_drawers v1.toNatClampNeg) v2 r_29 hr_30) g_RX11_201 ⟨rfl, hd_X10_edge⟩ (rest := []) hl.1 hS (fun q h => h) dX11_farthest_70 rfl rfl ⟨Nat.le_of_ble_eq_true rfl, Nat.le_of_ble_eq_true rfl⟩ rfl rfl (Nat.le_of_ble_eq_true rfl) ⟨Nat.zero_le _, Nat.zero_le _⟩ (fun H locs hP _ hS => ?_)
        simp only [Option.some.injEq, Prod.mk.injEq] at h
        obtain ⟨rfl, rfl, rfl, rfl, rfl, rfl, rfl, rfl⟩ := h
        exact rc_i hx hb hr hlocks hS dX11_farthest_73 rfl hP
      · replace h := ifn h hc
        refine lv_bipush (v := (-3)) hx hb dX11_farthest_39 kb_m3 ?_
        simp only [Option.some.injEq, Prod.mk.injEq] at h
        obtain ⟨rfl, rfl, rfl, rfl, rfl, rfl, rfl, rfl⟩ := h
        exact rc_i hx hb hr hlocks hS dX11_farthest_41 rfl hP
    · replace h := ifp h ((lg_cmp_eq _ _).mp hc)
      refine lv_bipush (v := (-2)) hx hb dX11_farthest_20 kb_m2 ?_
      simp only [Option.some.injEq, Prod.mk.injEq] at h
      obtain ⟨rfl, rfl, rfl, rfl, rfl, rfl, rfl, rfl⟩ := h
      exact rc_i hx hb hr hlocks hS dX11_farthest_22 rfl hP
  · replace h := ifp h hc
    refine lv_iconst (v := (-1)) hx hb dX11_farthest_7 ki_m1 ?_
    simp only [Option.some.injEq, Prod.mk.injEq] at h
    obtain ⟨rfl, rfl, rfl, rfl, rfl, rfl, rfl, rfl⟩ := h
    exact rc_i hx hb hr hlocks hS dX11_farthest_8 rfl hP
noncomputable def cf_drawn (v1 : Int32) (v2 : Int32) (v3 : Int32) (a_drawers : Nat → Int64) : Option (Int64 × (Nat → Int64)) :=
  bd1 (cf_isDrawer v1) fun r_1 =>
  if r_1 = 0 then (some (((-1) : Int64), a_drawers)) else
  bd1 (cf_within v3 1 12) fun r_3 =>
  if r_3 = 0 then (some (((-1) : Int64), a_drawers)) else
  bd1 (gw_byLots v2 v3) fun r_5 =>
  ck v1 8 <|
  nm (vp_updL a_drawers v1.toNatClampNeg r_5) fun a_drawers_7 =>
  ck v1 8 <|
  some (a_drawers_7 v1.toNatClampNeg, a_drawers_7)
set_option maxHeartbeats 4000000 in
set_option maxRecDepth 100000 in
theorem c_cf_drawn (l : Launch) (D : va_G) (ct : Nat → ClassId) (ad : Nat → Nat) (hI : cI ad) {x_fed x_tk x_col x_line x_rcells x_rsize x_len x_cuts x_bare x_place x_lA x_lB x_lC x_fX x_fY x_sX x_sY x_made x_fsize x_psize x_over x_touch x_most x_mU x_mV x_area : Int32} {x_board : Int64} {a_tape a_letters a_oneSided a_free a_ends a_crowds a_wmade a_firsts a_widths a_heights a_places a_next a_pnear a_table a_overlaps : Nat → Int32} {a_drawers a_kept a_items a_numbers a_marks a_near a_figures a_covered a_pcells a_matrix : Nat → Int64} (v1 : Int32) (v2 : Int32) (v3 : Int32) (r : Int64) (z_a_drawers : Nat → Int64) (h : cf_drawn v1 v2 v3 a_drawers = some (r, z_a_drawers)) : Met l yX11_drawn (wm yX11_drawn cX11_drawn 4 (some .long)) (rmm 4 99) (va_Pc [.ref (ad 0), .int v1, .int v2, .int v3] (cB D ct ad x_fed x_tk x_col x_line x_rcells x_rsize x_len x_cuts x_bare x_place x_lA x_lB x_lC x_fX x_fY x_sX x_sY x_made x_fsize x_psize x_over x_touch x_most x_mU x_mV x_area x_board a_tape a_letters a_oneSided a_free a_ends a_crowds a_wmade a_firsts a_widths a_heights a_places a_next a_pnear a_table a_overlaps a_drawers a_kept a_items a_numbers a_marks a_near a_figures a_covered a_pcells a_matrix)) (va_Ql (fun z (_ : Unit) => z = r) (fun _ t => cP D ct ad x_fed x_tk x_col x_line x_rcells x_rsize x_len x_cuts x_bare x_place x_lA x_lB x_lC x_fX x_fY x_sX x_sY x_made x_fsize x_psize x_over x_touch x_most x_mU x_mV x_area x_board a_tape a_letters a_oneSided a_free a_ends a_crowds a_wmade a_firsts a_widths a_heights a_places a_next a_pnear a_table a_overlaps z_a_drawers a_kept a_items a_numbers a_marks a_near a_figures a_covered a_pcells a_matrix t.heap) (cA ad)) 0 0 (cA ad) := by
  refine met_s (y := yX11_drawn) (rm := rmm 4 99) (by decide) (Nat.le_of_ble_eq_true rfl) ?_
  intro p e s m below meth c hx hb hr hw hown hlocks _ hml hB ls hl
  obtain ⟨hN, hK, hP⟩ := hB
  replace hl : lv_has ls 4 [(0, .ref (ad 0)), (1, .int v1), (2, .int v2), (3, .int v3)] := hl
  have hS : va_S (cA ad) s.heap s.heap [] := va_S.rf
  generalize (([.ref (ad 0), .int v1, .int v2, .int v3] : List Value).toArray) = av at hw ⊢
  rw [cf_drawn] at h
  refine lv_iload_n hx hb dX11_drawn_0 rfl (lv_at hl 1 rfl) ?_
  obtain ⟨r_8, hr_9, h⟩ := bd1_s h
  refine sc_i hx hb hml hown hw hN (c_cf_isDrawer l v1 r_8 hr_9) g_RX11_91 hd_X11_isDrawer (rest := []) hl.1 hS dX11_drawn_1 rfl rfl ⟨Nat.le_of_ble_eq_true rfl, Nat.le_of_ble_eq_true rfl⟩ rfl rfl (Nat.le_of_ble_eq_true rfl) ⟨Nat.zero_le _, Nat.zero_le _⟩ (fun H locs hk hS => ?_)
  have hP := cP_kept hP hk
  refine lv_if_eq hx hb dX11_drawn_4 (tgt := 17) rfl (fun hc => ?_) (fun hc => ?_)
  · replace h := ifp h hc
    refine lv_ldc2 hx hb hown (hw _ tw_19_13) dX11_drawn_17 ?_
    simp only [Option.some.injEq, Prod.mk.injEq] at h
    obtain ⟨rfl, rfl⟩ := h
    exact rc_l hx hb hr hlocks hS dX11_drawn_20 rfl hP
  · replace h := ifn h hc
    refine lv_iload_n hx hb dX11_drawn_7 rfl (lv_at hl 3 rfl) ?_
    refine lv_iconst (v := 1) hx hb dX11_drawn_8 ki_1 ?_
    refine lv_bipush (v := 12) hx hb dX11_drawn_9 kb_12 ?_
    obtain ⟨r_10, hr_11, h⟩ := bd1_s h
    refine sc_i hx hb hml hown hw hN (c_cf_within l v3 1 12 r_10 hr_11) g_RX11_95 hd_X11_within (rest := []) hl.1 hS dX11_drawn_11 rfl rfl ⟨Nat.le_of_ble_eq_true rfl, Nat.le_of_ble_eq_true rfl⟩ rfl rfl (Nat.le_of_ble_eq_true rfl) ⟨Nat.zero_le _, Nat.zero_le _⟩ (fun H locs hk hS => ?_)
    have hP := cP_kept hP hk
    refine lv_if_ne hx hb dX11_drawn_14 (tgt := 21) rfl (fun hc => ?_) (fun hc => ?_)
    · replace h := ifn h hc
      refine lv_aload_n hx hb dX11_drawn_21 rfl (lv_at hl 0 rfl) ?_
      refine cg_CF_1 hx hb hw hown hK hP dX11_drawn_22 ?_
      refine lv_iload_n hx hb dX11_drawn_25 rfl (lv_at hl 1 rfl) ?_
      refine lv_iload_n hx hb dX11_drawn_26 rfl (lv_at hl 2 rfl) ?_
      refine lv_iload_n hx hb dX11_drawn_27 rfl (lv_at hl 3 rfl) ?_
      obtain ⟨r_12, hr_13, h⟩ := bd1_s h
      refine sc_l hx hb hml hown hw hN (c_gw_byLots l v2 v3 r_12 hr_13) g_RX11_205 hd_X3_byLots (rest := [.int v1, .ref (ad 2)]) hl.1 hS dX11_drawn_28 rfl rfl ⟨Nat.le_of_ble_eq_true rfl, Nat.le_of_ble_eq_true rfl⟩ rfl rfl (Nat.le_of_ble_eq_true rfl) ⟨Nat.zero_le _, Nat.zero_le _⟩ (fun H locs hk hS => ?_)
      have hP := cP_kept hP hk
      obtain ⟨hin, h⟩ := ck_s h
      obtain ⟨a_drawers_14, ea_drawers_14, h⟩ := nm_s h
      refine cs_drawers hx hb hK hP hI hS hin ea_drawers_14 dX11_drawn_31 (fun H locs hP hS => ?_)
      refine lv_aload_n hx hb dX11_drawn_32 rfl (lv_at hl 0 rfl) ?_
      refine cg_CF_1 hx hb hw hown hK hP dX11_drawn_33 ?_
      refine lv_iload_n hx hb dX11_drawn_36 rfl (lv_at hl 1 rfl) ?_
      obtain ⟨hin, h⟩ := ck_s h
      refine cd_drawers hx hb hK hP hin dX11_drawn_37 ?_
      simp only [Option.some.injEq, Prod.mk.injEq] at h
      obtain ⟨rfl, rfl⟩ := h
      exact rc_l hx hb hr hlocks hS dX11_drawn_38 rfl hP
    · replace h := ifp h hc
      refine lv_ldc2 hx hb hown (hw _ tw_19_13) dX11_drawn_17 ?_
      simp only [Option.some.injEq, Prod.mk.injEq] at h
      obtain ⟨rfl, rfl⟩ := h
      exact rc_l hx hb hr hlocks hS dX11_drawn_20 rfl hP
noncomputable def cf_line (v1 : Int32) (v2 : Int32) (a_drawers : Nat → Int64) (x_len : Int32) (a_letters : Nat → Int32) : Option (Int32 × Int32 × (Nat → Int32)) :=
  bd1 (cf_isDrawer v1) fun r_1 =>
  if r_1 = 0 then (some ((-1), x_len, a_letters)) else
  if 0 ≤ v2 then (ck v1 8 <|
  if (a_drawers v1.toNatClampNeg) = 0 then (some ((-2), x_len, a_letters)) else
  ck v1 8 <|
  bd3 (ol_trace (a_drawers v1.toNatClampNeg) x_len a_letters) fun r_3 x_len_4 a_letters_5 =>
  if r_3 = 0 then (some ((-3), x_len_4, a_letters_5)) else
  bd1 (ol_length x_len_4) fun r_7 =>
  if r_7 ≤ v2 then (some ((-4), x_len_4, a_letters_5)) else
  bd1 (ol_letter v2 a_letters_5) fun r_9 =>
  some (r_9, x_len_4, a_letters_5)) else
  some ((-1), x_len, a_letters)
set_option maxHeartbeats 4000000 in
set_option maxRecDepth 100000 in
theorem c_cf_line (l : Launch) (D : va_G) (ct : Nat → ClassId) (ad : Nat → Nat) (hI : cI ad) {x_fed x_tk x_col x_line x_rcells x_rsize x_len x_cuts x_bare x_place x_lA x_lB x_lC x_fX x_fY x_sX x_sY x_made x_fsize x_psize x_over x_touch x_most x_mU x_mV x_area : Int32} {x_board : Int64} {a_tape a_letters a_oneSided a_free a_ends a_crowds a_wmade a_firsts a_widths a_heights a_places a_next a_pnear a_table a_overlaps : Nat → Int32} {a_drawers a_kept a_items a_numbers a_marks a_near a_figures a_covered a_pcells a_matrix : Nat → Int64} (v1 : Int32) (v2 : Int32) (r : Int32) (z_x_len : Int32) (z_a_letters : Nat → Int32) (h : cf_line v1 v2 a_drawers x_len a_letters = some (r, z_x_len, z_a_letters)) : Met l yX11_line (wm yX11_line cX11_line 3 (some .int)) (rmm 4 101) (va_Pc [.ref (ad 0), .int v1, .int v2] (cB D ct ad x_fed x_tk x_col x_line x_rcells x_rsize x_len x_cuts x_bare x_place x_lA x_lB x_lC x_fX x_fY x_sX x_sY x_made x_fsize x_psize x_over x_touch x_most x_mU x_mV x_area x_board a_tape a_letters a_oneSided a_free a_ends a_crowds a_wmade a_firsts a_widths a_heights a_places a_next a_pnear a_table a_overlaps a_drawers a_kept a_items a_numbers a_marks a_near a_figures a_covered a_pcells a_matrix)) (va_Qi (fun z (_ : Unit) => z = r) (fun _ t => cP D ct ad x_fed x_tk x_col x_line x_rcells x_rsize z_x_len x_cuts x_bare x_place x_lA x_lB x_lC x_fX x_fY x_sX x_sY x_made x_fsize x_psize x_over x_touch x_most x_mU x_mV x_area x_board a_tape z_a_letters a_oneSided a_free a_ends a_crowds a_wmade a_firsts a_widths a_heights a_places a_next a_pnear a_table a_overlaps a_drawers a_kept a_items a_numbers a_marks a_near a_figures a_covered a_pcells a_matrix t.heap) (cA ad)) 0 0 (cA ad) := by
  refine met_s (y := yX11_line) (rm := rmm 4 101) (by decide) (Nat.le_of_ble_eq_true rfl) ?_
  intro p e s m below meth c hx hb hr hw hown hlocks _ hml hB ls hl
  obtain ⟨hN, hK, hP⟩ := hB
  replace hl : lv_has ls 3 [(0, .ref (ad 0)), (1, .int v1), (2, .int v2)] := hl
  have hS : va_S (cA ad) s.heap s.heap [] := va_S.rf
  generalize (([.ref (ad 0), .int v1, .int v2] : List Value).toArray) = av at hw ⊢
  rw [cf_line] at h
  refine lv_iload_n hx hb dX11_line_0 rfl (lv_at hl 1 rfl) ?_
  obtain ⟨r_11, hr_12, h⟩ := bd1_s h
  refine sc_i hx hb hml hown hw hN (c_cf_isDrawer l v1 r_11 hr_12) g_RX11_91 hd_X11_isDrawer (rest := []) hl.1 hS dX11_line_1 rfl rfl ⟨Nat.le_of_ble_eq_true rfl, Nat.le_of_ble_eq_true rfl⟩ rfl rfl (Nat.le_of_ble_eq_true rfl) ⟨Nat.zero_le _, Nat.zero_le _⟩ (fun H locs hk hS => ?_)
  have hP := cP_kept hP hk
  refine lv_if_eq hx hb dX11_line_4 (tgt := 11) rfl (fun hc => ?_) (fun hc => ?_)
  · replace h := ifp h hc
    refine lv_iconst (v := (-1)) hx hb dX11_line_11 ki_m1 ?_
    simp only [Option.some.injEq, Prod.mk.injEq] at h
    obtain ⟨rfl, rfl, rfl⟩ := h
    exact rc_i hx hb hr hlocks hS dX11_line_12 rfl hP
  · replace h := ifn h hc
    refine lv_iload_n hx hb dX11_line_7 rfl (lv_at hl 2 rfl) ?_
    refine lv_if_ge hx hb dX11_line_8 (tgt := 13) rfl (fun hc => ?_) (fun hc => ?_)
    · replace h := ifp h hc
      refine lv_aload_n hx hb dX11_line_13 rfl (lv_at hl 0 rfl) ?_
      refine cg_CF_1 hx hb hw hown hK hP dX11_line_14 ?_
      refine lv_iload_n hx hb dX11_line_17 rfl (lv_at hl 1 rfl) ?_
      obtain ⟨hin, h⟩ := ck_s h
      refine cd_drawers hx hb hK hP hin dX11_line_18 ?_
      refine lv_lconst (v := 0) hx hb dX11_line_19 kl_0 ?_
      refine W.lcmp hx hb dX11_line_20 ?_
      refine lv_if_ne hx hb dX11_line_21 (tgt := 27) rfl (fun hc => ?_) (fun hc => ?_)
      · replace h := ifn h (fun q => hc ((lg_cmp_eq _ _).mpr q))
        refine lv_aload_n hx hb dX11_line_27 rfl (lv_at hl 0 rfl) ?_
        refine cg_CF_5 hx hb hw hown hK hP dX11_line_28 ?_
        refine lv_aload_n hx hb dX11_line_31 rfl (lv_at hl 0 rfl) ?_
        refine cg_CF_1 hx hb hw hown hK hP dX11_line_32 ?_
        refine lv_iload_n hx hb dX11_line_35 rfl (lv_at hl 1 rfl) ?_
        obtain ⟨hin, h⟩ := ck_s h
        refine cd_drawers hx hb hK hP hin dX11_line_36 ?_
        obtain ⟨r_13, x_len_14, a_letters_15, hr_16, h⟩ := bd3_s h
        refine hv_i hx hb hml hown hw cB_bl (cB_of hN hK hP) (cr_OL hK hP) (c_ol_trace l D ct ad hI (a_drawers v1.toNatClampNeg) r_13 x_len_14 a_letters_15 hr_16) g_RX11_209 ⟨rfl, hd_X5_trace⟩ (rest := []) hl.1 hS (fun q h => h) dX11_line_37 rfl rfl ⟨Nat.le_of_ble_eq_true rfl, Nat.le_of_ble_eq_true rfl⟩ rfl rfl (Nat.le_of_ble_eq_true rfl) ⟨Nat.zero_le _, Nat.zero_le _⟩ (fun H locs hP _ hS => ?_)
        refine lv_if_ne hx hb dX11_line_40 (tgt := 46) rfl (fun hc => ?_) (fun hc => ?_)
        · replace h := ifn h hc
          refine lv_iload_n hx hb dX11_line_46 rfl (lv_at hl 2 rfl) ?_
          refine lv_aload_n hx hb dX11_line_47 rfl (lv_at hl 0 rfl) ?_
          refine cg_CF_5 hx hb hw hown hK hP dX11_line_48 ?_
          obtain ⟨r_17, hr_18, h⟩ := bd1_s h
          refine hv_i hx hb hml hown hw cB_bl (cB_of hN hK hP) (cr_OL hK hP) (c_ol_length l D ct ad hI r_17 hr_18) g_RX11_212 ⟨rfl, hd_X5_length⟩ (rest := [.int v2]) hl.1 hS (fun q h => h) dX11_line_51 rfl rfl ⟨Nat.le_of_ble_eq_true rfl, Nat.le_of_ble_eq_true rfl⟩ rfl rfl (Nat.le_of_ble_eq_true rfl) ⟨Nat.zero_le _, Nat.zero_le _⟩ (fun H locs hP _ hS => ?_)
          refine lv_icmp_ge hx hb dX11_line_54 (tgt := 68) rfl (fun hc => ?_) (fun hc => ?_)
          · replace h := ifp h hc
            refine lv_bipush (v := (-4)) hx hb dX11_line_68 kb_m4 ?_
            simp only [Option.some.injEq, Prod.mk.injEq] at h
            obtain ⟨rfl, rfl, rfl⟩ := h
            exact rc_i hx hb hr hlocks hS dX11_line_70 rfl hP
          · replace h := ifn h hc
            refine lv_aload_n hx hb dX11_line_57 rfl (lv_at hl 0 rfl) ?_
            refine cg_CF_5 hx hb hw hown hK hP dX11_line_58 ?_
            refine lv_iload_n hx hb dX11_line_61 rfl (lv_at hl 2 rfl) ?_
            obtain ⟨r_19, hr_20, h⟩ := bd1_s h
            refine hv_i hx hb hml hown hw cB_bl (cB_of hN hK hP) (cr_OL hK hP) (c_ol_letter l D ct ad hI v2 r_19 hr_20) g_RX11_215 ⟨rfl, hd_X5_letter⟩ (rest := []) hl.1 hS (fun q h => h) dX11_line_62 rfl rfl ⟨Nat.le_of_ble_eq_true rfl, Nat.le_of_ble_eq_true rfl⟩ rfl rfl (Nat.le_of_ble_eq_true rfl) ⟨Nat.zero_le _, Nat.zero_le _⟩ (fun H locs hP _ hS => ?_)
            refine lv_goto hx hb dX11_line_65 (tgt := 70) rfl ?_
            simp only [Option.some.injEq, Prod.mk.injEq] at h
            obtain ⟨rfl, rfl, rfl⟩ := h
            exact rc_i hx hb hr hlocks hS dX11_line_70 rfl hP
        · replace h := ifp h hc
          refine lv_bipush (v := (-3)) hx hb dX11_line_43 kb_m3 ?_
          simp only [Option.some.injEq, Prod.mk.injEq] at h
          obtain ⟨rfl, rfl, rfl⟩ := h
          exact rc_i hx hb hr hlocks hS dX11_line_45 rfl hP
      · replace h := ifp h ((lg_cmp_eq _ _).mp hc)
        refine lv_bipush (v := (-2)) hx hb dX11_line_24 kb_m2 ?_
        simp only [Option.some.injEq, Prod.mk.injEq] at h
        obtain ⟨rfl, rfl, rfl⟩ := h
        exact rc_i hx hb hr hlocks hS dX11_line_26 rfl hP
    · replace h := ifn h hc
      refine lv_iconst (v := (-1)) hx hb dX11_line_11 ki_m1 ?_
      simp only [Option.some.injEq, Prod.mk.injEq] at h
      obtain ⟨rfl, rfl, rfl⟩ := h
      exact rc_i hx hb hr hlocks hS dX11_line_12 rfl hP
noncomputable def cf_tiles_J78  (a_drawers : Nat → Int64) (v2 : Int32) (x_len : Int32) (x_cuts : Int32) (x_bare : Int32) (x_place : Int32) (x_lA : Int32) (x_lB : Int32) (x_lC : Int32) (a_letters : Nat → Int32)  : Option (Int32 × Int32 × Int32 × Int32 × Int32 × Int32 × Int32 × Int32 × (Nat → Int32)) :=
  bd1 (ol_cutting v2 x_cuts x_bare x_place x_lA x_lB x_lC) fun r_1 =>
  some (r_1, x_len, x_cuts, x_bare, x_place, x_lA, x_lB, x_lC, a_letters)
noncomputable def cf_tiles (v1 : Int32) (v2 : Int32) (a_drawers : Nat → Int64) (x_len : Int32) (x_cuts : Int32) (x_bare : Int32) (x_place : Int32) (x_lA : Int32) (x_lB : Int32) (x_lC : Int32) (a_letters : Nat → Int32) : Option (Int32 × Int32 × Int32 × Int32 × Int32 × Int32 × Int32 × Int32 × (Nat → Int32)) :=
  bd1 (cf_isDrawer v1) fun r_3 =>
  if r_3 = 0 then (some ((-1), x_len, x_cuts, x_bare, x_place, x_lA, x_lB, x_lC, a_letters)) else
  bd1 (cf_within v2 0 5) fun r_5 =>
  if r_5 = 0 then (some ((-1), x_len, x_cuts, x_bare, x_place, x_lA, x_lB, x_lC, a_letters)) else
  ck v1 8 <|
  if (a_drawers v1.toNatClampNeg) = 0 then (some ((-2), x_len, x_cuts, x_bare, x_place, x_lA, x_lB, x_lC, a_letters)) else
  ck v1 8 <|
  bd3 (ol_trace (a_drawers v1.toNatClampNeg) x_len a_letters) fun r_7 x_len_8 a_letters_9 =>
  if r_7 = 0 then (some ((-3), x_len_8, x_cuts, x_bare, x_place, x_lA, x_lB, x_lC, a_letters_9)) else
  bd6 (ol_cut x_len_8 x_cuts x_bare x_place x_lA x_lB x_lC a_letters_9) fun x_cuts_11 x_bare_12 x_place_13 x_lA_14 x_lB_15 x_lC_16 =>
  if v2 ≤ 1 then (cf_tiles_J78 a_drawers v2 x_len_8 x_cuts_11 x_bare_12 x_place_13 x_lA_14 x_lB_15 x_lC_16 a_letters_9) else
  bd1 (ol_cuttings x_cuts_11) fun r_18 =>
  if r_18 = 0 then (some ((-4), x_len_8, x_cuts_11, x_bare_12, x_place_13, x_lA_14, x_lB_15, x_lC_16, a_letters_9)) else
  cf_tiles_J78 a_drawers v2 x_len_8 x_cuts_11 x_bare_12 x_place_13 x_lA_14 x_lB_15 x_lC_16 a_letters_9
set_option maxHeartbeats 4000000 in
set_option maxRecDepth 100000 in
theorem c_cf_tiles (l : Launch) (D : va_G) (ct : Nat → ClassId) (ad : Nat → Nat) (hI : cI ad) {x_fed x_tk x_col x_line x_rcells x_rsize x_len x_cuts x_bare x_place x_lA x_lB x_lC x_fX x_fY x_sX x_sY x_made x_fsize x_psize x_over x_touch x_most x_mU x_mV x_area : Int32} {x_board : Int64} {a_tape a_letters a_oneSided a_free a_ends a_crowds a_wmade a_firsts a_widths a_heights a_places a_next a_pnear a_table a_overlaps : Nat → Int32} {a_drawers a_kept a_items a_numbers a_marks a_near a_figures a_covered a_pcells a_matrix : Nat → Int64} (v1 : Int32) (v2 : Int32) (r : Int32) (z_x_len : Int32) (z_x_cuts : Int32) (z_x_bare : Int32) (z_x_place : Int32) (z_x_lA : Int32) (z_x_lB : Int32) (z_x_lC : Int32) (z_a_letters : Nat → Int32) (h : cf_tiles v1 v2 a_drawers x_len x_cuts x_bare x_place x_lA x_lB x_lC a_letters = some (r, z_x_len, z_x_cuts, z_x_bare, z_x_place, z_x_lA, z_x_lB, z_x_lC, z_a_letters)) : Met l yX11_tiles (wm yX11_tiles cX11_tiles 3 (some .int)) (rmm 4 101) (va_Pc [.ref (ad 0), .int v1, .int v2] (cB D ct ad x_fed x_tk x_col x_line x_rcells x_rsize x_len x_cuts x_bare x_place x_lA x_lB x_lC x_fX x_fY x_sX x_sY x_made x_fsize x_psize x_over x_touch x_most x_mU x_mV x_area x_board a_tape a_letters a_oneSided a_free a_ends a_crowds a_wmade a_firsts a_widths a_heights a_places a_next a_pnear a_table a_overlaps a_drawers a_kept a_items a_numbers a_marks a_near a_figures a_covered a_pcells a_matrix)) (va_Qi (fun z (_ : Unit) => z = r) (fun _ t => cP D ct ad x_fed x_tk x_col x_line x_rcells x_rsize z_x_len z_x_cuts z_x_bare z_x_place z_x_lA z_x_lB z_x_lC x_fX x_fY x_sX x_sY x_made x_fsize x_psize x_over x_touch x_most x_mU x_mV x_area x_board a_tape z_a_letters a_oneSided a_free a_ends a_crowds a_wmade a_firsts a_widths a_heights a_places a_next a_pnear a_table a_overlaps a_drawers a_kept a_items a_numbers a_marks a_near a_figures a_covered a_pcells a_matrix t.heap) (cA ad)) 0 0 (cA ad) := by
  refine met_s (y := yX11_tiles) (rm := rmm 4 101) (by decide) (Nat.le_of_ble_eq_true rfl) ?_
  intro p e s m below meth c hx hb hr hw hown hlocks _ hml hB ls hl
  obtain ⟨hN, hK, hP⟩ := hB
  replace hl : lv_has ls 3 [(0, .ref (ad 0)), (1, .int v1), (2, .int v2)] := hl
  have hS : va_S (cA ad) s.heap s.heap [] := va_S.rf
  generalize (([.ref (ad 0), .int v1, .int v2] : List Value).toArray) = av at hw ⊢
  rw [cf_tiles] at h
  have hJ78 : ∀ (H : Heap) (locs : List Loc) (ls : Array Slot) (a_drawers : Nat → Int64) (v2 : Int32) (x_len : Int32) (x_cuts : Int32) (x_bare : Int32) (x_place : Int32) (x_lA : Int32) (x_lB : Int32) (x_lC : Int32) (a_letters : Nat → Int32) , lv_has ls 3 [(0, .ref (ad 0)), (2, .int v2)] → cP D ct ad x_fed x_tk x_col x_line x_rcells x_rsize x_len x_cuts x_bare x_place x_lA x_lB x_lC x_fX x_fY x_sX x_sY x_made x_fsize x_psize x_over x_touch x_most x_mU x_mV x_area x_board a_tape a_letters a_oneSided a_free a_ends a_crowds a_wmade a_firsts a_widths a_heights a_places a_next a_pnear a_table a_overlaps a_drawers a_kept a_items a_numbers a_marks a_near a_figures a_covered a_pcells a_matrix H → va_S (cA ad) s.heap H locs → cf_tiles_J78 a_drawers v2 x_len x_cuts x_bare x_place x_lA x_lB x_lC a_letters = some (r, z_x_len, z_x_cuts, z_x_bare, z_x_place, z_x_lA, z_x_lB, z_x_lC, z_a_letters) → W p l e (rmm 4 101) s m av below meth c H locs 0 0 (MQ below (va_Qi (fun z (_ : Unit) => z = r) (fun _ t => cP D ct ad x_fed x_tk x_col x_line x_rcells x_rsize z_x_len z_x_cuts z_x_bare z_x_place z_x_lA z_x_lB z_x_lC x_fX x_fY x_sX x_sY x_made x_fsize x_psize x_over x_touch x_most x_mU x_mV x_area x_board a_tape z_a_letters a_oneSided a_free a_ends a_crowds a_wmade a_firsts a_widths a_heights a_places a_next a_pnear a_table a_overlaps a_drawers a_kept a_items a_numbers a_marks a_near a_figures a_covered a_pcells a_matrix t.heap) (cA ad)) av s 0 0 (cA ad)) (F0 m 78 ls []) := by
    intro H locs ls a_drawers v2 x_len x_cuts x_bare x_place x_lA x_lB x_lC a_letters  hl hP hS h
    rw [cf_tiles_J78] at h
    refine lv_aload_n hx hb dX11_tiles_78 rfl (lv_at hl 0 rfl) ?_
    refine cg_CF_5 hx hb hw hown hK hP dX11_tiles_79 ?_
    refine lv_iload_n hx hb dX11_tiles_82 rfl (lv_at hl 1 rfl) ?_
    obtain ⟨r_20, hr_21, h⟩ := bd1_s h
    refine hv_i hx hb hml hown hw cB_bl (cB_of hN hK hP) (cr_OL hK hP) (c_ol_cutting l D ct ad hI v2 r_20 hr_21) g_RX11_225 ⟨rfl, hd_X5_cutting⟩ (rest := []) hl.1 hS (fun q h => h) dX11_tiles_83 rfl rfl ⟨Nat.le_of_ble_eq_true rfl, Nat.le_of_ble_eq_true rfl⟩ rfl rfl (Nat.le_of_ble_eq_true rfl) ⟨Nat.zero_le _, Nat.zero_le _⟩ (fun H locs hP _ hS => ?_)
    simp only [Option.some.injEq, Prod.mk.injEq] at h
    obtain ⟨rfl, rfl, rfl, rfl, rfl, rfl, rfl, rfl, rfl⟩ := h
    exact rc_i hx hb hr hlocks hS dX11_tiles_86 rfl hP
  refine lv_iload_n hx hb dX11_tiles_0 rfl (lv_at hl 1 rfl) ?_
  obtain ⟨r_22, hr_23, h⟩ := bd1_s h
  refine sc_i hx hb hml hown hw hN (c_cf_isDrawer l v1 r_22 hr_23) g_RX11_91 hd_X11_isDrawer (rest := []) hl.1 hS dX11_tiles_1 rfl rfl ⟨Nat.le_of_ble_eq_true rfl, Nat.le_of_ble_eq_true rfl⟩ rfl rfl (Nat.le_of_ble_eq_true rfl) ⟨Nat.zero_le _, Nat.zero_le _⟩ (fun H locs hk hS => ?_)
  have hP := cP_kept hP hk
  refine lv_if_eq hx hb dX11_tiles_4 (tgt := 16) rfl (fun hc => ?_) (fun hc => ?_)
  · replace h := ifp h hc
    refine lv_iconst (v := (-1)) hx hb dX11_tiles_16 ki_m1 ?_
    simp only [Option.some.injEq, Prod.mk.injEq] at h
    obtain ⟨rfl, rfl, rfl, rfl, rfl, rfl, rfl, rfl, rfl⟩ := h
    exact rc_i hx hb hr hlocks hS dX11_tiles_17 rfl hP
  · replace h := ifn h hc
    refine lv_iload_n hx hb dX11_tiles_7 rfl (lv_at hl 2 rfl) ?_
    refine lv_iconst (v := 0) hx hb dX11_tiles_8 ki_0 ?_
    refine lv_iconst (v := 5) hx hb dX11_tiles_9 ki_5 ?_
    obtain ⟨r_24, hr_25, h⟩ := bd1_s h
    refine sc_i hx hb hml hown hw hN (c_cf_within l v2 0 5 r_24 hr_25) g_RX11_95 hd_X11_within (rest := []) hl.1 hS dX11_tiles_10 rfl rfl ⟨Nat.le_of_ble_eq_true rfl, Nat.le_of_ble_eq_true rfl⟩ rfl rfl (Nat.le_of_ble_eq_true rfl) ⟨Nat.zero_le _, Nat.zero_le _⟩ (fun H locs hk hS => ?_)
    have hP := cP_kept hP hk
    refine lv_if_ne hx hb dX11_tiles_13 (tgt := 18) rfl (fun hc => ?_) (fun hc => ?_)
    · replace h := ifn h hc
      refine lv_aload_n hx hb dX11_tiles_18 rfl (lv_at hl 0 rfl) ?_
      refine cg_CF_1 hx hb hw hown hK hP dX11_tiles_19 ?_
      refine lv_iload_n hx hb dX11_tiles_22 rfl (lv_at hl 1 rfl) ?_
      obtain ⟨hin, h⟩ := ck_s h
      refine cd_drawers hx hb hK hP hin dX11_tiles_23 ?_
      refine lv_lconst (v := 0) hx hb dX11_tiles_24 kl_0 ?_
      refine W.lcmp hx hb dX11_tiles_25 ?_
      refine lv_if_ne hx hb dX11_tiles_26 (tgt := 32) rfl (fun hc => ?_) (fun hc => ?_)
      · replace h := ifn h (fun q => hc ((lg_cmp_eq _ _).mpr q))
        refine lv_aload_n hx hb dX11_tiles_32 rfl (lv_at hl 0 rfl) ?_
        refine cg_CF_5 hx hb hw hown hK hP dX11_tiles_33 ?_
        refine lv_aload_n hx hb dX11_tiles_36 rfl (lv_at hl 0 rfl) ?_
        refine cg_CF_1 hx hb hw hown hK hP dX11_tiles_37 ?_
        refine lv_iload_n hx hb dX11_tiles_40 rfl (lv_at hl 1 rfl) ?_
        obtain ⟨hin, h⟩ := ck_s h
        refine cd_drawers hx hb hK hP hin dX11_tiles_41 ?_
        obtain ⟨r_26, x_len_27, a_letters_28, hr_29, h⟩ := bd3_s h
        refine hv_i hx hb hml hown hw cB_bl (cB_of hN hK hP) (cr_OL hK hP) (c_ol_trace l D ct ad hI (a_drawers v1.toNatClampNeg) r_26 x_len_27 a_letters_28 hr_29) g_RX11_209 ⟨rfl, hd_X5_trace⟩ (rest := []) hl.1 hS (fun q h => h) dX11_tiles_42 rfl rfl ⟨Nat.le_of_ble_eq_true rfl, Nat.le_of_ble_eq_true rfl⟩ rfl rfl (Nat.le_of_ble_eq_true rfl) ⟨Nat.zero_le _, Nat.zero_le _⟩ (fun H locs hP _ hS => ?_)
        refine lv_if_ne hx hb dX11_tiles_45 (tgt := 51) rfl (fun hc => ?_) (fun hc => ?_)
        · replace h := ifn h hc
          refine lv_aload_n hx hb dX11_tiles_51 rfl (lv_at hl 0 rfl) ?_
          refine cg_CF_5 hx hb hw hown hK hP dX11_tiles_52 ?_
          obtain ⟨x_cuts_30, x_bare_31, x_place_32, x_lA_33, x_lB_34, x_lC_35, hr_36, h⟩ := bd6_s h
          refine hv_v hx hb hml hown hw cB_bl (cB_of hN hK hP) (cr_OL hK hP) (c_ol_cut l D ct ad hI x_cuts_30 x_bare_31 x_place_32 x_lA_33 x_lB_34 x_lC_35 hr_36) g_RX11_219 ⟨rfl, hd_X5_cut⟩ (rest := []) hl.1 hS (fun q h => h) dX11_tiles_55 rfl rfl ⟨Nat.le_of_ble_eq_true rfl, Nat.le_of_ble_eq_true rfl⟩ rfl rfl (Nat.le_of_ble_eq_true rfl) ⟨Nat.zero_le _, Nat.zero_le _⟩ (fun H locs hP _ hS => ?_)
          refine lv_iload_n hx hb dX11_tiles_58 rfl (lv_at hl 2 rfl) ?_
          refine lv_iconst (v := 1) hx hb dX11_tiles_59 ki_1 ?_
          refine lv_icmp_le hx hb dX11_tiles_60 (tgt := 78) rfl (fun hc => ?_) (fun hc => ?_)
          · replace h := ifp h hc
            exact hJ78 _ _ _ a_drawers v2 x_len_27 x_cuts_30 x_bare_31 x_place_32 x_lA_33 x_lB_34 x_lC_35 a_letters_28 (lv_sub hl [0, 2] rfl) hP hS h
          · replace h := ifn h hc
            refine lv_aload_n hx hb dX11_tiles_63 rfl (lv_at hl 0 rfl) ?_
            refine cg_CF_5 hx hb hw hown hK hP dX11_tiles_64 ?_
            obtain ⟨r_37, hr_38, h⟩ := bd1_s h
            refine hv_i hx hb hml hown hw cB_bl (cB_of hN hK hP) (cr_OL hK hP) (c_ol_cuttings l D ct ad hI r_37 hr_38) g_RX11_222 ⟨rfl, hd_X5_cuttings⟩ (rest := []) hl.1 hS (fun q h => h) dX11_tiles_67 rfl rfl ⟨Nat.le_of_ble_eq_true rfl, Nat.le_of_ble_eq_true rfl⟩ rfl rfl (Nat.le_of_ble_eq_true rfl) ⟨Nat.zero_le _, Nat.zero_le _⟩ (fun H locs hP _ hS => ?_)
            refine lv_if_ne hx hb dX11_tiles_70 (tgt := 78) rfl (fun hc => ?_) (fun hc => ?_)
            · replace h := ifn h hc
              exact hJ78 _ _ _ a_drawers v2 x_len_27 x_cuts_30 x_bare_31 x_place_32 x_lA_33 x_lB_34 x_lC_35 a_letters_28 (lv_sub hl [0, 2] rfl) hP hS h
            · replace h := ifp h hc
              refine lv_bipush (v := (-4)) hx hb dX11_tiles_73 kb_m4 ?_
              refine lv_goto hx hb dX11_tiles_75 (tgt := 86) rfl ?_
              simp only [Option.some.injEq, Prod.mk.injEq] at h
              obtain ⟨rfl, rfl, rfl, rfl, rfl, rfl, rfl, rfl, rfl⟩ := h
              exact rc_i hx hb hr hlocks hS dX11_tiles_86 rfl hP
        · replace h := ifp h hc
          refine lv_bipush (v := (-3)) hx hb dX11_tiles_48 kb_m3 ?_
          simp only [Option.some.injEq, Prod.mk.injEq] at h
          obtain ⟨rfl, rfl, rfl, rfl, rfl, rfl, rfl, rfl, rfl⟩ := h
          exact rc_i hx hb hr hlocks hS dX11_tiles_50 rfl hP
      · replace h := ifp h ((lg_cmp_eq _ _).mp hc)
        refine lv_bipush (v := (-2)) hx hb dX11_tiles_29 kb_m2 ?_
        simp only [Option.some.injEq, Prod.mk.injEq] at h
        obtain ⟨rfl, rfl, rfl, rfl, rfl, rfl, rfl, rfl, rfl⟩ := h
        exact rc_i hx hb hr hlocks hS dX11_tiles_31 rfl hP
    · replace h := ifp h hc
      refine lv_iconst (v := (-1)) hx hb dX11_tiles_16 ki_m1 ?_
      simp only [Option.some.injEq, Prod.mk.injEq] at h
      obtain ⟨rfl, rfl, rfl, rfl, rfl, rfl, rfl, rfl, rfl⟩ := h
      exact rc_i hx hb hr hlocks hS dX11_tiles_17 rfl hP
noncomputable def cf_tilers_B34 (v1 : Int32) (v2 : Int32) (v3 : Int32) (x_made : Int32) (a_numbers : Nat → Int64) (a_oneSided : Nat → Int32) (a_free : Nat → Int32) (a_ends : Nat → Int32)  (k34 : Int32 → Int32 → Int32 → Int32 → Int32 → Int32 → Int32 → Int32 → Int32 → (Nat → Int32) → (Nat → Int64) → Option (Int32 × Int32 × Int32 × Int32 × Int32 × Int32 × Int32 × Int32 × (Nat → Int32) × Int32 × (Nat → Int64) × (Nat → Int32) × (Nat → Int32) × (Nat → Int32) × (Nat → Int64))) (v4 : Int32) (v5 : Int32) (x_len : Int32) (x_cuts : Int32) (x_bare : Int32) (x_place : Int32) (x_lA : Int32) (x_lB : Int32) (x_lC : Int32) (a_letters : Nat → Int32) (a_marks : Nat → Int64) : Option (Int32 × Int32 × Int32 × Int32 × Int32 × Int32 × Int32 × Int32 × (Nat → Int32) × Int32 × (Nat → Int64) × (Nat → Int32) × (Nat → Int32) × (Nat → Int32) × (Nat → Int64)) :=
  if v3 ≤ v5 then (some (v4, x_len, x_cuts, x_bare, x_place, x_lA, x_lB, x_lC, a_letters, x_made, a_numbers, a_oneSided, a_free, a_ends, a_marks)) else
  bd10 (ca_trait v1 v2 v5 15 x_len x_cuts x_bare x_place x_lA x_lB x_lC a_letters a_numbers a_oneSided a_free a_ends a_marks) fun r_1 x_len_2 x_cuts_3 x_bare_4 x_place_5 x_lA_6 x_lB_7 x_lC_8 a_letters_9 a_marks_10 =>
  nm (v4 + r_1 : Int32) fun v4_12 =>
  nm (v5 + Int32.ofInt 1) fun v5_13 =>
  k34 v4_12 v5_13 x_len_2 x_cuts_3 x_bare_4 x_place_5 x_lA_6 x_lB_7 x_lC_8 a_letters_9 a_marks_10
noncomputable def cf_tilers (v1 : Int32) (v2 : Int32) (x_len : Int32) (x_cuts : Int32) (x_bare : Int32) (x_place : Int32) (x_lA : Int32) (x_lB : Int32) (x_lC : Int32) (a_letters : Nat → Int32) (x_made : Int32) (a_numbers : Nat → Int64) (a_oneSided : Nat → Int32) (a_free : Nat → Int32) (a_ends : Nat → Int32) (a_marks : Nat → Int64) : Option (Int32 × Int32 × Int32 × Int32 × Int32 × Int32 × Int32 × Int32 × (Nat → Int32) × Int32 × (Nat → Int64) × (Nat → Int32) × (Nat → Int32) × (Nat → Int32) × (Nat → Int64)) :=
  bd1 (cf_isList v1 v2) fun r_14 =>
  if r_14 = 0 then (some ((-1), x_len, x_cuts, x_bare, x_place, x_lA, x_lB, x_lC, a_letters, x_made, a_numbers, a_oneSided, a_free, a_ends, a_marks)) else
  bd5 (ca_prepare v1 x_made a_numbers a_oneSided a_free a_ends) fun x_made_16 a_numbers_17 a_oneSided_18 a_free_19 a_ends_20 =>
  bd1 (ca_size v1 v2 a_ends_20) fun r_22 =>
  fl11 (cf_tilers_B34 v1 v2 r_22 x_made_16 a_numbers_17 a_oneSided_18 a_free_19 a_ends_20) FU 0 0 x_len x_cuts x_bare x_place x_lA x_lB x_lC a_letters a_marks
set_option maxHeartbeats 4000000 in
set_option maxRecDepth 100000 in
theorem c_cf_tilers (l : Launch) (D : va_G) (ct : Nat → ClassId) (ad : Nat → Nat) (hI : cI ad) {x_fed x_tk x_col x_line x_rcells x_rsize x_len x_cuts x_bare x_place x_lA x_lB x_lC x_fX x_fY x_sX x_sY x_made x_fsize x_psize x_over x_touch x_most x_mU x_mV x_area : Int32} {x_board : Int64} {a_tape a_letters a_oneSided a_free a_ends a_crowds a_wmade a_firsts a_widths a_heights a_places a_next a_pnear a_table a_overlaps : Nat → Int32} {a_drawers a_kept a_items a_numbers a_marks a_near a_figures a_covered a_pcells a_matrix : Nat → Int64} (v1 : Int32) (v2 : Int32) (r : Int32) (z_x_len : Int32) (z_x_cuts : Int32) (z_x_bare : Int32) (z_x_place : Int32) (z_x_lA : Int32) (z_x_lB : Int32) (z_x_lC : Int32) (z_a_letters : Nat → Int32) (z_x_made : Int32) (z_a_numbers : Nat → Int64) (z_a_oneSided : Nat → Int32) (z_a_free : Nat → Int32) (z_a_ends : Nat → Int32) (z_a_marks : Nat → Int64) (h : cf_tilers v1 v2 x_len x_cuts x_bare x_place x_lA x_lB x_lC a_letters x_made a_numbers a_oneSided a_free a_ends a_marks = some (r, z_x_len, z_x_cuts, z_x_bare, z_x_place, z_x_lA, z_x_lB, z_x_lC, z_a_letters, z_x_made, z_a_numbers, z_a_oneSided, z_a_free, z_a_ends, z_a_marks)) : Met l yX11_tilers (wm yX11_tilers cX11_tilers 6 (some .int)) (rmm 6 151) (va_Pc [.ref (ad 0), .int v1, .int v2] (cB D ct ad x_fed x_tk x_col x_line x_rcells x_rsize x_len x_cuts x_bare x_place x_lA x_lB x_lC x_fX x_fY x_sX x_sY x_made x_fsize x_psize x_over x_touch x_most x_mU x_mV x_area x_board a_tape a_letters a_oneSided a_free a_ends a_crowds a_wmade a_firsts a_widths a_heights a_places a_next a_pnear a_table a_overlaps a_drawers a_kept a_items a_numbers a_marks a_near a_figures a_covered a_pcells a_matrix)) (va_Qi (fun z (_ : Unit) => z = r) (fun _ t => cP D ct ad x_fed x_tk x_col x_line x_rcells x_rsize z_x_len z_x_cuts z_x_bare z_x_place z_x_lA z_x_lB z_x_lC x_fX x_fY x_sX x_sY z_x_made x_fsize x_psize x_over x_touch x_most x_mU x_mV x_area x_board a_tape z_a_letters z_a_oneSided z_a_free z_a_ends a_crowds a_wmade a_firsts a_widths a_heights a_places a_next a_pnear a_table a_overlaps a_drawers a_kept a_items z_a_numbers z_a_marks a_near a_figures a_covered a_pcells a_matrix t.heap) (cA ad)) 0 0 (cA ad) := by
  refine met_s (y := yX11_tilers) (rm := rmm 6 151) (by decide) (Nat.le_of_ble_eq_true rfl) ?_
  intro p e s m below meth c hx hb hr hw hown hlocks _ hml hB ls hl
  obtain ⟨hN, hK, hP⟩ := hB
  replace hl : lv_has ls 6 [(0, .ref (ad 0)), (1, .int v1), (2, .int v2)] := hl
  have hS : va_S (cA ad) s.heap s.heap [] := va_S.rf
  generalize (([.ref (ad 0), .int v1, .int v2] : List Value).toArray) = av at hw ⊢
  rw [cf_tilers] at h
  have hL34 : ∀ (v1 : Int32), ∀ (v2 : Int32), ∀ (v3 : Int32), ∀ (x_made : Int32), ∀ (a_numbers : Nat → Int64), ∀ (a_oneSided : Nat → Int32), ∀ (a_free : Nat → Int32), ∀ (a_ends : Nat → Int32), ∀ (n34 : Nat) (H : Heap) (locs : List Loc) (ls : Array Slot) (v4 : Int32) (v5 : Int32) (x_len : Int32) (x_cuts : Int32) (x_bare : Int32) (x_place : Int32) (x_lA : Int32) (x_lB : Int32) (x_lC : Int32) (a_letters : Nat → Int32) (a_marks : Nat → Int64), lv_has ls 6 [(0, .ref (ad 0)), (1, .int v1), (2, .int v2), (3, .int v3), (4, .int v4), (5, .int v5)] → cP D ct ad x_fed x_tk x_col x_line x_rcells x_rsize x_len x_cuts x_bare x_place x_lA x_lB x_lC x_fX x_fY x_sX x_sY x_made x_fsize x_psize x_over x_touch x_most x_mU x_mV x_area x_board a_tape a_letters a_oneSided a_free a_ends a_crowds a_wmade a_firsts a_widths a_heights a_places a_next a_pnear a_table a_overlaps a_drawers a_kept a_items a_numbers a_marks a_near a_figures a_covered a_pcells a_matrix H → va_S (cA ad) s.heap H locs → fl11 (cf_tilers_B34 v1 v2 v3 x_made a_numbers a_oneSided a_free a_ends) n34 v4 v5 x_len x_cuts x_bare x_place x_lA x_lB x_lC a_letters a_marks = some (r, z_x_len, z_x_cuts, z_x_bare, z_x_place, z_x_lA, z_x_lB, z_x_lC, z_a_letters, z_x_made, z_a_numbers, z_a_oneSided, z_a_free, z_a_ends, z_a_marks) → W p l e (rmm 6 151) s m av below meth c H locs 0 0 (MQ below (va_Qi (fun z (_ : Unit) => z = r) (fun _ t => cP D ct ad x_fed x_tk x_col x_line x_rcells x_rsize z_x_len z_x_cuts z_x_bare z_x_place z_x_lA z_x_lB z_x_lC x_fX x_fY x_sX x_sY z_x_made x_fsize x_psize x_over x_touch x_most x_mU x_mV x_area x_board a_tape z_a_letters z_a_oneSided z_a_free z_a_ends a_crowds a_wmade a_firsts a_widths a_heights a_places a_next a_pnear a_table a_overlaps a_drawers a_kept a_items z_a_numbers z_a_marks a_near a_figures a_covered a_pcells a_matrix t.heap) (cA ad)) av s 0 0 (cA ad)) (F0 m 34 ls []) := by
    intro v1 v2 v3 x_made a_numbers a_oneSided a_free a_ends n34
    induction n34 with
    | zero => intro H locs ls v4 v5 x_len x_cuts x_bare x_place x_lA x_lB x_lC a_letters a_marks hl hP hS h; cases h
    | succ n34 ih34 =>
      intro H locs ls v4 v5 x_len x_cuts x_bare x_place x_lA x_lB x_lC a_letters a_marks hl hP hS h
      replace h : cf_tilers_B34 v1 v2 v3 x_made a_numbers a_oneSided a_free a_ends (fl11 (cf_tilers_B34 v1 v2 v3 x_made a_numbers a_oneSided a_free a_ends) n34) v4 v5 x_len x_cuts x_bare x_place x_lA x_lB x_lC a_letters a_marks = some (r, z_x_len, z_x_cuts, z_x_bare, z_x_place, z_x_lA, z_x_lB, z_x_lC, z_a_letters, z_x_made, z_a_numbers, z_a_oneSided, z_a_free, z_a_ends, z_a_marks) := h
      generalize fl11 (cf_tilers_B34 v1 v2 v3 x_made a_numbers a_oneSided a_free a_ends) n34 = k34 at h ih34
      rw [cf_tilers_B34] at h
      refine lv_iload hx hb dX11_tilers_34 (lv_at hl 5 rfl) ?_
      refine lv_iload_n hx hb dX11_tilers_36 rfl (lv_at hl 3 rfl) ?_
      refine lv_icmp_ge hx hb dX11_tilers_37 (tgt := 64) rfl (fun hc => ?_) (fun hc => ?_)
      · replace h := ifp h hc
        refine lv_iload hx hb dX11_tilers_64 (lv_at hl 4 rfl) ?_
        simp only [Option.some.injEq, Prod.mk.injEq] at h
        obtain ⟨rfl, rfl, rfl, rfl, rfl, rfl, rfl, rfl, rfl, rfl, rfl, rfl, rfl, rfl, rfl⟩ := h
        exact rc_i hx hb hr hlocks hS dX11_tilers_66 rfl hP
      · replace h := ifn h hc
        refine lv_iload hx hb dX11_tilers_40 (lv_at hl 4 rfl) ?_
        refine lv_aload_n hx hb dX11_tilers_42 rfl (lv_at hl 0 rfl) ?_
        refine cg_CF_6 hx hb hw hown hK hP dX11_tilers_43 ?_
        refine lv_iload_n hx hb dX11_tilers_46 rfl (lv_at hl 1 rfl) ?_
        refine lv_iload_n hx hb dX11_tilers_47 rfl (lv_at hl 2 rfl) ?_
        refine lv_iload hx hb dX11_tilers_48 (lv_at hl 5 rfl) ?_
        refine lv_bipush (v := 15) hx hb dX11_tilers_50 kb_15 ?_
        obtain ⟨r_24, x_len_25, x_cuts_26, x_bare_27, x_place_28, x_lA_29, x_lB_30, x_lC_31, a_letters_32, a_marks_33, hr_34, h⟩ := bd10_s h
        refine hv_i hx hb hml hown hw cB_bl (cB_of hN hK hP) (cr_CA hK hP) (c_ca_trait l D ct ad hI v1 v2 v5 15 r_24 x_len_25 x_cuts_26 x_bare_27 x_place_28 x_lA_29 x_lB_30 x_lC_31 a_letters_32 a_marks_33 hr_34) g_RX11_174 ⟨rfl, hd_X0_trait⟩ (rest := [.int v4]) hl.1 hS (fun q h => h) dX11_tilers_52 rfl rfl ⟨Nat.le_of_ble_eq_true rfl, Nat.le_of_ble_eq_true rfl⟩ rfl rfl (Nat.le_of_ble_eq_true rfl) ⟨Nat.zero_le _, Nat.zero_le _⟩ (fun H locs hP _ hS => ?_)
        refine lv_iadd hx hb dX11_tilers_55 ?_
        obtain ⟨v4_35, ev4_35, h⟩ := nm_s h
        refine nmI ev4_35 ?_
        refine lv_istore hx hb dX11_tilers_56 hl (Nat.le_of_ble_eq_true rfl) (lv' := [(4, .int v4_35), (0, .ref (ad 0)), (1, .int v1), (2, .int v2), (3, .int v3), (5, .int v5)]) rfl (fun ls hl => ?_)
        obtain ⟨v5_36, ev5_36, h⟩ := nm_s h
        refine lv_iinc hx hb dX11_tilers_58 hl (k := 5) rfl ev5_36.symm (Nat.le_of_ble_eq_true rfl) (lv' := [(5, .int v5_36), (4, .int v4_35), (0, .ref (ad 0)), (1, .int v1), (2, .int v2), (3, .int v3)]) rfl (fun ls hl => ?_)
        refine lv_goto hx hb dX11_tilers_61 (tgt := 34) rfl ?_
        exact ih34 _ _ _ v4_35 v5_36 x_len_25 x_cuts_26 x_bare_27 x_place_28 x_lA_29 x_lB_30 x_lC_31 a_letters_32 a_marks_33 (lv_sub hl [2, 3, 4, 5, 1, 0] rfl) hP hS h
  refine lv_iload_n hx hb dX11_tilers_0 rfl (lv_at hl 1 rfl) ?_
  refine lv_iload_n hx hb dX11_tilers_1 rfl (lv_at hl 2 rfl) ?_
  obtain ⟨r_37, hr_38, h⟩ := bd1_s h
  refine sc_i hx hb hml hown hw hN (c_cf_isList l v1 v2 r_37 hr_38) g_RX11_149 hd_X11_isList (rest := []) hl.1 hS dX11_tilers_2 rfl rfl ⟨Nat.le_of_ble_eq_true rfl, Nat.le_of_ble_eq_true rfl⟩ rfl rfl (Nat.le_of_ble_eq_true rfl) ⟨Nat.zero_le _, Nat.zero_le _⟩ (fun H locs hk hS => ?_)
  have hP := cP_kept hP hk
  refine lv_if_ne hx hb dX11_tilers_5 (tgt := 10) rfl (fun hc => ?_) (fun hc => ?_)
  · replace h := ifn h hc
    refine lv_aload_n hx hb dX11_tilers_10 rfl (lv_at hl 0 rfl) ?_
    refine cg_CF_6 hx hb hw hown hK hP dX11_tilers_11 ?_
    refine lv_iload_n hx hb dX11_tilers_14 rfl (lv_at hl 1 rfl) ?_
    obtain ⟨x_made_39, a_numbers_40, a_oneSided_41, a_free_42, a_ends_43, hr_44, h⟩ := bd5_s h
    refine hv_v hx hb hml hown hw cB_bl (cB_of hN hK hP) (cr_CA hK hP) (c_ca_prepare l D ct ad hI v1 x_made_39 a_numbers_40 a_oneSided_41 a_free_42 a_ends_43 hr_44) g_RX11_153 ⟨rfl, hd_X0_prepare⟩ (rest := []) hl.1 hS (fun q h => h) dX11_tilers_15 rfl rfl ⟨Nat.le_of_ble_eq_true rfl, Nat.le_of_ble_eq_true rfl⟩ rfl rfl (Nat.le_of_ble_eq_true rfl) ⟨Nat.zero_le _, Nat.zero_le _⟩ (fun H locs hP _ hS => ?_)
    refine lv_aload_n hx hb dX11_tilers_18 rfl (lv_at hl 0 rfl) ?_
    refine cg_CF_6 hx hb hw hown hK hP dX11_tilers_19 ?_
    refine lv_iload_n hx hb dX11_tilers_22 rfl (lv_at hl 1 rfl) ?_
    refine lv_iload_n hx hb dX11_tilers_23 rfl (lv_at hl 2 rfl) ?_
    obtain ⟨r_45, hr_46, h⟩ := bd1_s h
    refine hv_i hx hb hml hown hw cB_bl (cB_of hN hK hP) (cr_CA hK hP) (c_ca_size l D ct ad hI v1 v2 r_45 hr_46) g_RX11_156 ⟨rfl, hd_X0_size⟩ (rest := []) hl.1 hS (fun q h => h) dX11_tilers_24 rfl rfl ⟨Nat.le_of_ble_eq_true rfl, Nat.le_of_ble_eq_true rfl⟩ rfl rfl (Nat.le_of_ble_eq_true rfl) ⟨Nat.zero_le _, Nat.zero_le _⟩ (fun H locs hP _ hS => ?_)
    refine lv_istore_n hx hb dX11_tilers_27 rfl hl (Nat.le_of_ble_eq_true rfl) (lv' := [(3, .int r_45), (0, .ref (ad 0)), (1, .int v1), (2, .int v2)]) rfl (fun ls hl => ?_)
    refine lv_iconst (v := 0) hx hb dX11_tilers_28 ki_0 ?_
    refine lv_istore hx hb dX11_tilers_29 hl (Nat.le_of_ble_eq_true rfl) (lv' := [(4, .int 0), (3, .int r_45), (0, .ref (ad 0)), (1, .int v1), (2, .int v2)]) rfl (fun ls hl => ?_)
    refine lv_iconst (v := 0) hx hb dX11_tilers_31 ki_0 ?_
    refine lv_istore hx hb dX11_tilers_32 hl (Nat.le_of_ble_eq_true rfl) (lv' := [(5, .int 0), (4, .int 0), (3, .int r_45), (0, .ref (ad 0)), (1, .int v1), (2, .int v2)]) rfl (fun ls hl => ?_)
    exact hL34 v1 v2 r_45 x_made_39 a_numbers_40 a_oneSided_41 a_free_42 a_ends_43 FU _ _ _ 0 0 x_len x_cuts x_bare x_place x_lA x_lB x_lC a_letters a_marks (lv_sub hl [3, 4, 5, 2, 1, 0] rfl) hP hS h
  · replace h := ifp h hc
    refine lv_iconst (v := (-1)) hx hb dX11_tilers_8 ki_m1 ?_
    simp only [Option.some.injEq, Prod.mk.injEq] at h
    obtain ⟨rfl, rfl, rfl, rfl, rfl, rfl, rfl, rfl, rfl, rfl, rfl, rfl, rfl, rfl, rfl⟩ := h
    exact rc_i hx hb hr hlocks hS dX11_tilers_9 rfl hP
noncomputable def cf_fill_J90 (k43 : Int32 → Int32 → (Nat → Int64) → Option (Int32 × Int32 × (Nat → Int64) × Int32 × (Nat → Int64) × (Nat → Int32) × (Nat → Int32) × (Nat → Int32) × (Nat → Int64) × (Nat → Int32) × (Nat → Int32))) (a_drawers : Nat → Int64) (v1 : Int32) (v2 : Int32) (v3 : Int32) (v4 : Int32) (v5 : Int32) (x_rsize : Int32) (a_items : Nat → Int64) (x_fsize : Int32) (a_figures : Nat → Int64) (a_firsts : Nat → Int32) (a_widths : Nat → Int32) (a_heights : Nat → Int32) (a_covered : Nat → Int64) (a_places : Nat → Int32) (a_next : Nat → Int32)  : Option (Int32 × Int32 × (Nat → Int64) × Int32 × (Nat → Int64) × (Nat → Int32) × (Nat → Int32) × (Nat → Int32) × (Nat → Int64) × (Nat → Int32) × (Nat → Int32)) :=
  nm (v5 + Int32.ofInt 1) fun v5_1 =>
  k43 v5_1 x_rsize a_items
noncomputable def cf_fill_B43 (v1 : Int32) (v2 : Int32) (v3 : Int32) (v4 : Int32) (a_drawers : Nat → Int64) (x_fsize : Int32) (a_figures : Nat → Int64) (a_firsts : Nat → Int32) (a_widths : Nat → Int32) (a_heights : Nat → Int32) (a_covered : Nat → Int64) (a_places : Nat → Int32) (a_next : Nat → Int32)  (k43 : Int32 → Int32 → (Nat → Int64) → Option (Int32 × Int32 × (Nat → Int64) × Int32 × (Nat → Int64) × (Nat → Int32) × (Nat → Int32) × (Nat → Int32) × (Nat → Int64) × (Nat → Int32) × (Nat → Int32))) (v5 : Int32) (x_rsize : Int32) (a_items : Nat → Int64) : Option (Int32 × Int32 × (Nat → Int64) × Int32 × (Nat → Int64) × (Nat → Int32) × (Nat → Int32) × (Nat → Int32) × (Nat → Int64) × (Nat → Int32) × (Nat → Int32)) :=
  if 8 ≤ v5 then (bd9 (fi_search v1 v2 x_rsize a_items x_fsize a_figures a_firsts a_widths a_heights a_covered a_places a_next) fun r_2 x_fsize_3 a_figures_4 a_firsts_5 a_widths_6 a_heights_7 a_covered_8 a_places_9 a_next_10 =>
  if 0 ≤ r_2 then (some (r_2, x_rsize, a_items, x_fsize_3, a_figures_4, a_firsts_5, a_widths_6, a_heights_7, a_covered_8, a_places_9, a_next_10)) else
  some ((-3), x_rsize, a_items, x_fsize_3, a_figures_4, a_firsts_5, a_widths_6, a_heights_7, a_covered_8, a_places_9, a_next_10)) else
  if ((ir v3 v5) &&& 1) = 0 then (cf_fill_J90 k43 a_drawers v1 v2 v3 v4 v5 x_rsize a_items x_fsize a_figures a_firsts a_widths a_heights a_covered a_places a_next) else
  ck v5 8 <|
  if (a_drawers v5.toNatClampNeg) = 0 then (some ((-2), x_rsize, a_items, x_fsize, a_figures, a_firsts, a_widths, a_heights, a_covered, a_places, a_next)) else
  ck v5 8 <|
  bd2 (gw_addForms (a_drawers v5.toNatClampNeg) v4 x_rsize a_items) fun x_rsize_12 a_items_13 =>
  cf_fill_J90 k43 a_drawers v1 v2 v3 v4 v5 x_rsize_12 a_items_13 x_fsize a_figures a_firsts a_widths a_heights a_covered a_places a_next
noncomputable def cf_fill (v1 : Int32) (v2 : Int32) (v3 : Int32) (v4 : Int32) (a_drawers : Nat → Int64) (x_rsize : Int32) (a_items : Nat → Int64) (x_fsize : Int32) (a_figures : Nat → Int64) (a_firsts : Nat → Int32) (a_widths : Nat → Int32) (a_heights : Nat → Int32) (a_covered : Nat → Int64) (a_places : Nat → Int32) (a_next : Nat → Int32) : Option (Int32 × Int32 × (Nat → Int64) × Int32 × (Nat → Int64) × (Nat → Int32) × (Nat → Int32) × (Nat → Int32) × (Nat → Int64) × (Nat → Int32) × (Nat → Int32)) :=
  bd1 (cf_within v1 1 6) fun r_15 =>
  if r_15 = 0 then (some ((-1), x_rsize, a_items, x_fsize, a_figures, a_firsts, a_widths, a_heights, a_covered, a_places, a_next)) else
  bd1 (cf_within v2 1 6) fun r_17 =>
  if r_17 = 0 then (some ((-1), x_rsize, a_items, x_fsize, a_figures, a_firsts, a_widths, a_heights, a_covered, a_places, a_next)) else
  bd1 (cf_within v3 1 255) fun r_19 =>
  if r_19 = 0 then (some ((-1), x_rsize, a_items, x_fsize, a_figures, a_firsts, a_widths, a_heights, a_covered, a_places, a_next)) else
  bd1 (rw_clear x_rsize) fun x_rsize_21 =>
  fl3 (cf_fill_B43 v1 v2 v3 v4 a_drawers x_fsize a_figures a_firsts a_widths a_heights a_covered a_places a_next) FU 0 x_rsize_21 a_items
set_option maxHeartbeats 4000000 in
set_option maxRecDepth 100000 in
theorem c_cf_fill (l : Launch) (D : va_G) (ct : Nat → ClassId) (ad : Nat → Nat) (hI : cI ad) {x_fed x_tk x_col x_line x_rcells x_rsize x_len x_cuts x_bare x_place x_lA x_lB x_lC x_fX x_fY x_sX x_sY x_made x_fsize x_psize x_over x_touch x_most x_mU x_mV x_area : Int32} {x_board : Int64} {a_tape a_letters a_oneSided a_free a_ends a_crowds a_wmade a_firsts a_widths a_heights a_places a_next a_pnear a_table a_overlaps : Nat → Int32} {a_drawers a_kept a_items a_numbers a_marks a_near a_figures a_covered a_pcells a_matrix : Nat → Int64} (v1 : Int32) (v2 : Int32) (v3 : Int32) (v4 : Int32) (r : Int32) (z_x_rsize : Int32) (z_a_items : Nat → Int64) (z_x_fsize : Int32) (z_a_figures : Nat → Int64) (z_a_firsts : Nat → Int32) (z_a_widths : Nat → Int32) (z_a_heights : Nat → Int32) (z_a_covered : Nat → Int64) (z_a_places : Nat → Int32) (z_a_next : Nat → Int32) (h : cf_fill v1 v2 v3 v4 a_drawers x_rsize a_items x_fsize a_figures a_firsts a_widths a_heights a_covered a_places a_next = some (r, z_x_rsize, z_a_items, z_x_fsize, z_a_figures, z_a_firsts, z_a_widths, z_a_heights, z_a_covered, z_a_places, z_a_next)) : Met l yX11_fill (wm yX11_fill cX11_fill 6 (some .int)) (rmm 4 96) (va_Pc [.ref (ad 0), .int v1, .int v2, .int v3, .int v4] (cB D ct ad x_fed x_tk x_col x_line x_rcells x_rsize x_len x_cuts x_bare x_place x_lA x_lB x_lC x_fX x_fY x_sX x_sY x_made x_fsize x_psize x_over x_touch x_most x_mU x_mV x_area x_board a_tape a_letters a_oneSided a_free a_ends a_crowds a_wmade a_firsts a_widths a_heights a_places a_next a_pnear a_table a_overlaps a_drawers a_kept a_items a_numbers a_marks a_near a_figures a_covered a_pcells a_matrix)) (va_Qi (fun z (_ : Unit) => z = r) (fun _ t => cP D ct ad x_fed x_tk x_col x_line x_rcells z_x_rsize x_len x_cuts x_bare x_place x_lA x_lB x_lC x_fX x_fY x_sX x_sY x_made z_x_fsize x_psize x_over x_touch x_most x_mU x_mV x_area x_board a_tape a_letters a_oneSided a_free a_ends a_crowds a_wmade z_a_firsts z_a_widths z_a_heights z_a_places z_a_next a_pnear a_table a_overlaps a_drawers a_kept z_a_items a_numbers a_marks a_near z_a_figures z_a_covered a_pcells a_matrix t.heap) (cA ad)) 0 0 (cA ad) := by
  refine met_s (y := yX11_fill) (rm := rmm 4 96) (by decide) (Nat.le_of_ble_eq_true rfl) ?_
  intro p e s m below meth c hx hb hr hw hown hlocks _ hml hB ls hl
  obtain ⟨hN, hK, hP⟩ := hB
  replace hl : lv_has ls 6 [(0, .ref (ad 0)), (1, .int v1), (2, .int v2), (3, .int v3), (4, .int v4)] := hl
  have hS : va_S (cA ad) s.heap s.heap [] := va_S.rf
  generalize (([.ref (ad 0), .int v1, .int v2, .int v3, .int v4] : List Value).toArray) = av at hw ⊢
  rw [cf_fill] at h
  have hL43 : ∀ (v1 : Int32), ∀ (v2 : Int32), ∀ (v3 : Int32), ∀ (v4 : Int32), ∀ (a_drawers : Nat → Int64), ∀ (x_fsize : Int32), ∀ (a_figures : Nat → Int64), ∀ (a_firsts : Nat → Int32), ∀ (a_widths : Nat → Int32), ∀ (a_heights : Nat → Int32), ∀ (a_covered : Nat → Int64), ∀ (a_places : Nat → Int32), ∀ (a_next : Nat → Int32), ∀ (n43 : Nat) (H : Heap) (locs : List Loc) (ls : Array Slot) (v5 : Int32) (x_rsize : Int32) (a_items : Nat → Int64), lv_has ls 6 [(0, .ref (ad 0)), (1, .int v1), (2, .int v2), (3, .int v3), (4, .int v4), (5, .int v5)] → cP D ct ad x_fed x_tk x_col x_line x_rcells x_rsize x_len x_cuts x_bare x_place x_lA x_lB x_lC x_fX x_fY x_sX x_sY x_made x_fsize x_psize x_over x_touch x_most x_mU x_mV x_area x_board a_tape a_letters a_oneSided a_free a_ends a_crowds a_wmade a_firsts a_widths a_heights a_places a_next a_pnear a_table a_overlaps a_drawers a_kept a_items a_numbers a_marks a_near a_figures a_covered a_pcells a_matrix H → va_S (cA ad) s.heap H locs → fl3 (cf_fill_B43 v1 v2 v3 v4 a_drawers x_fsize a_figures a_firsts a_widths a_heights a_covered a_places a_next) n43 v5 x_rsize a_items = some (r, z_x_rsize, z_a_items, z_x_fsize, z_a_figures, z_a_firsts, z_a_widths, z_a_heights, z_a_covered, z_a_places, z_a_next) → W p l e (rmm 4 96) s m av below meth c H locs 0 0 (MQ below (va_Qi (fun z (_ : Unit) => z = r) (fun _ t => cP D ct ad x_fed x_tk x_col x_line x_rcells z_x_rsize x_len x_cuts x_bare x_place x_lA x_lB x_lC x_fX x_fY x_sX x_sY x_made z_x_fsize x_psize x_over x_touch x_most x_mU x_mV x_area x_board a_tape a_letters a_oneSided a_free a_ends a_crowds a_wmade z_a_firsts z_a_widths z_a_heights z_a_places z_a_next a_pnear a_table a_overlaps a_drawers a_kept z_a_items a_numbers a_marks a_near z_a_figures z_a_covered a_pcells a_matrix t.heap) (cA ad)) av s 0 0 (cA ad)) (F0 m 43 ls []) := by
    intro v1 v2 v3 v4 a_drawers x_fsize a_figures a_firsts a_widths a_heights a_covered a_places a_next n43
    induction n43 with
    | zero => intro H locs ls v5 x_rsize a_items hl hP hS h; cases h
    | succ n43 ih43 =>
      intro H locs ls v5 x_rsize a_items hl hP hS h
      replace h : cf_fill_B43 v1 v2 v3 v4 a_drawers x_fsize a_figures a_firsts a_widths a_heights a_covered a_places a_next (fl3 (cf_fill_B43 v1 v2 v3 v4 a_drawers x_fsize a_figures a_firsts a_widths a_heights a_covered a_places a_next) n43) v5 x_rsize a_items = some (r, z_x_rsize, z_a_items, z_x_fsize, z_a_figures, z_a_firsts, z_a_widths, z_a_heights, z_a_covered, z_a_places, z_a_next) := h
      generalize fl3 (cf_fill_B43 v1 v2 v3 v4 a_drawers x_fsize a_figures a_firsts a_widths a_heights a_covered a_places a_next) n43 = k43 at h ih43
      have hJ90 : ∀ (H : Heap) (locs : List Loc) (ls : Array Slot) (v5 : Int32) (x_rsize : Int32) (a_items : Nat → Int64) , lv_has ls 6 [(0, .ref (ad 0)), (1, .int v1), (2, .int v2), (3, .int v3), (4, .int v4), (5, .int v5)] → cP D ct ad x_fed x_tk x_col x_line x_rcells x_rsize x_len x_cuts x_bare x_place x_lA x_lB x_lC x_fX x_fY x_sX x_sY x_made x_fsize x_psize x_over x_touch x_most x_mU x_mV x_area x_board a_tape a_letters a_oneSided a_free a_ends a_crowds a_wmade a_firsts a_widths a_heights a_places a_next a_pnear a_table a_overlaps a_drawers a_kept a_items a_numbers a_marks a_near a_figures a_covered a_pcells a_matrix H → va_S (cA ad) s.heap H locs → cf_fill_J90 k43 a_drawers v1 v2 v3 v4 v5 x_rsize a_items x_fsize a_figures a_firsts a_widths a_heights a_covered a_places a_next = some (r, z_x_rsize, z_a_items, z_x_fsize, z_a_figures, z_a_firsts, z_a_widths, z_a_heights, z_a_covered, z_a_places, z_a_next) → W p l e (rmm 4 96) s m av below meth c H locs 0 0 (MQ below (va_Qi (fun z (_ : Unit) => z = r) (fun _ t => cP D ct ad x_fed x_tk x_col x_line x_rcells z_x_rsize x_len x_cuts x_bare x_place x_lA x_lB x_lC x_fX x_fY x_sX x_sY x_made z_x_fsize x_psize x_over x_touch x_most x_mU x_mV x_area x_board a_tape a_letters a_oneSided a_free a_ends a_crowds a_wmade z_a_firsts z_a_widths z_a_heights z_a_places z_a_next a_pnear a_table a_overlaps a_drawers a_kept z_a_items a_numbers a_marks a_near z_a_figures z_a_covered a_pcells a_matrix t.heap) (cA ad)) av s 0 0 (cA ad)) (F0 m 90 ls []) := by
        intro H locs ls v5 x_rsize a_items  hl hP hS h
        rw [cf_fill_J90] at h
        obtain ⟨v5_23, ev5_23, h⟩ := nm_s h
        refine lv_iinc hx hb dX11_fill_90 hl (k := 5) rfl ev5_23.symm (Nat.le_of_ble_eq_true rfl) (lv' := [(5, .int v5_23), (0, .ref (ad 0)), (1, .int v1), (2, .int v2), (3, .int v3), (4, .int v4)]) rfl (fun ls hl => ?_)
        refine lv_goto hx hb dX11_fill_93 (tgt := 43) rfl ?_
        exact ih43 _ _ _ v5_23 x_rsize a_items (lv_sub hl [1, 2, 3, 4, 5, 0] rfl) hP hS h
      rw [cf_fill_B43] at h
      refine lv_iload hx hb dX11_fill_43 (lv_at hl 5 rfl) ?_
      refine lv_bipush (v := 8) hx hb dX11_fill_45 kb_8 ?_
      refine lv_icmp_ge hx hb dX11_fill_47 (tgt := 96) rfl (fun hc => ?_) (fun hc => ?_)
      · replace h := ifp h hc
        refine lv_aload_n hx hb dX11_fill_96 rfl (lv_at hl 0 rfl) ?_
        refine cg_CF_8 hx hb hw hown hK hP dX11_fill_97 ?_
        refine lv_iload_n hx hb dX11_fill_100 rfl (lv_at hl 1 rfl) ?_
        refine lv_iload_n hx hb dX11_fill_101 rfl (lv_at hl 2 rfl) ?_
        refine lv_aload_n hx hb dX11_fill_102 rfl (lv_at hl 0 rfl) ?_
        refine cg_CF_4 hx hb hw hown hK hP dX11_fill_103 ?_
        obtain ⟨r_24, x_fsize_25, a_figures_26, a_firsts_27, a_widths_28, a_heights_29, a_covered_30, a_places_31, a_next_32, hr_33, h⟩ := bd9_s h
        refine hv_i hx hb hml hown hw cB_bl (cB_of hN hK hP) (cr_FI hK hP) (c_fi_search l D ct ad hI v1 v2 r_24 x_fsize_25 a_figures_26 a_firsts_27 a_widths_28 a_heights_29 a_covered_30 a_places_31 a_next_32 hr_33) g_RX11_235 ⟨rfl, hd_X1_search⟩ (rest := []) hl.1 hS (fun q h => h) dX11_fill_106 rfl rfl ⟨Nat.le_of_ble_eq_true rfl, Nat.le_of_ble_eq_true rfl⟩ rfl rfl (Nat.le_of_ble_eq_true rfl) ⟨Nat.zero_le _, Nat.zero_le _⟩ (fun H locs hP _ hS => ?_)
        refine lv_istore hx hb dX11_fill_109 hl (Nat.le_of_ble_eq_true rfl) (lv' := [(5, .int r_24), (0, .ref (ad 0)), (1, .int v1), (2, .int v2), (3, .int v3), (4, .int v4)]) rfl (fun ls hl => ?_)
        refine lv_iload hx hb dX11_fill_111 (lv_at hl 0 rfl) ?_
        refine lv_if_ge hx hb dX11_fill_113 (tgt := 121) rfl (fun hc => ?_) (fun hc => ?_)
        · replace h := ifp h hc
          refine lv_iload hx hb dX11_fill_121 (lv_at hl 0 rfl) ?_
          simp only [Option.some.injEq, Prod.mk.injEq] at h
          obtain ⟨rfl, rfl, rfl, rfl, rfl, rfl, rfl, rfl, rfl, rfl, rfl⟩ := h
          exact rc_i hx hb hr hlocks hS dX11_fill_123 rfl hP
        · replace h := ifn h hc
          refine lv_bipush (v := (-3)) hx hb dX11_fill_116 kb_m3 ?_
          refine lv_goto hx hb dX11_fill_118 (tgt := 123) rfl ?_
          simp only [Option.some.injEq, Prod.mk.injEq] at h
          obtain ⟨rfl, rfl, rfl, rfl, rfl, rfl, rfl, rfl, rfl, rfl, rfl⟩ := h
          exact rc_i hx hb hr hlocks hS dX11_fill_123 rfl hP
      · replace h := ifn h hc
        refine lv_iload_n hx hb dX11_fill_50 rfl (lv_at hl 3 rfl) ?_
        refine lv_iload hx hb dX11_fill_51 (lv_at hl 5 rfl) ?_
        refine lv_ishr hx hb dX11_fill_53 ?_
        refine nmI (v := ir v3 v5) rfl ?_
        refine lv_iconst (v := 1) hx hb dX11_fill_54 ki_1 ?_
        refine lv_iand hx hb dX11_fill_55 ?_
        refine lv_if_eq hx hb dX11_fill_56 (tgt := 90) rfl (fun hc => ?_) (fun hc => ?_)
        · replace h := ifp h hc
          exact hJ90 _ _ _ v5 x_rsize a_items (lv_sub hl [0, 1, 2, 3, 4, 5] rfl) hP hS h
        · replace h := ifn h hc
          refine lv_aload_n hx hb dX11_fill_59 rfl (lv_at hl 0 rfl) ?_
          refine cg_CF_1 hx hb hw hown hK hP dX11_fill_60 ?_
          refine lv_iload hx hb dX11_fill_63 (lv_at hl 5 rfl) ?_
          obtain ⟨hin, h⟩ := ck_s h
          refine cd_drawers hx hb hK hP hin dX11_fill_65 ?_
          refine lv_lconst (v := 0) hx hb dX11_fill_66 kl_0 ?_
          refine W.lcmp hx hb dX11_fill_67 ?_
          refine lv_if_ne hx hb dX11_fill_68 (tgt := 74) rfl (fun hc => ?_) (fun hc => ?_)
          · replace h := ifn h (fun q => hc ((lg_cmp_eq _ _).mpr q))
            refine lv_aload_n hx hb dX11_fill_74 rfl (lv_at hl 0 rfl) ?_
            refine cg_CF_1 hx hb hw hown hK hP dX11_fill_75 ?_
            refine lv_iload hx hb dX11_fill_78 (lv_at hl 5 rfl) ?_
            obtain ⟨hin, h⟩ := ck_s h
            refine cd_drawers hx hb hK hP hin dX11_fill_80 ?_
            refine lv_iload hx hb dX11_fill_81 (lv_at hl 4 rfl) ?_
            refine lv_aload_n hx hb dX11_fill_83 rfl (lv_at hl 0 rfl) ?_
            refine cg_CF_4 hx hb hw hown hK hP dX11_fill_84 ?_
            obtain ⟨x_rsize_34, a_items_35, hr_36, h⟩ := bd2_s h
            refine hs_v hx hb hml hown hw cB_bl (cB_of hN hK hP) (c_gw_addForms l D ct ad hI (a_drawers v5.toNatClampNeg) v4 x_rsize_34 a_items_35 hr_36) g_RX11_231 hd_X3_addForms (rest := []) hl.1 hS (fun q h => h) dX11_fill_87 rfl rfl ⟨Nat.le_of_ble_eq_true rfl, Nat.le_of_ble_eq_true rfl⟩ rfl rfl (Nat.le_of_ble_eq_true rfl) ⟨Nat.zero_le _, Nat.zero_le _⟩ (fun H locs hP _ hS => ?_)
            exact hJ90 _ _ _ v5 x_rsize_34 a_items_35 (lv_sub hl [0, 1, 2, 3, 4, 5] rfl) hP hS h
          · replace h := ifp h ((lg_cmp_eq _ _).mp hc)
            refine lv_bipush (v := (-2)) hx hb dX11_fill_71 kb_m2 ?_
            simp only [Option.some.injEq, Prod.mk.injEq] at h
            obtain ⟨rfl, rfl, rfl, rfl, rfl, rfl, rfl, rfl, rfl, rfl, rfl⟩ := h
            exact rc_i hx hb hr hlocks hS dX11_fill_73 rfl hP
  refine lv_iload_n hx hb dX11_fill_0 rfl (lv_at hl 1 rfl) ?_
  refine lv_iconst (v := 1) hx hb dX11_fill_1 ki_1 ?_
  refine lv_bipush (v := 6) hx hb dX11_fill_2 kb_6 ?_
  obtain ⟨r_37, hr_38, h⟩ := bd1_s h
  refine sc_i hx hb hml hown hw hN (c_cf_within l v1 1 6 r_37 hr_38) g_RX11_95 hd_X11_within (rest := []) hl.1 hS dX11_fill_4 rfl rfl ⟨Nat.le_of_ble_eq_true rfl, Nat.le_of_ble_eq_true rfl⟩ rfl rfl (Nat.le_of_ble_eq_true rfl) ⟨Nat.zero_le _, Nat.zero_le _⟩ (fun H locs hk hS => ?_)
  have hP := cP_kept hP hk
  refine lv_if_eq hx hb dX11_fill_7 (tgt := 31) rfl (fun hc => ?_) (fun hc => ?_)
  · replace h := ifp h hc
    refine lv_iconst (v := (-1)) hx hb dX11_fill_31 ki_m1 ?_
    simp only [Option.some.injEq, Prod.mk.injEq] at h
    obtain ⟨rfl, rfl, rfl, rfl, rfl, rfl, rfl, rfl, rfl, rfl, rfl⟩ := h
    exact rc_i hx hb hr hlocks hS dX11_fill_32 rfl hP
  · replace h := ifn h hc
    refine lv_iload_n hx hb dX11_fill_10 rfl (lv_at hl 2 rfl) ?_
    refine lv_iconst (v := 1) hx hb dX11_fill_11 ki_1 ?_
    refine lv_bipush (v := 6) hx hb dX11_fill_12 kb_6 ?_
    obtain ⟨r_39, hr_40, h⟩ := bd1_s h
    refine sc_i hx hb hml hown hw hN (c_cf_within l v2 1 6 r_39 hr_40) g_RX11_95 hd_X11_within (rest := []) hl.1 hS dX11_fill_14 rfl rfl ⟨Nat.le_of_ble_eq_true rfl, Nat.le_of_ble_eq_true rfl⟩ rfl rfl (Nat.le_of_ble_eq_true rfl) ⟨Nat.zero_le _, Nat.zero_le _⟩ (fun H locs hk hS => ?_)
    have hP := cP_kept hP hk
    refine lv_if_eq hx hb dX11_fill_17 (tgt := 31) rfl (fun hc => ?_) (fun hc => ?_)
    · replace h := ifp h hc
      refine lv_iconst (v := (-1)) hx hb dX11_fill_31 ki_m1 ?_
      simp only [Option.some.injEq, Prod.mk.injEq] at h
      obtain ⟨rfl, rfl, rfl, rfl, rfl, rfl, rfl, rfl, rfl, rfl, rfl⟩ := h
      exact rc_i hx hb hr hlocks hS dX11_fill_32 rfl hP
    · replace h := ifn h hc
      refine lv_iload_n hx hb dX11_fill_20 rfl (lv_at hl 3 rfl) ?_
      refine lv_iconst (v := 1) hx hb dX11_fill_21 ki_1 ?_
      refine lv_sipush (v := 255) hx hb dX11_fill_22 ks_255 ?_
      obtain ⟨r_41, hr_42, h⟩ := bd1_s h
      refine sc_i hx hb hml hown hw hN (c_cf_within l v3 1 255 r_41 hr_42) g_RX11_95 hd_X11_within (rest := []) hl.1 hS dX11_fill_25 rfl rfl ⟨Nat.le_of_ble_eq_true rfl, Nat.le_of_ble_eq_true rfl⟩ rfl rfl (Nat.le_of_ble_eq_true rfl) ⟨Nat.zero_le _, Nat.zero_le _⟩ (fun H locs hk hS => ?_)
      have hP := cP_kept hP hk
      refine lv_if_ne hx hb dX11_fill_28 (tgt := 33) rfl (fun hc => ?_) (fun hc => ?_)
      · replace h := ifn h hc
        refine lv_aload_n hx hb dX11_fill_33 rfl (lv_at hl 0 rfl) ?_
        refine cg_CF_4 hx hb hw hown hK hP dX11_fill_34 ?_
        obtain ⟨x_rsize_43, hr_44, h⟩ := bd1_s h
        refine hv_v hx hb hml hown hw cB_bl (cB_of hN hK hP) (cr_RW hK hP) (c_rw_clear l D ct ad hI x_rsize_43 hr_44) g_RX11_228 ⟨rfl, hd_X8_clear⟩ (rest := []) hl.1 hS (fun q h => h) dX11_fill_37 rfl rfl ⟨Nat.le_of_ble_eq_true rfl, Nat.le_of_ble_eq_true rfl⟩ rfl rfl (Nat.le_of_ble_eq_true rfl) ⟨Nat.zero_le _, Nat.zero_le _⟩ (fun H locs hP _ hS => ?_)
        refine lv_iconst (v := 0) hx hb dX11_fill_40 ki_0 ?_
        refine lv_istore hx hb dX11_fill_41 hl (Nat.le_of_ble_eq_true rfl) (lv' := [(5, .int 0), (0, .ref (ad 0)), (1, .int v1), (2, .int v2), (3, .int v3), (4, .int v4)]) rfl (fun ls hl => ?_)
        exact hL43 v1 v2 v3 v4 a_drawers x_fsize a_figures a_firsts a_widths a_heights a_covered a_places a_next FU _ _ _ 0 x_rsize_43 a_items (lv_sub hl [1, 2, 3, 4, 5, 0] rfl) hP hS h
      · replace h := ifp h hc
        refine lv_iconst (v := (-1)) hx hb dX11_fill_31 ki_m1 ?_
        simp only [Option.some.injEq, Prod.mk.injEq] at h
        obtain ⟨rfl, rfl, rfl, rfl, rfl, rfl, rfl, rfl, rfl, rfl, rfl⟩ := h
        exact rc_i hx hb hr hlocks hS dX11_fill_32 rfl hP
