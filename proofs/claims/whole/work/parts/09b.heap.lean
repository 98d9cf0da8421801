noncomputable def mo_change (v1 : Int32) (v2 : Int32) (v3 : Int32) (v4 : Int32) (a_drawer : Nat → Int64) (a_field : Nat → Int32) : Option (Int32 × (Nat → Int64) × (Nat → Int32)) :=
  bd1 (mo_isDrawer v1) fun r_1 =>
  if r_1 = 0 then (some ((-1), a_drawer, a_field)) else
  bd1 (mo_in v2 (-1) 7) fun r_3 =>
  if r_3 = 0 then (some ((-1), a_drawer, a_field)) else
  bd1 (mo_in v3 (-1) 7) fun r_5 =>
  if r_5 = 0 then (some ((-1), a_drawer, a_field)) else
  ck v1 8 <|
  if (a_drawer v1.toNatClampNeg) = 0 then (some ((-2), a_drawer, a_field)) else
  ck v1 8 <|
  bd1 (mo_isCell (a_drawer v1.toNatClampNeg) v2 v3) fun r_7 =>
  if r_7 = v4 then (some ((-3), a_drawer, a_field)) else
  bd1 (mo_clears a_field) fun a_field_9 =>
  ck v1 8 <|
  bd1 (mo_lays (a_drawer v1.toNatClampNeg) 0 0 1 a_field_9) fun a_field_11 =>
  nm (((24 * (v3 + 8)) + v2) + 8 : Int32) fun i_13 =>
  ck i_13 576 <|
  nm (upd a_field_11 i_13.toNatClampNeg (vp_nar .boolean v4)) fun a_field_14 =>
  bd1 (mo_taken a_field_14) fun r_15 =>
  if r_15 = 0 then (some ((-3), a_drawer, a_field_14)) else
  ck v1 8 <|
  nm (vp_updL a_drawer v1.toNatClampNeg r_15) fun a_drawer_17 =>
  bd1 (mo_bits r_15) fun r_18 =>
  some (r_18, a_drawer_17, a_field_14)
set_option maxHeartbeats 4000000 in
set_option maxRecDepth 100000 in
theorem c_mo_change (l : Launch) (D : va_G) (ct : Nat → ClassId) (ad : Nat → Nat) (hI : mI ad) {y_km y_tp y_goes y_kin y_qd y_sides y_cuts y_flat y_cp y_cA y_cB y_1X y_1Y y_2X y_2Y y_tm y_cells : Int32} {a_mtape a_flood a_going a_field a_from a_mcrowds a_steps a_queue a_letter a_lineX a_lineY a_triedAt a_cellAt a_besideIn a_apart : Nat → Int32} {a_drawer a_mkept a_listed a_mkin a_tried a_takenAt a_waysOf : Nat → Int64} (v1 : Int32) (v2 : Int32) (v3 : Int32) (v4 : Int32) (r : Int32) (z_a_drawer : Nat → Int64) (z_a_field : Nat → Int32) (h : mo_change v1 v2 v3 v4 a_drawer a_field = some (r, z_a_drawer, z_a_field)) : Met l yX12_change (wm yX12_change cX12_change 7 (some .int)) (rmm 4 98) (va_Pc [.ref (ad 0), .int v1, .int v2, .int v3, .int v4] (mB D ct ad y_km y_tp y_goes y_kin y_qd y_sides y_cuts y_flat y_cp y_cA y_cB y_1X y_1Y y_2X y_2Y y_tm y_cells a_mtape a_flood a_going a_field a_from a_mcrowds a_steps a_queue a_letter a_lineX a_lineY a_triedAt a_cellAt a_besideIn a_apart a_drawer a_mkept a_listed a_mkin a_tried a_takenAt a_waysOf)) (va_Qi (fun z (_ : Unit) => z = r) (fun _ t => mP D ct ad y_km y_tp y_goes y_kin y_qd y_sides y_cuts y_flat y_cp y_cA y_cB y_1X y_1Y y_2X y_2Y y_tm y_cells a_mtape a_flood a_going z_a_field a_from a_mcrowds a_steps a_queue a_letter a_lineX a_lineY a_triedAt a_cellAt a_besideIn a_apart z_a_drawer a_mkept a_listed a_mkin a_tried a_takenAt a_waysOf t.heap) (mA ad)) 0 0 (mA ad) := by
  refine met_s (y := yX12_change) (rm := rmm 4 98) (by decide) (Nat.le_of_ble_eq_true rfl) ?_
  intro p e s m below meth c hx hb hr hw hown hlocks _ hml hB ls hl
  obtain ⟨hN, hK, hP⟩ := hB
  replace hl : lv_has ls 7 [(0, .ref (ad 0)), (1, .int v1), (2, .int v2), (3, .int v3), (4, .int v4)] := hl
  have hS : va_S (mA ad) s.heap s.heap [] := va_S.rf
  generalize (([.ref (ad 0), .int v1, .int v2, .int v3, .int v4] : List Value).toArray) = av at hw ⊢
  rw [mo_change] at h
  refine lv_iload_n hx hb dX12_change_0 rfl (lv_at hl 1 rfl) ?_
  obtain ⟨r_20, hr_21, h⟩ := bd1_s h
  refine sc_i hx hb hml hown hw hN (c_mo_isDrawer l v1 r_20 hr_21) g_RX12_135 hd_X12_isDrawer (rest := []) hl.1 hS dX12_change_1 rfl rfl ⟨Nat.le_of_ble_eq_true rfl, Nat.le_of_ble_eq_true rfl⟩ rfl rfl (Nat.le_of_ble_eq_true rfl) ⟨Nat.zero_le _, Nat.zero_le _⟩ (fun H locs hk hS => ?_)
  have hP := mP_kept hP hk
  refine lv_if_eq hx hb dX12_change_4 (tgt := 27) rfl (fun hc => ?_) (fun hc => ?_)
  · replace h := ifp h hc
    refine lv_iconst (v := (-1)) hx hb dX12_change_27 ki_m1 ?_
    simp only [Option.some.injEq, Prod.mk.injEq] at h
    obtain ⟨rfl, rfl, rfl⟩ := h
    exact rc_i hx hb hr hlocks hS dX12_change_28 rfl hP
  · replace h := ifn h hc
    refine lv_iload_n hx hb dX12_change_7 rfl (lv_at hl 2 rfl) ?_
    refine lv_iconst (v := (-1)) hx hb dX12_change_8 ki_m1 ?_
    refine lv_bipush (v := 7) hx hb dX12_change_9 kb_7 ?_
    obtain ⟨r_22, hr_23, h⟩ := bd1_s h
    refine sc_i hx hb hml hown hw hN (c_mo_in l v2 (-1) 7 r_22 hr_23) g_RX12_82 hd_X12_in (rest := []) hl.1 hS dX12_change_11 rfl rfl ⟨Nat.le_of_ble_eq_true rfl, Nat.le_of_ble_eq_true rfl⟩ rfl rfl (Nat.le_of_ble_eq_true rfl) ⟨Nat.zero_le _, Nat.zero_le _⟩ (fun H locs hk hS => ?_)
    have hP := mP_kept hP hk
    refine lv_if_eq hx hb dX12_change_14 (tgt := 27) rfl (fun hc => ?_) (fun hc => ?_)
    · replace h := ifp h hc
      refine lv_iconst (v := (-1)) hx hb dX12_change_27 ki_m1 ?_
      simp only [Option.some.injEq, Prod.mk.injEq] at h
      obtain ⟨rfl, rfl, rfl⟩ := h
      exact rc_i hx hb hr hlocks hS dX12_change_28 rfl hP
    · replace h := ifn h hc
      refine lv_iload_n hx hb dX12_change_17 rfl (lv_at hl 3 rfl) ?_
      refine lv_iconst (v := (-1)) hx hb dX12_change_18 ki_m1 ?_
      refine lv_bipush (v := 7) hx hb dX12_change_19 kb_7 ?_
      obtain ⟨r_24, hr_25, h⟩ := bd1_s h
      refine sc_i hx hb hml hown hw hN (c_mo_in l v3 (-1) 7 r_24 hr_25) g_RX12_82 hd_X12_in (rest := []) hl.1 hS dX12_change_21 rfl rfl ⟨Nat.le_of_ble_eq_true rfl, Nat.le_of_ble_eq_true rfl⟩ rfl rfl (Nat.le_of_ble_eq_true rfl) ⟨Nat.zero_le _, Nat.zero_le _⟩ (fun H locs hk hS => ?_)
      have hP := mP_kept hP hk
      refine lv_if_ne hx hb dX12_change_24 (tgt := 29) rfl (fun hc => ?_) (fun hc => ?_)
      · replace h := ifn h hc
        refine lv_aload_n hx hb dX12_change_29 rfl (lv_at hl 0 rfl) ?_
        refine mg_MO_0 hx hb hw hown hK hP dX12_change_30 ?_
        refine lv_iload_n hx hb dX12_change_33 rfl (lv_at hl 1 rfl) ?_
        obtain ⟨hin, h⟩ := ck_s h
        refine md_drawer hx hb hK hP hin dX12_change_34 ?_
        refine lv_lconst (v := 0) hx hb dX12_change_35 kl_0 ?_
        refine W.lcmp hx hb dX12_change_36 ?_
        refine lv_if_ne hx hb dX12_change_37 (tgt := 43) rfl (fun hc => ?_) (fun hc => ?_)
        · replace h := ifn h (fun q => hc ((lg_cmp_eq _ _).mpr q))
          refine lv_aload_n hx hb dX12_change_43 rfl (lv_at hl 0 rfl) ?_
          refine mg_MO_0 hx hb hw hown hK hP dX12_change_44 ?_
          refine lv_iload_n hx hb dX12_change_47 rfl (lv_at hl 1 rfl) ?_
          obtain ⟨hin, h⟩ := ck_s h
          refine md_drawer hx hb hK hP hin dX12_change_48 ?_
          refine lv_iload_n hx hb dX12_change_49 rfl (lv_at hl 2 rfl) ?_
          refine lv_iload_n hx hb dX12_change_50 rfl (lv_at hl 3 rfl) ?_
          obtain ⟨r_26, hr_27, h⟩ := bd1_s h
          refine sc_i hx hb hml hown hw hN (c_mo_isCell l (a_drawer v1.toNatClampNeg) v2 v3 r_26 hr_27) g_RX12_142 hd_X12_isCell (rest := []) hl.1 hS dX12_change_51 rfl rfl ⟨Nat.le_of_ble_eq_true rfl, Nat.le_of_ble_eq_true rfl⟩ rfl rfl (Nat.le_of_ble_eq_true rfl) ⟨Nat.zero_le _, Nat.zero_le _⟩ (fun H locs hk hS => ?_)
          have hP := mP_kept hP hk
          refine lv_iload hx hb dX12_change_54 (lv_at hl 4 rfl) ?_
          refine lv_icmp_ne hx hb dX12_change_56 (tgt := 62) rfl (fun hc => ?_) (fun hc => ?_)
          · replace h := ifn h hc
            refine lv_aload_n hx hb dX12_change_62 rfl (lv_at hl 0 rfl) ?_
            obtain ⟨a_field_28, hr_29, h⟩ := bd1_s h
            refine hv_v hx hb hml hown hw mB_bl (mB_of hN hK hP) (mr_MO hK hP) (c_mo_clears l D ct ad hI a_field_28 hr_29) g_RX12_202 ⟨rfl, hd_X12_clears⟩ (rest := []) hl.1 hS (fun q h => h) dX12_change_63 rfl rfl ⟨Nat.le_of_ble_eq_true rfl, Nat.le_of_ble_eq_true rfl⟩ rfl rfl (Nat.le_of_ble_eq_true rfl) ⟨Nat.zero_le _, Nat.zero_le _⟩ (fun H locs hP _ hS => ?_)
            refine lv_aload_n hx hb dX12_change_66 rfl (lv_at hl 0 rfl) ?_
            refine lv_aload_n hx hb dX12_change_67 rfl (lv_at hl 0 rfl) ?_
            refine mg_MO_0 hx hb hw hown hK hP dX12_change_68 ?_
            refine lv_iload_n hx hb dX12_change_71 rfl (lv_at hl 1 rfl) ?_
            obtain ⟨hin, h⟩ := ck_s h
            refine md_drawer hx hb hK hP hin dX12_change_72 ?_
            refine lv_iconst (v := 0) hx hb dX12_change_73 ki_0 ?_
            refine lv_iconst (v := 0) hx hb dX12_change_74 ki_0 ?_
            refine lv_iconst (v := 1) hx hb dX12_change_75 ki_1 ?_
            obtain ⟨a_field_30, hr_31, h⟩ := bd1_s h
            refine hv_v hx hb hml hown hw mB_bl (mB_of hN hK hP) (mr_MO hK hP) (c_mo_lays l D ct ad hI (a_drawer v1.toNatClampNeg) 0 0 1 a_field_30 hr_31) g_RX12_205 ⟨rfl, hd_X12_lays⟩ (rest := []) hl.1 hS (fun q h => h) dX12_change_76 rfl rfl ⟨Nat.le_of_ble_eq_true rfl, Nat.le_of_ble_eq_true rfl⟩ rfl rfl (Nat.le_of_ble_eq_true rfl) ⟨Nat.zero_le _, Nat.zero_le _⟩ (fun H locs hP _ hS => ?_)
            refine lv_aload_n hx hb dX12_change_79 rfl (lv_at hl 0 rfl) ?_
            refine mg_MO_8 hx hb hw hown hK hP dX12_change_80 ?_
            refine lv_bipush (v := 24) hx hb dX12_change_83 kb_24 ?_
            refine lv_iload_n hx hb dX12_change_85 rfl (lv_at hl 3 rfl) ?_
            refine lv_bipush (v := 8) hx hb dX12_change_86 kb_8 ?_
            refine lv_iadd hx hb dX12_change_88 ?_
            refine lv_imul hx hb dX12_change_89 ?_
            refine lv_iload_n hx hb dX12_change_90 rfl (lv_at hl 2 rfl) ?_
            refine lv_iadd hx hb dX12_change_91 ?_
            refine lv_bipush (v := 8) hx hb dX12_change_92 kb_8 ?_
            refine lv_iadd hx hb dX12_change_94 ?_
            refine lv_iload hx hb dX12_change_95 (lv_at hl 4 rfl) ?_
            obtain ⟨i_32, ei_32, h⟩ := nm_s h
            refine nmI2 ei_32 ?_
            obtain ⟨hin, h⟩ := ck_s h
            obtain ⟨a_field_33, ea_field_33, h⟩ := nm_s h
            refine ms_field hx hb hK hP hI hS hin ea_field_33 dX12_change_97 (fun H locs hP hS => ?_)
            refine lv_aload_n hx hb dX12_change_98 rfl (lv_at hl 0 rfl) ?_
            obtain ⟨r_34, hr_35, h⟩ := bd1_s h
            refine hv_l hx hb hml hown hw mB_bl (mB_of hN hK hP) (mr_MO hK hP) (c_mo_taken l D ct ad hI r_34 hr_35) g_RX12_209 ⟨rfl, hd_X12_taken⟩ (rest := []) hl.1 hS (fun q h => h) dX12_change_99 rfl rfl ⟨Nat.le_of_ble_eq_true rfl, Nat.le_of_ble_eq_true rfl⟩ rfl rfl (Nat.le_of_ble_eq_true rfl) ⟨Nat.zero_le _, Nat.zero_le _⟩ (fun H locs hP _ hS => ?_)
            refine lv_lstore hx hb dX12_change_102 hl (Nat.le_of_ble_eq_true rfl) (lv' := [(5, .long r_34), (0, .ref (ad 0)), (1, .int v1), (2, .int v2), (3, .int v3), (4, .int v4)]) rfl (fun ls hl => ?_)
            refine lv_lload hx hb dX12_change_104 (lv_at hl 0 rfl) ?_
            refine lv_lconst (v := 0) hx hb dX12_change_106 kl_0 ?_
            refine W.lcmp hx hb dX12_change_107 ?_
            refine lv_if_ne hx hb dX12_change_108 (tgt := 114) rfl (fun hc => ?_) (fun hc => ?_)
            · replace h := ifn h (fun q => hc ((lg_cmp_eq _ _).mpr q))
              refine lv_aload_n hx hb dX12_change_114 rfl (lv_at hl 1 rfl) ?_
              refine mg_MO_0 hx hb hw hown hK hP dX12_change_115 ?_
              refine lv_iload_n hx hb dX12_change_118 rfl (lv_at hl 2 rfl) ?_
              refine lv_lload hx hb dX12_change_119 (lv_at hl 0 rfl) ?_
              obtain ⟨hin, h⟩ := ck_s h
              obtain ⟨a_drawer_36, ea_drawer_36, h⟩ := nm_s h
              refine ms_drawer hx hb hK hP hI hS hin ea_drawer_36 dX12_change_121 (fun H locs hP hS => ?_)
              refine lv_lload hx hb dX12_change_122 (lv_at hl 0 rfl) ?_
              obtain ⟨r_37, hr_38, h⟩ := bd1_s h
              refine sc_i hx hb hml hown hw hN (c_mo_bits l r_34 r_37 hr_38) g_RX12_106 hd_X12_bits (rest := []) hl.1 hS dX12_change_124 rfl rfl ⟨Nat.le_of_ble_eq_true rfl, Nat.le_of_ble_eq_true rfl⟩ rfl rfl (Nat.le_of_ble_eq_true rfl) ⟨Nat.zero_le _, Nat.zero_le _⟩ (fun H locs hk hS => ?_)
              have hP := mP_kept hP hk
              simp only [Option.some.injEq, Prod.mk.injEq] at h
              obtain ⟨rfl, rfl, rfl⟩ := h
              exact rc_i hx hb hr hlocks hS dX12_change_127 rfl hP
            · replace h := ifp h ((lg_cmp_eq _ _).mp hc)
              refine lv_bipush (v := (-3)) hx hb dX12_change_111 kb_m3 ?_
              simp only [Option.some.injEq, Prod.mk.injEq] at h
              obtain ⟨rfl, rfl, rfl⟩ := h
              exact rc_i hx hb hr hlocks hS dX12_change_113 rfl hP
          · replace h := ifp h hc
            refine lv_bipush (v := (-3)) hx hb dX12_change_59 kb_m3 ?_
            simp only [Option.some.injEq, Prod.mk.injEq] at h
            obtain ⟨rfl, rfl, rfl⟩ := h
            exact rc_i hx hb hr hlocks hS dX12_change_61 rfl hP
        · replace h := ifp h ((lg_cmp_eq _ _).mp hc)
          refine lv_bipush (v := (-2)) hx hb dX12_change_40 kb_m2 ?_
          simp only [Option.some.injEq, Prod.mk.injEq] at h
          obtain ⟨rfl, rfl, rfl⟩ := h
          exact rc_i hx hb hr hlocks hS dX12_change_42 rfl hP
      · replace h := ifp h hc
        refine lv_iconst (v := (-1)) hx hb dX12_change_27 ki_m1 ?_
        simp only [Option.some.injEq, Prod.mk.injEq] at h
        obtain ⟨rfl, rfl, rfl⟩ := h
        exact rc_i hx hb hr hlocks hS dX12_change_28 rfl hP
noncomputable def mo_join (v1 : Int32) (v2 : Int32) (v3 : Int32) (v4 : Int32) (v5 : Int32) (a_drawer : Nat → Int64) (a_field : Nat → Int32) : Option (Int32 × (Nat → Int64) × (Nat → Int32)) :=
  bd1 (mo_isDrawer v1) fun r_1 =>
  if r_1 = 0 then (some ((-1), a_drawer, a_field)) else
  bd1 (mo_isDrawer v2) fun r_3 =>
  if r_3 = 0 then (some ((-1), a_drawer, a_field)) else
  bd1 (mo_in v3 (-7) 7) fun r_5 =>
  if r_5 = 0 then (some ((-1), a_drawer, a_field)) else
  bd1 (mo_in v4 (-7) 7) fun r_7 =>
  if r_7 = 0 then (some ((-1), a_drawer, a_field)) else
  ck v1 8 <|
  if (a_drawer v1.toNatClampNeg) = 0 then (some ((-2), a_drawer, a_field)) else
  ck v2 8 <|
  if (a_drawer v2.toNatClampNeg) = 0 then (some ((-2), a_drawer, a_field)) else
  bd1 (mo_clears a_field) fun a_field_9 =>
  ck v1 8 <|
  bd1 (mo_lays (a_drawer v1.toNatClampNeg) 0 0 1 a_field_9) fun a_field_11 =>
  ck v2 8 <|
  bd1 (mo_lays (a_drawer v2.toNatClampNeg) v3 v4 v5 a_field_11) fun a_field_13 =>
  bd1 (mo_taken a_field_13) fun r_15 =>
  if r_15 = 0 then (some ((-3), a_drawer, a_field_13)) else
  ck v1 8 <|
  nm (vp_updL a_drawer v1.toNatClampNeg r_15) fun a_drawer_17 =>
  bd1 (mo_bits r_15) fun r_18 =>
  some (r_18, a_drawer_17, a_field_13)
set_option maxHeartbeats 4000000 in
set_option maxRecDepth 100000 in
theorem c_mo_join (l : Launch) (D : va_G) (ct : Nat → ClassId) (ad : Nat → Nat) (hI : mI ad) {y_km y_tp y_goes y_kin y_qd y_sides y_cuts y_flat y_cp y_cA y_cB y_1X y_1Y y_2X y_2Y y_tm y_cells : Int32} {a_mtape a_flood a_going a_field a_from a_mcrowds a_steps a_queue a_letter a_lineX a_lineY a_triedAt a_cellAt a_besideIn a_apart : Nat → Int32} {a_drawer a_mkept a_listed a_mkin a_tried a_takenAt a_waysOf : Nat → Int64} (v1 : Int32) (v2 : Int32) (v3 : Int32) (v4 : Int32) (v5 : Int32) (r : Int32) (z_a_drawer : Nat → Int64) (z_a_field : Nat → Int32) (h : mo_join v1 v2 v3 v4 v5 a_drawer a_field = some (r, z_a_drawer, z_a_field)) : Met l yX12_join (wm yX12_join cX12_join 8 (some .int)) (rmm 4 98) (va_Pc [.ref (ad 0), .int v1, .int v2, .int v3, .int v4, .int v5] (mB D ct ad y_km y_tp y_goes y_kin y_qd y_sides y_cuts y_flat y_cp y_cA y_cB y_1X y_1Y y_2X y_2Y y_tm y_cells a_mtape a_flood a_going a_field a_from a_mcrowds a_steps a_queue a_letter a_lineX a_lineY a_triedAt a_cellAt a_besideIn a_apart a_drawer a_mkept a_listed a_mkin a_tried a_takenAt a_waysOf)) (va_Qi (fun z (_ : Unit) => z = r) (fun _ t => mP D ct ad y_km y_tp y_goes y_kin y_qd y_sides y_cuts y_flat y_cp y_cA y_cB y_1X y_1Y y_2X y_2Y y_tm y_cells a_mtape a_flood a_going z_a_field a_from a_mcrowds a_steps a_queue a_letter a_lineX a_lineY a_triedAt a_cellAt a_besideIn a_apart z_a_drawer a_mkept a_listed a_mkin a_tried a_takenAt a_waysOf t.heap) (mA ad)) 0 0 (mA ad) := by
  refine met_s (y := yX12_join) (rm := rmm 4 98) (by decide) (Nat.le_of_ble_eq_true rfl) ?_
  intro p e s m below meth c hx hb hr hw hown hlocks _ hml hB ls hl
  obtain ⟨hN, hK, hP⟩ := hB
  replace hl : lv_has ls 8 [(0, .ref (ad 0)), (1, .int v1), (2, .int v2), (3, .int v3), (4, .int v4), (5, .int v5)] := hl
  have hS : va_S (mA ad) s.heap s.heap [] := va_S.rf
  generalize (([.ref (ad 0), .int v1, .int v2, .int v3, .int v4, .int v5] : List Value).toArray) = av at hw ⊢
  rw [mo_join] at h
  refine lv_iload_n hx hb dX12_join_0 rfl (lv_at hl 1 rfl) ?_
  obtain ⟨r_20, hr_21, h⟩ := bd1_s h
  refine sc_i hx hb hml hown hw hN (c_mo_isDrawer l v1 r_20 hr_21) g_RX12_135 hd_X12_isDrawer (rest := []) hl.1 hS dX12_join_1 rfl rfl ⟨Nat.le_of_ble_eq_true rfl, Nat.le_of_ble_eq_true rfl⟩ rfl rfl (Nat.le_of_ble_eq_true rfl) ⟨Nat.zero_le _, Nat.zero_le _⟩ (fun H locs hk hS => ?_)
  have hP := mP_kept hP hk
  refine lv_if_eq hx hb dX12_join_4 (tgt := 37) rfl (fun hc => ?_) (fun hc => ?_)
  · replace h := ifp h hc
    refine lv_iconst (v := (-1)) hx hb dX12_join_37 ki_m1 ?_
    simp only [Option.some.injEq, Prod.mk.injEq] at h
    obtain ⟨rfl, rfl, rfl⟩ := h
    exact rc_i hx hb hr hlocks hS dX12_join_38 rfl hP
  · replace h := ifn h hc
    refine lv_iload_n hx hb dX12_join_7 rfl (lv_at hl 2 rfl) ?_
    obtain ⟨r_22, hr_23, h⟩ := bd1_s h
    refine sc_i hx hb hml hown hw hN (c_mo_isDrawer l v2 r_22 hr_23) g_RX12_135 hd_X12_isDrawer (rest := []) hl.1 hS dX12_join_8 rfl rfl ⟨Nat.le_of_ble_eq_true rfl, Nat.le_of_ble_eq_true rfl⟩ rfl rfl (Nat.le_of_ble_eq_true rfl) ⟨Nat.zero_le _, Nat.zero_le _⟩ (fun H locs hk hS => ?_)
    have hP := mP_kept hP hk
    refine lv_if_eq hx hb dX12_join_11 (tgt := 37) rfl (fun hc => ?_) (fun hc => ?_)
    · replace h := ifp h hc
      refine lv_iconst (v := (-1)) hx hb dX12_join_37 ki_m1 ?_
      simp only [Option.some.injEq, Prod.mk.injEq] at h
      obtain ⟨rfl, rfl, rfl⟩ := h
      exact rc_i hx hb hr hlocks hS dX12_join_38 rfl hP
    · replace h := ifn h hc
      refine lv_iload_n hx hb dX12_join_14 rfl (lv_at hl 3 rfl) ?_
      refine lv_bipush (v := (-7)) hx hb dX12_join_15 kb_m7 ?_
      refine lv_bipush (v := 7) hx hb dX12_join_17 kb_7 ?_
      obtain ⟨r_24, hr_25, h⟩ := bd1_s h
      refine sc_i hx hb hml hown hw hN (c_mo_in l v3 (-7) 7 r_24 hr_25) g_RX12_82 hd_X12_in (rest := []) hl.1 hS dX12_join_19 rfl rfl ⟨Nat.le_of_ble_eq_true rfl, Nat.le_of_ble_eq_true rfl⟩ rfl rfl (Nat.le_of_ble_eq_true rfl) ⟨Nat.zero_le _, Nat.zero_le _⟩ (fun H locs hk hS => ?_)
      have hP := mP_kept hP hk
      refine lv_if_eq hx hb dX12_join_22 (tgt := 37) rfl (fun hc => ?_) (fun hc => ?_)
      · replace h := ifp h hc
        refine lv_iconst (v := (-1)) hx hb dX12_join_37 ki_m1 ?_
        simp only [Option.some.injEq, Prod.mk.injEq] at h
        obtain ⟨rfl, rfl, rfl⟩ := h
        exact rc_i hx hb hr hlocks hS dX12_join_38 rfl hP
      · replace h := ifn h hc
        refine lv_iload hx hb dX12_join_25 (lv_at hl 4 rfl) ?_
        refine lv_bipush (v := (-7)) hx hb dX12_join_27 kb_m7 ?_
        refine lv_bipush (v := 7) hx hb dX12_join_29 kb_7 ?_
        obtain ⟨r_26, hr_27, h⟩ := bd1_s h
        refine sc_i hx hb hml hown hw hN (c_mo_in l v4 (-7) 7 r_26 hr_27) g_RX12_82 hd_X12_in (rest := []) hl.1 hS dX12_join_31 rfl rfl ⟨Nat.le_of_ble_eq_true rfl, Nat.le_of_ble_eq_true rfl⟩ rfl rfl (Nat.le_of_ble_eq_true rfl) ⟨Nat.zero_le _, Nat.zero_le _⟩ (fun H locs hk hS => ?_)
        have hP := mP_kept hP hk
        refine lv_if_ne hx hb dX12_join_34 (tgt := 39) rfl (fun hc => ?_) (fun hc => ?_)
        · replace h := ifn h hc
          refine lv_aload_n hx hb dX12_join_39 rfl (lv_at hl 0 rfl) ?_
          refine mg_MO_0 hx hb hw hown hK hP dX12_join_40 ?_
          refine lv_iload_n hx hb dX12_join_43 rfl (lv_at hl 1 rfl) ?_
          obtain ⟨hin, h⟩ := ck_s h
          refine md_drawer hx hb hK hP hin dX12_join_44 ?_
          refine lv_lconst (v := 0) hx hb dX12_join_45 kl_0 ?_
          refine W.lcmp hx hb dX12_join_46 ?_
          refine lv_if_eq hx hb dX12_join_47 (tgt := 61) rfl (fun hc => ?_) (fun hc => ?_)
          · replace h := ifp h ((lg_cmp_eq _ _).mp hc)
            refine lv_bipush (v := (-2)) hx hb dX12_join_61 kb_m2 ?_
            simp only [Option.some.injEq, Prod.mk.injEq] at h
            obtain ⟨rfl, rfl, rfl⟩ := h
            exact rc_i hx hb hr hlocks hS dX12_join_63 rfl hP
          · replace h := ifn h (fun q => hc ((lg_cmp_eq _ _).mpr q))
            refine lv_aload_n hx hb dX12_join_50 rfl (lv_at hl 0 rfl) ?_
            refine mg_MO_0 hx hb hw hown hK hP dX12_join_51 ?_
            refine lv_iload_n hx hb dX12_join_54 rfl (lv_at hl 2 rfl) ?_
            obtain ⟨hin, h⟩ := ck_s h
            refine md_drawer hx hb hK hP hin dX12_join_55 ?_
            refine lv_lconst (v := 0) hx hb dX12_join_56 kl_0 ?_
            refine W.lcmp hx hb dX12_join_57 ?_
            refine lv_if_ne hx hb dX12_join_58 (tgt := 64) rfl (fun hc => ?_) (fun hc => ?_)
            · replace h := ifn h (fun q => hc ((lg_cmp_eq _ _).mpr q))
              refine lv_aload_n hx hb dX12_join_64 rfl (lv_at hl 0 rfl) ?_
              obtain ⟨a_field_28, hr_29, h⟩ := bd1_s h
              refine hv_v hx hb hml hown hw mB_bl (mB_of hN hK hP) (mr_MO hK hP) (c_mo_clears l D ct ad hI a_field_28 hr_29) g_RX12_202 ⟨rfl, hd_X12_clears⟩ (rest := []) hl.1 hS (fun q h => h) dX12_join_65 rfl rfl ⟨Nat.le_of_ble_eq_true rfl, Nat.le_of_ble_eq_true rfl⟩ rfl rfl (Nat.le_of_ble_eq_true rfl) ⟨Nat.zero_le _, Nat.zero_le _⟩ (fun H locs hP _ hS => ?_)
              refine lv_aload_n hx hb dX12_join_68 rfl (lv_at hl 0 rfl) ?_
              refine lv_aload_n hx hb dX12_join_69 rfl (lv_at hl 0 rfl) ?_
              refine mg_MO_0 hx hb hw hown hK hP dX12_join_70 ?_
              refine lv_iload_n hx hb dX12_join_73 rfl (lv_at hl 1 rfl) ?_
              obtain ⟨hin, h⟩ := ck_s h
              refine md_drawer hx hb hK hP hin dX12_join_74 ?_
              refine lv_iconst (v := 0) hx hb dX12_join_75 ki_0 ?_
              refine lv_iconst (v := 0) hx hb dX12_join_76 ki_0 ?_
              refine lv_iconst (v := 1) hx hb dX12_join_77 ki_1 ?_
              obtain ⟨a_field_30, hr_31, h⟩ := bd1_s h
              refine hv_v hx hb hml hown hw mB_bl (mB_of hN hK hP) (mr_MO hK hP) (c_mo_lays l D ct ad hI (a_drawer v1.toNatClampNeg) 0 0 1 a_field_30 hr_31) g_RX12_205 ⟨rfl, hd_X12_lays⟩ (rest := []) hl.1 hS (fun q h => h) dX12_join_78 rfl rfl ⟨Nat.le_of_ble_eq_true rfl, Nat.le_of_ble_eq_true rfl⟩ rfl rfl (Nat.le_of_ble_eq_true rfl) ⟨Nat.zero_le _, Nat.zero_le _⟩ (fun H locs hP _ hS => ?_)
              refine lv_aload_n hx hb dX12_join_81 rfl (lv_at hl 0 rfl) ?_
              refine lv_aload_n hx hb dX12_join_82 rfl (lv_at hl 0 rfl) ?_
              refine mg_MO_0 hx hb hw hown hK hP dX12_join_83 ?_
              refine lv_iload_n hx hb dX12_join_86 rfl (lv_at hl 2 rfl) ?_
              obtain ⟨hin, h⟩ := ck_s h
              refine md_drawer hx hb hK hP hin dX12_join_87 ?_
              refine lv_iload_n hx hb dX12_join_88 rfl (lv_at hl 3 rfl) ?_
              refine lv_iload hx hb dX12_join_89 (lv_at hl 4 rfl) ?_
              refine lv_iload hx hb dX12_join_91 (lv_at hl 5 rfl) ?_
              obtain ⟨a_field_32, hr_33, h⟩ := bd1_s h
              refine hv_v hx hb hml hown hw mB_bl (mB_of hN hK hP) (mr_MO hK hP) (c_mo_lays l D ct ad hI (a_drawer v2.toNatClampNeg) v3 v4 v5 a_field_32 hr_33) g_RX12_205 ⟨rfl, hd_X12_lays⟩ (rest := []) hl.1 hS (fun q h => h) dX12_join_93 rfl rfl ⟨Nat.le_of_ble_eq_true rfl, Nat.le_of_ble_eq_true rfl⟩ rfl rfl (Nat.le_of_ble_eq_true rfl) ⟨Nat.zero_le _, Nat.zero_le _⟩ (fun H locs hP _ hS => ?_)
              refine lv_aload_n hx hb dX12_join_96 rfl (lv_at hl 0 rfl) ?_
              obtain ⟨r_34, hr_35, h⟩ := bd1_s h
              refine hv_l hx hb hml hown hw mB_bl (mB_of hN hK hP) (mr_MO hK hP) (c_mo_taken l D ct ad hI r_34 hr_35) g_RX12_209 ⟨rfl, hd_X12_taken⟩ (rest := []) hl.1 hS (fun q h => h) dX12_join_97 rfl rfl ⟨Nat.le_of_ble_eq_true rfl, Nat.le_of_ble_eq_true rfl⟩ rfl rfl (Nat.le_of_ble_eq_true rfl) ⟨Nat.zero_le _, Nat.zero_le _⟩ (fun H locs hP _ hS => ?_)
              refine lv_lstore hx hb dX12_join_100 hl (Nat.le_of_ble_eq_true rfl) (lv' := [(6, .long r_34), (0, .ref (ad 0)), (1, .int v1), (2, .int v2), (3, .int v3), (4, .int v4), (5, .int v5)]) rfl (fun ls hl => ?_)
              refine lv_lload hx hb dX12_join_102 (lv_at hl 0 rfl) ?_
              refine lv_lconst (v := 0) hx hb dX12_join_104 kl_0 ?_
              refine W.lcmp hx hb dX12_join_105 ?_
              refine lv_if_ne hx hb dX12_join_106 (tgt := 112) rfl (fun hc => ?_) (fun hc => ?_)
              · replace h := ifn h (fun q => hc ((lg_cmp_eq _ _).mpr q))
                refine lv_aload_n hx hb dX12_join_112 rfl (lv_at hl 1 rfl) ?_
                refine mg_MO_0 hx hb hw hown hK hP dX12_join_113 ?_
                refine lv_iload_n hx hb dX12_join_116 rfl (lv_at hl 2 rfl) ?_
                refine lv_lload hx hb dX12_join_117 (lv_at hl 0 rfl) ?_
                obtain ⟨hin, h⟩ := ck_s h
                obtain ⟨a_drawer_36, ea_drawer_36, h⟩ := nm_s h
                refine ms_drawer hx hb hK hP hI hS hin ea_drawer_36 dX12_join_119 (fun H locs hP hS => ?_)
                refine lv_lload hx hb dX12_join_120 (lv_at hl 0 rfl) ?_
                obtain ⟨r_37, hr_38, h⟩ := bd1_s h
                refine sc_i hx hb hml hown hw hN (c_mo_bits l r_34 r_37 hr_38) g_RX12_106 hd_X12_bits (rest := []) hl.1 hS dX12_join_122 rfl rfl ⟨Nat.le_of_ble_eq_true rfl, Nat.le_of_ble_eq_true rfl⟩ rfl rfl (Nat.le_of_ble_eq_true rfl) ⟨Nat.zero_le _, Nat.zero_le _⟩ (fun H locs hk hS => ?_)
                have hP := mP_kept hP hk
                simp only [Option.some.injEq, Prod.mk.injEq] at h
                obtain ⟨rfl, rfl, rfl⟩ := h
                exact rc_i hx hb hr hlocks hS dX12_join_125 rfl hP
              · replace h := ifp h ((lg_cmp_eq _ _).mp hc)
                refine lv_bipush (v := (-3)) hx hb dX12_join_109 kb_m3 ?_
                simp only [Option.some.injEq, Prod.mk.injEq] at h
                obtain ⟨rfl, rfl, rfl⟩ := h
                exact rc_i hx hb hr hlocks hS dX12_join_111 rfl hP
            · replace h := ifp h ((lg_cmp_eq _ _).mp hc)
              refine lv_bipush (v := (-2)) hx hb dX12_join_61 kb_m2 ?_
              simp only [Option.some.injEq, Prod.mk.injEq] at h
              obtain ⟨rfl, rfl, rfl⟩ := h
              exact rc_i hx hb hr hlocks hS dX12_join_63 rfl hP
        · replace h := ifp h hc
          refine lv_iconst (v := (-1)) hx hb dX12_join_37 ki_m1 ?_
          simp only [Option.some.injEq, Prod.mk.injEq] at h
          obtain ⟨rfl, rfl, rfl⟩ := h
          exact rc_i hx hb hr hlocks hS dX12_join_38 rfl hP
noncomputable def mo_swap (v1 : Int32) (v2 : Int32) (a_drawer : Nat → Int64) : Option (Int32 × (Nat → Int64)) :=
  bd1 (mo_isDrawer v1) fun r_1 =>
  if r_1 = 0 then (some ((-1), a_drawer)) else
  bd1 (mo_isDrawer v2) fun r_3 =>
  if r_3 = 0 then (some ((-1), a_drawer)) else
  ck v1 8 <|
  nm (a_drawer v1.toNatClampNeg : Int64) fun v3_5 =>
  ck v2 8 <|
  nm (a_drawer v2.toNatClampNeg : Int64) fun w_6 =>
  ck v1 8 <|
  nm (vp_updL a_drawer v1.toNatClampNeg w_6) fun a_drawer_7 =>
  ck v2 8 <|
  nm (vp_updL a_drawer_7 v2.toNatClampNeg v3_5) fun a_drawer_8 =>
  ck v1 8 <|
  if (a_drawer_8 v1.toNatClampNeg) = v3_5 then (some (0, a_drawer_8)) else
  some (1, a_drawer_8)
set_option maxHeartbeats 4000000 in
set_option maxRecDepth 100000 in
theorem c_mo_swap (l : Launch) (D : va_G) (ct : Nat → ClassId) (ad : Nat → Nat) (hI : mI ad) {y_km y_tp y_goes y_kin y_qd y_sides y_cuts y_flat y_cp y_cA y_cB y_1X y_1Y y_2X y_2Y y_tm y_cells : Int32} {a_mtape a_flood a_going a_field a_from a_mcrowds a_steps a_queue a_letter a_lineX a_lineY a_triedAt a_cellAt a_besideIn a_apart : Nat → Int32} {a_drawer a_mkept a_listed a_mkin a_tried a_takenAt a_waysOf : Nat → Int64} (v1 : Int32) (v2 : Int32) (r : Int32) (z_a_drawer : Nat → Int64) (h : mo_swap v1 v2 a_drawer = some (r, z_a_drawer)) : Met l yX12_swap (wm yX12_swap cX12_swap 5 (some .int)) (rmm 2 42) (va_Pc [.ref (ad 0), .int v1, .int v2] (mB D ct ad y_km y_tp y_goes y_kin y_qd y_sides y_cuts y_flat y_cp y_cA y_cB y_1X y_1Y y_2X y_2Y y_tm y_cells a_mtape a_flood a_going a_field a_from a_mcrowds a_steps a_queue a_letter a_lineX a_lineY a_triedAt a_cellAt a_besideIn a_apart a_drawer a_mkept a_listed a_mkin a_tried a_takenAt a_waysOf)) (va_Qi (fun z (_ : Unit) => z = r) (fun _ t => mP D ct ad y_km y_tp y_goes y_kin y_qd y_sides y_cuts y_flat y_cp y_cA y_cB y_1X y_1Y y_2X y_2Y y_tm y_cells a_mtape a_flood a_going a_field a_from a_mcrowds a_steps a_queue a_letter a_lineX a_lineY a_triedAt a_cellAt a_besideIn a_apart z_a_drawer a_mkept a_listed a_mkin a_tried a_takenAt a_waysOf t.heap) (mA ad)) 0 0 (mA ad) := by
  refine met_s (y := yX12_swap) (rm := rmm 2 42) (by decide) (Nat.le_of_ble_eq_true rfl) ?_
  intro p e s m below meth c hx hb hr hw hown hlocks _ hml hB ls hl
  obtain ⟨hN, hK, hP⟩ := hB
  replace hl : lv_has ls 5 [(0, .ref (ad 0)), (1, .int v1), (2, .int v2)] := hl
  have hS : va_S (mA ad) s.heap s.heap [] := va_S.rf
  generalize (([.ref (ad 0), .int v1, .int v2] : List Value).toArray) = av at hw ⊢
  rw [mo_swap] at h
  refine lv_iload_n hx hb dX12_swap_0 rfl (lv_at hl 1 rfl) ?_
  obtain ⟨r_9, hr_10, h⟩ := bd1_s h
  refine sc_i hx hb hml hown hw hN (c_mo_isDrawer l v1 r_9 hr_10) g_RX12_135 hd_X12_isDrawer (rest := []) hl.1 hS dX12_swap_1 rfl rfl ⟨Nat.le_of_ble_eq_true rfl, Nat.le_of_ble_eq_true rfl⟩ rfl rfl (Nat.le_of_ble_eq_true rfl) ⟨Nat.zero_le _, Nat.zero_le _⟩ (fun H locs hk hS => ?_)
  have hP := mP_kept hP hk
  refine lv_if_eq hx hb dX12_swap_4 (tgt := 14) rfl (fun hc => ?_) (fun hc => ?_)
  · replace h := ifp h hc
    refine lv_iconst (v := (-1)) hx hb dX12_swap_14 ki_m1 ?_
    simp only [Option.some.injEq, Prod.mk.injEq] at h
    obtain ⟨rfl, rfl⟩ := h
    exact rc_i hx hb hr hlocks hS dX12_swap_15 rfl hP
  · replace h := ifn h hc
    refine lv_iload_n hx hb dX12_swap_7 rfl (lv_at hl 2 rfl) ?_
    obtain ⟨r_11, hr_12, h⟩ := bd1_s h
    refine sc_i hx hb hml hown hw hN (c_mo_isDrawer l v2 r_11 hr_12) g_RX12_135 hd_X12_isDrawer (rest := []) hl.1 hS dX12_swap_8 rfl rfl ⟨Nat.le_of_ble_eq_true rfl, Nat.le_of_ble_eq_true rfl⟩ rfl rfl (Nat.le_of_ble_eq_true rfl) ⟨Nat.zero_le _, Nat.zero_le _⟩ (fun H locs hk hS => ?_)
    have hP := mP_kept hP hk
    refine lv_if_ne hx hb dX12_swap_11 (tgt := 16) rfl (fun hc => ?_) (fun hc => ?_)
    · replace h := ifn h hc
      refine lv_aload_n hx hb dX12_swap_16 rfl (lv_at hl 0 rfl) ?_
      refine mg_MO_0 hx hb hw hown hK hP dX12_swap_17 ?_
      refine lv_iload_n hx hb dX12_swap_20 rfl (lv_at hl 1 rfl) ?_
      obtain ⟨hin, h⟩ := ck_s h
      refine md_drawer hx hb hK hP hin dX12_swap_21 ?_
      obtain ⟨v3_13, ev3_13, h⟩ := nm_s h
      refine nmL ev3_13 ?_
      refine lv_lstore_n hx hb dX12_swap_22 rfl hl (Nat.le_of_ble_eq_true rfl) (lv' := [(3, .long v3_13), (0, .ref (ad 0)), (1, .int v1), (2, .int v2)]) rfl (fun ls hl => ?_)
      refine lv_aload_n hx hb dX12_swap_23 rfl (lv_at hl 1 rfl) ?_
      refine mg_MO_0 hx hb hw hown hK hP dX12_swap_24 ?_
      refine lv_iload_n hx hb dX12_swap_27 rfl (lv_at hl 2 rfl) ?_
      refine lv_aload_n hx hb dX12_swap_28 rfl (lv_at hl 1 rfl) ?_
      refine mg_MO_0 hx hb hw hown hK hP dX12_swap_29 ?_
      refine lv_iload_n hx hb dX12_swap_32 rfl (lv_at hl 3 rfl) ?_
      obtain ⟨hin, h⟩ := ck_s h
      refine md_drawer hx hb hK hP hin dX12_swap_33 ?_
      obtain ⟨w_14, ew_14, h⟩ := nm_s h
      refine nmL ew_14 ?_
      obtain ⟨hin, h⟩ := ck_s h
      obtain ⟨a_drawer_15, ea_drawer_15, h⟩ := nm_s h
      refine ms_drawer hx hb hK hP hI hS hin ea_drawer_15 dX12_swap_34 (fun H locs hP hS => ?_)
      refine lv_aload_n hx hb dX12_swap_35 rfl (lv_at hl 1 rfl) ?_
      refine mg_MO_0 hx hb hw hown hK hP dX12_swap_36 ?_
      refine lv_iload_n hx hb dX12_swap_39 rfl (lv_at hl 3 rfl) ?_
      refine lv_lload_n hx hb dX12_swap_40 rfl (lv_at hl 0 rfl) ?_
      obtain ⟨hin, h⟩ := ck_s h
      obtain ⟨a_drawer_16, ea_drawer_16, h⟩ := nm_s h
      refine ms_drawer hx hb hK hP hI hS hin ea_drawer_16 dX12_swap_41 (fun H locs hP hS => ?_)
      refine lv_aload_n hx hb dX12_swap_42 rfl (lv_at hl 1 rfl) ?_
      refine mg_MO_0 hx hb hw hown hK hP dX12_swap_43 ?_
      refine lv_iload_n hx hb dX12_swap_46 rfl (lv_at hl 2 rfl) ?_
      obtain ⟨hin, h⟩ := ck_s h
      refine md_drawer hx hb hK hP hin dX12_swap_47 ?_
      refine lv_lload_n hx hb dX12_swap_48 rfl (lv_at hl 0 rfl) ?_
      refine W.lcmp hx hb dX12_swap_49 ?_
      refine lv_if_ne hx hb dX12_swap_50 (tgt := 57) rfl (fun hc => ?_) (fun hc => ?_)
      · replace h := ifn h (fun q => hc ((lg_cmp_eq _ _).mpr q))
        refine lv_iconst (v := 1) hx hb dX12_swap_57 ki_1 ?_
        simp only [Option.some.injEq, Prod.mk.injEq] at h
        obtain ⟨rfl, rfl⟩ := h
        exact rc_i hx hb hr hlocks hS dX12_swap_58 rfl hP
      · replace h := ifp h ((lg_cmp_eq _ _).mp hc)
        refine lv_iconst (v := 0) hx hb dX12_swap_53 ki_0 ?_
        refine lv_goto hx hb dX12_swap_54 (tgt := 58) rfl ?_
        simp only [Option.some.injEq, Prod.mk.injEq] at h
        obtain ⟨rfl, rfl⟩ := h
        exact rc_i hx hb hr hlocks hS dX12_swap_58 rfl hP
    · replace h := ifp h hc
      refine lv_iconst (v := (-1)) hx hb dX12_swap_14 ki_m1 ?_
      simp only [Option.some.injEq, Prod.mk.injEq] at h
      obtain ⟨rfl, rfl⟩ := h
      exact rc_i hx hb hr hlocks hS dX12_swap_15 rfl hP
noncomputable def mo_keep_B13 (y_km : Int32) (a_drawer : Nat → Int64)  (k13 : Int32 → (Nat → Int64) → Option (Int32 × Int32 × (Nat → Int64))) (v1 : Int32) (a_mkept : Nat → Int64) : Option (Int32 × Int32 × (Nat → Int64)) :=
  if 8 ≤ v1 then (nm (y_km + 1 : Int32) fun y_km_1 =>
  some (y_km_1, y_km_1, a_mkept)) else
  ck v1 8 <|
  nm (a_drawer v1.toNatClampNeg : Int64) fun w_2 =>
  nm ((8 * y_km) + v1 : Int32) fun i_3 =>
  ck i_3 80 <|
  nm (vp_updL a_mkept i_3.toNatClampNeg w_2) fun a_mkept_4 =>
  nm (v1 + Int32.ofInt 1) fun v1_5 =>
  k13 v1_5 a_mkept_4
noncomputable def mo_keep (y_km : Int32) (a_drawer : Nat → Int64) (a_mkept : Nat → Int64) : Option (Int32 × Int32 × (Nat → Int64)) :=
  if y_km = 10 then (some ((-1), y_km, a_mkept)) else
  fl2 (mo_keep_B13 y_km a_drawer) FU 0 a_mkept
set_option maxHeartbeats 4000000 in
set_option maxRecDepth 100000 in
theorem c_mo_keep (l : Launch) (D : va_G) (ct : Nat → ClassId) (ad : Nat → Nat) (hI : mI ad) {y_km y_tp y_goes y_kin y_qd y_sides y_cuts y_flat y_cp y_cA y_cB y_1X y_1Y y_2X y_2Y y_tm y_cells : Int32} {a_mtape a_flood a_going a_field a_from a_mcrowds a_steps a_queue a_letter a_lineX a_lineY a_triedAt a_cellAt a_besideIn a_apart : Nat → Int32} {a_drawer a_mkept a_listed a_mkin a_tried a_takenAt a_waysOf : Nat → Int64}  (r : Int32) (z_y_km : Int32) (z_a_mkept : Nat → Int64) (h : mo_keep y_km a_drawer a_mkept = some (r, z_y_km, z_a_mkept)) : Met l yX12_keep (wm yX12_keep cX12_keep 2 (some .int)) (rmm 0 0) (va_Pc [.ref (ad 0)] (mB D ct ad y_km y_tp y_goes y_kin y_qd y_sides y_cuts y_flat y_cp y_cA y_cB y_1X y_1Y y_2X y_2Y y_tm y_cells a_mtape a_flood a_going a_field a_from a_mcrowds a_steps a_queue a_letter a_lineX a_lineY a_triedAt a_cellAt a_besideIn a_apart a_drawer a_mkept a_listed a_mkin a_tried a_takenAt a_waysOf)) (va_Qi (fun z (_ : Unit) => z = r) (fun _ t => mP D ct ad z_y_km y_tp y_goes y_kin y_qd y_sides y_cuts y_flat y_cp y_cA y_cB y_1X y_1Y y_2X y_2Y y_tm y_cells a_mtape a_flood a_going a_field a_from a_mcrowds a_steps a_queue a_letter a_lineX a_lineY a_triedAt a_cellAt a_besideIn a_apart a_drawer z_a_mkept a_listed a_mkin a_tried a_takenAt a_waysOf t.heap) (mA ad)) 0 0 (mA ad) := by
  refine met_s (y := yX12_keep) (rm := rmm 0 0) (by decide) (Nat.le_of_ble_eq_true rfl) ?_
  intro p e s m below meth c hx hb hr hw hown hlocks _ hml hB ls hl
  obtain ⟨hN, hK, hP⟩ := hB
  replace hl : lv_has ls 2 [(0, .ref (ad 0))] := hl
  have hS : va_S (mA ad) s.heap s.heap [] := va_S.rf
  generalize (([.ref (ad 0)] : List Value).toArray) = av at hw ⊢
  rw [mo_keep] at h
  have hL13 : ∀ (y_km : Int32), ∀ (a_drawer : Nat → Int64), ∀ (n13 : Nat) (H : Heap) (locs : List Loc) (ls : Array Slot) (v1 : Int32) (a_mkept : Nat → Int64), lv_has ls 2 [(0, .ref (ad 0)), (1, .int v1)] → mP D ct ad y_km y_tp y_goes y_kin y_qd y_sides y_cuts y_flat y_cp y_cA y_cB y_1X y_1Y y_2X y_2Y y_tm y_cells a_mtape a_flood a_going a_field a_from a_mcrowds a_steps a_queue a_letter a_lineX a_lineY a_triedAt a_cellAt a_besideIn a_apart a_drawer a_mkept a_listed a_mkin a_tried a_takenAt a_waysOf H → va_S (mA ad) s.heap H locs → fl2 (mo_keep_B13 y_km a_drawer) n13 v1 a_mkept = some (r, z_y_km, z_a_mkept) → W p l e (rmm 0 0) s m av below meth c H locs 0 0 (MQ below (va_Qi (fun z (_ : Unit) => z = r) (fun _ t => mP D ct ad z_y_km y_tp y_goes y_kin y_qd y_sides y_cuts y_flat y_cp y_cA y_cB y_1X y_1Y y_2X y_2Y y_tm y_cells a_mtape a_flood a_going a_field a_from a_mcrowds a_steps a_queue a_letter a_lineX a_lineY a_triedAt a_cellAt a_besideIn a_apart a_drawer z_a_mkept a_listed a_mkin a_tried a_takenAt a_waysOf t.heap) (mA ad)) av s 0 0 (mA ad)) (F0 m 13 ls []) := by
    intro y_km a_drawer n13
    induction n13 with
    | zero => intro H locs ls v1 a_mkept hl hP hS h; cases h
    | succ n13 ih13 =>
      intro H locs ls v1 a_mkept hl hP hS h
      replace h : mo_keep_B13 y_km a_drawer (fl2 (mo_keep_B13 y_km a_drawer) n13) v1 a_mkept = some (r, z_y_km, z_a_mkept) := h
      generalize fl2 (mo_keep_B13 y_km a_drawer) n13 = k13 at h ih13
      rw [mo_keep_B13] at h
      refine lv_iload_n hx hb dX12_keep_13 rfl (lv_at hl 1 rfl) ?_
      refine lv_bipush (v := 8) hx hb dX12_keep_14 kb_8 ?_
      refine lv_icmp_ge hx hb dX12_keep_16 (tgt := 45) rfl (fun hc => ?_) (fun hc => ?_)
      · replace h := ifp h hc
        refine lv_aload_n hx hb dX12_keep_45 rfl (lv_at hl 0 rfl) ?_
        refine lv_aload_n hx hb dX12_keep_46 rfl (lv_at hl 0 rfl) ?_
        refine mg_MO_2 hx hb hw hown hK hP dX12_keep_47 ?_
        refine lv_iconst (v := 1) hx hb dX12_keep_50 ki_1 ?_
        refine lv_iadd hx hb dX12_keep_51 ?_
        obtain ⟨y_km_6, ey_km_6, h⟩ := nm_s h
        refine nmI ey_km_6 ?_
        refine mp_MO_2 hx hb hw hown hK hP hI hS dX12_keep_52 (fun H locs hP hS => ?_)
        refine lv_aload_n hx hb dX12_keep_55 rfl (lv_at hl 0 rfl) ?_
        refine mg_MO_2 hx hb hw hown hK hP dX12_keep_56 ?_
        simp only [Option.some.injEq, Prod.mk.injEq] at h
        obtain ⟨rfl, rfl, rfl⟩ := h
        exact rc_i hx hb hr hlocks hS dX12_keep_59 rfl hP
      · replace h := ifn h hc
        refine lv_aload_n hx hb dX12_keep_19 rfl (lv_at hl 0 rfl) ?_
        refine mg_MO_1 hx hb hw hown hK hP dX12_keep_20 ?_
        refine lv_bipush (v := 8) hx hb dX12_keep_23 kb_8 ?_
        refine lv_aload_n hx hb dX12_keep_25 rfl (lv_at hl 0 rfl) ?_
        refine mg_MO_2 hx hb hw hown hK hP dX12_keep_26 ?_
        refine lv_imul hx hb dX12_keep_29 ?_
        refine lv_iload_n hx hb dX12_keep_30 rfl (lv_at hl 1 rfl) ?_
        refine lv_iadd hx hb dX12_keep_31 ?_
        refine lv_aload_n hx hb dX12_keep_32 rfl (lv_at hl 0 rfl) ?_
        refine mg_MO_0 hx hb hw hown hK hP dX12_keep_33 ?_
        refine lv_iload_n hx hb dX12_keep_36 rfl (lv_at hl 1 rfl) ?_
        obtain ⟨hin, h⟩ := ck_s h
        refine md_drawer hx hb hK hP hin dX12_keep_37 ?_
        obtain ⟨w_7, ew_7, h⟩ := nm_s h
        refine nmL ew_7 ?_
        obtain ⟨i_8, ei_8, h⟩ := nm_s h
        refine nmI2 ei_8 ?_
        obtain ⟨hin, h⟩ := ck_s h
        obtain ⟨a_mkept_9, ea_mkept_9, h⟩ := nm_s h
        refine ms_mkept hx hb hK hP hI hS hin ea_mkept_9 dX12_keep_38 (fun H locs hP hS => ?_)
        obtain ⟨v1_10, ev1_10, h⟩ := nm_s h
        refine lv_iinc hx hb dX12_keep_39 hl (k := 1) rfl ev1_10.symm (Nat.le_of_ble_eq_true rfl) (lv' := [(1, .int v1_10), (0, .ref (ad 0))]) rfl (fun ls hl => ?_)
        refine lv_goto hx hb dX12_keep_42 (tgt := 13) rfl ?_
        exact ih13 _ _ _ v1_10 a_mkept_9 (lv_sub hl [1, 0] rfl) hP hS h
  refine lv_aload_n hx hb dX12_keep_0 rfl (lv_at hl 0 rfl) ?_
  refine mg_MO_2 hx hb hw hown hK hP dX12_keep_1 ?_
  refine lv_bipush (v := 10) hx hb dX12_keep_4 kb_10 ?_
  refine lv_icmp_ne hx hb dX12_keep_6 (tgt := 11) rfl (fun hc => ?_) (fun hc => ?_)
  · replace h := ifn h hc
    refine lv_iconst (v := 0) hx hb dX12_keep_11 ki_0 ?_
    refine lv_istore_n hx hb dX12_keep_12 rfl hl (Nat.le_of_ble_eq_true rfl) (lv' := [(1, .int 0), (0, .ref (ad 0))]) rfl (fun ls hl => ?_)
    exact hL13 y_km a_drawer FU _ _ _ 0 a_mkept (lv_sub hl [1, 0] rfl) hP hS h
  · replace h := ifp h hc
    refine lv_iconst (v := (-1)) hx hb dX12_keep_9 ki_m1 ?_
    simp only [Option.some.injEq, Prod.mk.injEq] at h
    obtain ⟨rfl, rfl, rfl⟩ := h
    exact rc_i hx hb hr hlocks hS dX12_keep_10 rfl hP
noncomputable def mo_back_B21 (y_km : Int32) (a_mkept : Nat → Int64)  (k21 : Int32 → (Nat → Int64) → Option (Int32 × Int32 × (Nat → Int64))) (v1 : Int32) (a_drawer : Nat → Int64) : Option (Int32 × Int32 × (Nat → Int64)) :=
  if 8 ≤ v1 then (some (y_km, y_km, a_drawer)) else
  nm ((8 * y_km) + v1 : Int32) fun i_1 =>
  ck i_1 80 <|
  nm (a_mkept i_1.toNatClampNeg : Int64) fun w_2 =>
  ck v1 8 <|
  nm (vp_updL a_drawer v1.toNatClampNeg w_2) fun a_drawer_3 =>
  nm (v1 + Int32.ofInt 1) fun v1_4 =>
  k21 v1_4 a_drawer_3
noncomputable def mo_back (y_km : Int32) (a_drawer : Nat → Int64) (a_mkept : Nat → Int64) : Option (Int32 × Int32 × (Nat → Int64)) :=
  if y_km = 0 then (some ((-1), y_km, a_drawer)) else
  nm (y_km - 1 : Int32) fun y_km_5 =>
  fl2 (mo_back_B21 y_km_5 a_mkept) FU 0 a_drawer
set_option maxHeartbeats 4000000 in
set_option maxRecDepth 100000 in
theorem c_mo_back (l : Launch) (D : va_G) (ct : Nat → ClassId) (ad : Nat → Nat) (hI : mI ad) {y_km y_tp y_goes y_kin y_qd y_sides y_cuts y_flat y_cp y_cA y_cB y_1X y_1Y y_2X y_2Y y_tm y_cells : Int32} {a_mtape a_flood a_going a_field a_from a_mcrowds a_steps a_queue a_letter a_lineX a_lineY a_triedAt a_cellAt a_besideIn a_apart : Nat → Int32} {a_drawer a_mkept a_listed a_mkin a_tried a_takenAt a_waysOf : Nat → Int64}  (r : Int32) (z_y_km : Int32) (z_a_drawer : Nat → Int64) (h : mo_back y_km a_drawer a_mkept = some (r, z_y_km, z_a_drawer)) : Met l yX12_back (wm yX12_back cX12_back 2 (some .int)) (rmm 0 0) (va_Pc [.ref (ad 0)] (mB D ct ad y_km y_tp y_goes y_kin y_qd y_sides y_cuts y_flat y_cp y_cA y_cB y_1X y_1Y y_2X y_2Y y_tm y_cells a_mtape a_flood a_going a_field a_from a_mcrowds a_steps a_queue a_letter a_lineX a_lineY a_triedAt a_cellAt a_besideIn a_apart a_drawer a_mkept a_listed a_mkin a_tried a_takenAt a_waysOf)) (va_Qi (fun z (_ : Unit) => z = r) (fun _ t => mP D ct ad z_y_km y_tp y_goes y_kin y_qd y_sides y_cuts y_flat y_cp y_cA y_cB y_1X y_1Y y_2X y_2Y y_tm y_cells a_mtape a_flood a_going a_field a_from a_mcrowds a_steps a_queue a_letter a_lineX a_lineY a_triedAt a_cellAt a_besideIn a_apart z_a_drawer a_mkept a_listed a_mkin a_tried a_takenAt a_waysOf t.heap) (mA ad)) 0 0 (mA ad) := by
  refine met_s (y := yX12_back) (rm := rmm 0 0) (by decide) (Nat.le_of_ble_eq_true rfl) ?_
  intro p e s m below meth c hx hb hr hw hown hlocks _ hml hB ls hl
  obtain ⟨hN, hK, hP⟩ := hB
  replace hl : lv_has ls 2 [(0, .ref (ad 0))] := hl
  have hS : va_S (mA ad) s.heap s.heap [] := va_S.rf
  generalize (([.ref (ad 0)] : List Value).toArray) = av at hw ⊢
  rw [mo_back] at h
  have hL21 : ∀ (y_km : Int32), ∀ (a_mkept : Nat → Int64), ∀ (n21 : Nat) (H : Heap) (locs : List Loc) (ls : Array Slot) (v1 : Int32) (a_drawer : Nat → Int64), lv_has ls 2 [(0, .ref (ad 0)), (1, .int v1)] → mP D ct ad y_km y_tp y_goes y_kin y_qd y_sides y_cuts y_flat y_cp y_cA y_cB y_1X y_1Y y_2X y_2Y y_tm y_cells a_mtape a_flood a_going a_field a_from a_mcrowds a_steps a_queue a_letter a_lineX a_lineY a_triedAt a_cellAt a_besideIn a_apart a_drawer a_mkept a_listed a_mkin a_tried a_takenAt a_waysOf H → va_S (mA ad) s.heap H locs → fl2 (mo_back_B21 y_km a_mkept) n21 v1 a_drawer = some (r, z_y_km, z_a_drawer) → W p l e (rmm 0 0) s m av below meth c H locs 0 0 (MQ below (va_Qi (fun z (_ : Unit) => z = r) (fun _ t => mP D ct ad z_y_km y_tp y_goes y_kin y_qd y_sides y_cuts y_flat y_cp y_cA y_cB y_1X y_1Y y_2X y_2Y y_tm y_cells a_mtape a_flood a_going a_field a_from a_mcrowds a_steps a_queue a_letter a_lineX a_lineY a_triedAt a_cellAt a_besideIn a_apart z_a_drawer a_mkept a_listed a_mkin a_tried a_takenAt a_waysOf t.heap) (mA ad)) av s 0 0 (mA ad)) (F0 m 21 ls []) := by
    intro y_km a_mkept n21
    induction n21 with
    | zero => intro H locs ls v1 a_drawer hl hP hS h; cases h
    | succ n21 ih21 =>
      intro H locs ls v1 a_drawer hl hP hS h
      replace h : mo_back_B21 y_km a_mkept (fl2 (mo_back_B21 y_km a_mkept) n21) v1 a_drawer = some (r, z_y_km, z_a_drawer) := h
      generalize fl2 (mo_back_B21 y_km a_mkept) n21 = k21 at h ih21
      rw [mo_back_B21] at h
      refine lv_iload_n hx hb dX12_back_21 rfl (lv_at hl 1 rfl) ?_
      refine lv_bipush (v := 8) hx hb dX12_back_22 kb_8 ?_
      refine lv_icmp_ge hx hb dX12_back_24 (tgt := 53) rfl (fun hc => ?_) (fun hc => ?_)
      · replace h := ifp h hc
        refine lv_aload_n hx hb dX12_back_53 rfl (lv_at hl 0 rfl) ?_
        refine mg_MO_2 hx hb hw hown hK hP dX12_back_54 ?_
        simp only [Option.some.injEq, Prod.mk.injEq] at h
        obtain ⟨rfl, rfl, rfl⟩ := h
        exact rc_i hx hb hr hlocks hS dX12_back_57 rfl hP
      · replace h := ifn h hc
        refine lv_aload_n hx hb dX12_back_27 rfl (lv_at hl 0 rfl) ?_
        refine mg_MO_0 hx hb hw hown hK hP dX12_back_28 ?_
        refine lv_iload_n hx hb dX12_back_31 rfl (lv_at hl 1 rfl) ?_
        refine lv_aload_n hx hb dX12_back_32 rfl (lv_at hl 0 rfl) ?_
        refine mg_MO_1 hx hb hw hown hK hP dX12_back_33 ?_
        refine lv_bipush (v := 8) hx hb dX12_back_36 kb_8 ?_
        refine lv_aload_n hx hb dX12_back_38 rfl (lv_at hl 0 rfl) ?_
        refine mg_MO_2 hx hb hw hown hK hP dX12_back_39 ?_
        refine lv_imul hx hb dX12_back_42 ?_
        refine lv_iload_n hx hb dX12_back_43 rfl (lv_at hl 1 rfl) ?_
        refine lv_iadd hx hb dX12_back_44 ?_
        obtain ⟨i_6, ei_6, h⟩ := nm_s h
        refine nmI ei_6 ?_
        obtain ⟨hin, h⟩ := ck_s h
        refine md_mkept hx hb hK hP hin dX12_back_45 ?_
        obtain ⟨w_7, ew_7, h⟩ := nm_s h
        refine nmL ew_7 ?_
        obtain ⟨hin, h⟩ := ck_s h
        obtain ⟨a_drawer_8, ea_drawer_8, h⟩ := nm_s h
        refine ms_drawer hx hb hK hP hI hS hin ea_drawer_8 dX12_back_46 (fun H locs hP hS => ?_)
        obtain ⟨v1_9, ev1_9, h⟩ := nm_s h
        refine lv_iinc hx hb dX12_back_47 hl (k := 1) rfl ev1_9.symm (Nat.le_of_ble_eq_true rfl) (lv' := [(1, .int v1_9), (0, .ref (ad 0))]) rfl (fun ls hl => ?_)
        refine lv_goto hx hb dX12_back_50 (tgt := 21) rfl ?_
        exact ih21 _ _ _ v1_9 a_drawer_8 (lv_sub hl [1, 0] rfl) hP hS h
  refine lv_aload_n hx hb dX12_back_0 rfl (lv_at hl 0 rfl) ?_
  refine mg_MO_2 hx hb hw hown hK hP dX12_back_1 ?_
  refine lv_if_ne hx hb dX12_back_4 (tgt := 9) rfl (fun hc => ?_) (fun hc => ?_)
  · replace h := ifn h hc
    refine lv_aload_n hx hb dX12_back_9 rfl (lv_at hl 0 rfl) ?_
    refine lv_aload_n hx hb dX12_back_10 rfl (lv_at hl 0 rfl) ?_
    refine mg_MO_2 hx hb hw hown hK hP dX12_back_11 ?_
    refine lv_iconst (v := 1) hx hb dX12_back_14 ki_1 ?_
    refine lv_isub hx hb dX12_back_15 ?_
    obtain ⟨y_km_10, ey_km_10, h⟩ := nm_s h
    refine nmI ey_km_10 ?_
    refine mp_MO_2 hx hb hw hown hK hP hI hS dX12_back_16 (fun H locs hP hS => ?_)
    refine lv_iconst (v := 0) hx hb dX12_back_19 ki_0 ?_
    refine lv_istore_n hx hb dX12_back_20 rfl hl (Nat.le_of_ble_eq_true rfl) (lv' := [(1, .int 0), (0, .ref (ad 0))]) rfl (fun ls hl => ?_)
    exact hL21 y_km_10 a_mkept FU _ _ _ 0 a_drawer (lv_sub hl [1, 0] rfl) hP hS h
  · replace h := ifp h hc
    refine lv_iconst (v := (-1)) hx hb dX12_back_7 ki_m1 ?_
    simp only [Option.some.injEq, Prod.mk.injEq] at h
    obtain ⟨rfl, rfl, rfl⟩ := h
    exact rc_i hx hb hr hlocks hS dX12_back_8 rfl hP
noncomputable def mo_count_J35 (k7 : Int32 → Int32 → Int32 → Option (Int32)) (y_tp : Int32) (a_drawer : Nat → Int64) (v1 : Int32) (v3 : Int32) (v4 : Int32) (t0 : Int32) (t1 : Int32) : Option (Int32) :=
  nm (t0 ||| t1 : Int32) fun v2_1 =>
  ck v4 8 <|
  bd1 (mo_bits (a_drawer v4.toNatClampNeg)) fun r_2 =>
  nm (v3 + r_2 : Int32) fun v3_4 =>
  nm (v4 + Int32.ofInt 1) fun v4_5 =>
  k7 v2_1 v3_4 v4_5
noncomputable def mo_count_B7 (v1 : Int32) (y_tp : Int32) (a_drawer : Nat → Int64)  (k7 : Int32 → Int32 → Int32 → Option (Int32)) (v2 : Int32) (v3 : Int32) (v4 : Int32) : Option (Int32) :=
  if 8 ≤ v4 then (if v1 = 0 then (some (v2)) else
  if v1 = 1 then (some (y_tp)) else
  if v1 = 2 then (some (v3)) else
  some ((-1))) else
  ck v4 8 <|
  if (a_drawer v4.toNatClampNeg) = 0 then (mo_count_J35 k7 y_tp a_drawer v1 v3 v4 v2 0) else
  mo_count_J35 k7 y_tp a_drawer v1 v3 v4 v2 (il 1 v4)
noncomputable def mo_count (v1 : Int32) (y_tp : Int32) (a_drawer : Nat → Int64) : Option (Int32) :=
  fl3 (mo_count_B7 v1 y_tp a_drawer) FU 0 0 0
set_option maxHeartbeats 4000000 in
set_option maxRecDepth 100000 in
theorem c_mo_count (l : Launch) (D : va_G) (ct : Nat → ClassId) (ad : Nat → Nat) (hI : mI ad) {y_km y_tp y_goes y_kin y_qd y_sides y_cuts y_flat y_cp y_cA y_cB y_1X y_1Y y_2X y_2Y y_tm y_cells : Int32} {a_mtape a_flood a_going a_field a_from a_mcrowds a_steps a_queue a_letter a_lineX a_lineY a_triedAt a_cellAt a_besideIn a_apart : Nat → Int32} {a_drawer a_mkept a_listed a_mkin a_tried a_takenAt a_waysOf : Nat → Int64} (v1 : Int32) (r : Int32)  (h : mo_count v1 y_tp a_drawer = some (r)) : Met l yX12_count (wm yX12_count cX12_count 5 (some .int)) (rmm 1 24) (va_Pc [.ref (ad 0), .int v1] (mB D ct ad y_km y_tp y_goes y_kin y_qd y_sides y_cuts y_flat y_cp y_cA y_cB y_1X y_1Y y_2X y_2Y y_tm y_cells a_mtape a_flood a_going a_field a_from a_mcrowds a_steps a_queue a_letter a_lineX a_lineY a_triedAt a_cellAt a_besideIn a_apart a_drawer a_mkept a_listed a_mkin a_tried a_takenAt a_waysOf)) (va_Qi (fun z (_ : Unit) => z = r) (fun _ t => mP D ct ad y_km y_tp y_goes y_kin y_qd y_sides y_cuts y_flat y_cp y_cA y_cB y_1X y_1Y y_2X y_2Y y_tm y_cells a_mtape a_flood a_going a_field a_from a_mcrowds a_steps a_queue a_letter a_lineX a_lineY a_triedAt a_cellAt a_besideIn a_apart a_drawer a_mkept a_listed a_mkin a_tried a_takenAt a_waysOf t.heap) (mA ad)) 0 0 (mA ad) := by
  refine met_s (y := yX12_count) (rm := rmm 1 24) (by decide) (Nat.le_of_ble_eq_true rfl) ?_
  intro p e s m below meth c hx hb hr hw hown hlocks _ hml hB ls hl
  obtain ⟨hN, hK, hP⟩ := hB
  replace hl : lv_has ls 5 [(0, .ref (ad 0)), (1, .int v1)] := hl
  have hS : va_S (mA ad) s.heap s.heap [] := va_S.rf
  generalize (([.ref (ad 0), .int v1] : List Value).toArray) = av at hw ⊢
  rw [mo_count] at h
  have hL7 : ∀ (v1 : Int32), ∀ (y_tp : Int32), ∀ (a_drawer : Nat → Int64), ∀ (n7 : Nat) (H : Heap) (locs : List Loc) (ls : Array Slot) (v2 : Int32) (v3 : Int32) (v4 : Int32), lv_has ls 5 [(0, .ref (ad 0)), (1, .int v1), (2, .int v2), (3, .int v3), (4, .int v4)] → mP D ct ad y_km y_tp y_goes y_kin y_qd y_sides y_cuts y_flat y_cp y_cA y_cB y_1X y_1Y y_2X y_2Y y_tm y_cells a_mtape a_flood a_going a_field a_from a_mcrowds a_steps a_queue a_letter a_lineX a_lineY a_triedAt a_cellAt a_besideIn a_apart a_drawer a_mkept a_listed a_mkin a_tried a_takenAt a_waysOf H → va_S (mA ad) s.heap H locs → fl3 (mo_count_B7 v1 y_tp a_drawer) n7 v2 v3 v4 = some (r) → W p l e (rmm 1 24) s m av below meth c H locs 0 0 (MQ below (va_Qi (fun z (_ : Unit) => z = r) (fun _ t => mP D ct ad y_km y_tp y_goes y_kin y_qd y_sides y_cuts y_flat y_cp y_cA y_cB y_1X y_1Y y_2X y_2Y y_tm y_cells a_mtape a_flood a_going a_field a_from a_mcrowds a_steps a_queue a_letter a_lineX a_lineY a_triedAt a_cellAt a_besideIn a_apart a_drawer a_mkept a_listed a_mkin a_tried a_takenAt a_waysOf t.heap) (mA ad)) av s 0 0 (mA ad)) (F0 m 7 ls []) := by
    intro v1 y_tp a_drawer n7
    induction n7 with
    | zero => intro H locs ls v2 v3 v4 hl hP hS h; cases h
    | succ n7 ih7 =>
      intro H locs ls v2 v3 v4 hl hP hS h
      replace h : mo_count_B7 v1 y_tp a_drawer (fl3 (mo_count_B7 v1 y_tp a_drawer) n7) v2 v3 v4 = some (r) := h
      generalize fl3 (mo_count_B7 v1 y_tp a_drawer) n7 = k7 at h ih7
      have hJ35 : ∀ (H : Heap) (locs : List Loc) (ls : Array Slot) (v3 : Int32) (v4 : Int32) (t0 : Int32) (t1 : Int32), lv_has ls 5 [(0, .ref (ad 0)), (1, .int v1), (3, .int v3), (4, .int v4)] → mP D ct ad y_km y_tp y_goes y_kin y_qd y_sides y_cuts y_flat y_cp y_cA y_cB y_1X y_1Y y_2X y_2Y y_tm y_cells a_mtape a_flood a_going a_field a_from a_mcrowds a_steps a_queue a_letter a_lineX a_lineY a_triedAt a_cellAt a_besideIn a_apart a_drawer a_mkept a_listed a_mkin a_tried a_takenAt a_waysOf H → va_S (mA ad) s.heap H locs → mo_count_J35 k7 y_tp a_drawer v1 v3 v4 t0 t1 = some (r) → W p l e (rmm 1 24) s m av below meth c H locs 0 0 (MQ below (va_Qi (fun z (_ : Unit) => z = r) (fun _ t => mP D ct ad y_km y_tp y_goes y_kin y_qd y_sides y_cuts y_flat y_cp y_cA y_cB y_1X y_1Y y_2X y_2Y y_tm y_cells a_mtape a_flood a_going a_field a_from a_mcrowds a_steps a_queue a_letter a_lineX a_lineY a_triedAt a_cellAt a_besideIn a_apart a_drawer a_mkept a_listed a_mkin a_tried a_takenAt a_waysOf t.heap) (mA ad)) av s 0 0 (mA ad)) (F0 m 35 ls [.int t1, .int t0]) := by
        intro H locs ls v3 v4 t0 t1 hl hP hS h
        rw [mo_count_J35] at h
        refine lv_ior hx hb dX12_count_35 ?_
        obtain ⟨v2_6, ev2_6, h⟩ := nm_s h
        refine nmI ev2_6 ?_
        refine lv_istore_n hx hb dX12_count_36 rfl hl (Nat.le_of_ble_eq_true rfl) (lv' := [(2, .int v2_6), (0, .ref (ad 0)), (1, .int v1), (3, .int v3), (4, .int v4)]) rfl (fun ls hl => ?_)
        refine lv_iload_n hx hb dX12_count_37 rfl (lv_at hl 3 rfl) ?_
        refine lv_aload_n hx hb dX12_count_38 rfl (lv_at hl 1 rfl) ?_
        refine mg_MO_0 hx hb hw hown hK hP dX12_count_39 ?_
        refine lv_iload hx hb dX12_count_42 (lv_at hl 4 rfl) ?_
        obtain ⟨hin, h⟩ := ck_s h
        refine md_drawer hx hb hK hP hin dX12_count_44 ?_
        obtain ⟨r_7, hr_8, h⟩ := bd1_s h
        refine sc_i hx hb hml hown hw hN (c_mo_bits l (a_drawer v4.toNatClampNeg) r_7 hr_8) g_RX12_106 hd_X12_bits (rest := [.int v3]) hl.1 hS dX12_count_45 rfl rfl ⟨Nat.le_of_ble_eq_true rfl, Nat.le_of_ble_eq_true rfl⟩ rfl rfl (Nat.le_of_ble_eq_true rfl) ⟨Nat.zero_le _, Nat.zero_le _⟩ (fun H locs hk hS => ?_)
        have hP := mP_kept hP hk
        refine lv_iadd hx hb dX12_count_48 ?_
        obtain ⟨v3_9, ev3_9, h⟩ := nm_s h
        refine nmI ev3_9 ?_
        refine lv_istore_n hx hb dX12_count_49 rfl hl (Nat.le_of_ble_eq_true rfl) (lv' := [(3, .int v3_9), (2, .int v2_6), (0, .ref (ad 0)), (1, .int v1), (4, .int v4)]) rfl (fun ls hl => ?_)
        obtain ⟨v4_10, ev4_10, h⟩ := nm_s h
        refine lv_iinc hx hb dX12_count_50 hl (k := 4) rfl ev4_10.symm (Nat.le_of_ble_eq_true rfl) (lv' := [(4, .int v4_10), (3, .int v3_9), (2, .int v2_6), (0, .ref (ad 0)), (1, .int v1)]) rfl (fun ls hl => ?_)
        refine lv_goto hx hb dX12_count_53 (tgt := 7) rfl ?_
        exact ih7 _ _ _ v2_6 v3_9 v4_10 (lv_sub hl [3, 4, 2, 1, 0] rfl) hP hS h
      rw [mo_count_B7] at h
      refine lv_iload hx hb dX12_count_7 (lv_at hl 4 rfl) ?_
      refine lv_bipush (v := 8) hx hb dX12_count_9 kb_8 ?_
      refine lv_icmp_ge hx hb dX12_count_11 (tgt := 56) rfl (fun hc => ?_) (fun hc => ?_)
      · replace h := ifp h hc
        refine lv_iload_n hx hb dX12_count_56 rfl (lv_at hl 1 rfl) ?_
        refine lv_if_ne hx hb dX12_count_57 (tgt := 64) rfl (fun hc => ?_) (fun hc => ?_)
        · replace h := ifn h hc
          refine lv_iload_n hx hb dX12_count_64 rfl (lv_at hl 1 rfl) ?_
          refine lv_iconst (v := 1) hx hb dX12_count_65 ki_1 ?_
          refine lv_icmp_ne hx hb dX12_count_66 (tgt := 76) rfl (fun hc => ?_) (fun hc => ?_)
          · replace h := ifn h hc
            refine lv_iload_n hx hb dX12_count_76 rfl (lv_at hl 1 rfl) ?_
            refine lv_iconst (v := 2) hx hb dX12_count_77 ki_2 ?_
            refine lv_icmp_ne hx hb dX12_count_78 (tgt := 85) rfl (fun hc => ?_) (fun hc => ?_)
            · replace h := ifn h hc
              refine lv_iconst (v := (-1)) hx hb dX12_count_85 ki_m1 ?_
              replace h := Option.some.inj h
              subst h
              exact rc_i hx hb hr hlocks hS dX12_count_86 rfl hP
            · replace h := ifp h hc
              refine lv_iload_n hx hb dX12_count_81 rfl (lv_at hl 3 rfl) ?_
              refine lv_goto hx hb dX12_count_82 (tgt := 86) rfl ?_
              replace h := Option.some.inj h
              subst h
              exact rc_i hx hb hr hlocks hS dX12_count_86 rfl hP
          · replace h := ifp h hc
            refine lv_aload_n hx hb dX12_count_69 rfl (lv_at hl 0 rfl) ?_
            refine mg_MO_4 hx hb hw hown hK hP dX12_count_70 ?_
            refine lv_goto hx hb dX12_count_73 (tgt := 86) rfl ?_
            replace h := Option.some.inj h
            subst h
            exact rc_i hx hb hr hlocks hS dX12_count_86 rfl hP
        · replace h := ifp h hc
          refine lv_iload_n hx hb dX12_count_60 rfl (lv_at hl 2 rfl) ?_
          refine lv_goto hx hb dX12_count_61 (tgt := 86) rfl ?_
          replace h := Option.some.inj h
          subst h
          exact rc_i hx hb hr hlocks hS dX12_count_86 rfl hP
      · replace h := ifn h hc
        refine lv_iload_n hx hb dX12_count_14 rfl (lv_at hl 2 rfl) ?_
        refine lv_aload_n hx hb dX12_count_15 rfl (lv_at hl 0 rfl) ?_
        refine mg_MO_0 hx hb hw hown hK hP dX12_count_16 ?_
        refine lv_iload hx hb dX12_count_19 (lv_at hl 4 rfl) ?_
        obtain ⟨hin, h⟩ := ck_s h
        refine md_drawer hx hb hK hP hin dX12_count_21 ?_
        refine lv_lconst (v := 0) hx hb dX12_count_22 kl_0 ?_
        refine W.lcmp hx hb dX12_count_23 ?_
        refine lv_if_ne hx hb dX12_count_24 (tgt := 31) rfl (fun hc => ?_) (fun hc => ?_)
        · replace h := ifn h (fun q => hc ((lg_cmp_eq _ _).mpr q))
          refine lv_iconst (v := 1) hx hb dX12_count_31 ki_1 ?_
          refine lv_iload hx hb dX12_count_32 (lv_at hl 4 rfl) ?_
          refine lv_ishl hx hb dX12_count_34 ?_
          refine nmI (v := il 1 v4) rfl ?_
          exact hJ35 _ _ _ v3 v4 v2 (il 1 v4) (lv_sub hl [0, 1, 3, 4] rfl) hP hS h
        · replace h := ifp h ((lg_cmp_eq _ _).mp hc)
          refine lv_iconst (v := 0) hx hb dX12_count_27 ki_0 ?_
          refine lv_goto hx hb dX12_count_28 (tgt := 35) rfl ?_
          exact hJ35 _ _ _ v3 v4 v2 0 (lv_sub hl [0, 1, 3, 4] rfl) hP hS h
  refine lv_iconst (v := 0) hx hb dX12_count_0 ki_0 ?_
  refine lv_istore_n hx hb dX12_count_1 rfl hl (Nat.le_of_ble_eq_true rfl) (lv' := [(2, .int 0), (0, .ref (ad 0)), (1, .int v1)]) rfl (fun ls hl => ?_)
  refine lv_iconst (v := 0) hx hb dX12_count_2 ki_0 ?_
  refine lv_istore_n hx hb dX12_count_3 rfl hl (Nat.le_of_ble_eq_true rfl) (lv' := [(3, .int 0), (2, .int 0), (0, .ref (ad 0)), (1, .int v1)]) rfl (fun ls hl => ?_)
  refine lv_iconst (v := 0) hx hb dX12_count_4 ki_0 ?_
  refine lv_istore hx hb dX12_count_5 hl (Nat.le_of_ble_eq_true rfl) (lv' := [(4, .int 0), (3, .int 0), (2, .int 0), (0, .ref (ad 0)), (1, .int v1)]) rfl (fun ls hl => ?_)
  exact hL7 v1 y_tp a_drawer FU _ _ _ 0 0 0 (lv_sub hl [3, 4, 2, 1, 0] rfl) hP hS h
noncomputable def mo_drawn_J230 (k33 : Int32 → Int64 → Int32 → Option (Int64 × (Nat → Int64))) (v1 : Int32) (v3 : Int32) (v4 : Int32) (v7 : Int32) (v10 : Int64) (a_drawer : Nat → Int64)  : Option (Int64 × (Nat → Int64)) :=
  nm (v7 + Int32.ofInt 1) fun v7_1 =>
  k33 v4 v10 v7_1
noncomputable def mo_drawn_J224 (k33 : Int32 → Int64 → Int32 → Option (Int64 × (Nat → Int64))) (k138 : Int32 → Int64 → Int32 → Option (Int64 × (Nat → Int64))) (v1 : Int32) (v3 : Int32) (v4 : Int32) (v5 : Int64) (v7 : Int32) (v9 : Int32) (v10 : Int64) (v12 : Int32) (a_drawer : Nat → Int64)  : Option (Int64 × (Nat → Int64)) :=
  nm (v12 + Int32.ofInt 1) fun v12_2 =>
  k138 v9 v10 v12_2
noncomputable def mo_drawn_J218 (k33 : Int32 → Int64 → Int32 → Option (Int64 × (Nat → Int64))) (k138 : Int32 → Int64 → Int32 → Option (Int64 × (Nat → Int64))) (k155 : Int32 → Int64 → Int32 → Option (Int64 × (Nat → Int64))) (v1 : Int32) (v3 : Int32) (v4 : Int32) (v5 : Int64) (v7 : Int32) (v9 : Int32) (v10 : Int64) (v12 : Int32) (v13 : Int32) (a_drawer : Nat → Int64)  : Option (Int64 × (Nat → Int64)) :=
  nm (v13 + Int32.ofInt 1) fun v13_3 =>
  k155 v9 v10 v13_3
noncomputable def mo_drawn_J212 (k33 : Int32 → Int64 → Int32 → Option (Int64 × (Nat → Int64))) (k138 : Int32 → Int64 → Int32 → Option (Int64 × (Nat → Int64))) (k155 : Int32 → Int64 → Int32 → Option (Int64 × (Nat → Int64))) (v1 : Int32) (v3 : Int32) (v4 : Int32) (v5 : Int64) (v7 : Int32) (v9 : Int32) (v10 : Int64) (v12 : Int32) (v13 : Int32) (a_drawer : Nat → Int64)  : Option (Int64 × (Nat → Int64)) :=
  nm (v9 - 1 : Int32) fun v9_4 =>
  mo_drawn_J218 k33 k138 k155 v1 v3 v4 v5 v7 v9_4 v10 v12 v13 a_drawer
noncomputable def mo_drawn_B155 (v1 : Int32) (v3 : Int32) (v4 : Int32) (v5 : Int64) (v7 : Int32) (v12 : Int32) (a_drawer : Nat → Int64) (k33 : Int32 → Int64 → Int32 → Option (Int64 × (Nat → Int64))) (k138 : Int32 → Int64 → Int32 → Option (Int64 × (Nat → Int64))) (k155 : Int32 → Int64 → Int32 → Option (Int64 × (Nat → Int64))) (v9 : Int32) (v10 : Int64) (v13 : Int32) : Option (Int64 × (Nat → Int64)) :=
  if 8 ≤ v13 then (mo_drawn_J224 k33 k138 v1 v3 v4 v5 v7 v9 v10 v12 a_drawer) else
  if v10 = 0 then (bd1 (mo_isBeside v5 v13 v12) fun r_5 =>
  if r_5 = 0 then (mo_drawn_J218 k33 k138 k155 v1 v3 v4 v5 v7 v9 v10 v12 v13 a_drawer) else
  bd1 (mo_isWithin v5 v13 v12) fun r_7 =>
  if r_7 = 0 then (mo_drawn_J218 k33 k138 k155 v1 v3 v4 v5 v7 v9 v10 v12 v13 a_drawer) else
  if v9 = 0 then (bd1 (mo_with v5 v13 v12) fun r_9 =>
  mo_drawn_J212 k33 k138 k155 v1 v3 v4 v5 v7 v9 r_9 v12 v13 a_drawer) else
  mo_drawn_J212 k33 k138 k155 v1 v3 v4 v5 v7 v9 v10 v12 v13 a_drawer) else
  mo_drawn_J224 k33 k138 v1 v3 v4 v5 v7 v9 v10 v12 a_drawer
noncomputable def mo_drawn_B138 (v1 : Int32) (v3 : Int32) (v4 : Int32) (v5 : Int64) (v7 : Int32) (a_drawer : Nat → Int64) (k33 : Int32 → Int64 → Int32 → Option (Int64 × (Nat → Int64))) (k138 : Int32 → Int64 → Int32 → Option (Int64 × (Nat → Int64))) (v9 : Int32) (v10 : Int64) (v12 : Int32) : Option (Int64 × (Nat → Int64)) :=
  if 8 ≤ v12 then (mo_drawn_J230 k33 v1 v3 v4 v7 v10 a_drawer) else
  if v10 = 0 then (fl3 (mo_drawn_B155 v1 v3 v4 v5 v7 v12 a_drawer k33 k138) FU v9 v10 (-1)) else
  mo_drawn_J230 k33 v1 v3 v4 v7 v10 a_drawer
noncomputable def mo_drawn_J93 (k33 : Int32 → Int64 → Int32 → Option (Int64 × (Nat → Int64))) (k45 : Int32 → Int32 → Option (Int64 × (Nat → Int64))) (k55 : Int32 → Int32 → Option (Int64 × (Nat → Int64))) (v1 : Int32) (v3 : Int32) (v4 : Int32) (v5 : Int64) (v7 : Int32) (v9 : Int32) (v10 : Int32) (a_drawer : Nat → Int64) (t0 : Int32) (t1 : Int32) : Option (Int64 × (Nat → Int64)) :=
  nm (t0 + t1 : Int32) fun v8_11 =>
  nm (v10 + Int32.ofInt 1) fun v10_12 =>
  k55 v8_11 v10_12
noncomputable def mo_drawn_J92 (k33 : Int32 → Int64 → Int32 → Option (Int64 × (Nat → Int64))) (k45 : Int32 → Int32 → Option (Int64 × (Nat → Int64))) (k55 : Int32 → Int32 → Option (Int64 × (Nat → Int64))) (v1 : Int32) (v3 : Int32) (v4 : Int32) (v5 : Int64) (v7 : Int32) (v9 : Int32) (v10 : Int32) (a_drawer : Nat → Int64) (t0 : Int32) : Option (Int64 × (Nat → Int64)) :=
  mo_drawn_J93 k33 k45 k55 v1 v3 v4 v5 v7 v9 v10 a_drawer t0 0
noncomputable def mo_drawn_B55 (v1 : Int32) (v3 : Int32) (v4 : Int32) (v5 : Int64) (v7 : Int32) (v9 : Int32) (a_drawer : Nat → Int64) (k33 : Int32 → Int64 → Int32 → Option (Int64 × (Nat → Int64))) (k45 : Int32 → Int32 → Option (Int64 × (Nat → Int64))) (k55 : Int32 → Int32 → Option (Int64 × (Nat → Int64))) (v8 : Int32) (v10 : Int32) : Option (Int64 × (Nat → Int64)) :=
  if 8 ≤ v10 then (nm (v9 + Int32.ofInt 1) fun v9_13 =>
  k45 v8 v9_13) else
  bd1 (mo_isBeside v5 v10 v9) fun r_14 =>
  if r_14 = 0 then (mo_drawn_J92 k33 k45 k55 v1 v3 v4 v5 v7 v9 v10 a_drawer v8) else
  bd1 (mo_isWithin v5 v10 v9) fun r_16 =>
  if r_16 = 0 then (mo_drawn_J92 k33 k45 k55 v1 v3 v4 v5 v7 v9 v10 a_drawer v8) else
  mo_drawn_J93 k33 k45 k55 v1 v3 v4 v5 v7 v9 v10 a_drawer v8 1
noncomputable def mo_drawn_B45 (v1 : Int32) (v3 : Int32) (v4 : Int32) (v5 : Int64) (v7 : Int32) (a_drawer : Nat → Int64) (k33 : Int32 → Int64 → Int32 → Option (Int64 × (Nat → Int64))) (k45 : Int32 → Int32 → Option (Int64 × (Nat → Int64))) (v8 : Int32) (v9 : Int32) : Option (Int64 × (Nat → Int64)) :=
  if 8 ≤ v9 then (dzI (65536 : Int32) <|
  nm (remI ((25173 * v4) + 13849) (65536 : Int32) : Int32) fun v4_18 =>
  dzI 4 <|
  dzI v8 <|
  nm (remI (v4_18 / 4) v8 : Int32) fun v9_19 =>
  fl3 (mo_drawn_B138 v1 v3 v4_18 v5 v7 a_drawer k33) FU v9_19 0 (-1)) else
  fl2 (mo_drawn_B55 v1 v3 v4 v5 v7 v9 a_drawer k33 k45) FU v8 (-1)
noncomputable def mo_drawn_B33 (v1 : Int32) (v3 : Int32) (a_drawer : Nat → Int64)  (k33 : Int32 → Int64 → Int32 → Option (Int64 × (Nat → Int64))) (v4 : Int32) (v5 : Int64) (v7 : Int32) : Option (Int64 × (Nat → Int64)) :=
  if v3 ≤ v7 then (ck v1 8 <|
  nm (vp_updL a_drawer v1.toNatClampNeg v5) fun a_drawer_20 =>
  some (v5, a_drawer_20)) else
  fl2 (mo_drawn_B45 v1 v3 v4 v5 v7 a_drawer k33) FU 0 (-1)
noncomputable def mo_drawn (v1 : Int32) (v2 : Int32) (v3 : Int32) (a_drawer : Nat → Int64) : Option (Int64 × (Nat → Int64)) :=
  bd1 (mo_isDrawer v1) fun r_21 =>
  if r_21 = 0 then (some (((-1) : Int64), a_drawer)) else
  bd1 (mo_in v3 1 12) fun r_23 =>
  if r_23 = 0 then (some (((-1) : Int64), a_drawer)) else
  nm (v2 &&& (65535 : Int32) : Int32) fun v4_25 =>
  fl3 (mo_drawn_B33 v1 v3 a_drawer) FU v4_25 1 1
set_option maxHeartbeats 4000000 in
set_option maxRecDepth 100000 in
theorem c_mo_drawn (l : Launch) (D : va_G) (ct : Nat → ClassId) (ad : Nat → Nat) (hI : mI ad) {y_km y_tp y_goes y_kin y_qd y_sides y_cuts y_flat y_cp y_cA y_cB y_1X y_1Y y_2X y_2Y y_tm y_cells : Int32} {a_mtape a_flood a_going a_field a_from a_mcrowds a_steps a_queue a_letter a_lineX a_lineY a_triedAt a_cellAt a_besideIn a_apart : Nat → Int32} {a_drawer a_mkept a_listed a_mkin a_tried a_takenAt a_waysOf : Nat → Int64} (v1 : Int32) (v2 : Int32) (v3 : Int32) (r : Int64) (z_a_drawer : Nat → Int64) (h : mo_drawn v1 v2 v3 a_drawer = some (r, z_a_drawer)) : Met l yX12_drawn (wm yX12_drawn cX12_drawn 14 (some .long)) (rmm 3 68) (va_Pc [.ref (ad 0), .int v1, .int v2, .int v3] (mB D ct ad y_km y_tp y_goes y_kin y_qd y_sides y_cuts y_flat y_cp y_cA y_cB y_1X y_1Y y_2X y_2Y y_tm y_cells a_mtape a_flood a_going a_field a_from a_mcrowds a_steps a_queue a_letter a_lineX a_lineY a_triedAt a_cellAt a_besideIn a_apart a_drawer a_mkept a_listed a_mkin a_tried a_takenAt a_waysOf)) (va_Ql (fun z (_ : Unit) => z = r) (fun _ t => mP D ct ad y_km y_tp y_goes y_kin y_qd y_sides y_cuts y_flat y_cp y_cA y_cB y_1X y_1Y y_2X y_2Y y_tm y_cells a_mtape a_flood a_going a_field a_from a_mcrowds a_steps a_queue a_letter a_lineX a_lineY a_triedAt a_cellAt a_besideIn a_apart z_a_drawer a_mkept a_listed a_mkin a_tried a_takenAt a_waysOf t.heap) (mA ad)) 0 0 (mA ad) := by
  refine met_s (y := yX12_drawn) (rm := rmm 3 68) (by decide) (Nat.le_of_ble_eq_true rfl) ?_
  intro p e s m below meth c hx hb hr hw hown hlocks _ hml hB ls hl
  obtain ⟨hN, hK, hP⟩ := hB
  replace hl : lv_has ls 14 [(0, .ref (ad 0)), (1, .int v1), (2, .int v2), (3, .int v3)] := hl
  have hS : va_S (mA ad) s.heap s.heap [] := va_S.rf
  generalize (([.ref (ad 0), .int v1, .int v2, .int v3] : List Value).toArray) = av at hw ⊢
  rw [mo_drawn] at h
  have hL33 : ∀ (v1 : Int32), ∀ (v3 : Int32), ∀ (a_drawer : Nat → Int64), ∀ (n33 : Nat) (H : Heap) (locs : List Loc) (ls : Array Slot) (v4 : Int32) (v5 : Int64) (v7 : Int32), lv_has ls 14 [(0, .ref (ad 0)), (1, .int v1), (3, .int v3), (4, .int v4), (5, .long v5), (7, .int v7)] → mP D ct ad y_km y_tp y_goes y_kin y_qd y_sides y_cuts y_flat y_cp y_cA y_cB y_1X y_1Y y_2X y_2Y y_tm y_cells a_mtape a_flood a_going a_field a_from a_mcrowds a_steps a_queue a_letter a_lineX a_lineY a_triedAt a_cellAt a_besideIn a_apart a_drawer a_mkept a_listed a_mkin a_tried a_takenAt a_waysOf H → va_S (mA ad) s.heap H locs → fl3 (mo_drawn_B33 v1 v3 a_drawer) n33 v4 v5 v7 = some (r, z_a_drawer) → W p l e (rmm 3 68) s m av below meth c H locs 0 0 (MQ below (va_Ql (fun z (_ : Unit) => z = r) (fun _ t => mP D ct ad y_km y_tp y_goes y_kin y_qd y_sides y_cuts y_flat y_cp y_cA y_cB y_1X y_1Y y_2X y_2Y y_tm y_cells a_mtape a_flood a_going a_field a_from a_mcrowds a_steps a_queue a_letter a_lineX a_lineY a_triedAt a_cellAt a_besideIn a_apart z_a_drawer a_mkept a_listed a_mkin a_tried a_takenAt a_waysOf t.heap) (mA ad)) av s 0 0 (mA ad)) (F0 m 33 ls []) := by
    intro v1 v3 a_drawer n33
    induction n33 with
    | zero => intro H locs ls v4 v5 v7 hl hP hS h; cases h
    | succ n33 ih33 =>
      intro H locs ls v4 v5 v7 hl hP hS h
      replace h : mo_drawn_B33 v1 v3 a_drawer (fl3 (mo_drawn_B33 v1 v3 a_drawer) n33) v4 v5 v7 = some (r, z_a_drawer) := h
      generalize fl3 (mo_drawn_B33 v1 v3 a_drawer) n33 = k33 at h ih33
      have hJ230 : ∀ (H : Heap) (locs : List Loc) (ls : Array Slot) (v4 : Int32) (v7 : Int32) (v10 : Int64) , lv_has ls 14 [(0, .ref (ad 0)), (1, .int v1), (3, .int v3), (4, .int v4), (7, .int v7), (10, .long v10)] → mP D ct ad y_km y_tp y_goes y_kin y_qd y_sides y_cuts y_flat y_cp y_cA y_cB y_1X y_1Y y_2X y_2Y y_tm y_cells a_mtape a_flood a_going a_field a_from a_mcrowds a_steps a_queue a_letter a_lineX a_lineY a_triedAt a_cellAt a_besideIn a_apart a_drawer a_mkept a_listed a_mkin a_tried a_takenAt a_waysOf H → va_S (mA ad) s.heap H locs → mo_drawn_J230 k33 v1 v3 v4 v7 v10 a_drawer = some (r, z_a_drawer) → W p l e (rmm 3 68) s m av below meth c H locs 0 0 (MQ below (va_Ql (fun z (_ : Unit) => z = r) (fun _ t => mP D ct ad y_km y_tp y_goes y_kin y_qd y_sides y_cuts y_flat y_cp y_cA y_cB y_1X y_1Y y_2X y_2Y y_tm y_cells a_mtape a_flood a_going a_field a_from a_mcrowds a_steps a_queue a_letter a_lineX a_lineY a_triedAt a_cellAt a_besideIn a_apart z_a_drawer a_mkept a_listed a_mkin a_tried a_takenAt a_waysOf t.heap) (mA ad)) av s 0 0 (mA ad)) (F0 m 230 ls []) := by
        intro H locs ls v4 v7 v10  hl hP hS h
        rw [mo_drawn_J230] at h
        refine lv_lload hx hb dX12_drawn_230 (lv_at hl 5 rfl) ?_
        refine lv_lstore hx hb dX12_drawn_232 hl (Nat.le_of_ble_eq_true rfl) (lv' := [(5, .long v10), (0, .ref (ad 0)), (1, .int v1), (3, .int v3), (4, .int v4), (7, .int v7), (10, .long v10)]) rfl (fun ls hl => ?_)
        obtain ⟨v7_26, ev7_26, h⟩ := nm_s h
        refine lv_iinc hx hb dX12_drawn_234 hl (k := 5) rfl ev7_26.symm (Nat.le_of_ble_eq_true rfl) (lv' := [(7, .int v7_26), (5, .long v10), (0, .ref (ad 0)), (1, .int v1), (3, .int v3), (4, .int v4), (10, .long v10)]) rfl (fun ls hl => ?_)
        refine lv_goto hx hb dX12_drawn_237 (tgt := 33) rfl ?_
        exact ih33 _ _ _ v4 v10 v7_26 (lv_sub hl [2, 3, 4, 5, 1, 0] rfl) hP hS h
      have hL138 : ∀ (v4 : Int32), ∀ (v5 : Int64), ∀ (v7 : Int32), ∀ (n138 : Nat) (H : Heap) (locs : List Loc) (ls : Array Slot) (v9 : Int32) (v10 : Int64) (v12 : Int32), lv_has ls 14 [(0, .ref (ad 0)), (1, .int v1), (3, .int v3), (4, .int v4), (5, .long v5), (7, .int v7), (9, .int v9), (10, .long v10), (12, .int v12)] → mP D ct ad y_km y_tp y_goes y_kin y_qd y_sides y_cuts y_flat y_cp y_cA y_cB y_1X y_1Y y_2X y_2Y y_tm y_cells a_mtape a_flood a_going a_field a_from a_mcrowds a_steps a_queue a_letter a_lineX a_lineY a_triedAt a_cellAt a_besideIn a_apart a_drawer a_mkept a_listed a_mkin a_tried a_takenAt a_waysOf H → va_S (mA ad) s.heap H locs → fl3 (mo_drawn_B138 v1 v3 v4 v5 v7 a_drawer k33) n138 v9 v10 v12 = some (r, z_a_drawer) → W p l e (rmm 3 68) s m av below meth c H locs 0 0 (MQ below (va_Ql (fun z (_ : Unit) => z = r) (fun _ t => mP D ct ad y_km y_tp y_goes y_kin y_qd y_sides y_cuts y_flat y_cp y_cA y_cB y_1X y_1Y y_2X y_2Y y_tm y_cells a_mtape a_flood a_going a_field a_from a_mcrowds a_steps a_queue a_letter a_lineX a_lineY a_triedAt a_cellAt a_besideIn a_apart z_a_drawer a_mkept a_listed a_mkin a_tried a_takenAt a_waysOf t.heap) (mA ad)) av s 0 0 (mA ad)) (F0 m 138 ls []) := by
        intro v4 v5 v7 n138
        induction n138 with
        | zero => intro H locs ls v9 v10 v12 hl hP hS h; cases h
        | succ n138 ih138 =>
          intro H locs ls v9 v10 v12 hl hP hS h
          replace h : mo_drawn_B138 v1 v3 v4 v5 v7 a_drawer k33 (fl3 (mo_drawn_B138 v1 v3 v4 v5 v7 a_drawer k33) n138) v9 v10 v12 = some (r, z_a_drawer) := h
          generalize fl3 (mo_drawn_B138 v1 v3 v4 v5 v7 a_drawer k33) n138 = k138 at h ih138
          have hJ224 : ∀ (H : Heap) (locs : List Loc) (ls : Array Slot) (v9 : Int32) (v10 : Int64) (v12 : Int32) , lv_has ls 14 [(0, .ref (ad 0)), (1, .int v1), (3, .int v3), (4, .int v4), (5, .long v5), (7, .int v7), (9, .int v9), (10, .long v10), (12, .int v12)] → mP D ct ad y_km y_tp y_goes y_kin y_qd y_sides y_cuts y_flat y_cp y_cA y_cB y_1X y_1Y y_2X y_2Y y_tm y_cells a_mtape a_flood a_going a_field a_from a_mcrowds a_steps a_queue a_letter a_lineX a_lineY a_triedAt a_cellAt a_besideIn a_apart a_drawer a_mkept a_listed a_mkin a_tried a_takenAt a_waysOf H → va_S (mA ad) s.heap H locs → mo_drawn_J224 k33 k138 v1 v3 v4 v5 v7 v9 v10 v12 a_drawer = some (r, z_a_drawer) → W p l e (rmm 3 68) s m av below meth c H locs 0 0 (MQ below (va_Ql (fun z (_ : Unit) => z = r) (fun _ t => mP D ct ad y_km y_tp y_goes y_kin y_qd y_sides y_cuts y_flat y_cp y_cA y_cB y_1X y_1Y y_2X y_2Y y_tm y_cells a_mtape a_flood a_going a_field a_from a_mcrowds a_steps a_queue a_letter a_lineX a_lineY a_triedAt a_cellAt a_besideIn a_apart z_a_drawer a_mkept a_listed a_mkin a_tried a_takenAt a_waysOf t.heap) (mA ad)) av s 0 0 (mA ad)) (F0 m 224 ls []) := by
            intro H locs ls v9 v10 v12  hl hP hS h
            rw [mo_drawn_J224] at h
            obtain ⟨v12_27, ev12_27, h⟩ := nm_s h
            refine lv_iinc hx hb dX12_drawn_224 hl (k := 8) rfl ev12_27.symm (Nat.le_of_ble_eq_true rfl) (lv' := [(12, .int v12_27), (0, .ref (ad 0)), (1, .int v1), (3, .int v3), (4, .int v4), (5, .long v5), (7, .int v7), (9, .int v9), (10, .long v10)]) rfl (fun ls hl => ?_)
            refine lv_goto hx hb dX12_drawn_227 (tgt := 138) rfl ?_
            exact ih138 _ _ _ v9 v10 v12_27 (lv_sub hl [1, 2, 3, 4, 5, 6, 7, 8, 0] rfl) hP hS h
          have hL155 : ∀ (v12 : Int32), ∀ (n155 : Nat) (H : Heap) (locs : List Loc) (ls : Array Slot) (v9 : Int32) (v10 : Int64) (v13 : Int32), lv_has ls 14 [(0, .ref (ad 0)), (1, .int v1), (3, .int v3), (4, .int v4), (5, .long v5), (7, .int v7), (9, .int v9), (10, .long v10), (12, .int v12), (13, .int v13)] → mP D ct ad y_km y_tp y_goes y_kin y_qd y_sides y_cuts y_flat y_cp y_cA y_cB y_1X y_1Y y_2X y_2Y y_tm y_cells a_mtape a_flood a_going a_field a_from a_mcrowds a_steps a_queue a_letter a_lineX a_lineY a_triedAt a_cellAt a_besideIn a_apart a_drawer a_mkept a_listed a_mkin a_tried a_takenAt a_waysOf H → va_S (mA ad) s.heap H locs → fl3 (mo_drawn_B155 v1 v3 v4 v5 v7 v12 a_drawer k33 k138) n155 v9 v10 v13 = some (r, z_a_drawer) → W p l e (rmm 3 68) s m av below meth c H locs 0 0 (MQ below (va_Ql (fun z (_ : Unit) => z = r) (fun _ t => mP D ct ad y_km y_tp y_goes y_kin y_qd y_sides y_cuts y_flat y_cp y_cA y_cB y_1X y_1Y y_2X y_2Y y_tm y_cells a_mtape a_flood a_going a_field a_from a_mcrowds a_steps a_queue a_letter a_lineX a_lineY a_triedAt a_cellAt a_besideIn a_apart z_a_drawer a_mkept a_listed a_mkin a_tried a_takenAt a_waysOf t.heap) (mA ad)) av s 0 0 (mA ad)) (F0 m 155 ls []) := by
            intro v12 n155
            induction n155 with
            | zero => intro H locs ls v9 v10 v13 hl hP hS h; cases h
            | succ n155 ih155 =>
              intro H locs ls v9 v10 v13 hl hP hS h
              replace h : mo_drawn_B155 v1 v3 v4 v5 v7 v12 a_drawer k33 k138 (fl3 (mo_drawn_B155 v1 v3 v4 v5 v7 v12 a_drawer k33 k138) n155) v9 v10 v13 = some (r, z_a_drawer) := h
              generalize fl3 (mo_drawn_B155 v1 v3 v4 v5 v7 v12 a_drawer k33 k138) n155 = k155 at h ih155
              have hJ218 : ∀ (H : Heap) (locs : List Loc) (ls : Array Slot) (v9 : Int32) (v10 : Int64) (v13 : Int32) , lv_has ls 14 [(0, .ref (ad 0)), (1, .int v1), (3, .int v3), (4, .int v4), (5, .long v5), (7, .int v7), (9, .int v9), (10, .long v10), (12, .int v12), (13, .int v13)] → mP D ct ad y_km y_tp y_goes y_kin y_qd y_sides y_cuts y_flat y_cp y_cA y_cB y_1X y_1Y y_2X y_2Y y_tm y_cells a_mtape a_flood a_going a_field a_from a_mcrowds a_steps a_queue a_letter a_lineX a_lineY a_triedAt a_cellAt a_besideIn a_apart a_drawer a_mkept a_listed a_mkin a_tried a_takenAt a_waysOf H → va_S (mA ad) s.heap H locs → mo_drawn_J218 k33 k138 k155 v1 v3 v4 v5 v7 v9 v10 v12 v13 a_drawer = some (r, z_a_drawer) → W p l e (rmm 3 68) s m av below meth c H locs 0 0 (MQ below (va_Ql (fun z (_ : Unit) => z = r) (fun _ t => mP D ct ad y_km y_tp y_goes y_kin y_qd y_sides y_cuts y_flat y_cp y_cA y_cB y_1X y_1Y y_2X y_2Y y_tm y_cells a_mtape a_flood a_going a_field a_from a_mcrowds a_steps a_queue a_letter a_lineX a_lineY a_triedAt a_cellAt a_besideIn a_apart z_a_drawer a_mkept a_listed a_mkin a_tried a_takenAt a_waysOf t.heap) (mA ad)) av s 0 0 (mA ad)) (F0 m 218 ls []) := by
                intro H locs ls v9 v10 v13  hl hP hS h
                rw [mo_drawn_J218] at h
                obtain ⟨v13_28, ev13_28, h⟩ := nm_s h
                refine lv_iinc hx hb dX12_drawn_218 hl (k := 9) rfl ev13_28.symm (Nat.le_of_ble_eq_true rfl) (lv' := [(13, .int v13_28), (0, .ref (ad 0)), (1, .int v1), (3, .int v3), (4, .int v4), (5, .long v5), (7, .int v7), (9, .int v9), (10, .long v10), (12, .int v12)]) rfl (fun ls hl => ?_)
                refine lv_goto hx hb dX12_drawn_221 (tgt := 155) rfl ?_
                exact ih155 _ _ _ v9 v10 v13_28 (lv_sub hl [1, 2, 3, 4, 5, 6, 7, 8, 9, 0] rfl) hP hS h
              have hJ212 : ∀ (H : Heap) (locs : List Loc) (ls : Array Slot) (v9 : Int32) (v10 : Int64) (v13 : Int32) , lv_has ls 14 [(0, .ref (ad 0)), (1, .int v1), (3, .int v3), (4, .int v4), (5, .long v5), (7, .int v7), (9, .int v9), (10, .long v10), (12, .int v12), (13, .int v13)] → mP D ct ad y_km y_tp y_goes y_kin y_qd y_sides y_cuts y_flat y_cp y_cA y_cB y_1X y_1Y y_2X y_2Y y_tm y_cells a_mtape a_flood a_going a_field a_from a_mcrowds a_steps a_queue a_letter a_lineX a_lineY a_triedAt a_cellAt a_besideIn a_apart a_drawer a_mkept a_listed a_mkin a_tried a_takenAt a_waysOf H → va_S (mA ad) s.heap H locs → mo_drawn_J212 k33 k138 k155 v1 v3 v4 v5 v7 v9 v10 v12 v13 a_drawer = some (r, z_a_drawer) → W p l e (rmm 3 68) s m av below meth c H locs 0 0 (MQ below (va_Ql (fun z (_ : Unit) => z = r) (fun _ t => mP D ct ad y_km y_tp y_goes y_kin y_qd y_sides y_cuts y_flat y_cp y_cA y_cB y_1X y_1Y y_2X y_2Y y_tm y_cells a_mtape a_flood a_going a_field a_from a_mcrowds a_steps a_queue a_letter a_lineX a_lineY a_triedAt a_cellAt a_besideIn a_apart z_a_drawer a_mkept a_listed a_mkin a_tried a_takenAt a_waysOf t.heap) (mA ad)) av s 0 0 (mA ad)) (F0 m 212 ls []) := by
                intro H locs ls v9 v10 v13  hl hP hS h
                rw [mo_drawn_J212] at h
                refine lv_iload hx hb dX12_drawn_212 (lv_at hl 6 rfl) ?_
                refine lv_iconst (v := 1) hx hb dX12_drawn_214 ki_1 ?_
                refine lv_isub hx hb dX12_drawn_215 ?_
                obtain ⟨v9_29, ev9_29, h⟩ := nm_s h
                refine nmI ev9_29 ?_
                refine lv_istore hx hb dX12_drawn_216 hl (Nat.le_of_ble_eq_true rfl) (lv' := [(9, .int v9_29), (0, .ref (ad 0)), (1, .int v1), (3, .int v3), (4, .int v4), (5, .long v5), (7, .int v7), (10, .long v10), (12, .int v12), (13, .int v13)]) rfl (fun ls hl => ?_)
                exact hJ218 _ _ _ v9_29 v10 v13 (lv_sub hl [1, 2, 3, 4, 5, 6, 0, 7, 8, 9] rfl) hP hS h
              rw [mo_drawn_B155] at h
              refine lv_iload hx hb dX12_drawn_155 (lv_at hl 9 rfl) ?_
              refine lv_bipush (v := 8) hx hb dX12_drawn_157 kb_8 ?_
              refine lv_icmp_ge hx hb dX12_drawn_159 (tgt := 224) rfl (fun hc => ?_) (fun hc => ?_)
              · replace h := ifp h hc
                exact hJ224 _ _ _ v9 v10 v12 (lv_sub hl [0, 1, 2, 3, 4, 5, 6, 7, 8] rfl) hP hS h
              · replace h := ifn h hc
                refine lv_lload hx hb dX12_drawn_162 (lv_at hl 7 rfl) ?_
                refine lv_lconst (v := 0) hx hb dX12_drawn_164 kl_0 ?_
                refine W.lcmp hx hb dX12_drawn_165 ?_
                refine lv_if_ne hx hb dX12_drawn_166 (tgt := 224) rfl (fun hc => ?_) (fun hc => ?_)
                · replace h := ifn h (fun q => hc ((lg_cmp_eq _ _).mpr q))
                  exact hJ224 _ _ _ v9 v10 v12 (lv_sub hl [0, 1, 2, 3, 4, 5, 6, 7, 8] rfl) hP hS h
                · replace h := ifp h ((lg_cmp_eq _ _).mp hc)
                  refine lv_lload hx hb dX12_drawn_169 (lv_at hl 4 rfl) ?_
                  refine lv_iload hx hb dX12_drawn_171 (lv_at hl 9 rfl) ?_
                  refine lv_iload hx hb dX12_drawn_173 (lv_at hl 8 rfl) ?_
                  obtain ⟨r_30, hr_31, h⟩ := bd1_s h
                  refine sc_i hx hb hml hown hw hN (c_mo_isBeside l v5 v13 v12 r_30 hr_31) g_RX12_156 hd_X12_isBeside (rest := []) hl.1 hS dX12_drawn_175 rfl rfl ⟨Nat.le_of_ble_eq_true rfl, Nat.le_of_ble_eq_true rfl⟩ rfl rfl (Nat.le_of_ble_eq_true rfl) ⟨Nat.zero_le _, Nat.zero_le _⟩ (fun H locs hk hS => ?_)
                  have hP := mP_kept hP hk
                  refine lv_if_eq hx hb dX12_drawn_178 (tgt := 218) rfl (fun hc => ?_) (fun hc => ?_)
                  · replace h := ifp h hc
                    exact hJ218 _ _ _ v9 v10 v13 (lv_sub hl [0, 1, 2, 3, 4, 5, 6, 7, 8, 9] rfl) hP hS h
                  · replace h := ifn h hc
                    refine lv_lload hx hb dX12_drawn_181 (lv_at hl 4 rfl) ?_
                    refine lv_iload hx hb dX12_drawn_183 (lv_at hl 9 rfl) ?_
                    refine lv_iload hx hb dX12_drawn_185 (lv_at hl 8 rfl) ?_
                    obtain ⟨r_32, hr_33, h⟩ := bd1_s h
                    refine sc_i hx hb hml hown hw hN (c_mo_isWithin l v5 v13 v12 r_32 hr_33) g_RX12_217 hd_X12_isWithin (rest := []) hl.1 hS dX12_drawn_187 rfl rfl ⟨Nat.le_of_ble_eq_true rfl, Nat.le_of_ble_eq_true rfl⟩ rfl rfl (Nat.le_of_ble_eq_true rfl) ⟨Nat.zero_le _, Nat.zero_le _⟩ (fun H locs hk hS => ?_)
                    have hP := mP_kept hP hk
                    refine lv_if_ne hx hb dX12_drawn_190 (tgt := 196) rfl (fun hc => ?_) (fun hc => ?_)
                    · replace h := ifn h hc
                      refine lv_iload hx hb dX12_drawn_196 (lv_at hl 6 rfl) ?_
                      refine lv_if_ne hx hb dX12_drawn_198 (tgt := 212) rfl (fun hc => ?_) (fun hc => ?_)
                      · replace h := ifn h hc
                        exact hJ212 _ _ _ v9 v10 v13 (lv_sub hl [0, 1, 2, 3, 4, 5, 6, 7, 8, 9] rfl) hP hS h
                      · replace h := ifp h hc
                        refine lv_lload hx hb dX12_drawn_201 (lv_at hl 4 rfl) ?_
                        refine lv_iload hx hb dX12_drawn_203 (lv_at hl 9 rfl) ?_
                        refine lv_iload hx hb dX12_drawn_205 (lv_at hl 8 rfl) ?_
                        obtain ⟨r_34, hr_35, h⟩ := bd1_s h
                        refine sc_l hx hb hml hown hw hN (c_mo_with l v5 v13 v12 r_34 hr_35) g_RX12_221 hd_X12_with (rest := []) hl.1 hS dX12_drawn_207 rfl rfl ⟨Nat.le_of_ble_eq_true rfl, Nat.le_of_ble_eq_true rfl⟩ rfl rfl (Nat.le_of_ble_eq_true rfl) ⟨Nat.zero_le _, Nat.zero_le _⟩ (fun H locs hk hS => ?_)
                        have hP := mP_kept hP hk
                        refine lv_lstore hx hb dX12_drawn_210 hl (Nat.le_of_ble_eq_true rfl) (lv' := [(10, .long r_34), (0, .ref (ad 0)), (1, .int v1), (3, .int v3), (4, .int v4), (5, .long v5), (7, .int v7), (9, .int v9), (12, .int v12), (13, .int v13)]) rfl (fun ls hl => ?_)
                        exact hJ212 _ _ _ v9 r_34 v13 (lv_sub hl [1, 2, 3, 4, 5, 6, 7, 0, 8, 9] rfl) hP hS h
                    · replace h := ifp h hc
                      refine lv_goto hx hb dX12_drawn_193 (tgt := 218) rfl ?_
                      exact hJ218 _ _ _ v9 v10 v13 (lv_sub hl [0, 1, 2, 3, 4, 5, 6, 7, 8, 9] rfl) hP hS h
          rw [mo_drawn_B138] at h
          refine lv_iload hx hb dX12_drawn_138 (lv_at hl 8 rfl) ?_
          refine lv_bipush (v := 8) hx hb dX12_drawn_140 kb_8 ?_
          refine lv_icmp_ge hx hb dX12_drawn_142 (tgt := 230) rfl (fun hc => ?_) (fun hc => ?_)
          · replace h := ifp h hc
            exact hJ230 _ _ _ v4 v7 v10 (lv_sub hl [0, 1, 2, 3, 5, 7] rfl) hP hS h
          · replace h := ifn h hc
            refine lv_lload hx hb dX12_drawn_145 (lv_at hl 7 rfl) ?_
            refine lv_lconst (v := 0) hx hb dX12_drawn_147 kl_0 ?_
            refine W.lcmp hx hb dX12_drawn_148 ?_
            refine lv_if_ne hx hb dX12_drawn_149 (tgt := 230) rfl (fun hc => ?_) (fun hc => ?_)
            · replace h := ifn h (fun q => hc ((lg_cmp_eq _ _).mpr q))
              exact hJ230 _ _ _ v4 v7 v10 (lv_sub hl [0, 1, 2, 3, 5, 7] rfl) hP hS h
            · replace h := ifp h ((lg_cmp_eq _ _).mp hc)
              refine lv_iconst (v := (-1)) hx hb dX12_drawn_152 ki_m1 ?_
              refine lv_istore hx hb dX12_drawn_153 hl (Nat.le_of_ble_eq_true rfl) (lv' := [(13, .int (-1)), (0, .ref (ad 0)), (1, .int v1), (3, .int v3), (4, .int v4), (5, .long v5), (7, .int v7), (9, .int v9), (10, .long v10), (12, .int v12)]) rfl (fun ls hl => ?_)
              exact hL155 v12 FU _ _ _ v9 v10 (-1) (lv_sub hl [1, 2, 3, 4, 5, 6, 7, 8, 9, 0] rfl) hP hS h
      have hL45 : ∀ (v4 : Int32), ∀ (v5 : Int64), ∀ (v7 : Int32), ∀ (n45 : Nat) (H : Heap) (locs : List Loc) (ls : Array Slot) (v8 : Int32) (v9 : Int32), lv_has ls 14 [(0, .ref (ad 0)), (1, .int v1), (3, .int v3), (4, .int v4), (5, .long v5), (7, .int v7), (8, .int v8), (9, .int v9)] → mP D ct ad y_km y_tp y_goes y_kin y_qd y_sides y_cuts y_flat y_cp y_cA y_cB y_1X y_1Y y_2X y_2Y y_tm y_cells a_mtape a_flood a_going a_field a_from a_mcrowds a_steps a_queue a_letter a_lineX a_lineY a_triedAt a_cellAt a_besideIn a_apart a_drawer a_mkept a_listed a_mkin a_tried a_takenAt a_waysOf H → va_S (mA ad) s.heap H locs → fl2 (mo_drawn_B45 v1 v3 v4 v5 v7 a_drawer k33) n45 v8 v9 = some (r, z_a_drawer) → W p l e (rmm 3 68) s m av below meth c H locs 0 0 (MQ below (va_Ql (fun z (_ : Unit) => z = r) (fun _ t => mP D ct ad y_km y_tp y_goes y_kin y_qd y_sides y_cuts y_flat y_cp y_cA y_cB y_1X y_1Y y_2X y_2Y y_tm y_cells a_mtape a_flood a_going a_field a_from a_mcrowds a_steps a_queue a_letter a_lineX a_lineY a_triedAt a_cellAt a_besideIn a_apart z_a_drawer a_mkept a_listed a_mkin a_tried a_takenAt a_waysOf t.heap) (mA ad)) av s 0 0 (mA ad)) (F0 m 45 ls []) := by
        intro v4 v5 v7 n45
        induction n45 with
        | zero => intro H locs ls v8 v9 hl hP hS h; cases h
        | succ n45 ih45 =>
          intro H locs ls v8 v9 hl hP hS h
          replace h : mo_drawn_B45 v1 v3 v4 v5 v7 a_drawer k33 (fl2 (mo_drawn_B45 v1 v3 v4 v5 v7 a_drawer k33) n45) v8 v9 = some (r, z_a_drawer) := h
          generalize fl2 (mo_drawn_B45 v1 v3 v4 v5 v7 a_drawer k33) n45 = k45 at h ih45
          have hL55 : ∀ (v9 : Int32), ∀ (n55 : Nat) (H : Heap) (locs : List Loc) (ls : Array Slot) (v8 : Int32) (v10 : Int32), lv_has ls 14 [(0, .ref (ad 0)), (1, .int v1), (3, .int v3), (4, .int v4), (5, .long v5), (7, .int v7), (8, .int v8), (9, .int v9), (10, .int v10)] → mP D ct ad y_km y_tp y_goes y_kin y_qd y_sides y_cuts y_flat y_cp y_cA y_cB y_1X y_1Y y_2X y_2Y y_tm y_cells a_mtape a_flood a_going a_field a_from a_mcrowds a_steps a_queue a_letter a_lineX a_lineY a_triedAt a_cellAt a_besideIn a_apart a_drawer a_mkept a_listed a_mkin a_tried a_takenAt a_waysOf H → va_S (mA ad) s.heap H locs → fl2 (mo_drawn_B55 v1 v3 v4 v5 v7 v9 a_drawer k33 k45) n55 v8 v10 = some (r, z_a_drawer) → W p l e (rmm 3 68) s m av below meth c H locs 0 0 (MQ below (va_Ql (fun z (_ : Unit) => z = r) (fun _ t => mP D ct ad y_km y_tp y_goes y_kin y_qd y_sides y_cuts y_flat y_cp y_cA y_cB y_1X y_1Y y_2X y_2Y y_tm y_cells a_mtape a_flood a_going a_field a_from a_mcrowds a_steps a_queue a_letter a_lineX a_lineY a_triedAt a_cellAt a_besideIn a_apart z_a_drawer a_mkept a_listed a_mkin a_tried a_takenAt a_waysOf t.heap) (mA ad)) av s 0 0 (mA ad)) (F0 m 55 ls []) := by
            intro v9 n55
            induction n55 with
            | zero => intro H locs ls v8 v10 hl hP hS h; cases h
            | succ n55 ih55 =>
              intro H locs ls v8 v10 hl hP hS h
              replace h : mo_drawn_B55 v1 v3 v4 v5 v7 v9 a_drawer k33 k45 (fl2 (mo_drawn_B55 v1 v3 v4 v5 v7 v9 a_drawer k33 k45) n55) v8 v10 = some (r, z_a_drawer) := h
              generalize fl2 (mo_drawn_B55 v1 v3 v4 v5 v7 v9 a_drawer k33 k45) n55 = k55 at h ih55
              have hJ93 : ∀ (H : Heap) (locs : List Loc) (ls : Array Slot) (v10 : Int32) (t0 : Int32) (t1 : Int32), lv_has ls 14 [(0, .ref (ad 0)), (1, .int v1), (3, .int v3), (4, .int v4), (5, .long v5), (7, .int v7), (9, .int v9), (10, .int v10)] → mP D ct ad y_km y_tp y_goes y_kin y_qd y_sides y_cuts y_flat y_cp y_cA y_cB y_1X y_1Y y_2X y_2Y y_tm y_cells a_mtape a_flood a_going a_field a_from a_mcrowds a_steps a_queue a_letter a_lineX a_lineY a_triedAt a_cellAt a_besideIn a_apart a_drawer a_mkept a_listed a_mkin a_tried a_takenAt a_waysOf H → va_S (mA ad) s.heap H locs → mo_drawn_J93 k33 k45 k55 v1 v3 v4 v5 v7 v9 v10 a_drawer t0 t1 = some (r, z_a_drawer) → W p l e (rmm 3 68) s m av below meth c H locs 0 0 (MQ below (va_Ql (fun z (_ : Unit) => z = r) (fun _ t => mP D ct ad y_km y_tp y_goes y_kin y_qd y_sides y_cuts y_flat y_cp y_cA y_cB y_1X y_1Y y_2X y_2Y y_tm y_cells a_mtape a_flood a_going a_field a_from a_mcrowds a_steps a_queue a_letter a_lineX a_lineY a_triedAt a_cellAt a_besideIn a_apart z_a_drawer a_mkept a_listed a_mkin a_tried a_takenAt a_waysOf t.heap) (mA ad)) av s 0 0 (mA ad)) (F0 m 93 ls [.int t1, .int t0]) := by
                intro H locs ls v10 t0 t1 hl hP hS h
                rw [mo_drawn_J93] at h
                refine lv_iadd hx hb dX12_drawn_93 ?_
                obtain ⟨v8_36, ev8_36, h⟩ := nm_s h
                refine nmI ev8_36 ?_
                refine lv_istore hx hb dX12_drawn_94 hl (Nat.le_of_ble_eq_true rfl) (lv' := [(8, .int v8_36), (0, .ref (ad 0)), (1, .int v1), (3, .int v3), (4, .int v4), (5, .long v5), (7, .int v7), (9, .int v9), (10, .int v10)]) rfl (fun ls hl => ?_)
                obtain ⟨v10_37, ev10_37, h⟩ := nm_s h
                refine lv_iinc hx hb dX12_drawn_96 hl (k := 8) rfl ev10_37.symm (Nat.le_of_ble_eq_true rfl) (lv' := [(10, .int v10_37), (8, .int v8_36), (0, .ref (ad 0)), (1, .int v1), (3, .int v3), (4, .int v4), (5, .long v5), (7, .int v7), (9, .int v9)]) rfl (fun ls hl => ?_)
                refine lv_goto hx hb dX12_drawn_99 (tgt := 55) rfl ?_
                exact ih55 _ _ _ v8_36 v10_37 (lv_sub hl [2, 3, 4, 5, 6, 7, 1, 8, 0] rfl) hP hS h
              have hJ92 : ∀ (H : Heap) (locs : List Loc) (ls : Array Slot) (v10 : Int32) (t0 : Int32), lv_has ls 14 [(0, .ref (ad 0)), (1, .int v1), (3, .int v3), (4, .int v4), (5, .long v5), (7, .int v7), (9, .int v9), (10, .int v10)] → mP D ct ad y_km y_tp y_goes y_kin y_qd y_sides y_cuts y_flat y_cp y_cA y_cB y_1X y_1Y y_2X y_2Y y_tm y_cells a_mtape a_flood a_going a_field a_from a_mcrowds a_steps a_queue a_letter a_lineX a_lineY a_triedAt a_cellAt a_besideIn a_apart a_drawer a_mkept a_listed a_mkin a_tried a_takenAt a_waysOf H → va_S (mA ad) s.heap H locs → mo_drawn_J92 k33 k45 k55 v1 v3 v4 v5 v7 v9 v10 a_drawer t0 = some (r, z_a_drawer) → W p l e (rmm 3 68) s m av below meth c H locs 0 0 (MQ below (va_Ql (fun z (_ : Unit) => z = r) (fun _ t => mP D ct ad y_km y_tp y_goes y_kin y_qd y_sides y_cuts y_flat y_cp y_cA y_cB y_1X y_1Y y_2X y_2Y y_tm y_cells a_mtape a_flood a_going a_field a_from a_mcrowds a_steps a_queue a_letter a_lineX a_lineY a_triedAt a_cellAt a_besideIn a_apart z_a_drawer a_mkept a_listed a_mkin a_tried a_takenAt a_waysOf t.heap) (mA ad)) av s 0 0 (mA ad)) (F0 m 92 ls [.int t0]) := by
                intro H locs ls v10 t0 hl hP hS h
                rw [mo_drawn_J92] at h
                refine lv_iconst (v := 0) hx hb dX12_drawn_92 ki_0 ?_
                exact hJ93 _ _ _ v10 t0 0 (lv_sub hl [0, 1, 2, 3, 4, 5, 6, 7] rfl) hP hS h
              rw [mo_drawn_B55] at h
              refine lv_iload hx hb dX12_drawn_55 (lv_at hl 8 rfl) ?_
              refine lv_bipush (v := 8) hx hb dX12_drawn_57 kb_8 ?_
              refine lv_icmp_ge hx hb dX12_drawn_59 (tgt := 102) rfl (fun hc => ?_) (fun hc => ?_)
              · replace h := ifp h hc
                obtain ⟨v9_38, ev9_38, h⟩ := nm_s h
                refine lv_iinc hx hb dX12_drawn_102 hl (k := 7) rfl ev9_38.symm (Nat.le_of_ble_eq_true rfl) (lv' := [(9, .int v9_38), (0, .ref (ad 0)), (1, .int v1), (3, .int v3), (4, .int v4), (5, .long v5), (7, .int v7), (8, .int v8), (10, .int v10)]) rfl (fun ls hl => ?_)
                refine lv_goto hx hb dX12_drawn_105 (tgt := 45) rfl ?_
                exact ih45 _ _ _ v8 v9_38 (lv_sub hl [1, 2, 3, 4, 5, 6, 7, 0] rfl) hP hS h
              · replace h := ifn h hc
                refine lv_iload hx hb dX12_drawn_62 (lv_at hl 6 rfl) ?_
                refine lv_lload hx hb dX12_drawn_64 (lv_at hl 4 rfl) ?_
                refine lv_iload hx hb dX12_drawn_66 (lv_at hl 8 rfl) ?_
                refine lv_iload hx hb dX12_drawn_68 (lv_at hl 7 rfl) ?_
                obtain ⟨r_39, hr_40, h⟩ := bd1_s h
                refine sc_i hx hb hml hown hw hN (c_mo_isBeside l v5 v10 v9 r_39 hr_40) g_RX12_156 hd_X12_isBeside (rest := [.int v8]) hl.1 hS dX12_drawn_70 rfl rfl ⟨Nat.le_of_ble_eq_true rfl, Nat.le_of_ble_eq_true rfl⟩ rfl rfl (Nat.le_of_ble_eq_true rfl) ⟨Nat.zero_le _, Nat.zero_le _⟩ (fun H locs hk hS => ?_)
                have hP := mP_kept hP hk
                refine lv_if_eq hx hb dX12_drawn_73 (tgt := 92) rfl (fun hc => ?_) (fun hc => ?_)
                · replace h := ifp h hc
                  exact hJ92 _ _ _ v10 v8 (lv_sub hl [0, 1, 2, 3, 4, 5, 7, 8] rfl) hP hS h
                · replace h := ifn h hc
                  refine lv_lload hx hb dX12_drawn_76 (lv_at hl 4 rfl) ?_
                  refine lv_iload hx hb dX12_drawn_78 (lv_at hl 8 rfl) ?_
                  refine lv_iload hx hb dX12_drawn_80 (lv_at hl 7 rfl) ?_
                  obtain ⟨r_41, hr_42, h⟩ := bd1_s h
                  refine sc_i hx hb hml hown hw hN (c_mo_isWithin l v5 v10 v9 r_41 hr_42) g_RX12_217 hd_X12_isWithin (rest := [.int v8]) hl.1 hS dX12_drawn_82 rfl rfl ⟨Nat.le_of_ble_eq_true rfl, Nat.le_of_ble_eq_true rfl⟩ rfl rfl (Nat.le_of_ble_eq_true rfl) ⟨Nat.zero_le _, Nat.zero_le _⟩ (fun H locs hk hS => ?_)
                  have hP := mP_kept hP hk
                  refine lv_if_eq hx hb dX12_drawn_85 (tgt := 92) rfl (fun hc => ?_) (fun hc => ?_)
                  · replace h := ifp h hc
                    exact hJ92 _ _ _ v10 v8 (lv_sub hl [0, 1, 2, 3, 4, 5, 7, 8] rfl) hP hS h
                  · replace h := ifn h hc
                    refine lv_iconst (v := 1) hx hb dX12_drawn_88 ki_1 ?_
                    refine lv_goto hx hb dX12_drawn_89 (tgt := 93) rfl ?_
                    exact hJ93 _ _ _ v10 v8 1 (lv_sub hl [0, 1, 2, 3, 4, 5, 7, 8] rfl) hP hS h
          rw [mo_drawn_B45] at h
          refine lv_iload hx hb dX12_drawn_45 (lv_at hl 7 rfl) ?_
          refine lv_bipush (v := 8) hx hb dX12_drawn_47 kb_8 ?_
          refine lv_icmp_ge hx hb dX12_drawn_49 (tgt := 108) rfl (fun hc => ?_) (fun hc => ?_)
          · replace h := ifp h hc
            refine lv_sipush (v := 25173) hx hb dX12_drawn_108 ks_25173 ?_
            refine lv_iload hx hb dX12_drawn_111 (lv_at hl 3 rfl) ?_
            refine lv_imul hx hb dX12_drawn_113 ?_
            refine lv_sipush (v := 13849) hx hb dX12_drawn_114 ks_13849 ?_
            refine lv_iadd hx hb dX12_drawn_117 ?_
            refine lv_ldc hx hb hown (hw _ tw_36_3) dX12_drawn_118 ?_
            obtain ⟨hne, h⟩ := dzI_s h
            refine lv_irem hx hb dX12_drawn_120 hne ?_
            refine nmI (v := remI ((25173 * v4) + 13849) (65536 : Int32)) rfl ?_
            obtain ⟨v4_43, ev4_43, h⟩ := nm_s h
            refine nmI ev4_43 ?_
            refine lv_istore hx hb dX12_drawn_121 hl (Nat.le_of_ble_eq_true rfl) (lv' := [(4, .int v4_43), (0, .ref (ad 0)), (1, .int v1), (3, .int v3), (5, .long v5), (7, .int v7), (8, .int v8), (9, .int v9)]) rfl (fun ls hl => ?_)
            refine lv_iload hx hb dX12_drawn_123 (lv_at hl 0 rfl) ?_
            refine lv_iconst (v := 4) hx hb dX12_drawn_125 ki_4 ?_
            obtain ⟨hne, h⟩ := dzI_s h
            refine lv_idiv hx hb dX12_drawn_126 hne ?_
            refine lv_iload hx hb dX12_drawn_127 (lv_at hl 6 rfl) ?_
            obtain ⟨hne, h⟩ := dzI_s h
            refine lv_irem hx hb dX12_drawn_129 hne ?_
            refine nmI (v := remI (v4_43 / 4) v8) rfl ?_
            obtain ⟨v9_44, ev9_44, h⟩ := nm_s h
            refine nmI ev9_44 ?_
            refine lv_istore hx hb dX12_drawn_130 hl (Nat.le_of_ble_eq_true rfl) (lv' := [(9, .int v9_44), (4, .int v4_43), (0, .ref (ad 0)), (1, .int v1), (3, .int v3), (5, .long v5), (7, .int v7), (8, .int v8)]) rfl (fun ls hl => ?_)
            refine lv_lconst (v := 0) hx hb dX12_drawn_132 kl_0 ?_
            refine lv_lstore hx hb dX12_drawn_133 hl (Nat.le_of_ble_eq_true rfl) (lv' := [(10, .long 0), (9, .int v9_44), (4, .int v4_43), (0, .ref (ad 0)), (1, .int v1), (3, .int v3), (5, .long v5), (7, .int v7), (8, .int v8)]) rfl (fun ls hl => ?_)
            refine lv_iconst (v := (-1)) hx hb dX12_drawn_135 ki_m1 ?_
            refine lv_istore hx hb dX12_drawn_136 hl (Nat.le_of_ble_eq_true rfl) (lv' := [(12, .int (-1)), (10, .long 0), (9, .int v9_44), (4, .int v4_43), (0, .ref (ad 0)), (1, .int v1), (3, .int v3), (5, .long v5), (7, .int v7), (8, .int v8)]) rfl (fun ls hl => ?_)
            exact hL138 v4_43 v5 v7 FU _ _ _ v9_44 0 (-1) (lv_sub hl [4, 5, 6, 3, 7, 8, 2, 1, 0] rfl) hP hS h
          · replace h := ifn h hc
            refine lv_iconst (v := (-1)) hx hb dX12_drawn_52 ki_m1 ?_
            refine lv_istore hx hb dX12_drawn_53 hl (Nat.le_of_ble_eq_true rfl) (lv' := [(10, .int (-1)), (0, .ref (ad 0)), (1, .int v1), (3, .int v3), (4, .int v4), (5, .long v5), (7, .int v7), (8, .int v8), (9, .int v9)]) rfl (fun ls hl => ?_)
            exact hL55 v9 FU _ _ _ v8 (-1) (lv_sub hl [1, 2, 3, 4, 5, 6, 7, 8, 0] rfl) hP hS h
      rw [mo_drawn_B33] at h
      refine lv_iload hx hb dX12_drawn_33 (lv_at hl 5 rfl) ?_
      refine lv_iload_n hx hb dX12_drawn_35 rfl (lv_at hl 2 rfl) ?_
      refine lv_icmp_ge hx hb dX12_drawn_36 (tgt := 240) rfl (fun hc => ?_) (fun hc => ?_)
      · replace h := ifp h hc
        refine lv_aload_n hx hb dX12_drawn_240 rfl (lv_at hl 0 rfl) ?_
        refine mg_MO_0 hx hb hw hown hK hP dX12_drawn_241 ?_
        refine lv_iload_n hx hb dX12_drawn_244 rfl (lv_at hl 1 rfl) ?_
        refine lv_lload hx hb dX12_drawn_245 (lv_at hl 4 rfl) ?_
        obtain ⟨hin, h⟩ := ck_s h
        obtain ⟨a_drawer_45, ea_drawer_45, h⟩ := nm_s h
        refine ms_drawer hx hb hK hP hI hS hin ea_drawer_45 dX12_drawn_247 (fun H locs hP hS => ?_)
        refine lv_lload hx hb dX12_drawn_248 (lv_at hl 4 rfl) ?_
        simp only [Option.some.injEq, Prod.mk.injEq] at h
        obtain ⟨rfl, rfl⟩ := h
        exact rc_l hx hb hr hlocks hS dX12_drawn_250 rfl hP
      · replace h := ifn h hc
        refine lv_iconst (v := 0) hx hb dX12_drawn_39 ki_0 ?_
        refine lv_istore hx hb dX12_drawn_40 hl (Nat.le_of_ble_eq_true rfl) (lv' := [(8, .int 0), (0, .ref (ad 0)), (1, .int v1), (3, .int v3), (4, .int v4), (5, .long v5), (7, .int v7)]) rfl (fun ls hl => ?_)
        refine lv_iconst (v := (-1)) hx hb dX12_drawn_42 ki_m1 ?_
        refine lv_istore hx hb dX12_drawn_43 hl (Nat.le_of_ble_eq_true rfl) (lv' := [(9, .int (-1)), (8, .int 0), (0, .ref (ad 0)), (1, .int v1), (3, .int v3), (4, .int v4), (5, .long v5), (7, .int v7)]) rfl (fun ls hl => ?_)
        exact hL45 v4 v5 v7 FU _ _ _ 0 (-1) (lv_sub hl [2, 3, 4, 5, 6, 7, 1, 0] rfl) hP hS h
  refine lv_iload_n hx hb dX12_drawn_0 rfl (lv_at hl 1 rfl) ?_
  obtain ⟨r_46, hr_47, h⟩ := bd1_s h
  refine sc_i hx hb hml hown hw hN (c_mo_isDrawer l v1 r_46 hr_47) g_RX12_135 hd_X12_isDrawer (rest := []) hl.1 hS dX12_drawn_1 rfl rfl ⟨Nat.le_of_ble_eq_true rfl, Nat.le_of_ble_eq_true rfl⟩ rfl rfl (Nat.le_of_ble_eq_true rfl) ⟨Nat.zero_le _, Nat.zero_le _⟩ (fun H locs hk hS => ?_)
  have hP := mP_kept hP hk
  refine lv_if_eq hx hb dX12_drawn_4 (tgt := 17) rfl (fun hc => ?_) (fun hc => ?_)
  · replace h := ifp h hc
    refine lv_ldc2 hx hb hown (hw _ tw_12_20) dX12_drawn_17 ?_
    simp only [Option.some.injEq, Prod.mk.injEq] at h
    obtain ⟨rfl, rfl⟩ := h
    exact rc_l hx hb hr hlocks hS dX12_drawn_20 rfl hP
  · replace h := ifn h hc
    refine lv_iload_n hx hb dX12_drawn_7 rfl (lv_at hl 3 rfl) ?_
    refine lv_iconst (v := 1) hx hb dX12_drawn_8 ki_1 ?_
    refine lv_bipush (v := 12) hx hb dX12_drawn_9 kb_12 ?_
    obtain ⟨r_48, hr_49, h⟩ := bd1_s h
    refine sc_i hx hb hml hown hw hN (c_mo_in l v3 1 12 r_48 hr_49) g_RX12_82 hd_X12_in (rest := []) hl.1 hS dX12_drawn_11 rfl rfl ⟨Nat.le_of_ble_eq_true rfl, Nat.le_of_ble_eq_true rfl⟩ rfl rfl (Nat.le_of_ble_eq_true rfl) ⟨Nat.zero_le _, Nat.zero_le _⟩ (fun H locs hk hS => ?_)
    have hP := mP_kept hP hk
    refine lv_if_ne hx hb dX12_drawn_14 (tgt := 21) rfl (fun hc => ?_) (fun hc => ?_)
    · replace h := ifn h hc
      refine lv_iload_n hx hb dX12_drawn_21 rfl (lv_at hl 2 rfl) ?_
      refine lv_ldc hx hb hown (hw _ tw_36_2) dX12_drawn_22 ?_
      refine lv_iand hx hb dX12_drawn_24 ?_
      obtain ⟨v4_50, ev4_50, h⟩ := nm_s h
      refine nmI ev4_50 ?_
      refine lv_istore hx hb dX12_drawn_25 hl (Nat.le_of_ble_eq_true rfl) (lv' := [(4, .int v4_50), (0, .ref (ad 0)), (1, .int v1), (2, .int v2), (3, .int v3)]) rfl (fun ls hl => ?_)
      refine lv_lconst (v := 1) hx hb dX12_drawn_27 kl_1 ?_
      refine lv_lstore hx hb dX12_drawn_28 hl (Nat.le_of_ble_eq_true rfl) (lv' := [(5, .long 1), (4, .int v4_50), (0, .ref (ad 0)), (1, .int v1), (2, .int v2), (3, .int v3)]) rfl (fun ls hl => ?_)
      refine lv_iconst (v := 1) hx hb dX12_drawn_30 ki_1 ?_
      refine lv_istore hx hb dX12_drawn_31 hl (Nat.le_of_ble_eq_true rfl) (lv' := [(7, .int 1), (5, .long 1), (4, .int v4_50), (0, .ref (ad 0)), (1, .int v1), (2, .int v2), (3, .int v3)]) rfl (fun ls hl => ?_)
      exact hL33 v1 v3 a_drawer FU _ _ _ v4_50 1 1 (lv_sub hl [3, 4, 6, 2, 1, 0] rfl) hP hS h
    · replace h := ifp h hc
      refine lv_ldc2 hx hb hown (hw _ tw_12_20) dX12_drawn_17 ?_
      simp only [Option.some.injEq, Prod.mk.injEq] at h
      obtain ⟨rfl, rfl⟩ := h
      exact rc_l hx hb hr hlocks hS dX12_drawn_20 rfl hP
noncomputable def mo_comesIn_listed_B67 (v2 : Int32) (v3 : Int64) (v5 : Int32)  (k67 : Int32 → (Nat → Int64) → Option (Int32 × (Nat → Int64))) (v7 : Int32) (a_listed : Nat → Int64) : Option (Int32 × (Nat → Int64)) :=
  if v7 ≤ v5 then (ck v5 1600 <|
  nm (vp_updL a_listed v5.toNatClampNeg v3) fun a_listed_1 =>
  some (v2 + 1, a_listed_1)) else
  nm (v7 - 1 : Int32) fun i_2 =>
  ck i_2 1600 <|
  nm (a_listed i_2.toNatClampNeg : Int64) fun w_3 =>
  ck v7 1600 <|
  nm (vp_updL a_listed v7.toNatClampNeg w_3) fun a_listed_4 =>
  nm (v7 + Int32.ofInt (-1)) fun v7_5 =>
  k67 v7_5 a_listed_4
noncomputable def mo_comesIn_listed_J64  (v2 : Int32) (v3 : Int64) (v5 : Int32) (a_listed : Nat → Int64)  : Option (Int32 × (Nat → Int64)) :=
  fl2 (mo_comesIn_listed_B67 v2 v3 v5) FU v2 a_listed
noncomputable def mo_comesIn_listed_B6 (v2 : Int32) (v3 : Int64) (a_listed : Nat → Int64)  (k6 : Int32 → Int32 → Option (Int32 × (Nat → Int64))) (v5 : Int32) (v6 : Int32) : Option (Int32 × (Nat → Int64)) :=
  if v6 ≤ v5 then (if v2 ≤ v5 then (mo_comesIn_listed_J64 v2 v3 v5 a_listed) else
  ck v5 1600 <|
  if (a_listed v5.toNatClampNeg) = v3 then (some (v2, a_listed)) else
  mo_comesIn_listed_J64 v2 v3 v5 a_listed) else
  dzI 2 <|
  nm ((v5 + v6) / 2 : Int32) fun v7_6 =>
  ck v7_6 1600 <|
  if v3 ≤ (a_listed v7_6.toNatClampNeg) then (k6 v5 v7_6) else
  nm (v7_6 + 1 : Int32) fun v5_7 =>
  k6 v5_7 v6
noncomputable def mo_comesIn_listed (v1 : Int32) (v2 : Int32) (v3 : Int64) (a_listed : Nat → Int64) : Option (Int32 × (Nat → Int64)) :=
  fl2 (mo_comesIn_listed_B6 v2 v3 a_listed) FU v1 v2
set_option maxHeartbeats 4000000 in
set_option maxRecDepth 100000 in
theorem c_mo_comesIn_listed (l : Launch) (D : va_G) (ct : Nat → ClassId) (ad : Nat → Nat) (hI : mI ad) {y_km y_tp y_goes y_kin y_qd y_sides y_cuts y_flat y_cp y_cA y_cB y_1X y_1Y y_2X y_2Y y_tm y_cells : Int32} {a_mtape a_flood a_going a_field a_from a_mcrowds a_steps a_queue a_letter a_lineX a_lineY a_triedAt a_cellAt a_besideIn a_apart : Nat → Int32} {a_drawer a_mkept a_listed a_mkin a_tried a_takenAt a_waysOf : Nat → Int64} (v1 : Int32) (v2 : Int32) (v3 : Int64) (r : Int32) (z_a_listed : Nat → Int64) (h : mo_comesIn_listed v1 v2 v3 a_listed = some (r, z_a_listed)) : Met l yX12_comesIn (wm yX12_comesIn cX12_comesIn 8 (some .int)) (rmm 0 0) (va_Pc [.ref (ad 7), .int v1, .int v2, .long v3] (mB D ct ad y_km y_tp y_goes y_kin y_qd y_sides y_cuts y_flat y_cp y_cA y_cB y_1X y_1Y y_2X y_2Y y_tm y_cells a_mtape a_flood a_going a_field a_from a_mcrowds a_steps a_queue a_letter a_lineX a_lineY a_triedAt a_cellAt a_besideIn a_apart a_drawer a_mkept a_listed a_mkin a_tried a_takenAt a_waysOf)) (va_Qi (fun z (_ : Unit) => z = r) (fun _ t => mP D ct ad y_km y_tp y_goes y_kin y_qd y_sides y_cuts y_flat y_cp y_cA y_cB y_1X y_1Y y_2X y_2Y y_tm y_cells a_mtape a_flood a_going a_field a_from a_mcrowds a_steps a_queue a_letter a_lineX a_lineY a_triedAt a_cellAt a_besideIn a_apart a_drawer a_mkept z_a_listed a_mkin a_tried a_takenAt a_waysOf t.heap) (mA ad)) 0 0 (mA ad) := by
  refine met_s (y := yX12_comesIn) (rm := rmm 0 0) (by decide) (Nat.le_of_ble_eq_true rfl) ?_
  intro p e s m below meth c hx hb hr hw hown hlocks _ hml hB ls hl
  obtain ⟨hN, hK, hP⟩ := hB
  replace hl : lv_has ls 8 [(0, .ref (ad 7)), (1, .int v1), (2, .int v2), (3, .long v3)] := hl
  have hS : va_S (mA ad) s.heap s.heap [] := va_S.rf
  generalize (([.ref (ad 7), .int v1, .int v2, .long v3] : List Value).toArray) = av at hw ⊢
  rw [mo_comesIn_listed] at h
  have hL67 : ∀ (v2 : Int32), ∀ (v3 : Int64), ∀ (v5 : Int32), ∀ (n67 : Nat) (H : Heap) (locs : List Loc) (ls : Array Slot) (v7 : Int32) (a_listed : Nat → Int64), lv_has ls 8 [(0, .ref (ad 7)), (2, .int v2), (3, .long v3), (5, .int v5), (7, .int v7)] → mP D ct ad y_km y_tp y_goes y_kin y_qd y_sides y_cuts y_flat y_cp y_cA y_cB y_1X y_1Y y_2X y_2Y y_tm y_cells a_mtape a_flood a_going a_field a_from a_mcrowds a_steps a_queue a_letter a_lineX a_lineY a_triedAt a_cellAt a_besideIn a_apart a_drawer a_mkept a_listed a_mkin a_tried a_takenAt a_waysOf H → va_S (mA ad) s.heap H locs → fl2 (mo_comesIn_listed_B67 v2 v3 v5) n67 v7 a_listed = some (r, z_a_listed) → W p l e (rmm 0 0) s m av below meth c H locs 0 0 (MQ below (va_Qi (fun z (_ : Unit) => z = r) (fun _ t => mP D ct ad y_km y_tp y_goes y_kin y_qd y_sides y_cuts y_flat y_cp y_cA y_cB y_1X y_1Y y_2X y_2Y y_tm y_cells a_mtape a_flood a_going a_field a_from a_mcrowds a_steps a_queue a_letter a_lineX a_lineY a_triedAt a_cellAt a_besideIn a_apart a_drawer a_mkept z_a_listed a_mkin a_tried a_takenAt a_waysOf t.heap) (mA ad)) av s 0 0 (mA ad)) (F0 m 67 ls []) := by
    intro v2 v3 v5 n67
    induction n67 with
    | zero => intro H locs ls v7 a_listed hl hP hS h; cases h
    | succ n67 ih67 =>
      intro H locs ls v7 a_listed hl hP hS h
      replace h : mo_comesIn_listed_B67 v2 v3 v5 (fl2 (mo_comesIn_listed_B67 v2 v3 v5) n67) v7 a_listed = some (r, z_a_listed) := h
      generalize fl2 (mo_comesIn_listed_B67 v2 v3 v5) n67 = k67 at h ih67
      rw [mo_comesIn_listed_B67] at h
      refine lv_iload hx hb dX12_comesIn_67 (lv_at hl 4 rfl) ?_
      refine lv_iload hx hb dX12_comesIn_69 (lv_at hl 3 rfl) ?_
      refine lv_icmp_le hx hb dX12_comesIn_71 (tgt := 90) rfl (fun hc => ?_) (fun hc => ?_)
      · replace h := ifp h hc
        refine lv_aload_n hx hb dX12_comesIn_90 rfl (lv_at hl 0 rfl) ?_
        refine lv_iload hx hb dX12_comesIn_91 (lv_at hl 3 rfl) ?_
        refine lv_lload_n hx hb dX12_comesIn_93 rfl (lv_at hl 2 rfl) ?_
        obtain ⟨hin, h⟩ := ck_s h
        obtain ⟨a_listed_8, ea_listed_8, h⟩ := nm_s h
        refine ms_listed hx hb hK hP hI hS hin ea_listed_8 dX12_comesIn_94 (fun H locs hP hS => ?_)
        refine lv_iload_n hx hb dX12_comesIn_95 rfl (lv_at hl 1 rfl) ?_
        refine lv_iconst (v := 1) hx hb dX12_comesIn_96 ki_1 ?_
        refine lv_iadd hx hb dX12_comesIn_97 ?_
        simp only [Option.some.injEq, Prod.mk.injEq] at h
        obtain ⟨rfl, rfl⟩ := h
        exact rc_i hx hb hr hlocks hS dX12_comesIn_98 rfl hP
      · replace h := ifn h hc
        refine lv_aload_n hx hb dX12_comesIn_74 rfl (lv_at hl 0 rfl) ?_
        refine lv_iload hx hb dX12_comesIn_75 (lv_at hl 4 rfl) ?_
        refine lv_aload_n hx hb dX12_comesIn_77 rfl (lv_at hl 0 rfl) ?_
        refine lv_iload hx hb dX12_comesIn_78 (lv_at hl 4 rfl) ?_
        refine lv_iconst (v := 1) hx hb dX12_comesIn_80 ki_1 ?_
        refine lv_isub hx hb dX12_comesIn_81 ?_
        obtain ⟨i_9, ei_9, h⟩ := nm_s h
        refine nmI ei_9 ?_
        obtain ⟨hin, h⟩ := ck_s h
        refine md_listed hx hb hK hP hin dX12_comesIn_82 ?_
        obtain ⟨w_10, ew_10, h⟩ := nm_s h
        refine nmL ew_10 ?_
        obtain ⟨hin, h⟩ := ck_s h
        obtain ⟨a_listed_11, ea_listed_11, h⟩ := nm_s h
        refine ms_listed hx hb hK hP hI hS hin ea_listed_11 dX12_comesIn_83 (fun H locs hP hS => ?_)
        obtain ⟨v7_12, ev7_12, h⟩ := nm_s h
        refine lv_iinc hx hb dX12_comesIn_84 hl (k := 4) rfl ev7_12.symm (Nat.le_of_ble_eq_true rfl) (lv' := [(7, .int v7_12), (0, .ref (ad 7)), (2, .int v2), (3, .long v3), (5, .int v5)]) rfl (fun ls hl => ?_)
        refine lv_goto hx hb dX12_comesIn_87 (tgt := 67) rfl ?_
        exact ih67 _ _ _ v7_12 a_listed_11 (lv_sub hl [1, 2, 3, 4, 0] rfl) hP hS h
  have hJ64 : ∀ (H : Heap) (locs : List Loc) (ls : Array Slot) (v2 : Int32) (v3 : Int64) (v5 : Int32) (a_listed : Nat → Int64) , lv_has ls 8 [(0, .ref (ad 7)), (2, .int v2), (3, .long v3), (5, .int v5)] → mP D ct ad y_km y_tp y_goes y_kin y_qd y_sides y_cuts y_flat y_cp y_cA y_cB y_1X y_1Y y_2X y_2Y y_tm y_cells a_mtape a_flood a_going a_field a_from a_mcrowds a_steps a_queue a_letter a_lineX a_lineY a_triedAt a_cellAt a_besideIn a_apart a_drawer a_mkept a_listed a_mkin a_tried a_takenAt a_waysOf H → va_S (mA ad) s.heap H locs → mo_comesIn_listed_J64 v2 v3 v5 a_listed = some (r, z_a_listed) → W p l e (rmm 0 0) s m av below meth c H locs 0 0 (MQ below (va_Qi (fun z (_ : Unit) => z = r) (fun _ t => mP D ct ad y_km y_tp y_goes y_kin y_qd y_sides y_cuts y_flat y_cp y_cA y_cB y_1X y_1Y y_2X y_2Y y_tm y_cells a_mtape a_flood a_going a_field a_from a_mcrowds a_steps a_queue a_letter a_lineX a_lineY a_triedAt a_cellAt a_besideIn a_apart a_drawer a_mkept z_a_listed a_mkin a_tried a_takenAt a_waysOf t.heap) (mA ad)) av s 0 0 (mA ad)) (F0 m 64 ls []) := by
    intro H locs ls v2 v3 v5 a_listed  hl hP hS h
    rw [mo_comesIn_listed_J64] at h
    refine lv_iload_n hx hb dX12_comesIn_64 rfl (lv_at hl 1 rfl) ?_
    refine lv_istore hx hb dX12_comesIn_65 hl (Nat.le_of_ble_eq_true rfl) (lv' := [(7, .int v2), (0, .ref (ad 7)), (2, .int v2), (3, .long v3), (5, .int v5)]) rfl (fun ls hl => ?_)
    exact hL67 v2 v3 v5 FU _ _ _ v2 a_listed (lv_sub hl [1, 2, 3, 4, 0] rfl) hP hS h
  have hL6 : ∀ (v2 : Int32), ∀ (v3 : Int64), ∀ (a_listed : Nat → Int64), ∀ (n6 : Nat) (H : Heap) (locs : List Loc) (ls : Array Slot) (v5 : Int32) (v6 : Int32), lv_has ls 8 [(0, .ref (ad 7)), (2, .int v2), (3, .long v3), (5, .int v5), (6, .int v6)] → mP D ct ad y_km y_tp y_goes y_kin y_qd y_sides y_cuts y_flat y_cp y_cA y_cB y_1X y_1Y y_2X y_2Y y_tm y_cells a_mtape a_flood a_going a_field a_from a_mcrowds a_steps a_queue a_letter a_lineX a_lineY a_triedAt a_cellAt a_besideIn a_apart a_drawer a_mkept a_listed a_mkin a_tried a_takenAt a_waysOf H → va_S (mA ad) s.heap H locs → fl2 (mo_comesIn_listed_B6 v2 v3 a_listed) n6 v5 v6 = some (r, z_a_listed) → W p l e (rmm 0 0) s m av below meth c H locs 0 0 (MQ below (va_Qi (fun z (_ : Unit) => z = r) (fun _ t => mP D ct ad y_km y_tp y_goes y_kin y_qd y_sides y_cuts y_flat y_cp y_cA y_cB y_1X y_1Y y_2X y_2Y y_tm y_cells a_mtape a_flood a_going a_field a_from a_mcrowds a_steps a_queue a_letter a_lineX a_lineY a_triedAt a_cellAt a_besideIn a_apart a_drawer a_mkept z_a_listed a_mkin a_tried a_takenAt a_waysOf t.heap) (mA ad)) av s 0 0 (mA ad)) (F0 m 6 ls []) := by
    intro v2 v3 a_listed n6
    induction n6 with
    | zero => intro H locs ls v5 v6 hl hP hS h; cases h
    | succ n6 ih6 =>
      intro H locs ls v5 v6 hl hP hS h
      replace h : mo_comesIn_listed_B6 v2 v3 a_listed (fl2 (mo_comesIn_listed_B6 v2 v3 a_listed) n6) v5 v6 = some (r, z_a_listed) := h
      generalize fl2 (mo_comesIn_listed_B6 v2 v3 a_listed) n6 = k6 at h ih6
      rw [mo_comesIn_listed_B6] at h
      refine lv_iload hx hb dX12_comesIn_6 (lv_at hl 3 rfl) ?_
      refine lv_iload hx hb dX12_comesIn_8 (lv_at hl 4 rfl) ?_
      refine lv_icmp_ge hx hb dX12_comesIn_10 (tgt := 47) rfl (fun hc => ?_) (fun hc => ?_)
      · replace h := ifp h hc
        refine lv_iload hx hb dX12_comesIn_47 (lv_at hl 3 rfl) ?_
        refine lv_iload_n hx hb dX12_comesIn_49 rfl (lv_at hl 1 rfl) ?_
        refine lv_icmp_ge hx hb dX12_comesIn_50 (tgt := 64) rfl (fun hc => ?_) (fun hc => ?_)
        · replace h := ifp h hc
          exact hJ64 _ _ _ v2 v3 v5 a_listed (lv_sub hl [0, 1, 2, 3] rfl) hP hS h
        · replace h := ifn h hc
          refine lv_aload_n hx hb dX12_comesIn_53 rfl (lv_at hl 0 rfl) ?_
          refine lv_iload hx hb dX12_comesIn_54 (lv_at hl 3 rfl) ?_
          obtain ⟨hin, h⟩ := ck_s h
          refine md_listed hx hb hK hP hin dX12_comesIn_56 ?_
          refine lv_lload_n hx hb dX12_comesIn_57 rfl (lv_at hl 2 rfl) ?_
          refine W.lcmp hx hb dX12_comesIn_58 ?_
          refine lv_if_ne hx hb dX12_comesIn_59 (tgt := 64) rfl (fun hc => ?_) (fun hc => ?_)
          · replace h := ifn h (fun q => hc ((lg_cmp_eq _ _).mpr q))
            exact hJ64 _ _ _ v2 v3 v5 a_listed (lv_sub hl [0, 1, 2, 3] rfl) hP hS h
          · replace h := ifp h ((lg_cmp_eq _ _).mp hc)
            refine lv_iload_n hx hb dX12_comesIn_62 rfl (lv_at hl 1 rfl) ?_
            simp only [Option.some.injEq, Prod.mk.injEq] at h
            obtain ⟨rfl, rfl⟩ := h
            exact rc_i hx hb hr hlocks hS dX12_comesIn_63 rfl hP
      · replace h := ifn h hc
        refine lv_iload hx hb dX12_comesIn_13 (lv_at hl 3 rfl) ?_
        refine lv_iload hx hb dX12_comesIn_15 (lv_at hl 4 rfl) ?_
        refine lv_iadd hx hb dX12_comesIn_17 ?_
        refine lv_iconst (v := 2) hx hb dX12_comesIn_18 ki_2 ?_
        obtain ⟨hne, h⟩ := dzI_s h
        refine lv_idiv hx hb dX12_comesIn_19 hne ?_
        obtain ⟨v7_13, ev7_13, h⟩ := nm_s h
        refine nmI ev7_13 ?_
        refine lv_istore hx hb dX12_comesIn_20 hl (Nat.le_of_ble_eq_true rfl) (lv' := [(7, .int v7_13), (0, .ref (ad 7)), (2, .int v2), (3, .long v3), (5, .int v5), (6, .int v6)]) rfl (fun ls hl => ?_)
        refine lv_aload_n hx hb dX12_comesIn_22 rfl (lv_at hl 1 rfl) ?_
        refine lv_iload hx hb dX12_comesIn_23 (lv_at hl 0 rfl) ?_
        obtain ⟨hin, h⟩ := ck_s h
        refine md_listed hx hb hK hP hin dX12_comesIn_25 ?_
        refine lv_lload_n hx hb dX12_comesIn_26 rfl (lv_at hl 3 rfl) ?_
        refine W.lcmp hx hb dX12_comesIn_27 ?_
        refine lv_if_ge hx hb dX12_comesIn_28 (tgt := 40) rfl (fun hc => ?_) (fun hc => ?_)
        · replace h := ifp h ((lg_cmp_ge _ _).mp hc)
          refine lv_iload hx hb dX12_comesIn_40 (lv_at hl 0 rfl) ?_
          refine lv_istore hx hb dX12_comesIn_42 hl (Nat.le_of_ble_eq_true rfl) (lv' := [(6, .int v7_13), (7, .int v7_13), (0, .ref (ad 7)), (2, .int v2), (3, .long v3), (5, .int v5)]) rfl (fun ls hl => ?_)
          refine lv_goto hx hb dX12_comesIn_44 (tgt := 6) rfl ?_
          exact ih6 _ _ _ v5 v7_13 (lv_sub hl [2, 3, 4, 5, 0] rfl) hP hS h
        · replace h := ifn h (fun q => hc ((lg_cmp_ge _ _).mpr q))
          refine lv_iload hx hb dX12_comesIn_31 (lv_at hl 0 rfl) ?_
          refine lv_iconst (v := 1) hx hb dX12_comesIn_33 ki_1 ?_
          refine lv_iadd hx hb dX12_comesIn_34 ?_
          obtain ⟨v5_14, ev5_14, h⟩ := nm_s h
          refine nmI ev5_14 ?_
          refine lv_istore hx hb dX12_comesIn_35 hl (Nat.le_of_ble_eq_true rfl) (lv' := [(5, .int v5_14), (7, .int v7_13), (0, .ref (ad 7)), (2, .int v2), (3, .long v3), (6, .int v6)]) rfl (fun ls hl => ?_)
          refine lv_goto hx hb dX12_comesIn_37 (tgt := 44) rfl ?_
          refine lv_goto hx hb dX12_comesIn_44 (tgt := 6) rfl ?_
          exact ih6 _ _ _ v5_14 v6 (lv_sub hl [2, 3, 4, 0, 5] rfl) hP hS h
  refine lv_iload_n hx hb dX12_comesIn_0 rfl (lv_at hl 1 rfl) ?_
  refine lv_istore hx hb dX12_comesIn_1 hl (Nat.le_of_ble_eq_true rfl) (lv' := [(5, .int v1), (0, .ref (ad 7)), (1, .int v1), (2, .int v2), (3, .long v3)]) rfl (fun ls hl => ?_)
  refine lv_iload_n hx hb dX12_comesIn_3 rfl (lv_at hl 3 rfl) ?_
  refine lv_istore hx hb dX12_comesIn_4 hl (Nat.le_of_ble_eq_true rfl) (lv' := [(6, .int v2), (5, .int v1), (0, .ref (ad 7)), (1, .int v1), (2, .int v2), (3, .long v3)]) rfl (fun ls hl => ?_)
  exact hL6 v2 v3 a_listed FU _ _ _ v1 v2 (lv_sub hl [2, 4, 5, 1, 0] rfl) hP hS h
noncomputable def mo_comesIn_mkin_B67 (v2 : Int32) (v3 : Int64) (v5 : Int32)  (k67 : Int32 → (Nat → Int64) → Option (Int32 × (Nat → Int64))) (v7 : Int32) (a_mkin : Nat → Int64) : Option (Int32 × (Nat → Int64)) :=
  if v7 ≤ v5 then (ck v5 400 <|
  nm (vp_updL a_mkin v5.toNatClampNeg v3) fun a_mkin_1 =>
  some (v2 + 1, a_mkin_1)) else
  nm (v7 - 1 : Int32) fun i_2 =>
  ck i_2 400 <|
  nm (a_mkin i_2.toNatClampNeg : Int64) fun w_3 =>
  ck v7 400 <|
  nm (vp_updL a_mkin v7.toNatClampNeg w_3) fun a_mkin_4 =>
  nm (v7 + Int32.ofInt (-1)) fun v7_5 =>
  k67 v7_5 a_mkin_4
noncomputable def mo_comesIn_mkin_J64  (v2 : Int32) (v3 : Int64) (v5 : Int32) (a_mkin : Nat → Int64)  : Option (Int32 × (Nat → Int64)) :=
  fl2 (mo_comesIn_mkin_B67 v2 v3 v5) FU v2 a_mkin
noncomputable def mo_comesIn_mkin_B6 (v2 : Int32) (v3 : Int64) (a_mkin : Nat → Int64)  (k6 : Int32 → Int32 → Option (Int32 × (Nat → Int64))) (v5 : Int32) (v6 : Int32) : Option (Int32 × (Nat → Int64)) :=
  if v6 ≤ v5 then (if v2 ≤ v5 then (mo_comesIn_mkin_J64 v2 v3 v5 a_mkin) else
  ck v5 400 <|
  if (a_mkin v5.toNatClampNeg) = v3 then (some (v2, a_mkin)) else
  mo_comesIn_mkin_J64 v2 v3 v5 a_mkin) else
  dzI 2 <|
  nm ((v5 + v6) / 2 : Int32) fun v7_6 =>
  ck v7_6 400 <|
  if v3 ≤ (a_mkin v7_6.toNatClampNeg) then (k6 v5 v7_6) else
  nm (v7_6 + 1 : Int32) fun v5_7 =>
  k6 v5_7 v6
noncomputable def mo_comesIn_mkin (v1 : Int32) (v2 : Int32) (v3 : Int64) (a_mkin : Nat → Int64) : Option (Int32 × (Nat → Int64)) :=
  fl2 (mo_comesIn_mkin_B6 v2 v3 a_mkin) FU v1 v2
set_option maxHeartbeats 4000000 in
set_option maxRecDepth 100000 in
theorem c_mo_comesIn_mkin (l : Launch) (D : va_G) (ct : Nat → ClassId) (ad : Nat → Nat) (hI : mI ad) {y_km y_tp y_goes y_kin y_qd y_sides y_cuts y_flat y_cp y_cA y_cB y_1X y_1Y y_2X y_2Y y_tm y_cells : Int32} {a_mtape a_flood a_going a_field a_from a_mcrowds a_steps a_queue a_letter a_lineX a_lineY a_triedAt a_cellAt a_besideIn a_apart : Nat → Int32} {a_drawer a_mkept a_listed a_mkin a_tried a_takenAt a_waysOf : Nat → Int64} (v1 : Int32) (v2 : Int32) (v3 : Int64) (r : Int32) (z_a_mkin : Nat → Int64) (h : mo_comesIn_mkin v1 v2 v3 a_mkin = some (r, z_a_mkin)) : Met l yX12_comesIn (wm yX12_comesIn cX12_comesIn 8 (some .int)) (rmm 0 0) (va_Pc [.ref (ad 8), .int v1, .int v2, .long v3] (mB D ct ad y_km y_tp y_goes y_kin y_qd y_sides y_cuts y_flat y_cp y_cA y_cB y_1X y_1Y y_2X y_2Y y_tm y_cells a_mtape a_flood a_going a_field a_from a_mcrowds a_steps a_queue a_letter a_lineX a_lineY a_triedAt a_cellAt a_besideIn a_apart a_drawer a_mkept a_listed a_mkin a_tried a_takenAt a_waysOf)) (va_Qi (fun z (_ : Unit) => z = r) (fun _ t => mP D ct ad y_km y_tp y_goes y_kin y_qd y_sides y_cuts y_flat y_cp y_cA y_cB y_1X y_1Y y_2X y_2Y y_tm y_cells a_mtape a_flood a_going a_field a_from a_mcrowds a_steps a_queue a_letter a_lineX a_lineY a_triedAt a_cellAt a_besideIn a_apart a_drawer a_mkept a_listed z_a_mkin a_tried a_takenAt a_waysOf t.heap) (mA ad)) 0 0 (mA ad) := by
  refine met_s (y := yX12_comesIn) (rm := rmm 0 0) (by decide) (Nat.le_of_ble_eq_true rfl) ?_
  intro p e s m below meth c hx hb hr hw hown hlocks _ hml hB ls hl
  obtain ⟨hN, hK, hP⟩ := hB
  replace hl : lv_has ls 8 [(0, .ref (ad 8)), (1, .int v1), (2, .int v2), (3, .long v3)] := hl
  have hS : va_S (mA ad) s.heap s.heap [] := va_S.rf
  generalize (([.ref (ad 8), .int v1, .int v2, .long v3] : List Value).toArray) = av at hw ⊢
  rw [mo_comesIn_mkin] at h
  have hL67 : ∀ (v2 : Int32), ∀ (v3 : Int64), ∀ (v5 : Int32), ∀ (n67 : Nat) (H : Heap) (locs : List Loc) (ls : Array Slot) (v7 : Int32) (a_mkin : Nat → Int64), lv_has ls 8 [(0, .ref (ad 8)), (2, .int v2), (3, .long v3), (5, .int v5), (7, .int v7)] → mP D ct ad y_km y_tp y_goes y_kin y_qd y_sides y_cuts y_flat y_cp y_cA y_cB y_1X y_1Y y_2X y_2Y y_tm y_cells a_mtape a_flood a_going a_field a_from a_mcrowds a_steps a_queue a_letter a_lineX a_lineY a_triedAt a_cellAt a_besideIn a_apart a_drawer a_mkept a_listed a_mkin a_tried a_takenAt a_waysOf H → va_S (mA ad) s.heap H locs → fl2 (mo_comesIn_mkin_B67 v2 v3 v5) n67 v7 a_mkin = some (r, z_a_mkin) → W p l e (rmm 0 0) s m av below meth c H locs 0 0 (MQ below (va_Qi (fun z (_ : Unit) => z = r) (fun _ t => mP D ct ad y_km y_tp y_goes y_kin y_qd y_sides y_cuts y_flat y_cp y_cA y_cB y_1X y_1Y y_2X y_2Y y_tm y_cells a_mtape a_flood a_going a_field a_from a_mcrowds a_steps a_queue a_letter a_lineX a_lineY a_triedAt a_cellAt a_besideIn a_apart a_drawer a_mkept a_listed z_a_mkin a_tried a_takenAt a_waysOf t.heap) (mA ad)) av s 0 0 (mA ad)) (F0 m 67 ls []) := by
    intro v2 v3 v5 n67
    induction n67 with
    | zero => intro H locs ls v7 a_mkin hl hP hS h; cases h
    | succ n67 ih67 =>
      intro H locs ls v7 a_mkin hl hP hS h
      replace h : mo_comesIn_mkin_B67 v2 v3 v5 (fl2 (mo_comesIn_mkin_B67 v2 v3 v5) n67) v7 a_mkin = some (r, z_a_mkin) := h
      generalize fl2 (mo_comesIn_mkin_B67 v2 v3 v5) n67 = k67 at h ih67
      rw [mo_comesIn_mkin_B67] at h
      refine lv_iload hx hb dX12_comesIn_67 (lv_at hl 4 rfl) ?_
      refine lv_iload hx hb dX12_comesIn_69 (lv_at hl 3 rfl) ?_
      refine lv_icmp_le hx hb dX12_comesIn_71 (tgt := 90) rfl (fun hc => ?_) (fun hc => ?_)
      · replace h := ifp h hc
        refine lv_aload_n hx hb dX12_comesIn_90 rfl (lv_at hl 0 rfl) ?_
        refine lv_iload hx hb dX12_comesIn_91 (lv_at hl 3 rfl) ?_
        refine lv_lload_n hx hb dX12_comesIn_93 rfl (lv_at hl 2 rfl) ?_
        obtain ⟨hin, h⟩ := ck_s h
        obtain ⟨a_mkin_8, ea_mkin_8, h⟩ := nm_s h
        refine ms_mkin hx hb hK hP hI hS hin ea_mkin_8 dX12_comesIn_94 (fun H locs hP hS => ?_)
        refine lv_iload_n hx hb dX12_comesIn_95 rfl (lv_at hl 1 rfl) ?_
        refine lv_iconst (v := 1) hx hb dX12_comesIn_96 ki_1 ?_
        refine lv_iadd hx hb dX12_comesIn_97 ?_
        simp only [Option.some.injEq, Prod.mk.injEq] at h
        obtain ⟨rfl, rfl⟩ := h
        exact rc_i hx hb hr hlocks hS dX12_comesIn_98 rfl hP
      · replace h := ifn h hc
        refine lv_aload_n hx hb dX12_comesIn_74 rfl (lv_at hl 0 rfl) ?_
        refine lv_iload hx hb dX12_comesIn_75 (lv_at hl 4 rfl) ?_
        refine lv_aload_n hx hb dX12_comesIn_77 rfl (lv_at hl 0 rfl) ?_
        refine lv_iload hx hb dX12_comesIn_78 (lv_at hl 4 rfl) ?_
        refine lv_iconst (v := 1) hx hb dX12_comesIn_80 ki_1 ?_
        refine lv_isub hx hb dX12_comesIn_81 ?_
        obtain ⟨i_9, ei_9, h⟩ := nm_s h
        refine nmI ei_9 ?_
        obtain ⟨hin, h⟩ := ck_s h
        refine md_mkin hx hb hK hP hin dX12_comesIn_82 ?_
        obtain ⟨w_10, ew_10, h⟩ := nm_s h
        refine nmL ew_10 ?_
        obtain ⟨hin, h⟩ := ck_s h
        obtain ⟨a_mkin_11, ea_mkin_11, h⟩ := nm_s h
        refine ms_mkin hx hb hK hP hI hS hin ea_mkin_11 dX12_comesIn_83 (fun H locs hP hS => ?_)
        obtain ⟨v7_12, ev7_12, h⟩ := nm_s h
        refine lv_iinc hx hb dX12_comesIn_84 hl (k := 4) rfl ev7_12.symm (Nat.le_of_ble_eq_true rfl) (lv' := [(7, .int v7_12), (0, .ref (ad 8)), (2, .int v2), (3, .long v3), (5, .int v5)]) rfl (fun ls hl => ?_)
        refine lv_goto hx hb dX12_comesIn_87 (tgt := 67) rfl ?_
        exact ih67 _ _ _ v7_12 a_mkin_11 (lv_sub hl [1, 2, 3, 4, 0] rfl) hP hS h
  have hJ64 : ∀ (H : Heap) (locs : List Loc) (ls : Array Slot) (v2 : Int32) (v3 : Int64) (v5 : Int32) (a_mkin : Nat → Int64) , lv_has ls 8 [(0, .ref (ad 8)), (2, .int v2), (3, .long v3), (5, .int v5)] → mP D ct ad y_km y_tp y_goes y_kin y_qd y_sides y_cuts y_flat y_cp y_cA y_cB y_1X y_1Y y_2X y_2Y y_tm y_cells a_mtape a_flood a_going a_field a_from a_mcrowds a_steps a_queue a_letter a_lineX a_lineY a_triedAt a_cellAt a_besideIn a_apart a_drawer a_mkept a_listed a_mkin a_tried a_takenAt a_waysOf H → va_S (mA ad) s.heap H locs → mo_comesIn_mkin_J64 v2 v3 v5 a_mkin = some (r, z_a_mkin) → W p l e (rmm 0 0) s m av below meth c H locs 0 0 (MQ below (va_Qi (fun z (_ : Unit) => z = r) (fun _ t => mP D ct ad y_km y_tp y_goes y_kin y_qd y_sides y_cuts y_flat y_cp y_cA y_cB y_1X y_1Y y_2X y_2Y y_tm y_cells a_mtape a_flood a_going a_field a_from a_mcrowds a_steps a_queue a_letter a_lineX a_lineY a_triedAt a_cellAt a_besideIn a_apart a_drawer a_mkept a_listed z_a_mkin a_tried a_takenAt a_waysOf t.heap) (mA ad)) av s 0 0 (mA ad)) (F0 m 64 ls []) := by
    intro H locs ls v2 v3 v5 a_mkin  hl hP hS h
    rw [mo_comesIn_mkin_J64] at h
    refine lv_iload_n hx hb dX12_comesIn_64 rfl (lv_at hl 1 rfl) ?_
    refine lv_istore hx hb dX12_comesIn_65 hl (Nat.le_of_ble_eq_true rfl) (lv' := [(7, .int v2), (0, .ref (ad 8)), (2, .int v2), (3, .long v3), (5, .int v5)]) rfl (fun ls hl => ?_)
    exact hL67 v2 v3 v5 FU _ _ _ v2 a_mkin (lv_sub hl [1, 2, 3, 4, 0] rfl) hP hS h
  have hL6 : ∀ (v2 : Int32), ∀ (v3 : Int64), ∀ (a_mkin : Nat → Int64), ∀ (n6 : Nat) (H : Heap) (locs : List Loc) (ls : Array Slot) (v5 : Int32) (v6 : Int32), lv_has ls 8 [(0, .ref (ad 8)), (2, .int v2), (3, .long v3), (5, .int v5), (6, .int v6)] → mP D ct ad y_km y_tp y_goes y_kin y_qd y_sides y_cuts y_flat y_cp y_cA y_cB y_1X y_1Y y_2X y_2Y y_tm y_cells a_mtape a_flood a_going a_field a_from a_mcrowds a_steps a_queue a_letter a_lineX a_lineY a_triedAt a_cellAt a_besideIn a_apart a_drawer a_mkept a_listed a_mkin a_tried a_takenAt a_waysOf H → va_S (mA ad) s.heap H locs → fl2 (mo_comesIn_mkin_B6 v2 v3 a_mkin) n6 v5 v6 = some (r, z_a_mkin) → W p l e (rmm 0 0) s m av below meth c H locs 0 0 (MQ below (va_Qi (fun z (_ : Unit) => z = r) (fun _ t => mP D ct ad y_km y_tp y_goes y_kin y_qd y_sides y_cuts y_flat y_cp y_cA y_cB y_1X y_1Y y_2X y_2Y y_tm y_cells a_mtape a_flood a_going a_field a_from a_mcrowds a_steps a_queue a_letter a_lineX a_lineY a_triedAt a_cellAt a_besideIn a_apart a_drawer a_mkept a_listed z_a_mkin a_tried a_takenAt a_waysOf t.heap) (mA ad)) av s 0 0 (mA ad)) (F0 m 6 ls []) := by
    intro v2 v3 a_mkin n6
    induction n6 with
    | zero => intro H locs ls v5 v6 hl hP hS h; cases h
    | succ n6 ih6 =>
      intro H locs ls v5 v6 hl hP hS h
      replace h : mo_comesIn_mkin_B6 v2 v3 a_mkin (fl2 (mo_comesIn_mkin_B6 v2 v3 a_mkin) n6) v5 v6 = some (r, z_a_mkin) := h
      generalize fl2 (mo_comesIn_mkin_B6 v2 v3 a_mkin) n6 = k6 at h ih6
      rw [mo_comesIn_mkin_B6] at h
      refine lv_iload hx hb dX12_comesIn_6 (lv_at hl 3 rfl) ?_
      refine lv_iload hx hb dX12_comesIn_8 (lv_at hl 4 rfl) ?_
      refine lv_icmp_ge hx hb dX12_comesIn_10 (tgt := 47) rfl (fun hc => ?_) (fun hc => ?_)
      · replace h := ifp h hc
        refine lv_iload hx hb dX12_comesIn_47 (lv_at hl 3 rfl) ?_
        refine lv_iload_n hx hb dX12_comesIn_49 rfl (lv_at hl 1 rfl) ?_
        refine lv_icmp_ge hx hb dX12_comesIn_50 (tgt := 64) rfl (fun hc => ?_) (fun hc => ?_)
        · replace h := ifp h hc
          exact hJ64 _ _ _ v2 v3 v5 a_mkin (lv_sub hl [0, 1, 2, 3] rfl) hP hS h
        · replace h := ifn h hc
          refine lv_aload_n hx hb dX12_comesIn_53 rfl (lv_at hl 0 rfl) ?_
          refine lv_iload hx hb dX12_comesIn_54 (lv_at hl 3 rfl) ?_
          obtain ⟨hin, h⟩ := ck_s h
          refine md_mkin hx hb hK hP hin dX12_comesIn_56 ?_
          refine lv_lload_n hx hb dX12_comesIn_57 rfl (lv_at hl 2 rfl) ?_
          refine W.lcmp hx hb dX12_comesIn_58 ?_
          refine lv_if_ne hx hb dX12_comesIn_59 (tgt := 64) rfl (fun hc => ?_) (fun hc => ?_)
          · replace h := ifn h (fun q => hc ((lg_cmp_eq _ _).mpr q))
            exact hJ64 _ _ _ v2 v3 v5 a_mkin (lv_sub hl [0, 1, 2, 3] rfl) hP hS h
          · replace h := ifp h ((lg_cmp_eq _ _).mp hc)
            refine lv_iload_n hx hb dX12_comesIn_62 rfl (lv_at hl 1 rfl) ?_
            simp only [Option.some.injEq, Prod.mk.injEq] at h
            obtain ⟨rfl, rfl⟩ := h
            exact rc_i hx hb hr hlocks hS dX12_comesIn_63 rfl hP
      · replace h := ifn h hc
        refine lv_iload hx hb dX12_comesIn_13 (lv_at hl 3 rfl) ?_
        refine lv_iload hx hb dX12_comesIn_15 (lv_at hl 4 rfl) ?_
        refine lv_iadd hx hb dX12_comesIn_17 ?_
        refine lv_iconst (v := 2) hx hb dX12_comesIn_18 ki_2 ?_
        obtain ⟨hne, h⟩ := dzI_s h
        refine lv_idiv hx hb dX12_comesIn_19 hne ?_
        obtain ⟨v7_13, ev7_13, h⟩ := nm_s h
        refine nmI ev7_13 ?_
        refine lv_istore hx hb dX12_comesIn_20 hl (Nat.le_of_ble_eq_true rfl) (lv' := [(7, .int v7_13), (0, .ref (ad 8)), (2, .int v2), (3, .long v3), (5, .int v5), (6, .int v6)]) rfl (fun ls hl => ?_)
        refine lv_aload_n hx hb dX12_comesIn_22 rfl (lv_at hl 1 rfl) ?_
        refine lv_iload hx hb dX12_comesIn_23 (lv_at hl 0 rfl) ?_
        obtain ⟨hin, h⟩ := ck_s h
        refine md_mkin hx hb hK hP hin dX12_comesIn_25 ?_
        refine lv_lload_n hx hb dX12_comesIn_26 rfl (lv_at hl 3 rfl) ?_
        refine W.lcmp hx hb dX12_comesIn_27 ?_
        refine lv_if_ge hx hb dX12_comesIn_28 (tgt := 40) rfl (fun hc => ?_) (fun hc => ?_)
        · replace h := ifp h ((lg_cmp_ge _ _).mp hc)
          refine lv_iload hx hb dX12_comesIn_40 (lv_at hl 0 rfl) ?_
          refine lv_istore hx hb dX12_comesIn_42 hl (Nat.le_of_ble_eq_true rfl) (lv' := [(6, .int v7_13), (7, .int v7_13), (0, .ref (ad 8)), (2, .int v2), (3, .long v3), (5, .int v5)]) rfl (fun ls hl => ?_)
          refine lv_goto hx hb dX12_comesIn_44 (tgt := 6) rfl ?_
          exact ih6 _ _ _ v5 v7_13 (lv_sub hl [2, 3, 4, 5, 0] rfl) hP hS h
        · replace h := ifn h (fun q => hc ((lg_cmp_ge _ _).mpr q))
          refine lv_iload hx hb dX12_comesIn_31 (lv_at hl 0 rfl) ?_
          refine lv_iconst (v := 1) hx hb dX12_comesIn_33 ki_1 ?_
          refine lv_iadd hx hb dX12_comesIn_34 ?_
          obtain ⟨v5_14, ev5_14, h⟩ := nm_s h
          refine nmI ev5_14 ?_
          refine lv_istore hx hb dX12_comesIn_35 hl (Nat.le_of_ble_eq_true rfl) (lv' := [(5, .int v5_14), (7, .int v7_13), (0, .ref (ad 8)), (2, .int v2), (3, .long v3), (6, .int v6)]) rfl (fun ls hl => ?_)
          refine lv_goto hx hb dX12_comesIn_37 (tgt := 44) rfl ?_
          refine lv_goto hx hb dX12_comesIn_44 (tgt := 6) rfl ?_
          exact ih6 _ _ _ v5_14 v6 (lv_sub hl [2, 3, 4, 0, 5] rfl) hP hS h
  refine lv_iload_n hx hb dX12_comesIn_0 rfl (lv_at hl 1 rfl) ?_
  refine lv_istore hx hb dX12_comesIn_1 hl (Nat.le_of_ble_eq_true rfl) (lv' := [(5, .int v1), (0, .ref (ad 8)), (1, .int v1), (2, .int v2), (3, .long v3)]) rfl (fun ls hl => ?_)
  refine lv_iload_n hx hb dX12_comesIn_3 rfl (lv_at hl 3 rfl) ?_
  refine lv_istore hx hb dX12_comesIn_4 hl (Nat.le_of_ble_eq_true rfl) (lv' := [(6, .int v2), (5, .int v1), (0, .ref (ad 8)), (1, .int v1), (2, .int v2), (3, .long v3)]) rfl (fun ls hl => ?_)
  exact hL6 v2 v3 a_mkin FU _ _ _ v1 v2 (lv_sub hl [2, 4, 5, 1, 0] rfl) hP hS h
noncomputable def mo_comesIn_tried_B67 (v2 : Int32) (v3 : Int64) (v5 : Int32)  (k67 : Int32 → (Nat → Int64) → Option (Int32 × (Nat → Int64))) (v7 : Int32) (a_tried : Nat → Int64) : Option (Int32 × (Nat → Int64)) :=
  if v7 ≤ v5 then (ck v5 64 <|
  nm (vp_updL a_tried v5.toNatClampNeg v3) fun a_tried_1 =>
  some (v2 + 1, a_tried_1)) else
  nm (v7 - 1 : Int32) fun i_2 =>
  ck i_2 64 <|
  nm (a_tried i_2.toNatClampNeg : Int64) fun w_3 =>
  ck v7 64 <|
  nm (vp_updL a_tried v7.toNatClampNeg w_3) fun a_tried_4 =>
  nm (v7 + Int32.ofInt (-1)) fun v7_5 =>
  k67 v7_5 a_tried_4
noncomputable def mo_comesIn_tried_J64  (v2 : Int32) (v3 : Int64) (v5 : Int32) (a_tried : Nat → Int64)  : Option (Int32 × (Nat → Int64)) :=
  fl2 (mo_comesIn_tried_B67 v2 v3 v5) FU v2 a_tried
noncomputable def mo_comesIn_tried_B6 (v2 : Int32) (v3 : Int64) (a_tried : Nat → Int64)  (k6 : Int32 → Int32 → Option (Int32 × (Nat → Int64))) (v5 : Int32) (v6 : Int32) : Option (Int32 × (Nat → Int64)) :=
  if v6 ≤ v5 then (if v2 ≤ v5 then (mo_comesIn_tried_J64 v2 v3 v5 a_tried) else
  ck v5 64 <|
  if (a_tried v5.toNatClampNeg) = v3 then (some (v2, a_tried)) else
  mo_comesIn_tried_J64 v2 v3 v5 a_tried) else
  dzI 2 <|
  nm ((v5 + v6) / 2 : Int32) fun v7_6 =>
  ck v7_6 64 <|
  if v3 ≤ (a_tried v7_6.toNatClampNeg) then (k6 v5 v7_6) else
  nm (v7_6 + 1 : Int32) fun v5_7 =>
  k6 v5_7 v6
noncomputable def mo_comesIn_tried (v1 : Int32) (v2 : Int32) (v3 : Int64) (a_tried : Nat → Int64) : Option (Int32 × (Nat → Int64)) :=
  fl2 (mo_comesIn_tried_B6 v2 v3 a_tried) FU v1 v2
set_option maxHeartbeats 4000000 in
set_option maxRecDepth 100000 in
theorem c_mo_comesIn_tried (l : Launch) (D : va_G) (ct : Nat → ClassId) (ad : Nat → Nat) (hI : mI ad) {y_km y_tp y_goes y_kin y_qd y_sides y_cuts y_flat y_cp y_cA y_cB y_1X y_1Y y_2X y_2Y y_tm y_cells : Int32} {a_mtape a_flood a_going a_field a_from a_mcrowds a_steps a_queue a_letter a_lineX a_lineY a_triedAt a_cellAt a_besideIn a_apart : Nat → Int32} {a_drawer a_mkept a_listed a_mkin a_tried a_takenAt a_waysOf : Nat → Int64} (v1 : Int32) (v2 : Int32) (v3 : Int64) (r : Int32) (z_a_tried : Nat → Int64) (h : mo_comesIn_tried v1 v2 v3 a_tried = some (r, z_a_tried)) : Met l yX12_comesIn (wm yX12_comesIn cX12_comesIn 8 (some .int)) (rmm 0 0) (va_Pc [.ref (ad 16), .int v1, .int v2, .long v3] (mB D ct ad y_km y_tp y_goes y_kin y_qd y_sides y_cuts y_flat y_cp y_cA y_cB y_1X y_1Y y_2X y_2Y y_tm y_cells a_mtape a_flood a_going a_field a_from a_mcrowds a_steps a_queue a_letter a_lineX a_lineY a_triedAt a_cellAt a_besideIn a_apart a_drawer a_mkept a_listed a_mkin a_tried a_takenAt a_waysOf)) (va_Qi (fun z (_ : Unit) => z = r) (fun _ t => mP D ct ad y_km y_tp y_goes y_kin y_qd y_sides y_cuts y_flat y_cp y_cA y_cB y_1X y_1Y y_2X y_2Y y_tm y_cells a_mtape a_flood a_going a_field a_from a_mcrowds a_steps a_queue a_letter a_lineX a_lineY a_triedAt a_cellAt a_besideIn a_apart a_drawer a_mkept a_listed a_mkin z_a_tried a_takenAt a_waysOf t.heap) (mA ad)) 0 0 (mA ad) := by
  refine met_s (y := yX12_comesIn) (rm := rmm 0 0) (by decide) (Nat.le_of_ble_eq_true rfl) ?_
  intro p e s m below meth c hx hb hr hw hown hlocks _ hml hB ls hl
  obtain ⟨hN, hK, hP⟩ := hB
  replace hl : lv_has ls 8 [(0, .ref (ad 16)), (1, .int v1), (2, .int v2), (3, .long v3)] := hl
  have hS : va_S (mA ad) s.heap s.heap [] := va_S.rf
  generalize (([.ref (ad 16), .int v1, .int v2, .long v3] : List Value).toArray) = av at hw ⊢
  rw [mo_comesIn_tried] at h
  have hL67 : ∀ (v2 : Int32), ∀ (v3 : Int64), ∀ (v5 : Int32), ∀ (n67 : Nat) (H : Heap) (locs : List Loc) (ls : Array Slot) (v7 : Int32) (a_tried : Nat → Int64), lv_has ls 8 [(0, .ref (ad 16)), (2, .int v2), (3, .long v3), (5, .int v5), (7, .int v7)] → mP D ct ad y_km y_tp y_goes y_kin y_qd y_sides y_cuts y_flat y_cp y_cA y_cB y_1X y_1Y y_2X y_2Y y_tm y_cells a_mtape a_flood a_going a_field a_from a_mcrowds a_steps a_queue a_letter a_lineX a_lineY a_triedAt a_cellAt a_besideIn a_apart a_drawer a_mkept a_listed a_mkin a_tried a_takenAt a_waysOf H → va_S (mA ad) s.heap H locs → fl2 (mo_comesIn_tried_B67 v2 v3 v5) n67 v7 a_tried = some (r, z_a_tried) → W p l e (rmm 0 0) s m av below meth c H locs 0 0 (MQ below (va_Qi (fun z (_ : Unit) => z = r) (fun _ t => mP D ct ad y_km y_tp y_goes y_kin y_qd y_sides y_cuts y_flat y_cp y_cA y_cB y_1X y_1Y y_2X y_2Y y_tm y_cells a_mtape a_flood a_going a_field a_from a_mcrowds a_steps a_queue a_letter a_lineX a_lineY a_triedAt a_cellAt a_besideIn a_apart a_drawer a_mkept a_listed a_mkin z_a_tried a_takenAt a_waysOf t.heap) (mA ad)) av s 0 0 (mA ad)) (F0 m 67 ls []) := by
    intro v2 v3 v5 n67
    induction n67 with
    | zero => intro H locs ls v7 a_tried hl hP hS h; cases h
    | succ n67 ih67 =>
      intro H locs ls v7 a_tried hl hP hS h
      replace h : mo_comesIn_tried_B67 v2 v3 v5 (fl2 (mo_comesIn_tried_B67 v2 v3 v5) n67) v7 a_tried = some (r, z_a_tried) := h
      generalize fl2 (mo_comesIn_tried_B67 v2 v3 v5) n67 = k67 at h ih67
      rw [mo_comesIn_tried_B67] at h
      refine lv_iload hx hb dX12_comesIn_67 (lv_at hl 4 rfl) ?_
      refine lv_iload hx hb dX12_comesIn_69 (lv_at hl 3 rfl) ?_
      refine lv_icmp_le hx hb dX12_comesIn_71 (tgt := 90) rfl (fun hc => ?_) (fun hc => ?_)
      · replace h := ifp h hc
        refine lv_aload_n hx hb dX12_comesIn_90 rfl (lv_at hl 0 rfl) ?_
        refine lv_iload hx hb dX12_comesIn_91 (lv_at hl 3 rfl) ?_
        refine lv_lload_n hx hb dX12_comesIn_93 rfl (lv_at hl 2 rfl) ?_
        obtain ⟨hin, h⟩ := ck_s h
        obtain ⟨a_tried_8, ea_tried_8, h⟩ := nm_s h
        refine ms_tried hx hb hK hP hI hS hin ea_tried_8 dX12_comesIn_94 (fun H locs hP hS => ?_)
        refine lv_iload_n hx hb dX12_comesIn_95 rfl (lv_at hl 1 rfl) ?_
        refine lv_iconst (v := 1) hx hb dX12_comesIn_96 ki_1 ?_
        refine lv_iadd hx hb dX12_comesIn_97 ?_
        simp only [Option.some.injEq, Prod.mk.injEq] at h
        obtain ⟨rfl, rfl⟩ := h
        exact rc_i hx hb hr hlocks hS dX12_comesIn_98 rfl hP
      · replace h := ifn h hc
        refine lv_aload_n hx hb dX12_comesIn_74 rfl (lv_at hl 0 rfl) ?_
        refine lv_iload hx hb dX12_comesIn_75 (lv_at hl 4 rfl) ?_
        refine lv_aload_n hx hb dX12_comesIn_77 rfl (lv_at hl 0 rfl) ?_
        refine lv_iload hx hb dX12_comesIn_78 (lv_at hl 4 rfl) ?_
        refine lv_iconst (v := 1) hx hb dX12_comesIn_80 ki_1 ?_
        refine lv_isub hx hb dX12_comesIn_81 ?_
        obtain ⟨i_9, ei_9, h⟩ := nm_s h
        refine nmI ei_9 ?_
        obtain ⟨hin, h⟩ := ck_s h
        refine md_tried hx hb hK hP hin dX12_comesIn_82 ?_
        obtain ⟨w_10, ew_10, h⟩ := nm_s h
        refine nmL ew_10 ?_
        obtain ⟨hin, h⟩ := ck_s h
        obtain ⟨a_tried_11, ea_tried_11, h⟩ := nm_s h
        refine ms_tried hx hb hK hP hI hS hin ea_tried_11 dX12_comesIn_83 (fun H locs hP hS => ?_)
        obtain ⟨v7_12, ev7_12, h⟩ := nm_s h
        refine lv_iinc hx hb dX12_comesIn_84 hl (k := 4) rfl ev7_12.symm (Nat.le_of_ble_eq_true rfl) (lv' := [(7, .int v7_12), (0, .ref (ad 16)), (2, .int v2), (3, .long v3), (5, .int v5)]) rfl (fun ls hl => ?_)
        refine lv_goto hx hb dX12_comesIn_87 (tgt := 67) rfl ?_
        exact ih67 _ _ _ v7_12 a_tried_11 (lv_sub hl [1, 2, 3, 4, 0] rfl) hP hS h
  have hJ64 : ∀ (H : Heap) (locs : List Loc) (ls : Array Slot) (v2 : Int32) (v3 : Int64) (v5 : Int32) (a_tried : Nat → Int64) , lv_has ls 8 [(0, .ref (ad 16)), (2, .int v2), (3, .long v3), (5, .int v5)] → mP D ct ad y_km y_tp y_goes y_kin y_qd y_sides y_cuts y_flat y_cp y_cA y_cB y_1X y_1Y y_2X y_2Y y_tm y_cells a_mtape a_flood a_going a_field a_from a_mcrowds a_steps a_queue a_letter a_lineX a_lineY a_triedAt a_cellAt a_besideIn a_apart a_drawer a_mkept a_listed a_mkin a_tried a_takenAt a_waysOf H → va_S (mA ad) s.heap H locs → mo_comesIn_tried_J64 v2 v3 v5 a_tried = some (r, z_a_tried) → W p l e (rmm 0 0) s m av below meth c H locs 0 0 (MQ below (va_Qi (fun z (_ : Unit) => z = r) (fun _ t => mP D ct ad y_km y_tp y_goes y_kin y_qd y_sides y_cuts y_flat y_cp y_cA y_cB y_1X y_1Y y_2X y_2Y y_tm y_cells a_mtape a_flood a_going a_field a_from a_mcrowds a_steps a_queue a_letter a_lineX a_lineY a_triedAt a_cellAt a_besideIn a_apart a_drawer a_mkept a_listed a_mkin z_a_tried a_takenAt a_waysOf t.heap) (mA ad)) av s 0 0 (mA ad)) (F0 m 64 ls []) := by
    intro H locs ls v2 v3 v5 a_tried  hl hP hS h
    rw [mo_comesIn_tried_J64] at h
    refine lv_iload_n hx hb dX12_comesIn_64 rfl (lv_at hl 1 rfl) ?_
    refine lv_istore hx hb dX12_comesIn_65 hl (Nat.le_of_ble_eq_true rfl) (lv' := [(7, .int v2), (0, .ref (ad 16)), (2, .int v2), (3, .long v3), (5, .int v5)]) rfl (fun ls hl => ?_)
    exact hL67 v2 v3 v5 FU _ _ _ v2 a_tried (lv_sub hl [1, 2, 3, 4, 0] rfl) hP hS h
  have hL6 : ∀ (v2 : Int32), ∀ (v3 : Int64), ∀ (a_tried : Nat → Int64), ∀ (n6 : Nat) (H : Heap) (locs : List Loc) (ls : Array Slot) (v5 : Int32) (v6 : Int32), lv_has ls 8 [(0, .ref (ad 16)), (2, .int v2), (3, .long v3), (5, .int v5), (6, .int v6)] → mP D ct ad y_km y_tp y_goes y_kin y_qd y_sides y_cuts y_flat y_cp y_cA y_cB y_1X y_1Y y_2X y_2Y y_tm y_cells a_mtape a_flood a_going a_field a_from a_mcrowds a_steps a_queue a_letter a_lineX a_lineY a_triedAt a_cellAt a_besideIn a_apart a_drawer a_mkept a_listed a_mkin a_tried a_takenAt a_waysOf H → va_S (mA ad) s.heap H locs → fl2 (mo_comesIn_tried_B6 v2 v3 a_tried) n6 v5 v6 = some (r, z_a_tried) → W p l e (rmm 0 0) s m av below meth c H locs 0 0 (MQ below (va_Qi (fun z (_ : Unit) => z = r) (fun _ t => mP D ct ad y_km y_tp y_goes y_kin y_qd y_sides y_cuts y_flat y_cp y_cA y_cB y_1X y_1Y y_2X y_2Y y_tm y_cells a_mtape a_flood a_going a_field a_from a_mcrowds a_steps a_queue a_letter a_lineX a_lineY a_triedAt a_cellAt a_besideIn a_apart a_drawer a_mkept a_listed a_mkin z_a_tried a_takenAt a_waysOf t.heap) (mA ad)) av s 0 0 (mA ad)) (F0 m 6 ls []) := by
    intro v2 v3 a_tried n6
    induction n6 with
    | zero => intro H locs ls v5 v6 hl hP hS h; cases h
    | succ n6 ih6 =>
      intro H locs ls v5 v6 hl hP hS h
      replace h : mo_comesIn_tried_B6 v2 v3 a_tried (fl2 (mo_comesIn_tried_B6 v2 v3 a_tried) n6) v5 v6 = some (r, z_a_tried) := h
      generalize fl2 (mo_comesIn_tried_B6 v2 v3 a_tried) n6 = k6 at h ih6
      rw [mo_comesIn_tried_B6] at h
      refine lv_iload hx hb dX12_comesIn_6 (lv_at hl 3 rfl) ?_
      refine lv_iload hx hb dX12_comesIn_8 (lv_at hl 4 rfl) ?_
      refine lv_icmp_ge hx hb dX12_comesIn_10 (tgt := 47) rfl (fun hc => ?_) (fun hc => ?_)
      · replace h := ifp h hc
        refine lv_iload hx hb dX12_comesIn_47 (lv_at hl 3 rfl) ?_
        refine lv_iload_n hx hb dX12_comesIn_49 rfl (lv_at hl 1 rfl) ?_
        refine lv_icmp_ge hx hb dX12_comesIn_50 (tgt := 64) rfl (fun hc => ?_) (fun hc => ?_)
        · replace h := ifp h hc
          exact hJ64 _ _ _ v2 v3 v5 a_tried (lv_sub hl [0, 1, 2, 3] rfl) hP hS h
        · replace h := ifn h hc
          refine lv_aload_n hx hb dX12_comesIn_53 rfl (lv_at hl 0 rfl) ?_
          refine lv_iload hx hb dX12_comesIn_54 (lv_at hl 3 rfl) ?_
          obtain ⟨hin, h⟩ := ck_s h
          refine md_tried hx hb hK hP hin dX12_comesIn_56 ?_
          refine lv_lload_n hx hb dX12_comesIn_57 rfl (lv_at hl 2 rfl) ?_
          refine W.lcmp hx hb dX12_comesIn_58 ?_
          refine lv_if_ne hx hb dX12_comesIn_59 (tgt := 64) rfl (fun hc => ?_) (fun hc => ?_)
          · replace h := ifn h (fun q => hc ((lg_cmp_eq _ _).mpr q))
            exact hJ64 _ _ _ v2 v3 v5 a_tried (lv_sub hl [0, 1, 2, 3] rfl) hP hS h
          · replace h := ifp h ((lg_cmp_eq _ _).mp hc)
            refine lv_iload_n hx hb dX12_comesIn_62 rfl (lv_at hl 1 rfl) ?_
            simp only [Option.some.injEq, Prod.mk.injEq] at h
            obtain ⟨rfl, rfl⟩ := h
            exact rc_i hx hb hr hlocks hS dX12_comesIn_63 rfl hP
      · replace h := ifn h hc
        refine lv_iload hx hb dX12_comesIn_13 (lv_at hl 3 rfl) ?_
        refine lv_iload hx hb dX12_comesIn_15 (lv_at hl 4 rfl) ?_
        refine lv_iadd hx hb dX12_comesIn_17 ?_
        refine lv_iconst (v := 2) hx hb dX12_comesIn_18 ki_2 ?_
        obtain ⟨hne, h⟩ := dzI_s h
        refine lv_idiv hx hb dX12_comesIn_19 hne ?_
        obtain ⟨v7_13, ev7_13, h⟩ := nm_s h
        refine nmI ev7_13 ?_
        refine lv_istore hx hb dX12_comesIn_20 hl (Nat.le_of_ble_eq_true rfl) (lv' := [(7, .int v7_13), (0, .ref (ad 16)), (2, .int v2), (3, .long v3), (5, .int v5), (6, .int v6)]) rfl (fun ls hl => ?_)
        refine lv_aload_n hx hb dX12_comesIn_22 rfl (lv_at hl 1 rfl) ?_
        refine lv_iload hx hb dX12_comesIn_23 (lv_at hl 0 rfl) ?_
        obtain ⟨hin, h⟩ := ck_s h
        refine md_tried hx hb hK hP hin dX12_comesIn_25 ?_
        refine lv_lload_n hx hb dX12_comesIn_26 rfl (lv_at hl 3 rfl) ?_
        refine W.lcmp hx hb dX12_comesIn_27 ?_
        refine lv_if_ge hx hb dX12_comesIn_28 (tgt := 40) rfl (fun hc => ?_) (fun hc => ?_)
        · replace h := ifp h ((lg_cmp_ge _ _).mp hc)
          refine lv_iload hx hb dX12_comesIn_40 (lv_at hl 0 rfl) ?_
          refine lv_istore hx hb dX12_comesIn_42 hl (Nat.le_of_ble_eq_true rfl) (lv' := [(6, .int v7_13), (7, .int v7_13), (0, .ref (ad 16)), (2, .int v2), (3, .long v3), (5, .int v5)]) rfl (fun ls hl => ?_)
          refine lv_goto hx hb dX12_comesIn_44 (tgt := 6) rfl ?_
          exact ih6 _ _ _ v5 v7_13 (lv_sub hl [2, 3, 4, 5, 0] rfl) hP hS h
        · replace h := ifn h (fun q => hc ((lg_cmp_ge _ _).mpr q))
          refine lv_iload hx hb dX12_comesIn_31 (lv_at hl 0 rfl) ?_
          refine lv_iconst (v := 1) hx hb dX12_comesIn_33 ki_1 ?_
          refine lv_iadd hx hb dX12_comesIn_34 ?_
          obtain ⟨v5_14, ev5_14, h⟩ := nm_s h
          refine nmI ev5_14 ?_
          refine lv_istore hx hb dX12_comesIn_35 hl (Nat.le_of_ble_eq_true rfl) (lv' := [(5, .int v5_14), (7, .int v7_13), (0, .ref (ad 16)), (2, .int v2), (3, .long v3), (6, .int v6)]) rfl (fun ls hl => ?_)
          refine lv_goto hx hb dX12_comesIn_37 (tgt := 44) rfl ?_
          refine lv_goto hx hb dX12_comesIn_44 (tgt := 6) rfl ?_
          exact ih6 _ _ _ v5_14 v6 (lv_sub hl [2, 3, 4, 0, 5] rfl) hP hS h
  refine lv_iload_n hx hb dX12_comesIn_0 rfl (lv_at hl 1 rfl) ?_
  refine lv_istore hx hb dX12_comesIn_1 hl (Nat.le_of_ble_eq_true rfl) (lv' := [(5, .int v1), (0, .ref (ad 16)), (1, .int v1), (2, .int v2), (3, .long v3)]) rfl (fun ls hl => ?_)
  refine lv_iload_n hx hb dX12_comesIn_3 rfl (lv_at hl 3 rfl) ?_
  refine lv_istore hx hb dX12_comesIn_4 hl (Nat.le_of_ble_eq_true rfl) (lv' := [(6, .int v2), (5, .int v1), (0, .ref (ad 16)), (1, .int v1), (2, .int v2), (3, .long v3)]) rfl (fun ls hl => ?_)
  exact hL6 v2 v3 a_tried FU _ _ _ v1 v2 (lv_sub hl [2, 4, 5, 1, 0] rfl) hP hS h
noncomputable def mo_laysGrown_J85 (k18 : Int32 → Int32 → (Nat → Int64) → Option (Int32 × (Nat → Int64))) (k28 : Int32 → Int32 → (Nat → Int64) → Option (Int32 × (Nat → Int64))) (v1 : Int64) (v3 : Int32) (v4 : Int32) (v5 : Int32) (y_kin : Int32) (a_mkin : Nat → Int64)  : Option (Int32 × (Nat → Int64)) :=
  nm (v5 + Int32.ofInt 1) fun v5_1 =>
  k28 v5_1 y_kin a_mkin
noncomputable def mo_laysGrown_B28 (v1 : Int64) (v3 : Int32) (v4 : Int32) (k18 : Int32 → Int32 → (Nat → Int64) → Option (Int32 × (Nat → Int64))) (k28 : Int32 → Int32 → (Nat → Int64) → Option (Int32 × (Nat → Int64))) (v5 : Int32) (y_kin : Int32) (a_mkin : Nat → Int64) : Option (Int32 × (Nat → Int64)) :=
  if 8 ≤ v5 then (nm (v4 + Int32.ofInt 1) fun v4_2 =>
  k18 v4_2 y_kin a_mkin) else
  bd1 (mo_isBeside v1 v5 v4) fun r_3 =>
  if r_3 = 0 then (mo_laysGrown_J85 k18 k28 v1 v3 v4 v5 y_kin a_mkin) else
  bd1 (mo_isWithin v1 v5 v4) fun r_5 =>
  if r_5 = 0 then (mo_laysGrown_J85 k18 k28 v1 v3 v4 v5 y_kin a_mkin) else
  bd1 (mo_with v1 v5 v4) fun r_7 =>
  bd1 (mo_ownOf r_7 v3) fun r_9 =>
  bd2 (mo_comesIn_mkin 0 y_kin r_9 a_mkin) fun r_11 a_mkin_12 =>
  mo_laysGrown_J85 k18 k28 v1 v3 v4 v5 r_11 a_mkin_12
noncomputable def mo_laysGrown_B18 (v1 : Int64) (v3 : Int32)  (k18 : Int32 → Int32 → (Nat → Int64) → Option (Int32 × (Nat → Int64))) (v4 : Int32) (y_kin : Int32) (a_mkin : Nat → Int64) : Option (Int32 × (Nat → Int64)) :=
  if 8 ≤ v4 then (some (y_kin, a_mkin)) else
  fl3 (mo_laysGrown_B28 v1 v3 v4 k18) FU (-1) y_kin a_mkin
noncomputable def mo_laysGrown (v1 : Int64) (v3 : Int32) (y_kin : Int32) (a_mkin : Nat → Int64) : Option (Int32 × (Nat → Int64)) :=
  bd1 (mo_bits v1) fun r_14 =>
  if r_14 = 12 then (some (0, a_mkin)) else
  fl3 (mo_laysGrown_B18 v1 v3) FU (-1) 0 a_mkin
set_option maxHeartbeats 4000000 in
set_option maxRecDepth 100000 in
theorem c_mo_laysGrown (l : Launch) (D : va_G) (ct : Nat → ClassId) (ad : Nat → Nat) (hI : mI ad) {y_km y_tp y_goes y_kin y_qd y_sides y_cuts y_flat y_cp y_cA y_cB y_1X y_1Y y_2X y_2Y y_tm y_cells : Int32} {a_mtape a_flood a_going a_field a_from a_mcrowds a_steps a_queue a_letter a_lineX a_lineY a_triedAt a_cellAt a_besideIn a_apart : Nat → Int32} {a_drawer a_mkept a_listed a_mkin a_tried a_takenAt a_waysOf : Nat → Int64} (v1 : Int64) (v3 : Int32)  (z_y_kin : Int32) (z_a_mkin : Nat → Int64) (h : mo_laysGrown v1 v3 y_kin a_mkin = some (z_y_kin, z_a_mkin)) : Met l yX12_laysGrown (wm yX12_laysGrown cX12_laysGrown 6 none) (rmm 3 75) (va_Pc [.ref (ad 0), .long v1, .int v3] (mB D ct ad y_km y_tp y_goes y_kin y_qd y_sides y_cuts y_flat y_cp y_cA y_cB y_1X y_1Y y_2X y_2Y y_tm y_cells a_mtape a_flood a_going a_field a_from a_mcrowds a_steps a_queue a_letter a_lineX a_lineY a_triedAt a_cellAt a_besideIn a_apart a_drawer a_mkept a_listed a_mkin a_tried a_takenAt a_waysOf)) (va_Qv (fun (_ : Unit) => True) (fun _ t => mP D ct ad y_km y_tp y_goes z_y_kin y_qd y_sides y_cuts y_flat y_cp y_cA y_cB y_1X y_1Y y_2X y_2Y y_tm y_cells a_mtape a_flood a_going a_field a_from a_mcrowds a_steps a_queue a_letter a_lineX a_lineY a_triedAt a_cellAt a_besideIn a_apart a_drawer a_mkept a_listed z_a_mkin a_tried a_takenAt a_waysOf t.heap) (mA ad)) 0 0 (mA ad) := by
  refine met_s (y := yX12_laysGrown) (rm := rmm 3 75) (by decide) (Nat.le_of_ble_eq_true rfl) ?_
  intro p e s m below meth c hx hb hr hw hown hlocks _ hml hB ls hl
  obtain ⟨hN, hK, hP⟩ := hB
  replace hl : lv_has ls 6 [(0, .ref (ad 0)), (1, .long v1), (3, .int v3)] := hl
  have hS : va_S (mA ad) s.heap s.heap [] := va_S.rf
  generalize (([.ref (ad 0), .long v1, .int v3] : List Value).toArray) = av at hw ⊢
  rw [mo_laysGrown] at h
  have hL18 : ∀ (v1 : Int64), ∀ (v3 : Int32), ∀ (n18 : Nat) (H : Heap) (locs : List Loc) (ls : Array Slot) (v4 : Int32) (y_kin : Int32) (a_mkin : Nat → Int64), lv_has ls 6 [(0, .ref (ad 0)), (1, .long v1), (3, .int v3), (4, .int v4)] → mP D ct ad y_km y_tp y_goes y_kin y_qd y_sides y_cuts y_flat y_cp y_cA y_cB y_1X y_1Y y_2X y_2Y y_tm y_cells a_mtape a_flood a_going a_field a_from a_mcrowds a_steps a_queue a_letter a_lineX a_lineY a_triedAt a_cellAt a_besideIn a_apart a_drawer a_mkept a_listed a_mkin a_tried a_takenAt a_waysOf H → va_S (mA ad) s.heap H locs → fl3 (mo_laysGrown_B18 v1 v3) n18 v4 y_kin a_mkin = some (z_y_kin, z_a_mkin) → W p l e (rmm 3 75) s m av below meth c H locs 0 0 (MQ below (va_Qv (fun (_ : Unit) => True) (fun _ t => mP D ct ad y_km y_tp y_goes z_y_kin y_qd y_sides y_cuts y_flat y_cp y_cA y_cB y_1X y_1Y y_2X y_2Y y_tm y_cells a_mtape a_flood a_going a_field a_from a_mcrowds a_steps a_queue a_letter a_lineX a_lineY a_triedAt a_cellAt a_besideIn a_apart a_drawer a_mkept a_listed z_a_mkin a_tried a_takenAt a_waysOf t.heap) (mA ad)) av s 0 0 (mA ad)) (F0 m 18 ls []) := by
    intro v1 v3 n18
    induction n18 with
    | zero => intro H locs ls v4 y_kin a_mkin hl hP hS h; cases h
    | succ n18 ih18 =>
      intro H locs ls v4 y_kin a_mkin hl hP hS h
      replace h : mo_laysGrown_B18 v1 v3 (fl3 (mo_laysGrown_B18 v1 v3) n18) v4 y_kin a_mkin = some (z_y_kin, z_a_mkin) := h
      generalize fl3 (mo_laysGrown_B18 v1 v3) n18 = k18 at h ih18
      have hL28 : ∀ (v4 : Int32), ∀ (n28 : Nat) (H : Heap) (locs : List Loc) (ls : Array Slot) (v5 : Int32) (y_kin : Int32) (a_mkin : Nat → Int64), lv_has ls 6 [(0, .ref (ad 0)), (1, .long v1), (3, .int v3), (4, .int v4), (5, .int v5)] → mP D ct ad y_km y_tp y_goes y_kin y_qd y_sides y_cuts y_flat y_cp y_cA y_cB y_1X y_1Y y_2X y_2Y y_tm y_cells a_mtape a_flood a_going a_field a_from a_mcrowds a_steps a_queue a_letter a_lineX a_lineY a_triedAt a_cellAt a_besideIn a_apart a_drawer a_mkept a_listed a_mkin a_tried a_takenAt a_waysOf H → va_S (mA ad) s.heap H locs → fl3 (mo_laysGrown_B28 v1 v3 v4 k18) n28 v5 y_kin a_mkin = some (z_y_kin, z_a_mkin) → W p l e (rmm 3 75) s m av below meth c H locs 0 0 (MQ below (va_Qv (fun (_ : Unit) => True) (fun _ t => mP D ct ad y_km y_tp y_goes z_y_kin y_qd y_sides y_cuts y_flat y_cp y_cA y_cB y_1X y_1Y y_2X y_2Y y_tm y_cells a_mtape a_flood a_going a_field a_from a_mcrowds a_steps a_queue a_letter a_lineX a_lineY a_triedAt a_cellAt a_besideIn a_apart a_drawer a_mkept a_listed z_a_mkin a_tried a_takenAt a_waysOf t.heap) (mA ad)) av s 0 0 (mA ad)) (F0 m 28 ls []) := by
        intro v4 n28
        induction n28 with
        | zero => intro H locs ls v5 y_kin a_mkin hl hP hS h; cases h
        | succ n28 ih28 =>
          intro H locs ls v5 y_kin a_mkin hl hP hS h
          replace h : mo_laysGrown_B28 v1 v3 v4 k18 (fl3 (mo_laysGrown_B28 v1 v3 v4 k18) n28) v5 y_kin a_mkin = some (z_y_kin, z_a_mkin) := h
          generalize fl3 (mo_laysGrown_B28 v1 v3 v4 k18) n28 = k28 at h ih28
          have hJ85 : ∀ (H : Heap) (locs : List Loc) (ls : Array Slot) (v5 : Int32) (y_kin : Int32) (a_mkin : Nat → Int64) , lv_has ls 6 [(0, .ref (ad 0)), (1, .long v1), (3, .int v3), (4, .int v4), (5, .int v5)] → mP D ct ad y_km y_tp y_goes y_kin y_qd y_sides y_cuts y_flat y_cp y_cA y_cB y_1X y_1Y y_2X y_2Y y_tm y_cells a_mtape a_flood a_going a_field a_from a_mcrowds a_steps a_queue a_letter a_lineX a_lineY a_triedAt a_cellAt a_besideIn a_apart a_drawer a_mkept a_listed a_mkin a_tried a_takenAt a_waysOf H → va_S (mA ad) s.heap H locs → mo_laysGrown_J85 k18 k28 v1 v3 v4 v5 y_kin a_mkin = some (z_y_kin, z_a_mkin) → W p l e (rmm 3 75) s m av below meth c H locs 0 0 (MQ below (va_Qv (fun (_ : Unit) => True) (fun _ t => mP D ct ad y_km y_tp y_goes z_y_kin y_qd y_sides y_cuts y_flat y_cp y_cA y_cB y_1X y_1Y y_2X y_2Y y_tm y_cells a_mtape a_flood a_going a_field a_from a_mcrowds a_steps a_queue a_letter a_lineX a_lineY a_triedAt a_cellAt a_besideIn a_apart a_drawer a_mkept a_listed z_a_mkin a_tried a_takenAt a_waysOf t.heap) (mA ad)) av s 0 0 (mA ad)) (F0 m 85 ls []) := by
            intro H locs ls v5 y_kin a_mkin  hl hP hS h
            rw [mo_laysGrown_J85] at h
            obtain ⟨v5_16, ev5_16, h⟩ := nm_s h
            refine lv_iinc hx hb dX12_laysGrown_85 hl (k := 4) rfl ev5_16.symm (Nat.le_of_ble_eq_true rfl) (lv' := [(5, .int v5_16), (0, .ref (ad 0)), (1, .long v1), (3, .int v3), (4, .int v4)]) rfl (fun ls hl => ?_)
            refine lv_goto hx hb dX12_laysGrown_88 (tgt := 28) rfl ?_
            exact ih28 _ _ _ v5_16 y_kin a_mkin (lv_sub hl [1, 2, 3, 4, 0] rfl) hP hS h
          rw [mo_laysGrown_B28] at h
          refine lv_iload hx hb dX12_laysGrown_28 (lv_at hl 4 rfl) ?_
          refine lv_bipush (v := 8) hx hb dX12_laysGrown_30 kb_8 ?_
          refine lv_icmp_ge hx hb dX12_laysGrown_32 (tgt := 91) rfl (fun hc => ?_) (fun hc => ?_)
          · replace h := ifp h hc
            obtain ⟨v4_17, ev4_17, h⟩ := nm_s h
            refine lv_iinc hx hb dX12_laysGrown_91 hl (k := 3) rfl ev4_17.symm (Nat.le_of_ble_eq_true rfl) (lv' := [(4, .int v4_17), (0, .ref (ad 0)), (1, .long v1), (3, .int v3), (5, .int v5)]) rfl (fun ls hl => ?_)
            refine lv_goto hx hb dX12_laysGrown_94 (tgt := 18) rfl ?_
            exact ih18 _ _ _ v4_17 y_kin a_mkin (lv_sub hl [1, 2, 3, 0] rfl) hP hS h
          · replace h := ifn h hc
            refine lv_lload_n hx hb dX12_laysGrown_35 rfl (lv_at hl 1 rfl) ?_
            refine lv_iload hx hb dX12_laysGrown_36 (lv_at hl 4 rfl) ?_
            refine lv_iload hx hb dX12_laysGrown_38 (lv_at hl 3 rfl) ?_
            obtain ⟨r_18, hr_19, h⟩ := bd1_s h
            refine sc_i hx hb hml hown hw hN (c_mo_isBeside l v1 v5 v4 r_18 hr_19) g_RX12_156 hd_X12_isBeside (rest := []) hl.1 hS dX12_laysGrown_40 rfl rfl ⟨Nat.le_of_ble_eq_true rfl, Nat.le_of_ble_eq_true rfl⟩ rfl rfl (Nat.le_of_ble_eq_true rfl) ⟨Nat.zero_le _, Nat.zero_le _⟩ (fun H locs hk hS => ?_)
            have hP := mP_kept hP hk
            refine lv_if_eq hx hb dX12_laysGrown_43 (tgt := 85) rfl (fun hc => ?_) (fun hc => ?_)
            · replace h := ifp h hc
              exact hJ85 _ _ _ v5 y_kin a_mkin (lv_sub hl [0, 1, 2, 3, 4] rfl) hP hS h
            · replace h := ifn h hc
              refine lv_lload_n hx hb dX12_laysGrown_46 rfl (lv_at hl 1 rfl) ?_
              refine lv_iload hx hb dX12_laysGrown_47 (lv_at hl 4 rfl) ?_
              refine lv_iload hx hb dX12_laysGrown_49 (lv_at hl 3 rfl) ?_
              obtain ⟨r_20, hr_21, h⟩ := bd1_s h
              refine sc_i hx hb hml hown hw hN (c_mo_isWithin l v1 v5 v4 r_20 hr_21) g_RX12_217 hd_X12_isWithin (rest := []) hl.1 hS dX12_laysGrown_51 rfl rfl ⟨Nat.le_of_ble_eq_true rfl, Nat.le_of_ble_eq_true rfl⟩ rfl rfl (Nat.le_of_ble_eq_true rfl) ⟨Nat.zero_le _, Nat.zero_le _⟩ (fun H locs hk hS => ?_)
              have hP := mP_kept hP hk
              refine lv_if_eq hx hb dX12_laysGrown_54 (tgt := 85) rfl (fun hc => ?_) (fun hc => ?_)
              · replace h := ifp h hc
                exact hJ85 _ _ _ v5 y_kin a_mkin (lv_sub hl [0, 1, 2, 3, 4] rfl) hP hS h
              · replace h := ifn h hc
                refine lv_aload_n hx hb dX12_laysGrown_57 rfl (lv_at hl 0 rfl) ?_
                refine lv_aload_n hx hb dX12_laysGrown_58 rfl (lv_at hl 0 rfl) ?_
                refine mg_MO_10 hx hb hw hown hK hP dX12_laysGrown_59 ?_
                refine lv_iconst (v := 0) hx hb dX12_laysGrown_62 ki_0 ?_
                refine lv_aload_n hx hb dX12_laysGrown_63 rfl (lv_at hl 0 rfl) ?_
                refine mg_MO_12 hx hb hw hown hK hP dX12_laysGrown_64 ?_
                refine lv_lload_n hx hb dX12_laysGrown_67 rfl (lv_at hl 1 rfl) ?_
                refine lv_iload hx hb dX12_laysGrown_68 (lv_at hl 4 rfl) ?_
                refine lv_iload hx hb dX12_laysGrown_70 (lv_at hl 3 rfl) ?_
                obtain ⟨r_22, hr_23, h⟩ := bd1_s h
                refine sc_l hx hb hml hown hw hN (c_mo_with l v1 v5 v4 r_22 hr_23) g_RX12_221 hd_X12_with (rest := [.int y_kin, .int 0, .ref (ad 8), .ref (ad 0)]) hl.1 hS dX12_laysGrown_72 rfl rfl ⟨Nat.le_of_ble_eq_true rfl, Nat.le_of_ble_eq_true rfl⟩ rfl rfl (Nat.le_of_ble_eq_true rfl) ⟨Nat.zero_le _, Nat.zero_le _⟩ (fun H locs hk hS => ?_)
                have hP := mP_kept hP hk
                refine lv_iload_n hx hb dX12_laysGrown_75 rfl (lv_at hl 2 rfl) ?_
                obtain ⟨r_24, hr_25, h⟩ := bd1_s h
                refine sc_l hx hb hml hown hw hN (c_mo_ownOf l r_22 v3 r_24 hr_25) g_RX12_199 hd_X12_ownOf (rest := [.int y_kin, .int 0, .ref (ad 8), .ref (ad 0)]) hl.1 hS dX12_laysGrown_76 rfl rfl ⟨Nat.le_of_ble_eq_true rfl, Nat.le_of_ble_eq_true rfl⟩ rfl rfl (Nat.le_of_ble_eq_true rfl) ⟨Nat.zero_le _, Nat.zero_le _⟩ (fun H locs hk hS => ?_)
                have hP := mP_kept hP hk
                obtain ⟨r_26, a_mkin_27, hr_28, h⟩ := bd2_s h
                refine hs_i hx hb hml hown hw mB_bl (mB_of hN hK hP) (c_mo_comesIn_mkin l D ct ad hI 0 y_kin r_24 r_26 a_mkin_27 hr_28) g_RX12_232 hd_X12_comesIn (rest := [.ref (ad 0)]) hl.1 hS (fun q h => h) dX12_laysGrown_79 rfl rfl ⟨Nat.le_of_ble_eq_true rfl, Nat.le_of_ble_eq_true rfl⟩ rfl rfl (Nat.le_of_ble_eq_true rfl) ⟨Nat.zero_le _, Nat.zero_le _⟩ (fun H locs hP _ hS => ?_)
                refine mp_MO_12 hx hb hw hown hK hP hI hS dX12_laysGrown_82 (fun H locs hP hS => ?_)
                exact hJ85 _ _ _ v5 r_26 a_mkin_27 (lv_sub hl [0, 1, 2, 3, 4] rfl) hP hS h
      rw [mo_laysGrown_B18] at h
      refine lv_iload hx hb dX12_laysGrown_18 (lv_at hl 3 rfl) ?_
      refine lv_bipush (v := 8) hx hb dX12_laysGrown_20 kb_8 ?_
      refine lv_icmp_ge hx hb dX12_laysGrown_22 (tgt := 97) rfl (fun hc => ?_) (fun hc => ?_)
      · replace h := ifp h hc
        simp only [Option.some.injEq, Prod.mk.injEq] at h
        obtain ⟨rfl, rfl⟩ := h
        exact rc_v hx hb hr hlocks hS dX12_laysGrown_97 hP
      · replace h := ifn h hc
        refine lv_iconst (v := (-1)) hx hb dX12_laysGrown_25 ki_m1 ?_
        refine lv_istore hx hb dX12_laysGrown_26 hl (Nat.le_of_ble_eq_true rfl) (lv' := [(5, .int (-1)), (0, .ref (ad 0)), (1, .long v1), (3, .int v3), (4, .int v4)]) rfl (fun ls hl => ?_)
        exact hL28 v4 FU _ _ _ (-1) y_kin a_mkin (lv_sub hl [1, 2, 3, 4, 0] rfl) hP hS h
  refine lv_aload_n hx hb dX12_laysGrown_0 rfl (lv_at hl 0 rfl) ?_
  refine lv_iconst (v := 0) hx hb dX12_laysGrown_1 ki_0 ?_
  refine mp_MO_12 hx hb hw hown hK hP hI hS dX12_laysGrown_2 (fun H locs hP hS => ?_)
  refine lv_lload_n hx hb dX12_laysGrown_5 rfl (lv_at hl 1 rfl) ?_
  obtain ⟨r_29, hr_30, h⟩ := bd1_s h
  refine sc_i hx hb hml hown hw hN (c_mo_bits l v1 r_29 hr_30) g_RX12_106 hd_X12_bits (rest := []) hl.1 hS dX12_laysGrown_6 rfl rfl ⟨Nat.le_of_ble_eq_true rfl, Nat.le_of_ble_eq_true rfl⟩ rfl rfl (Nat.le_of_ble_eq_true rfl) ⟨Nat.zero_le _, Nat.zero_le _⟩ (fun H locs hk hS => ?_)
  have hP := mP_kept hP hk
  refine lv_bipush (v := 12) hx hb dX12_laysGrown_9 kb_12 ?_
  refine lv_icmp_ne hx hb dX12_laysGrown_11 (tgt := 15) rfl (fun hc => ?_) (fun hc => ?_)
  · replace h := ifn h hc
    refine lv_iconst (v := (-1)) hx hb dX12_laysGrown_15 ki_m1 ?_
    refine lv_istore hx hb dX12_laysGrown_16 hl (Nat.le_of_ble_eq_true rfl) (lv' := [(4, .int (-1)), (0, .ref (ad 0)), (1, .long v1), (3, .int v3)]) rfl (fun ls hl => ?_)
    exact hL18 v1 v3 FU _ _ _ (-1) 0 a_mkin (lv_sub hl [1, 2, 3, 0] rfl) hP hS h
  · replace h := ifp h hc
    simp only [Option.some.injEq, Prod.mk.injEq] at h
    obtain ⟨rfl, rfl⟩ := h
    exact rc_v hx hb hr hlocks hS dX12_laysGrown_14 hP
noncomputable def mo_laysLists_J235 (k43 : Int32 → Int32 → (Nat → Int64) → (Nat → Int64) → (Nat → Int32) → Option (Int32 × (Nat → Int64) × (Nat → Int64) × (Nat → Int32))) (k160 : Int32 → Int32 → (Nat → Int64) → (Nat → Int32) → Option (Int32 × (Nat → Int64) × (Nat → Int64) × (Nat → Int32))) (k172 : Int32 → Int32 → (Nat → Int64) → Option (Int32 × (Nat → Int64) × (Nat → Int64) × (Nat → Int32))) (v1 : Int32) (v2 : Int32) (v4 : Int32) (v5 : Int32) (v6 : Int32) (y_kin : Int32) (a_listed : Nat → Int64) (a_mkin : Nat → Int64) (a_from : Nat → Int32)  : Option (Int32 × (Nat → Int64) × (Nat → Int64) × (Nat → Int32)) :=
  nm (v6 + Int32.ofInt 1) fun v6_1 =>
  k172 v5 v6_1 a_listed
noncomputable def mo_laysLists_B172 (v1 : Int32) (v2 : Int32) (v4 : Int32) (y_kin : Int32) (a_mkin : Nat → Int64) (a_from : Nat → Int32) (k43 : Int32 → Int32 → (Nat → Int64) → (Nat → Int64) → (Nat → Int32) → Option (Int32 × (Nat → Int64) × (Nat → Int64) × (Nat → Int32))) (k160 : Int32 → Int32 → (Nat → Int64) → (Nat → Int32) → Option (Int32 × (Nat → Int64) × (Nat → Int64) × (Nat → Int32))) (k172 : Int32 → Int32 → (Nat → Int64) → Option (Int32 × (Nat → Int64) × (Nat → Int64) × (Nat → Int32))) (v5 : Int32) (v6 : Int32) (a_listed : Nat → Int64) : Option (Int32 × (Nat → Int64) × (Nat → Int64) × (Nat → Int32)) :=
  nm ((3 * (v1 - 1)) + 1 : Int32) fun i_2 =>
  ck i_2 25 <|
  if (a_from i_2.toNatClampNeg) ≤ v6 then (nm (((3 * (v1 - 1)) + v4) + 1 : Int32) fun i_3 =>
  ck i_3 25 <|
  nm (upd a_from i_3.toNatClampNeg v5) fun a_from_4 =>
  nm (v4 + Int32.ofInt 1) fun v4_5 =>
  k160 v5 v4_5 a_listed a_from_4) else
  ck v6 1600 <|
  bd1 (mo_ownOf (a_listed v6.toNatClampNeg) v4) fun r_6 =>
  ck v6 1600 <|
  if r_6 = (a_listed v6.toNatClampNeg) then (ck v6 1600 <|
  nm (a_listed v6.toNatClampNeg : Int64) fun w_8 =>
  ck v5 1600 <|
  nm (vp_updL a_listed v5.toNatClampNeg w_8) fun a_listed_9 =>
  nm (v5 + 1 : Int32) fun v5_10 =>
  mo_laysLists_J235 k43 k160 k172 v1 v2 v4 v5_10 v6 y_kin a_listed_9 a_mkin a_from) else
  mo_laysLists_J235 k43 k160 k172 v1 v2 v4 v5 v6 y_kin a_listed a_mkin a_from
noncomputable def mo_laysLists_B160 (v1 : Int32) (v2 : Int32) (y_kin : Int32) (a_mkin : Nat → Int64) (k43 : Int32 → Int32 → (Nat → Int64) → (Nat → Int64) → (Nat → Int32) → Option (Int32 × (Nat → Int64) × (Nat → Int64) × (Nat → Int32))) (k160 : Int32 → Int32 → (Nat → Int64) → (Nat → Int32) → Option (Int32 × (Nat → Int64) × (Nat → Int64) × (Nat → Int32))) (v3 : Int32) (v4 : Int32) (a_listed : Nat → Int64) (a_from : Nat → Int32) : Option (Int32 × (Nat → Int64) × (Nat → Int64) × (Nat → Int32)) :=
  if 3 ≤ v4 then (nm (v1 + Int32.ofInt 1) fun v1_11 =>
  k43 v1_11 y_kin a_listed a_mkin a_from) else
  fl3 (mo_laysLists_B172 v1 v2 v4 y_kin a_mkin a_from k43 k160) FU v3 v2 a_listed
noncomputable def mo_laysLists_B106 (v1 : Int32) (v2 : Int32) (v4 : Int32) (y_kin : Int32) (a_mkin : Nat → Int64) (a_from : Nat → Int32) (k43 : Int32 → Int32 → (Nat → Int64) → (Nat → Int64) → (Nat → Int32) → Option (Int32 × (Nat → Int64) × (Nat → Int64) × (Nat → Int32))) (k74 : Int32 → Int32 → Int32 → (Nat → Int64) → (Nat → Int64) → Option (Int32 × (Nat → Int64) × (Nat → Int64) × (Nat → Int32))) (k106 : Int32 → Int32 → (Nat → Int64) → Option (Int32 × (Nat → Int64) × (Nat → Int64) × (Nat → Int32))) (v3 : Int32) (v5 : Int32) (a_listed : Nat → Int64) : Option (Int32 × (Nat → Int64) × (Nat → Int64) × (Nat → Int32)) :=
  if y_kin ≤ v5 then (nm (v4 + Int32.ofInt 1) fun v4_12 =>
  k74 v3 v4_12 y_kin a_listed a_mkin) else
  ck v5 400 <|
  bd2 (mo_comesIn_listed v2 v3 (a_mkin v5.toNatClampNeg) a_listed) fun r_13 a_listed_14 =>
  nm (v5 + Int32.ofInt 1) fun v5_16 =>
  k106 r_13 v5_16 a_listed_14
noncomputable def mo_laysLists_B74 (v1 : Int32) (v2 : Int32) (a_from : Nat → Int32) (k43 : Int32 → Int32 → (Nat → Int64) → (Nat → Int64) → (Nat → Int32) → Option (Int32 × (Nat → Int64) × (Nat → Int64) × (Nat → Int32))) (k74 : Int32 → Int32 → Int32 → (Nat → Int64) → (Nat → Int64) → Option (Int32 × (Nat → Int64) × (Nat → Int64) × (Nat → Int32))) (v3 : Int32) (v4 : Int32) (y_kin : Int32) (a_listed : Nat → Int64) (a_mkin : Nat → Int64) : Option (Int32 × (Nat → Int64) × (Nat → Int64) × (Nat → Int32)) :=
  nm ((3 * (v1 - 2)) + 1 : Int32) fun i_17 =>
  ck i_17 25 <|
  if (a_from i_17.toNatClampNeg) ≤ v4 then (nm ((3 * (v1 - 1)) + 1 : Int32) fun i_18 =>
  ck i_18 25 <|
  nm (upd a_from i_18.toNatClampNeg v3) fun a_from_19 =>
  fl4 (mo_laysLists_B160 v1 v2 y_kin a_mkin k43) FU v3 1 a_listed a_from_19) else
  ck v4 1600 <|
  bd2 (mo_laysGrown (a_listed v4.toNatClampNeg) 0 y_kin a_mkin) fun y_kin_20 a_mkin_21 =>
  fl3 (mo_laysLists_B106 v1 v2 v4 y_kin_20 a_mkin_21 a_from k43 k74) FU v3 0 a_listed
noncomputable def mo_laysLists_B43   (k43 : Int32 → Int32 → (Nat → Int64) → (Nat → Int64) → (Nat → Int32) → Option (Int32 × (Nat → Int64) × (Nat → Int64) × (Nat → Int32))) (v1 : Int32) (y_kin : Int32) (a_listed : Nat → Int64) (a_mkin : Nat → Int64) (a_from : Nat → Int32) : Option (Int32 × (Nat → Int64) × (Nat → Int64) × (Nat → Int32)) :=
  if 7 < v1 then (some (y_kin, a_listed, a_mkin, a_from)) else
  nm (3 * (v1 - 1) : Int32) fun i_23 =>
  ck i_23 25 <|
  nm (a_from i_23.toNatClampNeg : Int32) fun v2_24 =>
  nm (3 * (v1 - 2) : Int32) fun i_25 =>
  ck i_25 25 <|
  nm (a_from i_25.toNatClampNeg : Int32) fun v4_26 =>
  fl5 (mo_laysLists_B74 v1 v2_24 a_from k43) FU v2_24 v4_26 y_kin a_listed a_mkin
noncomputable def mo_laysLists_B23 (y_kin : Int32) (a_listed : Nat → Int64) (a_mkin : Nat → Int64)  (k23 : Int32 → (Nat → Int32) → Option (Int32 × (Nat → Int64) × (Nat → Int64) × (Nat → Int32))) (v1 : Int32) (a_from : Nat → Int32) : Option (Int32 × (Nat → Int64) × (Nat → Int64) × (Nat → Int32)) :=
  if 4 ≤ v1 then (fl5 (mo_laysLists_B43 ) FU 2 y_kin a_listed a_mkin a_from) else
  ck v1 25 <|
  nm (upd a_from v1.toNatClampNeg v1) fun a_from_27 =>
  nm (v1 + Int32.ofInt 1) fun v1_28 =>
  k23 v1_28 a_from_27
noncomputable def mo_laysLists (y_kin : Int32) (a_listed : Nat → Int64) (a_mkin : Nat → Int64) (a_from : Nat → Int32) : Option (Int32 × (Nat → Int64) × (Nat → Int64) × (Nat → Int32)) :=
  ck 0 1600 <|
  nm (vp_updL a_listed (0 : Int32).toNatClampNeg 1) fun a_listed_29 =>
  ck 1 1600 <|
  nm (vp_updL a_listed_29 (1 : Int32).toNatClampNeg 1) fun a_listed_30 =>
  ck 2 1600 <|
  nm (vp_updL a_listed_30 (2 : Int32).toNatClampNeg 1) fun a_listed_31 =>
  fl2 (mo_laysLists_B23 y_kin a_listed_31 a_mkin) FU 0 a_from
set_option maxHeartbeats 4000000 in
set_option maxRecDepth 100000 in
theorem c_mo_laysLists (l : Launch) (D : va_G) (ct : Nat → ClassId) (ad : Nat → Nat) (hI : mI ad) {y_km y_tp y_goes y_kin y_qd y_sides y_cuts y_flat y_cp y_cA y_cB y_1X y_1Y y_2X y_2Y y_tm y_cells : Int32} {a_mtape a_flood a_going a_field a_from a_mcrowds a_steps a_queue a_letter a_lineX a_lineY a_triedAt a_cellAt a_besideIn a_apart : Nat → Int32} {a_drawer a_mkept a_listed a_mkin a_tried a_takenAt a_waysOf : Nat → Int64}   (z_y_kin : Int32) (z_a_listed : Nat → Int64) (z_a_mkin : Nat → Int64) (z_a_from : Nat → Int32) (h : mo_laysLists y_kin a_listed a_mkin a_from = some (z_y_kin, z_a_listed, z_a_mkin, z_a_from)) : Met l yX12_laysLists (wm yX12_laysLists cX12_laysLists 7 none) (rmm 4 100) (va_Pc [.ref (ad 0)] (mB D ct ad y_km y_tp y_goes y_kin y_qd y_sides y_cuts y_flat y_cp y_cA y_cB y_1X y_1Y y_2X y_2Y y_tm y_cells a_mtape a_flood a_going a_field a_from a_mcrowds a_steps a_queue a_letter a_lineX a_lineY a_triedAt a_cellAt a_besideIn a_apart a_drawer a_mkept a_listed a_mkin a_tried a_takenAt a_waysOf)) (va_Qv (fun (_ : Unit) => True) (fun _ t => mP D ct ad y_km y_tp y_goes z_y_kin y_qd y_sides y_cuts y_flat y_cp y_cA y_cB y_1X y_1Y y_2X y_2Y y_tm y_cells a_mtape a_flood a_going a_field z_a_from a_mcrowds a_steps a_queue a_letter a_lineX a_lineY a_triedAt a_cellAt a_besideIn a_apart a_drawer a_mkept z_a_listed z_a_mkin a_tried a_takenAt a_waysOf t.heap) (mA ad)) 0 0 (mA ad) := by
  refine met_s (y := yX12_laysLists) (rm := rmm 4 100) (by decide) (Nat.le_of_ble_eq_true rfl) ?_
  intro p e s m below meth c hx hb hr hw hown hlocks _ hml hB ls hl
  obtain ⟨hN, hK, hP⟩ := hB
  replace hl : lv_has ls 7 [(0, .ref (ad 0))] := hl
  have hS : va_S (mA ad) s.heap s.heap [] := va_S.rf
  generalize (([.ref (ad 0)] : List Value).toArray) = av at hw ⊢
  rw [mo_laysLists] at h
  have hL43 : ∀ (n43 : Nat) (H : Heap) (locs : List Loc) (ls : Array Slot) (v1 : Int32) (y_kin : Int32) (a_listed : Nat → Int64) (a_mkin : Nat → Int64) (a_from : Nat → Int32), lv_has ls 7 [(0, .ref (ad 0)), (1, .int v1)] → mP D ct ad y_km y_tp y_goes y_kin y_qd y_sides y_cuts y_flat y_cp y_cA y_cB y_1X y_1Y y_2X y_2Y y_tm y_cells a_mtape a_flood a_going a_field a_from a_mcrowds a_steps a_queue a_letter a_lineX a_lineY a_triedAt a_cellAt a_besideIn a_apart a_drawer a_mkept a_listed a_mkin a_tried a_takenAt a_waysOf H → va_S (mA ad) s.heap H locs → fl5 (mo_laysLists_B43 ) n43 v1 y_kin a_listed a_mkin a_from = some (z_y_kin, z_a_listed, z_a_mkin, z_a_from) → W p l e (rmm 4 100) s m av below meth c H locs 0 0 (MQ below (va_Qv (fun (_ : Unit) => True) (fun _ t => mP D ct ad y_km y_tp y_goes z_y_kin y_qd y_sides y_cuts y_flat y_cp y_cA y_cB y_1X y_1Y y_2X y_2Y y_tm y_cells a_mtape a_flood a_going a_field z_a_from a_mcrowds a_steps a_queue a_letter a_lineX a_lineY a_triedAt a_cellAt a_besideIn a_apart a_drawer a_mkept z_a_listed z_a_mkin a_tried a_takenAt a_waysOf t.heap) (mA ad)) av s 0 0 (mA ad)) (F0 m 43 ls []) := by
    intro  n43
    induction n43 with
    | zero => intro H locs ls v1 y_kin a_listed a_mkin a_from hl hP hS h; cases h
    | succ n43 ih43 =>
      intro H locs ls v1 y_kin a_listed a_mkin a_from hl hP hS h
      replace h : mo_laysLists_B43  (fl5 (mo_laysLists_B43 ) n43) v1 y_kin a_listed a_mkin a_from = some (z_y_kin, z_a_listed, z_a_mkin, z_a_from) := h
      generalize fl5 (mo_laysLists_B43 ) n43 = k43 at h ih43
      have hL160 : ∀ (v1 : Int32), ∀ (v2 : Int32), ∀ (y_kin : Int32), ∀ (a_mkin : Nat → Int64), ∀ (n160 : Nat) (H : Heap) (locs : List Loc) (ls : Array Slot) (v3 : Int32) (v4 : Int32) (a_listed : Nat → Int64) (a_from : Nat → Int32), lv_has ls 7 [(0, .ref (ad 0)), (1, .int v1), (2, .int v2), (3, .int v3), (4, .int v4)] → mP D ct ad y_km y_tp y_goes y_kin y_qd y_sides y_cuts y_flat y_cp y_cA y_cB y_1X y_1Y y_2X y_2Y y_tm y_cells a_mtape a_flood a_going a_field a_from a_mcrowds a_steps a_queue a_letter a_lineX a_lineY a_triedAt a_cellAt a_besideIn a_apart a_drawer a_mkept a_listed a_mkin a_tried a_takenAt a_waysOf H → va_S (mA ad) s.heap H locs → fl4 (mo_laysLists_B160 v1 v2 y_kin a_mkin k43) n160 v3 v4 a_listed a_from = some (z_y_kin, z_a_listed, z_a_mkin, z_a_from) → W p l e (rmm 4 100) s m av below meth c H locs 0 0 (MQ below (va_Qv (fun (_ : Unit) => True) (fun _ t => mP D ct ad y_km y_tp y_goes z_y_kin y_qd y_sides y_cuts y_flat y_cp y_cA y_cB y_1X y_1Y y_2X y_2Y y_tm y_cells a_mtape a_flood a_going a_field z_a_from a_mcrowds a_steps a_queue a_letter a_lineX a_lineY a_triedAt a_cellAt a_besideIn a_apart a_drawer a_mkept z_a_listed z_a_mkin a_tried a_takenAt a_waysOf t.heap) (mA ad)) av s 0 0 (mA ad)) (F0 m 160 ls []) := by
        intro v1 v2 y_kin a_mkin n160
        induction n160 with
        | zero => intro H locs ls v3 v4 a_listed a_from hl hP hS h; cases h
        | succ n160 ih160 =>
          intro H locs ls v3 v4 a_listed a_from hl hP hS h
          replace h : mo_laysLists_B160 v1 v2 y_kin a_mkin k43 (fl4 (mo_laysLists_B160 v1 v2 y_kin a_mkin k43) n160) v3 v4 a_listed a_from = some (z_y_kin, z_a_listed, z_a_mkin, z_a_from) := h
          generalize fl4 (mo_laysLists_B160 v1 v2 y_kin a_mkin k43) n160 = k160 at h ih160
          have hL172 : ∀ (v4 : Int32), ∀ (a_from : Nat → Int32), ∀ (n172 : Nat) (H : Heap) (locs : List Loc) (ls : Array Slot) (v5 : Int32) (v6 : Int32) (a_listed : Nat → Int64), lv_has ls 7 [(0, .ref (ad 0)), (1, .int v1), (2, .int v2), (4, .int v4), (5, .int v5), (6, .int v6)] → mP D ct ad y_km y_tp y_goes y_kin y_qd y_sides y_cuts y_flat y_cp y_cA y_cB y_1X y_1Y y_2X y_2Y y_tm y_cells a_mtape a_flood a_going a_field a_from a_mcrowds a_steps a_queue a_letter a_lineX a_lineY a_triedAt a_cellAt a_besideIn a_apart a_drawer a_mkept a_listed a_mkin a_tried a_takenAt a_waysOf H → va_S (mA ad) s.heap H locs → fl3 (mo_laysLists_B172 v1 v2 v4 y_kin a_mkin a_from k43 k160) n172 v5 v6 a_listed = some (z_y_kin, z_a_listed, z_a_mkin, z_a_from) → W p l e (rmm 4 100) s m av below meth c H locs 0 0 (MQ below (va_Qv (fun (_ : Unit) => True) (fun _ t => mP D ct ad y_km y_tp y_goes z_y_kin y_qd y_sides y_cuts y_flat y_cp y_cA y_cB y_1X y_1Y y_2X y_2Y y_tm y_cells a_mtape a_flood a_going a_field z_a_from a_mcrowds a_steps a_queue a_letter a_lineX a_lineY a_triedAt a_cellAt a_besideIn a_apart a_drawer a_mkept z_a_listed z_a_mkin a_tried a_takenAt a_waysOf t.heap) (mA ad)) av s 0 0 (mA ad)) (F0 m 172 ls []) := by
            intro v4 a_from n172
            induction n172 with
            | zero => intro H locs ls v5 v6 a_listed hl hP hS h; cases h
            | succ n172 ih172 =>
              intro H locs ls v5 v6 a_listed hl hP hS h
              replace h : mo_laysLists_B172 v1 v2 v4 y_kin a_mkin a_from k43 k160 (fl3 (mo_laysLists_B172 v1 v2 v4 y_kin a_mkin a_from k43 k160) n172) v5 v6 a_listed = some (z_y_kin, z_a_listed, z_a_mkin, z_a_from) := h
              generalize fl3 (mo_laysLists_B172 v1 v2 v4 y_kin a_mkin a_from k43 k160) n172 = k172 at h ih172
              have hJ235 : ∀ (H : Heap) (locs : List Loc) (ls : Array Slot) (v5 : Int32) (v6 : Int32) (a_listed : Nat → Int64) , lv_has ls 7 [(0, .ref (ad 0)), (1, .int v1), (2, .int v2), (4, .int v4), (5, .int v5), (6, .int v6)] → mP D ct ad y_km y_tp y_goes y_kin y_qd y_sides y_cuts y_flat y_cp y_cA y_cB y_1X y_1Y y_2X y_2Y y_tm y_cells a_mtape a_flood a_going a_field a_from a_mcrowds a_steps a_queue a_letter a_lineX a_lineY a_triedAt a_cellAt a_besideIn a_apart a_drawer a_mkept a_listed a_mkin a_tried a_takenAt a_waysOf H → va_S (mA ad) s.heap H locs → mo_laysLists_J235 k43 k160 k172 v1 v2 v4 v5 v6 y_kin a_listed a_mkin a_from = some (z_y_kin, z_a_listed, z_a_mkin, z_a_from) → W p l e (rmm 4 100) s m av below meth c H locs 0 0 (MQ below (va_Qv (fun (_ : Unit) => True) (fun _ t => mP D ct ad y_km y_tp y_goes z_y_kin y_qd y_sides y_cuts y_flat y_cp y_cA y_cB y_1X y_1Y y_2X y_2Y y_tm y_cells a_mtape a_flood a_going a_field z_a_from a_mcrowds a_steps a_queue a_letter a_lineX a_lineY a_triedAt a_cellAt a_besideIn a_apart a_drawer a_mkept z_a_listed z_a_mkin a_tried a_takenAt a_waysOf t.heap) (mA ad)) av s 0 0 (mA ad)) (F0 m 235 ls []) := by
                intro H locs ls v5 v6 a_listed  hl hP hS h
                rw [mo_laysLists_J235] at h
                obtain ⟨v6_32, ev6_32, h⟩ := nm_s h
                refine lv_iinc hx hb dX12_laysLists_235 hl (k := 5) rfl ev6_32.symm (Nat.le_of_ble_eq_true rfl) (lv' := [(6, .int v6_32), (0, .ref (ad 0)), (1, .int v1), (2, .int v2), (4, .int v4), (5, .int v5)]) rfl (fun ls hl => ?_)
                refine lv_goto hx hb dX12_laysLists_238 (tgt := 172) rfl ?_
                exact ih172 _ _ _ v5 v6_32 a_listed (lv_sub hl [1, 2, 3, 4, 5, 0] rfl) hP hS h
              rw [mo_laysLists_B172] at h
              refine lv_iload hx hb dX12_laysLists_172 (lv_at hl 5 rfl) ?_
              refine lv_aload_n hx hb dX12_laysLists_174 rfl (lv_at hl 0 rfl) ?_
              refine mg_MO_11 hx hb hw hown hK hP dX12_laysLists_175 ?_
              refine lv_iconst (v := 3) hx hb dX12_laysLists_178 ki_3 ?_
              refine lv_iload_n hx hb dX12_laysLists_179 rfl (lv_at hl 1 rfl) ?_
              refine lv_iconst (v := 1) hx hb dX12_laysLists_180 ki_1 ?_
              refine lv_isub hx hb dX12_laysLists_181 ?_
              refine lv_imul hx hb dX12_laysLists_182 ?_
              refine lv_iconst (v := 1) hx hb dX12_laysLists_183 ki_1 ?_
              refine lv_iadd hx hb dX12_laysLists_184 ?_
              obtain ⟨i_33, ei_33, h⟩ := nm_s h
              refine nmI ei_33 ?_
              obtain ⟨hin, h⟩ := ck_s h
              refine md_from hx hb hK hP hin dX12_laysLists_185 ?_
              refine lv_icmp_ge hx hb dX12_laysLists_186 (tgt := 241) rfl (fun hc => ?_) (fun hc => ?_)
              · replace h := ifp h hc
                refine lv_iload hx hb dX12_laysLists_241 (lv_at hl 4 rfl) ?_
                refine lv_istore_n hx hb dX12_laysLists_243 rfl hl (Nat.le_of_ble_eq_true rfl) (lv' := [(3, .int v5), (0, .ref (ad 0)), (1, .int v1), (2, .int v2), (4, .int v4), (5, .int v5), (6, .int v6)]) rfl (fun ls hl => ?_)
                refine lv_aload_n hx hb dX12_laysLists_244 rfl (lv_at hl 1 rfl) ?_
                refine mg_MO_11 hx hb hw hown hK hP dX12_laysLists_245 ?_
                refine lv_iconst (v := 3) hx hb dX12_laysLists_248 ki_3 ?_
                refine lv_iload_n hx hb dX12_laysLists_249 rfl (lv_at hl 2 rfl) ?_
                refine lv_iconst (v := 1) hx hb dX12_laysLists_250 ki_1 ?_
                refine lv_isub hx hb dX12_laysLists_251 ?_
                refine lv_imul hx hb dX12_laysLists_252 ?_
                refine lv_iload hx hb dX12_laysLists_253 (lv_at hl 4 rfl) ?_
                refine lv_iadd hx hb dX12_laysLists_255 ?_
                refine lv_iconst (v := 1) hx hb dX12_laysLists_256 ki_1 ?_
                refine lv_iadd hx hb dX12_laysLists_257 ?_
                refine lv_iload_n hx hb dX12_laysLists_258 rfl (lv_at hl 0 rfl) ?_
                obtain ⟨i_34, ei_34, h⟩ := nm_s h
                refine nmI2 ei_34 ?_
                obtain ⟨hin, h⟩ := ck_s h
                obtain ⟨a_from_35, ea_from_35, h⟩ := nm_s h
                refine ms_from hx hb hK hP hI hS hin ea_from_35 dX12_laysLists_259 (fun H locs hP hS => ?_)
                obtain ⟨v4_36, ev4_36, h⟩ := nm_s h
                refine lv_iinc hx hb dX12_laysLists_260 hl (k := 4) rfl ev4_36.symm (Nat.le_of_ble_eq_true rfl) (lv' := [(4, .int v4_36), (3, .int v5), (0, .ref (ad 0)), (1, .int v1), (2, .int v2), (5, .int v5), (6, .int v6)]) rfl (fun ls hl => ?_)
                refine lv_goto hx hb dX12_laysLists_263 (tgt := 160) rfl ?_
                exact ih160 _ _ _ v5 v4_36 a_listed a_from_35 (lv_sub hl [2, 3, 4, 1, 0] rfl) hP hS h
              · replace h := ifn h hc
                refine lv_aload_n hx hb dX12_laysLists_189 rfl (lv_at hl 0 rfl) ?_
                refine mg_MO_9 hx hb hw hown hK hP dX12_laysLists_190 ?_
                refine lv_iload hx hb dX12_laysLists_193 (lv_at hl 5 rfl) ?_
                obtain ⟨hin, h⟩ := ck_s h
                refine md_listed hx hb hK hP hin dX12_laysLists_195 ?_
                refine lv_iload hx hb dX12_laysLists_196 (lv_at hl 3 rfl) ?_
                obtain ⟨r_37, hr_38, h⟩ := bd1_s h
                refine sc_l hx hb hml hown hw hN (c_mo_ownOf l (a_listed v6.toNatClampNeg) v4 r_37 hr_38) g_RX12_199 hd_X12_ownOf (rest := []) hl.1 hS dX12_laysLists_198 rfl rfl ⟨Nat.le_of_ble_eq_true rfl, Nat.le_of_ble_eq_true rfl⟩ rfl rfl (Nat.le_of_ble_eq_true rfl) ⟨Nat.zero_le _, Nat.zero_le _⟩ (fun H locs hk hS => ?_)
                have hP := mP_kept hP hk
                refine lv_aload_n hx hb dX12_laysLists_201 rfl (lv_at hl 0 rfl) ?_
                refine mg_MO_9 hx hb hw hown hK hP dX12_laysLists_202 ?_
                refine lv_iload hx hb dX12_laysLists_205 (lv_at hl 5 rfl) ?_
                obtain ⟨hin, h⟩ := ck_s h
                refine md_listed hx hb hK hP hin dX12_laysLists_207 ?_
                refine W.lcmp hx hb dX12_laysLists_208 ?_
                refine lv_if_eq hx hb dX12_laysLists_209 (tgt := 215) rfl (fun hc => ?_) (fun hc => ?_)
                · replace h := ifp h ((lg_cmp_eq _ _).mp hc)
                  refine lv_aload_n hx hb dX12_laysLists_215 rfl (lv_at hl 0 rfl) ?_
                  refine mg_MO_9 hx hb hw hown hK hP dX12_laysLists_216 ?_
                  refine lv_iload hx hb dX12_laysLists_219 (lv_at hl 4 rfl) ?_
                  refine lv_aload_n hx hb dX12_laysLists_221 rfl (lv_at hl 0 rfl) ?_
                  refine mg_MO_9 hx hb hw hown hK hP dX12_laysLists_222 ?_
                  refine lv_iload hx hb dX12_laysLists_225 (lv_at hl 5 rfl) ?_
                  obtain ⟨hin, h⟩ := ck_s h
                  refine md_listed hx hb hK hP hin dX12_laysLists_227 ?_
                  obtain ⟨w_39, ew_39, h⟩ := nm_s h
                  refine nmL ew_39 ?_
                  obtain ⟨hin, h⟩ := ck_s h
                  obtain ⟨a_listed_40, ea_listed_40, h⟩ := nm_s h
                  refine ms_listed hx hb hK hP hI hS hin ea_listed_40 dX12_laysLists_228 (fun H locs hP hS => ?_)
                  refine lv_iload hx hb dX12_laysLists_229 (lv_at hl 4 rfl) ?_
                  refine lv_iconst (v := 1) hx hb dX12_laysLists_231 ki_1 ?_
                  refine lv_iadd hx hb dX12_laysLists_232 ?_
                  obtain ⟨v5_41, ev5_41, h⟩ := nm_s h
                  refine nmI ev5_41 ?_
                  refine lv_istore hx hb dX12_laysLists_233 hl (Nat.le_of_ble_eq_true rfl) (lv' := [(5, .int v5_41), (0, .ref (ad 0)), (1, .int v1), (2, .int v2), (4, .int v4), (6, .int v6)]) rfl (fun ls hl => ?_)
                  exact hJ235 _ _ _ v5_41 v6 a_listed_40 (lv_sub hl [1, 2, 3, 4, 0, 5] rfl) hP hS h
                · replace h := ifn h (fun q => hc ((lg_cmp_eq _ _).mpr q))
                  refine lv_goto hx hb dX12_laysLists_212 (tgt := 235) rfl ?_
                  exact hJ235 _ _ _ v5 v6 a_listed (lv_sub hl [0, 1, 2, 3, 4, 5] rfl) hP hS h
          rw [mo_laysLists_B160] at h
          refine lv_iload hx hb dX12_laysLists_160 (lv_at hl 4 rfl) ?_
          refine lv_iconst (v := 3) hx hb dX12_laysLists_162 ki_3 ?_
          refine lv_icmp_ge hx hb dX12_laysLists_163 (tgt := 266) rfl (fun hc => ?_) (fun hc => ?_)
          · replace h := ifp h hc
            obtain ⟨v1_42, ev1_42, h⟩ := nm_s h
            refine lv_iinc hx hb dX12_laysLists_266 hl (k := 1) rfl ev1_42.symm (Nat.le_of_ble_eq_true rfl) (lv' := [(1, .int v1_42), (0, .ref (ad 0)), (2, .int v2), (3, .int v3), (4, .int v4)]) rfl (fun ls hl => ?_)
            refine lv_goto hx hb dX12_laysLists_269 (tgt := 43) rfl ?_
            exact ih43 _ _ _ v1_42 y_kin a_listed a_mkin a_from (lv_sub hl [1, 0] rfl) hP hS h
          · replace h := ifn h hc
            refine lv_iload_n hx hb dX12_laysLists_166 rfl (lv_at hl 3 rfl) ?_
            refine lv_istore hx hb dX12_laysLists_167 hl (Nat.le_of_ble_eq_true rfl) (lv' := [(5, .int v3), (0, .ref (ad 0)), (1, .int v1), (2, .int v2), (3, .int v3), (4, .int v4)]) rfl (fun ls hl => ?_)
            refine lv_iload_n hx hb dX12_laysLists_169 rfl (lv_at hl 3 rfl) ?_
            refine lv_istore hx hb dX12_laysLists_170 hl (Nat.le_of_ble_eq_true rfl) (lv' := [(6, .int v2), (5, .int v3), (0, .ref (ad 0)), (1, .int v1), (2, .int v2), (3, .int v3), (4, .int v4)]) rfl (fun ls hl => ?_)
            exact hL172 v4 a_from FU _ _ _ v3 v2 a_listed (lv_sub hl [2, 3, 4, 6, 1, 0] rfl) hP hS h
      have hL74 : ∀ (v1 : Int32), ∀ (v2 : Int32), ∀ (a_from : Nat → Int32), ∀ (n74 : Nat) (H : Heap) (locs : List Loc) (ls : Array Slot) (v3 : Int32) (v4 : Int32) (y_kin : Int32) (a_listed : Nat → Int64) (a_mkin : Nat → Int64), lv_has ls 7 [(0, .ref (ad 0)), (1, .int v1), (2, .int v2), (3, .int v3), (4, .int v4)] → mP D ct ad y_km y_tp y_goes y_kin y_qd y_sides y_cuts y_flat y_cp y_cA y_cB y_1X y_1Y y_2X y_2Y y_tm y_cells a_mtape a_flood a_going a_field a_from a_mcrowds a_steps a_queue a_letter a_lineX a_lineY a_triedAt a_cellAt a_besideIn a_apart a_drawer a_mkept a_listed a_mkin a_tried a_takenAt a_waysOf H → va_S (mA ad) s.heap H locs → fl5 (mo_laysLists_B74 v1 v2 a_from k43) n74 v3 v4 y_kin a_listed a_mkin = some (z_y_kin, z_a_listed, z_a_mkin, z_a_from) → W p l e (rmm 4 100) s m av below meth c H locs 0 0 (MQ below (va_Qv (fun (_ : Unit) => True) (fun _ t => mP D ct ad y_km y_tp y_goes z_y_kin y_qd y_sides y_cuts y_flat y_cp y_cA y_cB y_1X y_1Y y_2X y_2Y y_tm y_cells a_mtape a_flood a_going a_field z_a_from a_mcrowds a_steps a_queue a_letter a_lineX a_lineY a_triedAt a_cellAt a_besideIn a_apart a_drawer a_mkept z_a_listed z_a_mkin a_tried a_takenAt a_waysOf t.heap) (mA ad)) av s 0 0 (mA ad)) (F0 m 74 ls []) := by
        intro v1 v2 a_from n74
        induction n74 with
        | zero => intro H locs ls v3 v4 y_kin a_listed a_mkin hl hP hS h; cases h
        | succ n74 ih74 =>
          intro H locs ls v3 v4 y_kin a_listed a_mkin hl hP hS h
          replace h : mo_laysLists_B74 v1 v2 a_from k43 (fl5 (mo_laysLists_B74 v1 v2 a_from k43) n74) v3 v4 y_kin a_listed a_mkin = some (z_y_kin, z_a_listed, z_a_mkin, z_a_from) := h
          generalize fl5 (mo_laysLists_B74 v1 v2 a_from k43) n74 = k74 at h ih74
          have hL106 : ∀ (v4 : Int32), ∀ (y_kin : Int32), ∀ (a_mkin : Nat → Int64), ∀ (n106 : Nat) (H : Heap) (locs : List Loc) (ls : Array Slot) (v3 : Int32) (v5 : Int32) (a_listed : Nat → Int64), lv_has ls 7 [(0, .ref (ad 0)), (1, .int v1), (2, .int v2), (3, .int v3), (4, .int v4), (5, .int v5)] → mP D ct ad y_km y_tp y_goes y_kin y_qd y_sides y_cuts y_flat y_cp y_cA y_cB y_1X y_1Y y_2X y_2Y y_tm y_cells a_mtape a_flood a_going a_field a_from a_mcrowds a_steps a_queue a_letter a_lineX a_lineY a_triedAt a_cellAt a_besideIn a_apart a_drawer a_mkept a_listed a_mkin a_tried a_takenAt a_waysOf H → va_S (mA ad) s.heap H locs → fl3 (mo_laysLists_B106 v1 v2 v4 y_kin a_mkin a_from k43 k74) n106 v3 v5 a_listed = some (z_y_kin, z_a_listed, z_a_mkin, z_a_from) → W p l e (rmm 4 100) s m av below meth c H locs 0 0 (MQ below (va_Qv (fun (_ : Unit) => True) (fun _ t => mP D ct ad y_km y_tp y_goes z_y_kin y_qd y_sides y_cuts y_flat y_cp y_cA y_cB y_1X y_1Y y_2X y_2Y y_tm y_cells a_mtape a_flood a_going a_field z_a_from a_mcrowds a_steps a_queue a_letter a_lineX a_lineY a_triedAt a_cellAt a_besideIn a_apart a_drawer a_mkept z_a_listed z_a_mkin a_tried a_takenAt a_waysOf t.heap) (mA ad)) av s 0 0 (mA ad)) (F0 m 106 ls []) := by
            intro v4 y_kin a_mkin n106
            induction n106 with
            | zero => intro H locs ls v3 v5 a_listed hl hP hS h; cases h
            | succ n106 ih106 =>
              intro H locs ls v3 v5 a_listed hl hP hS h
              replace h : mo_laysLists_B106 v1 v2 v4 y_kin a_mkin a_from k43 k74 (fl3 (mo_laysLists_B106 v1 v2 v4 y_kin a_mkin a_from k43 k74) n106) v3 v5 a_listed = some (z_y_kin, z_a_listed, z_a_mkin, z_a_from) := h
              generalize fl3 (mo_laysLists_B106 v1 v2 v4 y_kin a_mkin a_from k43 k74) n106 = k106 at h ih106
              rw [mo_laysLists_B106] at h
              refine lv_iload hx hb dX12_laysLists_106 (lv_at hl 5 rfl) ?_
              refine lv_aload_n hx hb dX12_laysLists_108 rfl (lv_at hl 0 rfl) ?_
              refine mg_MO_12 hx hb hw hown hK hP dX12_laysLists_109 ?_
              refine lv_icmp_ge hx hb dX12_laysLists_112 (tgt := 138) rfl (fun hc => ?_) (fun hc => ?_)
              · replace h := ifp h hc
                obtain ⟨v4_43, ev4_43, h⟩ := nm_s h
                refine lv_iinc hx hb dX12_laysLists_138 hl (k := 4) rfl ev4_43.symm (Nat.le_of_ble_eq_true rfl) (lv' := [(4, .int v4_43), (0, .ref (ad 0)), (1, .int v1), (2, .int v2), (3, .int v3), (5, .int v5)]) rfl (fun ls hl => ?_)
                refine lv_goto hx hb dX12_laysLists_141 (tgt := 74) rfl ?_
                exact ih74 _ _ _ v3 v4_43 y_kin a_listed a_mkin (lv_sub hl [1, 2, 3, 4, 0] rfl) hP hS h
              · replace h := ifn h hc
                refine lv_aload_n hx hb dX12_laysLists_115 rfl (lv_at hl 0 rfl) ?_
                refine mg_MO_9 hx hb hw hown hK hP dX12_laysLists_116 ?_
                refine lv_iload_n hx hb dX12_laysLists_119 rfl (lv_at hl 2 rfl) ?_
                refine lv_iload_n hx hb dX12_laysLists_120 rfl (lv_at hl 3 rfl) ?_
                refine lv_aload_n hx hb dX12_laysLists_121 rfl (lv_at hl 0 rfl) ?_
                refine mg_MO_10 hx hb hw hown hK hP dX12_laysLists_122 ?_
                refine lv_iload hx hb dX12_laysLists_125 (lv_at hl 5 rfl) ?_
                obtain ⟨hin, h⟩ := ck_s h
                refine md_mkin hx hb hK hP hin dX12_laysLists_127 ?_
                obtain ⟨r_44, a_listed_45, hr_46, h⟩ := bd2_s h
                refine hs_i hx hb hml hown hw mB_bl (mB_of hN hK hP) (c_mo_comesIn_listed l D ct ad hI v2 v3 (a_mkin v5.toNatClampNeg) r_44 a_listed_45 hr_46) g_RX12_232 hd_X12_comesIn (rest := []) hl.1 hS (fun q h => h) dX12_laysLists_128 rfl rfl ⟨Nat.le_of_ble_eq_true rfl, Nat.le_of_ble_eq_true rfl⟩ rfl rfl (Nat.le_of_ble_eq_true rfl) ⟨Nat.zero_le _, Nat.zero_le _⟩ (fun H locs hP _ hS => ?_)
                refine lv_istore_n hx hb dX12_laysLists_131 rfl hl (Nat.le_of_ble_eq_true rfl) (lv' := [(3, .int r_44), (0, .ref (ad 0)), (1, .int v1), (2, .int v2), (4, .int v4), (5, .int v5)]) rfl (fun ls hl => ?_)
                obtain ⟨v5_47, ev5_47, h⟩ := nm_s h
                refine lv_iinc hx hb dX12_laysLists_132 hl (k := 5) rfl ev5_47.symm (Nat.le_of_ble_eq_true rfl) (lv' := [(5, .int v5_47), (3, .int r_44), (0, .ref (ad 0)), (1, .int v1), (2, .int v2), (4, .int v4)]) rfl (fun ls hl => ?_)
                refine lv_goto hx hb dX12_laysLists_135 (tgt := 106) rfl ?_
                exact ih106 _ _ _ r_44 v5_47 a_listed_45 (lv_sub hl [2, 3, 4, 1, 5, 0] rfl) hP hS h
          rw [mo_laysLists_B74] at h
          refine lv_iload hx hb dX12_laysLists_74 (lv_at hl 4 rfl) ?_
          refine lv_aload_n hx hb dX12_laysLists_76 rfl (lv_at hl 0 rfl) ?_
          refine mg_MO_11 hx hb hw hown hK hP dX12_laysLists_77 ?_
          refine lv_iconst (v := 3) hx hb dX12_laysLists_80 ki_3 ?_
          refine lv_iload_n hx hb dX12_laysLists_81 rfl (lv_at hl 1 rfl) ?_
          refine lv_iconst (v := 2) hx hb dX12_laysLists_82 ki_2 ?_
          refine lv_isub hx hb dX12_laysLists_83 ?_
          refine lv_imul hx hb dX12_laysLists_84 ?_
          refine lv_iconst (v := 1) hx hb dX12_laysLists_85 ki_1 ?_
          refine lv_iadd hx hb dX12_laysLists_86 ?_
          obtain ⟨i_48, ei_48, h⟩ := nm_s h
          refine nmI ei_48 ?_
          obtain ⟨hin, h⟩ := ck_s h
          refine md_from hx hb hK hP hin dX12_laysLists_87 ?_
          refine lv_icmp_ge hx hb dX12_laysLists_88 (tgt := 144) rfl (fun hc => ?_) (fun hc => ?_)
          · replace h := ifp h hc
            refine lv_aload_n hx hb dX12_laysLists_144 rfl (lv_at hl 0 rfl) ?_
            refine mg_MO_11 hx hb hw hown hK hP dX12_laysLists_145 ?_
            refine lv_iconst (v := 3) hx hb dX12_laysLists_148 ki_3 ?_
            refine lv_iload_n hx hb dX12_laysLists_149 rfl (lv_at hl 1 rfl) ?_
            refine lv_iconst (v := 1) hx hb dX12_laysLists_150 ki_1 ?_
            refine lv_isub hx hb dX12_laysLists_151 ?_
            refine lv_imul hx hb dX12_laysLists_152 ?_
            refine lv_iconst (v := 1) hx hb dX12_laysLists_153 ki_1 ?_
            refine lv_iadd hx hb dX12_laysLists_154 ?_
            refine lv_iload_n hx hb dX12_laysLists_155 rfl (lv_at hl 3 rfl) ?_
            obtain ⟨i_49, ei_49, h⟩ := nm_s h
            refine nmI2 ei_49 ?_
            obtain ⟨hin, h⟩ := ck_s h
            obtain ⟨a_from_50, ea_from_50, h⟩ := nm_s h
            refine ms_from hx hb hK hP hI hS hin ea_from_50 dX12_laysLists_156 (fun H locs hP hS => ?_)
            refine lv_iconst (v := 1) hx hb dX12_laysLists_157 ki_1 ?_
            refine lv_istore hx hb dX12_laysLists_158 hl (Nat.le_of_ble_eq_true rfl) (lv' := [(4, .int 1), (0, .ref (ad 0)), (1, .int v1), (2, .int v2), (3, .int v3)]) rfl (fun ls hl => ?_)
            exact hL160 v1 v2 y_kin a_mkin FU _ _ _ v3 1 a_listed a_from_50 (lv_sub hl [1, 2, 3, 4, 0] rfl) hP hS h
          · replace h := ifn h hc
            refine lv_aload_n hx hb dX12_laysLists_91 rfl (lv_at hl 0 rfl) ?_
            refine lv_aload_n hx hb dX12_laysLists_92 rfl (lv_at hl 0 rfl) ?_
            refine mg_MO_9 hx hb hw hown hK hP dX12_laysLists_93 ?_
            refine lv_iload hx hb dX12_laysLists_96 (lv_at hl 4 rfl) ?_
            obtain ⟨hin, h⟩ := ck_s h
            refine md_listed hx hb hK hP hin dX12_laysLists_98 ?_
            refine lv_iconst (v := 0) hx hb dX12_laysLists_99 ki_0 ?_
            obtain ⟨y_kin_51, a_mkin_52, hr_53, h⟩ := bd2_s h
            refine hv_v hx hb hml hown hw mB_bl (mB_of hN hK hP) (mr_MO hK hP) (c_mo_laysGrown l D ct ad hI (a_listed v4.toNatClampNeg) 0 y_kin_51 a_mkin_52 hr_53) g_RX12_225 ⟨rfl, hd_X12_laysGrown⟩ (rest := []) hl.1 hS (fun q h => h) dX12_laysLists_100 rfl rfl ⟨Nat.le_of_ble_eq_true rfl, Nat.le_of_ble_eq_true rfl⟩ rfl rfl (Nat.le_of_ble_eq_true rfl) ⟨Nat.zero_le _, Nat.zero_le _⟩ (fun H locs hP _ hS => ?_)
            refine lv_iconst (v := 0) hx hb dX12_laysLists_103 ki_0 ?_
            refine lv_istore hx hb dX12_laysLists_104 hl (Nat.le_of_ble_eq_true rfl) (lv' := [(5, .int 0), (0, .ref (ad 0)), (1, .int v1), (2, .int v2), (3, .int v3), (4, .int v4)]) rfl (fun ls hl => ?_)
            exact hL106 v4 y_kin_51 a_mkin_52 FU _ _ _ v3 0 a_listed (lv_sub hl [1, 2, 3, 4, 5, 0] rfl) hP hS h
      rw [mo_laysLists_B43] at h
      refine lv_iload_n hx hb dX12_laysLists_43 rfl (lv_at hl 1 rfl) ?_
      refine lv_bipush (v := 7) hx hb dX12_laysLists_44 kb_7 ?_
      refine lv_icmp_gt hx hb dX12_laysLists_46 (tgt := 272) rfl (fun hc => ?_) (fun hc => ?_)
      · replace h := ifp h hc
        simp only [Option.some.injEq, Prod.mk.injEq] at h
        obtain ⟨rfl, rfl, rfl, rfl⟩ := h
        exact rc_v hx hb hr hlocks hS dX12_laysLists_272 hP
      · replace h := ifn h hc
        refine lv_aload_n hx hb dX12_laysLists_49 rfl (lv_at hl 0 rfl) ?_
        refine mg_MO_11 hx hb hw hown hK hP dX12_laysLists_50 ?_
        refine lv_iconst (v := 3) hx hb dX12_laysLists_53 ki_3 ?_
        refine lv_iload_n hx hb dX12_laysLists_54 rfl (lv_at hl 1 rfl) ?_
        refine lv_iconst (v := 1) hx hb dX12_laysLists_55 ki_1 ?_
        refine lv_isub hx hb dX12_laysLists_56 ?_
        refine lv_imul hx hb dX12_laysLists_57 ?_
        obtain ⟨i_54, ei_54, h⟩ := nm_s h
        refine nmI ei_54 ?_
        obtain ⟨hin, h⟩ := ck_s h
        refine md_from hx hb hK hP hin dX12_laysLists_58 ?_
        obtain ⟨v2_55, ev2_55, h⟩ := nm_s h
        refine nmI ev2_55 ?_
        refine lv_istore_n hx hb dX12_laysLists_59 rfl hl (Nat.le_of_ble_eq_true rfl) (lv' := [(2, .int v2_55), (0, .ref (ad 0)), (1, .int v1)]) rfl (fun ls hl => ?_)
        refine lv_iload_n hx hb dX12_laysLists_60 rfl (lv_at hl 0 rfl) ?_
        refine lv_istore_n hx hb dX12_laysLists_61 rfl hl (Nat.le_of_ble_eq_true rfl) (lv' := [(3, .int v2_55), (2, .int v2_55), (0, .ref (ad 0)), (1, .int v1)]) rfl (fun ls hl => ?_)
        refine lv_aload_n hx hb dX12_laysLists_62 rfl (lv_at hl 2 rfl) ?_
        refine mg_MO_11 hx hb hw hown hK hP dX12_laysLists_63 ?_
        refine lv_iconst (v := 3) hx hb dX12_laysLists_66 ki_3 ?_
        refine lv_iload_n hx hb dX12_laysLists_67 rfl (lv_at hl 3 rfl) ?_
        refine lv_iconst (v := 2) hx hb dX12_laysLists_68 ki_2 ?_
        refine lv_isub hx hb dX12_laysLists_69 ?_
        refine lv_imul hx hb dX12_laysLists_70 ?_
        obtain ⟨i_56, ei_56, h⟩ := nm_s h
        refine nmI ei_56 ?_
        obtain ⟨hin, h⟩ := ck_s h
        refine md_from hx hb hK hP hin dX12_laysLists_71 ?_
        obtain ⟨v4_57, ev4_57, h⟩ := nm_s h
        refine nmI ev4_57 ?_
        refine lv_istore hx hb dX12_laysLists_72 hl (Nat.le_of_ble_eq_true rfl) (lv' := [(4, .int v4_57), (3, .int v2_55), (2, .int v2_55), (0, .ref (ad 0)), (1, .int v1)]) rfl (fun ls hl => ?_)
        exact hL74 v1 v2_55 a_from FU _ _ _ v2_55 v4_57 y_kin a_listed a_mkin (lv_sub hl [3, 4, 2, 1, 0] rfl) hP hS h
  have hL23 : ∀ (y_kin : Int32), ∀ (a_listed : Nat → Int64), ∀ (a_mkin : Nat → Int64), ∀ (n23 : Nat) (H : Heap) (locs : List Loc) (ls : Array Slot) (v1 : Int32) (a_from : Nat → Int32), lv_has ls 7 [(0, .ref (ad 0)), (1, .int v1)] → mP D ct ad y_km y_tp y_goes y_kin y_qd y_sides y_cuts y_flat y_cp y_cA y_cB y_1X y_1Y y_2X y_2Y y_tm y_cells a_mtape a_flood a_going a_field a_from a_mcrowds a_steps a_queue a_letter a_lineX a_lineY a_triedAt a_cellAt a_besideIn a_apart a_drawer a_mkept a_listed a_mkin a_tried a_takenAt a_waysOf H → va_S (mA ad) s.heap H locs → fl2 (mo_laysLists_B23 y_kin a_listed a_mkin) n23 v1 a_from = some (z_y_kin, z_a_listed, z_a_mkin, z_a_from) → W p l e (rmm 4 100) s m av below meth c H locs 0 0 (MQ below (va_Qv (fun (_ : Unit) => True) (fun _ t => mP D ct ad y_km y_tp y_goes z_y_kin y_qd y_sides y_cuts y_flat y_cp y_cA y_cB y_1X y_1Y y_2X y_2Y y_tm y_cells a_mtape a_flood a_going a_field z_a_from a_mcrowds a_steps a_queue a_letter a_lineX a_lineY a_triedAt a_cellAt a_besideIn a_apart a_drawer a_mkept z_a_listed z_a_mkin a_tried a_takenAt a_waysOf t.heap) (mA ad)) av s 0 0 (mA ad)) (F0 m 23 ls []) := by
    intro y_kin a_listed a_mkin n23
    induction n23 with
    | zero => intro H locs ls v1 a_from hl hP hS h; cases h
    | succ n23 ih23 =>
      intro H locs ls v1 a_from hl hP hS h
      replace h : mo_laysLists_B23 y_kin a_listed a_mkin (fl2 (mo_laysLists_B23 y_kin a_listed a_mkin) n23) v1 a_from = some (z_y_kin, z_a_listed, z_a_mkin, z_a_from) := h
      generalize fl2 (mo_laysLists_B23 y_kin a_listed a_mkin) n23 = k23 at h ih23
      rw [mo_laysLists_B23] at h
      refine lv_iload_n hx hb dX12_laysLists_23 rfl (lv_at hl 1 rfl) ?_
      refine lv_iconst (v := 4) hx hb dX12_laysLists_24 ki_4 ?_
      refine lv_icmp_ge hx hb dX12_laysLists_25 (tgt := 41) rfl (fun hc => ?_) (fun hc => ?_)
      · replace h := ifp h hc
        refine lv_iconst (v := 2) hx hb dX12_laysLists_41 ki_2 ?_
        refine lv_istore_n hx hb dX12_laysLists_42 rfl hl (Nat.le_of_ble_eq_true rfl) (lv' := [(1, .int 2), (0, .ref (ad 0))]) rfl (fun ls hl => ?_)
        exact hL43  FU _ _ _ 2 y_kin a_listed a_mkin a_from (lv_sub hl [1, 0] rfl) hP hS h
      · replace h := ifn h hc
        refine lv_aload_n hx hb dX12_laysLists_28 rfl (lv_at hl 0 rfl) ?_
        refine mg_MO_11 hx hb hw hown hK hP dX12_laysLists_29 ?_
        refine lv_iload_n hx hb dX12_laysLists_32 rfl (lv_at hl 1 rfl) ?_
        refine lv_iload_n hx hb dX12_laysLists_33 rfl (lv_at hl 1 rfl) ?_
        obtain ⟨hin, h⟩ := ck_s h
        obtain ⟨a_from_58, ea_from_58, h⟩ := nm_s h
        refine ms_from hx hb hK hP hI hS hin ea_from_58 dX12_laysLists_34 (fun H locs hP hS => ?_)
        obtain ⟨v1_59, ev1_59, h⟩ := nm_s h
        refine lv_iinc hx hb dX12_laysLists_35 hl (k := 1) rfl ev1_59.symm (Nat.le_of_ble_eq_true rfl) (lv' := [(1, .int v1_59), (0, .ref (ad 0))]) rfl (fun ls hl => ?_)
        refine lv_goto hx hb dX12_laysLists_38 (tgt := 23) rfl ?_
        exact ih23 _ _ _ v1_59 a_from_58 (lv_sub hl [1, 0] rfl) hP hS h
  refine lv_aload_n hx hb dX12_laysLists_0 rfl (lv_at hl 0 rfl) ?_
  refine mg_MO_9 hx hb hw hown hK hP dX12_laysLists_1 ?_
  refine lv_iconst (v := 0) hx hb dX12_laysLists_4 ki_0 ?_
  refine lv_lconst (v := 1) hx hb dX12_laysLists_5 kl_1 ?_
  obtain ⟨hin, h⟩ := ck_s h
  obtain ⟨a_listed_60, ea_listed_60, h⟩ := nm_s h
  refine ms_listed hx hb hK hP hI hS hin ea_listed_60 dX12_laysLists_6 (fun H locs hP hS => ?_)
  refine lv_aload_n hx hb dX12_laysLists_7 rfl (lv_at hl 0 rfl) ?_
  refine mg_MO_9 hx hb hw hown hK hP dX12_laysLists_8 ?_
  refine lv_iconst (v := 1) hx hb dX12_laysLists_11 ki_1 ?_
  refine lv_lconst (v := 1) hx hb dX12_laysLists_12 kl_1 ?_
  obtain ⟨hin, h⟩ := ck_s h
  obtain ⟨a_listed_61, ea_listed_61, h⟩ := nm_s h
  refine ms_listed hx hb hK hP hI hS hin ea_listed_61 dX12_laysLists_13 (fun H locs hP hS => ?_)
  refine lv_aload_n hx hb dX12_laysLists_14 rfl (lv_at hl 0 rfl) ?_
  refine mg_MO_9 hx hb hw hown hK hP dX12_laysLists_15 ?_
  refine lv_iconst (v := 2) hx hb dX12_laysLists_18 ki_2 ?_
  refine lv_lconst (v := 1) hx hb dX12_laysLists_19 kl_1 ?_
  obtain ⟨hin, h⟩ := ck_s h
  obtain ⟨a_listed_62, ea_listed_62, h⟩ := nm_s h
  refine ms_listed hx hb hK hP hI hS hin ea_listed_62 dX12_laysLists_20 (fun H locs hP hS => ?_)
  refine lv_iconst (v := 0) hx hb dX12_laysLists_21 ki_0 ?_
  refine lv_istore_n hx hb dX12_laysLists_22 rfl hl (Nat.le_of_ble_eq_true rfl) (lv' := [(1, .int 0), (0, .ref (ad 0))]) rfl (fun ls hl => ?_)
  exact hL23 y_kin a_listed_62 a_mkin FU _ _ _ 0 a_from (lv_sub hl [1, 0] rfl) hP hS h
