set_option maxHeartbeats 4000000 in
set_option maxRecDepth 100000 in
theorem lawc_farthest {INV : INVT} (hop : OP_farthest INV) {p : Program} {l : Launch} {e : Env} {s : State} {m : MethodId} {below : List Frame} {meth : Method} {c : Code} {H : Heap} {locs : List Loc} {ls : Array Slot} {b L : Nat} {xs : Nat → Int32} {v3 : Int32} {D : va_G} {ct : Nat → ClassId} {ad am : Nat → Nat} {x_fed x_tk x_col x_line x_rcells x_rsize x_len x_cuts x_bare x_place x_lA x_lB x_lC x_fX x_fY x_sX x_sY x_made x_fsize x_psize x_over x_touch x_most x_mU x_mV x_area : Int32} {x_board : Int64} {a_tape a_letters a_oneSided a_free a_ends a_crowds a_wmade a_firsts a_widths a_heights a_places a_next a_pnear a_table a_overlaps : Nat → Int32} {a_drawers a_kept a_items a_numbers a_marks a_near a_figures a_covered a_pcells a_matrix : Nat → Int64} {y_km y_tp y_goes y_kin y_qd y_sides y_cuts y_flat y_cp y_cA y_cB y_1X y_1Y y_2X y_2Y y_tm y_cells : Int32} {a_mtape a_flood a_going a_field a_from a_mcrowds a_steps a_queue a_letter a_lineX a_lineY a_triedAt a_cellAt a_besideIn a_apart : Nat → Int32} {a_drawer a_mkept a_listed a_mkin a_tried a_takenAt a_waysOf : Nat → Int64} (hx : p.tables.exec = Jvm.exec) (hb : c.code = code) (hml : c.maxLocals = 4) (hown : s.vm.findClass RL = some m.cls) (hw : ∀ w ∈ wsL_law, w.before #[Value.ref b] s = true) (hN : NW s) (hK : KK D ct s) (hX : va_X b L xs s s.heap) (hbl : b < s.heap.size) (hbA : ¬ s.heap.size ≤ b) (hI : cI ad) (hJ : mI am) (hcA : ∀ q, cA ad q → s.heap.size ≤ q) (hmA : ∀ q, mA am q → s.heap.size ≤ q) (hap : ∀ q, mA am q → ¬ cA ad q) (hap2 : ∀ q, cA ad q → ¬ mA am q) (hi1 : vp_in (v3 + 1) L) (hi2 : vp_in (v3 + 2) L) (hi3 : vp_in (v3 + 3) L) (hi4 : vp_in (v3 + 4) L) (hi5 : vp_in (v3 + 5) L) (hi6 : vp_in (v3 + 6) L) (hinv : INV x_fed x_tk x_col x_line x_rcells x_rsize x_len x_cuts x_bare x_place x_lA x_lB x_lC x_fX x_fY x_sX x_sY x_made x_fsize x_psize x_over x_touch x_most x_mU x_mV x_area x_board a_tape a_letters a_oneSided a_free a_ends a_crowds a_wmade a_firsts a_widths a_heights a_places a_next a_pnear a_table a_overlaps a_drawers a_kept a_items a_numbers a_marks a_near a_figures a_covered a_pcells a_matrix y_km y_tp y_goes y_kin y_qd y_sides y_cuts y_flat y_cp y_cA y_cB y_1X y_1Y y_2X y_2Y y_tm y_cells a_mtape a_flood a_going a_field a_from a_mcrowds a_steps a_queue a_letter a_lineX a_lineY a_triedAt a_cellAt a_besideIn a_apart a_drawer a_mkept a_listed a_mkin a_tried a_takenAt a_waysOf) (hP : cP D ct ad x_fed x_tk x_col x_line x_rcells x_rsize x_len x_cuts x_bare x_place x_lA x_lB x_lC x_fX x_fY x_sX x_sY x_made x_fsize x_psize x_over x_touch x_most x_mU x_mV x_area x_board a_tape a_letters a_oneSided a_free a_ends a_crowds a_wmade a_firsts a_widths a_heights a_places a_next a_pnear a_table a_overlaps a_drawers a_kept a_items a_numbers a_marks a_near a_figures a_covered a_pcells a_matrix H) (hQ : mP D ct am y_km y_tp y_goes y_kin y_qd y_sides y_cuts y_flat y_cp y_cA y_cB y_1X y_1Y y_2X y_2Y y_tm y_cells a_mtape a_flood a_going a_field a_from a_mcrowds a_steps a_queue a_letter a_lineX a_lineY a_triedAt a_cellAt a_besideIn a_apart a_drawer a_mkept a_listed a_mkin a_tried a_takenAt a_waysOf H) (hS : va_S (fun q : Nat => s.heap.size ≤ q) s.heap H locs) (hl : lv_has ls 4 [(3, .int v3), (0, .ref b), (1, .ref (ad 0)), (2, .ref (am 0))]) (next : ∀ (H : Heap) (locs : List Loc) (ls : Array Slot) {x_fed x_tk x_col x_line x_rcells x_rsize x_len x_cuts x_bare x_place x_lA x_lB x_lC x_fX x_fY x_sX x_sY x_made x_fsize x_psize x_over x_touch x_most x_mU x_mV x_area : Int32} {x_board : Int64} {a_tape a_letters a_oneSided a_free a_ends a_crowds a_wmade a_firsts a_widths a_heights a_places a_next a_pnear a_table a_overlaps : Nat → Int32} {a_drawers a_kept a_items a_numbers a_marks a_near a_figures a_covered a_pcells a_matrix : Nat → Int64} {y_km y_tp y_goes y_kin y_qd y_sides y_cuts y_flat y_cp y_cA y_cB y_1X y_1Y y_2X y_2Y y_tm y_cells : Int32} {a_mtape a_flood a_going a_field a_from a_mcrowds a_steps a_queue a_letter a_lineX a_lineY a_triedAt a_cellAt a_besideIn a_apart : Nat → Int32} {a_drawer a_mkept a_listed a_mkin a_tried a_takenAt a_waysOf : Nat → Int64}, lv_has ls 4 [(3, .int v3), (0, .ref b), (1, .ref (ad 0)), (2, .ref (am 0))] → INV x_fed x_tk x_col x_line x_rcells x_rsize x_len x_cuts x_bare x_place x_lA x_lB x_lC x_fX x_fY x_sX x_sY x_made x_fsize x_psize x_over x_touch x_most x_mU x_mV x_area x_board a_tape a_letters a_oneSided a_free a_ends a_crowds a_wmade a_firsts a_widths a_heights a_places a_next a_pnear a_table a_overlaps a_drawers a_kept a_items a_numbers a_marks a_near a_figures a_covered a_pcells a_matrix y_km y_tp y_goes y_kin y_qd y_sides y_cuts y_flat y_cp y_cA y_cB y_1X y_1Y y_2X y_2Y y_tm y_cells a_mtape a_flood a_going a_field a_from a_mcrowds a_steps a_queue a_letter a_lineX a_lineY a_triedAt a_cellAt a_besideIn a_apart a_drawer a_mkept a_listed a_mkin a_tried a_takenAt a_waysOf → cP D ct ad x_fed x_tk x_col x_line x_rcells x_rsize x_len x_cuts x_bare x_place x_lA x_lB x_lC x_fX x_fY x_sX x_sY x_made x_fsize x_psize x_over x_touch x_most x_mU x_mV x_area x_board a_tape a_letters a_oneSided a_free a_ends a_crowds a_wmade a_firsts a_widths a_heights a_places a_next a_pnear a_table a_overlaps a_drawers a_kept a_items a_numbers a_marks a_near a_figures a_covered a_pcells a_matrix H → mP D ct am y_km y_tp y_goes y_kin y_qd y_sides y_cuts y_flat y_cp y_cA y_cB y_1X y_1Y y_2X y_2Y y_tm y_cells a_mtape a_flood a_going a_field a_from a_mcrowds a_steps a_queue a_letter a_lineX a_lineY a_triedAt a_cellAt a_besideIn a_apart a_drawer a_mkept a_listed a_mkin a_tried a_takenAt a_waysOf H → va_S (fun q : Nat => s.heap.size ≤ q) s.heap H locs → W p l e room_1 s m #[Value.ref b] below meth c H locs 57 17144 (lw_Z below #[Value.ref b] s) (F0 m 1844 ls [])) : W p l e room_1 s m #[Value.ref b] below meth c H locs 57 17144 (lw_Z below #[Value.ref b] s) (F0 m 1114 ls []) := by
  by_cases hz : xs (v3 + 2).toNatClampNeg = 0
  · refine lv_aload_n hx hb dL_law_1114 rfl (lv_at hl 2 rfl) ?_
    refine lv_aload_n hx hb dL_law_1115 rfl (lv_at hl 1 rfl) ?_
    refine lv_iload_n hx hb dL_law_1116 rfl (lv_at hl 0 rfl) ?_
    refine lv_iconst (v := 1) hx hb dL_law_1117 ki_1 ?_
    refine lv_iadd hx hb dL_law_1118 ?_
    refine va_sld hx hb hX hbl hbA hS hi1 dL_law_1119 ?_
    refine lv_aload_n hx hb dL_law_1120 rfl (lv_at hl 1 rfl) ?_
    refine lv_iload_n hx hb dL_law_1121 rfl (lv_at hl 0 rfl) ?_
    refine lv_iconst (v := 2) hx hb dL_law_1122 ki_2 ?_
    refine lv_iadd hx hb dL_law_1123 ?_
    refine va_sld hx hb hX hbl hbA hS hi2 dL_law_1124 ?_
    refine lv_if_eq hx hb dL_law_1125 (tgt := 1132) rfl (fun _ => ?_) (fun hc => absurd hz hc)
    refine lv_iconst (v := 0) hx hb dL_law_1132 ki_0 ?_
    obtain ⟨r, zc_x_made, zc_a_numbers, zc_a_oneSided, zc_a_free, zc_a_ends, zc_a_near, zc_a_wmade, zm_y_qd, zm_a_steps, zm_a_queue, hc, hm, hinv⟩ := hop (xs (v3 + 1).toNatClampNeg) 0 (by first | exact Or.inl rfl | exact Or.inr rfl) hinv
    refine hv_i hx hb hml hown hw cB_bl (cB_of hN hK hP) (cr_CF hK hP) (c_cf_farthest l D ct ad hI (xs (v3 + 1).toNatClampNeg) 0 r zc_x_made zc_a_numbers zc_a_oneSided zc_a_free zc_a_ends zc_a_near zc_a_wmade hc) g_RL_102 ⟨rfl, hd_X11_farthest⟩ (rest := []) hl.1 hS hcA dL_law_1133 rfl rfl ⟨Nat.le_of_ble_eq_true rfl, Nat.le_of_ble_eq_true rfl⟩ rfl rfl (Nat.le_of_ble_eq_true rfl) ⟨Nat.le_of_ble_eq_true rfl, Nat.le_of_ble_eq_true rfl⟩ (fun H1 locs hP hk hS => ?_)
    replace hQ := mP_keptA hQ hk hap
    clear hk
    refine lv_aload_n hx hb dL_law_1136 rfl (lv_at hl 3 rfl) ?_
    refine lv_aload_n hx hb dL_law_1137 rfl (lv_at hl 1 rfl) ?_
    refine lv_iload_n hx hb dL_law_1138 rfl (lv_at hl 0 rfl) ?_
    refine lv_iconst (v := 1) hx hb dL_law_1139 ki_1 ?_
    refine lv_iadd hx hb dL_law_1140 ?_
    refine va_sld hx hb hX hbl hbA hS hi1 dL_law_1141 ?_
    refine lv_aload_n hx hb dL_law_1142 rfl (lv_at hl 1 rfl) ?_
    refine lv_iload_n hx hb dL_law_1143 rfl (lv_at hl 0 rfl) ?_
    refine lv_iconst (v := 2) hx hb dL_law_1144 ki_2 ?_
    refine lv_iadd hx hb dL_law_1145 ?_
    refine va_sld hx hb hX hbl hbA hS hi2 dL_law_1146 ?_
    refine lv_if_eq hx hb dL_law_1147 (tgt := 1154) rfl (fun _ => ?_) (fun hc => absurd hz hc)
    refine lv_iconst (v := 0) hx hb dL_law_1154 ki_0 ?_
    refine hv_i hx hb hml hown hw mB_bl (mB_of hN hK hQ) (mr_MO hK hQ) (c_mo_farthest l D ct am hJ (xs (v3 + 1).toNatClampNeg) 0 r zm_y_qd zm_a_steps zm_a_queue hm) g_RL_106 ⟨rfl, hd_X12_farthest⟩ (rest := [.int r]) hl.1 hS hmA dL_law_1155 rfl rfl ⟨Nat.le_of_ble_eq_true rfl, Nat.le_of_ble_eq_true rfl⟩ rfl rfl (Nat.le_of_ble_eq_true rfl) ⟨Nat.le_of_ble_eq_true rfl, Nat.le_of_ble_eq_true rfl⟩ (fun H2 locs hQ hk hS => ?_)
    replace hP := cP_keptA hP hk hap2
    refine lv_icmp_eq hx hb dL_law_1158 (tgt := 1844) rfl (fun _ => ?_) (fun hc => absurd rfl hc)
    exact next _ _ _ hl hinv hP hQ hS
  · refine lv_aload_n hx hb dL_law_1114 rfl (lv_at hl 2 rfl) ?_
    refine lv_aload_n hx hb dL_law_1115 rfl (lv_at hl 1 rfl) ?_
    refine lv_iload_n hx hb dL_law_1116 rfl (lv_at hl 0 rfl) ?_
    refine lv_iconst (v := 1) hx hb dL_law_1117 ki_1 ?_
    refine lv_iadd hx hb dL_law_1118 ?_
    refine va_sld hx hb hX hbl hbA hS hi1 dL_law_1119 ?_
    refine lv_aload_n hx hb dL_law_1120 rfl (lv_at hl 1 rfl) ?_
    refine lv_iload_n hx hb dL_law_1121 rfl (lv_at hl 0 rfl) ?_
    refine lv_iconst (v := 2) hx hb dL_law_1122 ki_2 ?_
    refine lv_iadd hx hb dL_law_1123 ?_
    refine va_sld hx hb hX hbl hbA hS hi2 dL_law_1124 ?_
    refine lv_if_eq hx hb dL_law_1125 (tgt := 1132) rfl (fun hc => absurd hc hz) (fun _ => ?_)
    refine lv_iconst (v := 1) hx hb dL_law_1128 ki_1 ?_
    refine lv_goto hx hb dL_law_1129 (tgt := 1133) rfl ?_
    obtain ⟨r, zc_x_made, zc_a_numbers, zc_a_oneSided, zc_a_free, zc_a_ends, zc_a_near, zc_a_wmade, zm_y_qd, zm_a_steps, zm_a_queue, hc, hm, hinv⟩ := hop (xs (v3 + 1).toNatClampNeg) 1 (by first | exact Or.inl rfl | exact Or.inr rfl) hinv
    refine hv_i hx hb hml hown hw cB_bl (cB_of hN hK hP) (cr_CF hK hP) (c_cf_farthest l D ct ad hI (xs (v3 + 1).toNatClampNeg) 1 r zc_x_made zc_a_numbers zc_a_oneSided zc_a_free zc_a_ends zc_a_near zc_a_wmade hc) g_RL_102 ⟨rfl, hd_X11_farthest⟩ (rest := []) hl.1 hS hcA dL_law_1133 rfl rfl ⟨Nat.le_of_ble_eq_true rfl, Nat.le_of_ble_eq_true rfl⟩ rfl rfl (Nat.le_of_ble_eq_true rfl) ⟨Nat.le_of_ble_eq_true rfl, Nat.le_of_ble_eq_true rfl⟩ (fun H1 locs hP hk hS => ?_)
    replace hQ := mP_keptA hQ hk hap
    clear hk
    refine lv_aload_n hx hb dL_law_1136 rfl (lv_at hl 3 rfl) ?_
    refine lv_aload_n hx hb dL_law_1137 rfl (lv_at hl 1 rfl) ?_
    refine lv_iload_n hx hb dL_law_1138 rfl (lv_at hl 0 rfl) ?_
    refine lv_iconst (v := 1) hx hb dL_law_1139 ki_1 ?_
    refine lv_iadd hx hb dL_law_1140 ?_
    refine va_sld hx hb hX hbl hbA hS hi1 dL_law_1141 ?_
    refine lv_aload_n hx hb dL_law_1142 rfl (lv_at hl 1 rfl) ?_
    refine lv_iload_n hx hb dL_law_1143 rfl (lv_at hl 0 rfl) ?_
    refine lv_iconst (v := 2) hx hb dL_law_1144 ki_2 ?_
    refine lv_iadd hx hb dL_law_1145 ?_
    refine va_sld hx hb hX hbl hbA hS hi2 dL_law_1146 ?_
    refine lv_if_eq hx hb dL_law_1147 (tgt := 1154) rfl (fun hc => absurd hc hz) (fun _ => ?_)
    refine lv_iconst (v := 1) hx hb dL_law_1150 ki_1 ?_
    refine lv_goto hx hb dL_law_1151 (tgt := 1155) rfl ?_
    refine hv_i hx hb hml hown hw mB_bl (mB_of hN hK hQ) (mr_MO hK hQ) (c_mo_farthest l D ct am hJ (xs (v3 + 1).toNatClampNeg) 1 r zm_y_qd zm_a_steps zm_a_queue hm) g_RL_106 ⟨rfl, hd_X12_farthest⟩ (rest := [.int r]) hl.1 hS hmA dL_law_1155 rfl rfl ⟨Nat.le_of_ble_eq_true rfl, Nat.le_of_ble_eq_true rfl⟩ rfl rfl (Nat.le_of_ble_eq_true rfl) ⟨Nat.le_of_ble_eq_true rfl, Nat.le_of_ble_eq_true rfl⟩ (fun H2 locs hQ hk hS => ?_)
    replace hP := cP_keptA hP hk hap2
    refine lv_icmp_eq hx hb dL_law_1158 (tgt := 1844) rfl (fun _ => ?_) (fun hc => absurd rfl hc)
    exact next _ _ _ hl hinv hP hQ hS
set_option maxHeartbeats 4000000 in
set_option maxRecDepth 100000 in
theorem lawc_drawn {INV : INVT} (hop : OP_drawn INV) {p : Program} {l : Launch} {e : Env} {s : State} {m : MethodId} {below : List Frame} {meth : Method} {c : Code} {H : Heap} {locs : List Loc} {ls : Array Slot} {b L : Nat} {xs : Nat → Int32} {v3 : Int32} {D : va_G} {ct : Nat → ClassId} {ad am : Nat → Nat} {x_fed x_tk x_col x_line x_rcells x_rsize x_len x_cuts x_bare x_place x_lA x_lB x_lC x_fX x_fY x_sX x_sY x_made x_fsize x_psize x_over x_touch x_most x_mU x_mV x_area : Int32} {x_board : Int64} {a_tape a_letters a_oneSided a_free a_ends a_crowds a_wmade a_firsts a_widths a_heights a_places a_next a_pnear a_table a_overlaps : Nat → Int32} {a_drawers a_kept a_items a_numbers a_marks a_near a_figures a_covered a_pcells a_matrix : Nat → Int64} {y_km y_tp y_goes y_kin y_qd y_sides y_cuts y_flat y_cp y_cA y_cB y_1X y_1Y y_2X y_2Y y_tm y_cells : Int32} {a_mtape a_flood a_going a_field a_from a_mcrowds a_steps a_queue a_letter a_lineX a_lineY a_triedAt a_cellAt a_besideIn a_apart : Nat → Int32} {a_drawer a_mkept a_listed a_mkin a_tried a_takenAt a_waysOf : Nat → Int64} (hx : p.tables.exec = Jvm.exec) (hb : c.code = code) (hml : c.maxLocals = 4) (hown : s.vm.findClass RL = some m.cls) (hw : ∀ w ∈ wsL_law, w.before #[Value.ref b] s = true) (hN : NW s) (hK : KK D ct s) (hX : va_X b L xs s s.heap) (hbl : b < s.heap.size) (hbA : ¬ s.heap.size ≤ b) (hI : cI ad) (hJ : mI am) (hcA : ∀ q, cA ad q → s.heap.size ≤ q) (hmA : ∀ q, mA am q → s.heap.size ≤ q) (hap : ∀ q, mA am q → ¬ cA ad q) (hap2 : ∀ q, cA ad q → ¬ mA am q) (hi1 : vp_in (v3 + 1) L) (hi2 : vp_in (v3 + 2) L) (hi3 : vp_in (v3 + 3) L) (hi4 : vp_in (v3 + 4) L) (hi5 : vp_in (v3 + 5) L) (hi6 : vp_in (v3 + 6) L) (hinv : INV x_fed x_tk x_col x_line x_rcells x_rsize x_len x_cuts x_bare x_place x_lA x_lB x_lC x_fX x_fY x_sX x_sY x_made x_fsize x_psize x_over x_touch x_most x_mU x_mV x_area x_board a_tape a_letters a_oneSided a_free a_ends a_crowds a_wmade a_firsts a_widths a_heights a_places a_next a_pnear a_table a_overlaps a_drawers a_kept a_items a_numbers a_marks a_near a_figures a_covered a_pcells a_matrix y_km y_tp y_goes y_kin y_qd y_sides y_cuts y_flat y_cp y_cA y_cB y_1X y_1Y y_2X y_2Y y_tm y_cells a_mtape a_flood a_going a_field a_from a_mcrowds a_steps a_queue a_letter a_lineX a_lineY a_triedAt a_cellAt a_besideIn a_apart a_drawer a_mkept a_listed a_mkin a_tried a_takenAt a_waysOf) (hP : cP D ct ad x_fed x_tk x_col x_line x_rcells x_rsize x_len x_cuts x_bare x_place x_lA x_lB x_lC x_fX x_fY x_sX x_sY x_made x_fsize x_psize x_over x_touch x_most x_mU x_mV x_area x_board a_tape a_letters a_oneSided a_free a_ends a_crowds a_wmade a_firsts a_widths a_heights a_places a_next a_pnear a_table a_overlaps a_drawers a_kept a_items a_numbers a_marks a_near a_figures a_covered a_pcells a_matrix H) (hQ : mP D ct am y_km y_tp y_goes y_kin y_qd y_sides y_cuts y_flat y_cp y_cA y_cB y_1X y_1Y y_2X y_2Y y_tm y_cells a_mtape a_flood a_going a_field a_from a_mcrowds a_steps a_queue a_letter a_lineX a_lineY a_triedAt a_cellAt a_besideIn a_apart a_drawer a_mkept a_listed a_mkin a_tried a_takenAt a_waysOf H) (hS : va_S (fun q : Nat => s.heap.size ≤ q) s.heap H locs) (hl : lv_has ls 4 [(3, .int v3), (0, .ref b), (1, .ref (ad 0)), (2, .ref (am 0))]) (next : ∀ (H : Heap) (locs : List Loc) (ls : Array Slot) {x_fed x_tk x_col x_line x_rcells x_rsize x_len x_cuts x_bare x_place x_lA x_lB x_lC x_fX x_fY x_sX x_sY x_made x_fsize x_psize x_over x_touch x_most x_mU x_mV x_area : Int32} {x_board : Int64} {a_tape a_letters a_oneSided a_free a_ends a_crowds a_wmade a_firsts a_widths a_heights a_places a_next a_pnear a_table a_overlaps : Nat → Int32} {a_drawers a_kept a_items a_numbers a_marks a_near a_figures a_covered a_pcells a_matrix : Nat → Int64} {y_km y_tp y_goes y_kin y_qd y_sides y_cuts y_flat y_cp y_cA y_cB y_1X y_1Y y_2X y_2Y y_tm y_cells : Int32} {a_mtape a_flood a_going a_field a_from a_mcrowds a_steps a_queue a_letter a_lineX a_lineY a_triedAt a_cellAt a_besideIn a_apart : Nat → Int32} {a_drawer a_mkept a_listed a_mkin a_tried a_takenAt a_waysOf : Nat → Int64}, lv_has ls 4 [(3, .int v3), (0, .ref b), (1, .ref (ad 0)), (2, .ref (am 0))] → INV x_fed x_tk x_col x_line x_rcells x_rsize x_len x_cuts x_bare x_place x_lA x_lB x_lC x_fX x_fY x_sX x_sY x_made x_fsize x_psize x_over x_touch x_most x_mU x_mV x_area x_board a_tape a_letters a_oneSided a_free a_ends a_crowds a_wmade a_firsts a_widths a_heights a_places a_next a_pnear a_table a_overlaps a_drawers a_kept a_items a_numbers a_marks a_near a_figures a_covered a_pcells a_matrix y_km y_tp y_goes y_kin y_qd y_sides y_cuts y_flat y_cp y_cA y_cB y_1X y_1Y y_2X y_2Y y_tm y_cells a_mtape a_flood a_going a_field a_from a_mcrowds a_steps a_queue a_letter a_lineX a_lineY a_triedAt a_cellAt a_besideIn a_apart a_drawer a_mkept a_listed a_mkin a_tried a_takenAt a_waysOf → cP D ct ad x_fed x_tk x_col x_line x_rcells x_rsize x_len x_cuts x_bare x_place x_lA x_lB x_lC x_fX x_fY x_sX x_sY x_made x_fsize x_psize x_over x_touch x_most x_mU x_mV x_area x_board a_tape a_letters a_oneSided a_free a_ends a_crowds a_wmade a_firsts a_widths a_heights a_places a_next a_pnear a_table a_overlaps a_drawers a_kept a_items a_numbers a_marks a_near a_figures a_covered a_pcells a_matrix H → mP D ct am y_km y_tp y_goes y_kin y_qd y_sides y_cuts y_flat y_cp y_cA y_cB y_1X y_1Y y_2X y_2Y y_tm y_cells a_mtape a_flood a_going a_field a_from a_mcrowds a_steps a_queue a_letter a_lineX a_lineY a_triedAt a_cellAt a_besideIn a_apart a_drawer a_mkept a_listed a_mkin a_tried a_takenAt a_waysOf H → va_S (fun q : Nat => s.heap.size ≤ q) s.heap H locs → W p l e room_1 s m #[Value.ref b] below meth c H locs 57 17144 (lw_Z below #[Value.ref b] s) (F0 m 1844 ls [])) : W p l e room_1 s m #[Value.ref b] below meth c H locs 57 17144 (lw_Z below #[Value.ref b] s) (F0 m 1163 ls []) := by
  refine lv_aload_n hx hb dL_law_1163 rfl (lv_at hl 2 rfl) ?_
  refine lv_aload_n hx hb dL_law_1164 rfl (lv_at hl 1 rfl) ?_
  refine lv_iload_n hx hb dL_law_1165 rfl (lv_at hl 0 rfl) ?_
  refine lv_iconst (v := 1) hx hb dL_law_1166 ki_1 ?_
  refine lv_iadd hx hb dL_law_1167 ?_
  refine va_sld hx hb hX hbl hbA hS hi1 dL_law_1168 ?_
  refine lv_aload_n hx hb dL_law_1169 rfl (lv_at hl 1 rfl) ?_
  refine lv_iload_n hx hb dL_law_1170 rfl (lv_at hl 0 rfl) ?_
  refine lv_iconst (v := 2) hx hb dL_law_1171 ki_2 ?_
  refine lv_iadd hx hb dL_law_1172 ?_
  refine va_sld hx hb hX hbl hbA hS hi2 dL_law_1173 ?_
  refine lv_aload_n hx hb dL_law_1174 rfl (lv_at hl 1 rfl) ?_
  refine lv_iload_n hx hb dL_law_1175 rfl (lv_at hl 0 rfl) ?_
  refine lv_iconst (v := 3) hx hb dL_law_1176 ki_3 ?_
  refine lv_iadd hx hb dL_law_1177 ?_
  refine va_sld hx hb hX hbl hbA hS hi3 dL_law_1178 ?_
  obtain ⟨r, zc_a_drawers, zm_a_drawer, hc, hm, hinv⟩ := hop (xs (v3 + 1).toNatClampNeg) (xs (v3 + 2).toNatClampNeg) (xs (v3 + 3).toNatClampNeg) hinv
  refine hv_l hx hb hml hown hw cB_bl (cB_of hN hK hP) (cr_CF hK hP) (c_cf_drawn l D ct ad hI (xs (v3 + 1).toNatClampNeg) (xs (v3 + 2).toNatClampNeg) (xs (v3 + 3).toNatClampNeg) r zc_a_drawers hc) g_RL_107 ⟨rfl, hd_X11_drawn⟩ (rest := []) hl.1 hS hcA dL_law_1179 rfl rfl ⟨Nat.le_of_ble_eq_true rfl, Nat.le_of_ble_eq_true rfl⟩ rfl rfl (Nat.le_of_ble_eq_true rfl) ⟨Nat.le_of_ble_eq_true rfl, Nat.le_of_ble_eq_true rfl⟩ (fun H1 locs hP hk hS => ?_)
  replace hQ := mP_keptA hQ hk hap
  clear hk
  refine lv_aload_n hx hb dL_law_1182 rfl (lv_at hl 3 rfl) ?_
  refine lv_aload_n hx hb dL_law_1183 rfl (lv_at hl 1 rfl) ?_
  refine lv_iload_n hx hb dL_law_1184 rfl (lv_at hl 0 rfl) ?_
  refine lv_iconst (v := 1) hx hb dL_law_1185 ki_1 ?_
  refine lv_iadd hx hb dL_law_1186 ?_
  refine va_sld hx hb hX hbl hbA hS hi1 dL_law_1187 ?_
  refine lv_aload_n hx hb dL_law_1188 rfl (lv_at hl 1 rfl) ?_
  refine lv_iload_n hx hb dL_law_1189 rfl (lv_at hl 0 rfl) ?_
  refine lv_iconst (v := 2) hx hb dL_law_1190 ki_2 ?_
  refine lv_iadd hx hb dL_law_1191 ?_
  refine va_sld hx hb hX hbl hbA hS hi2 dL_law_1192 ?_
  refine lv_aload_n hx hb dL_law_1193 rfl (lv_at hl 1 rfl) ?_
  refine lv_iload_n hx hb dL_law_1194 rfl (lv_at hl 0 rfl) ?_
  refine lv_iconst (v := 3) hx hb dL_law_1195 ki_3 ?_
  refine lv_iadd hx hb dL_law_1196 ?_
  refine va_sld hx hb hX hbl hbA hS hi3 dL_law_1197 ?_
  refine hv_l hx hb hml hown hw mB_bl (mB_of hN hK hQ) (mr_MO hK hQ) (c_mo_drawn l D ct am hJ (xs (v3 + 1).toNatClampNeg) (xs (v3 + 2).toNatClampNeg) (xs (v3 + 3).toNatClampNeg) r zm_a_drawer hm) g_RL_110 ⟨rfl, hd_X12_drawn⟩ (rest := [.long r]) hl.1 hS hmA dL_law_1198 rfl rfl ⟨Nat.le_of_ble_eq_true rfl, Nat.le_of_ble_eq_true rfl⟩ rfl rfl (Nat.le_of_ble_eq_true rfl) ⟨Nat.le_of_ble_eq_true rfl, Nat.le_of_ble_eq_true rfl⟩ (fun H2 locs hQ hk hS => ?_)
  replace hP := cP_keptA hP hk hap2
  refine W.lcmp hx hb dL_law_1201 ?_
  refine lv_if_eq hx hb dL_law_1202 (tgt := 1844) rfl (fun _ => ?_) (fun hc => absurd ((lg_cmp_eq _ _).mpr rfl) hc)
  exact next _ _ _ hl hinv hP hQ hS
set_option maxHeartbeats 4000000 in
set_option maxRecDepth 100000 in
theorem lawc_line {INV : INVT} (hop : OP_line INV) {p : Program} {l : Launch} {e : Env} {s : State} {m : MethodId} {below : List Frame} {meth : Method} {c : Code} {H : Heap} {locs : List Loc} {ls : Array Slot} {b L : Nat} {xs : Nat → Int32} {v3 : Int32} {D : va_G} {ct : Nat → ClassId} {ad am : Nat → Nat} {x_fed x_tk x_col x_line x_rcells x_rsize x_len x_cuts x_bare x_place x_lA x_lB x_lC x_fX x_fY x_sX x_sY x_made x_fsize x_psize x_over x_touch x_most x_mU x_mV x_area : Int32} {x_board : Int64} {a_tape a_letters a_oneSided a_free a_ends a_crowds a_wmade a_firsts a_widths a_heights a_places a_next a_pnear a_table a_overlaps : Nat → Int32} {a_drawers a_kept a_items a_numbers a_marks a_near a_figures a_covered a_pcells a_matrix : Nat → Int64} {y_km y_tp y_goes y_kin y_qd y_sides y_cuts y_flat y_cp y_cA y_cB y_1X y_1Y y_2X y_2Y y_tm y_cells : Int32} {a_mtape a_flood a_going a_field a_from a_mcrowds a_steps a_queue a_letter a_lineX a_lineY a_triedAt a_cellAt a_besideIn a_apart : Nat → Int32} {a_drawer a_mkept a_listed a_mkin a_tried a_takenAt a_waysOf : Nat → Int64} (hx : p.tables.exec = Jvm.exec) (hb : c.code = code) (hml : c.maxLocals = 4) (hown : s.vm.findClass RL = some m.cls) (hw : ∀ w ∈ wsL_law, w.before #[Value.ref b] s = true) (hN : NW s) (hK : KK D ct s) (hX : va_X b L xs s s.heap) (hbl : b < s.heap.size) (hbA : ¬ s.heap.size ≤ b) (hI : cI ad) (hJ : mI am) (hcA : ∀ q, cA ad q → s.heap.size ≤ q) (hmA : ∀ q, mA am q → s.heap.size ≤ q) (hap : ∀ q, mA am q → ¬ cA ad q) (hap2 : ∀ q, cA ad q → ¬ mA am q) (hi1 : vp_in (v3 + 1) L) (hi2 : vp_in (v3 + 2) L) (hi3 : vp_in (v3 + 3) L) (hi4 : vp_in (v3 + 4) L) (hi5 : vp_in (v3 + 5) L) (hi6 : vp_in (v3 + 6) L) (hinv : INV x_fed x_tk x_col x_line x_rcells x_rsize x_len x_cuts x_bare x_place x_lA x_lB x_lC x_fX x_fY x_sX x_sY x_made x_fsize x_psize x_over x_touch x_most x_mU x_mV x_area x_board a_tape a_letters a_oneSided a_free a_ends a_crowds a_wmade a_firsts a_widths a_heights a_places a_next a_pnear a_table a_overlaps a_drawers a_kept a_items a_numbers a_marks a_near a_figures a_covered a_pcells a_matrix y_km y_tp y_goes y_kin y_qd y_sides y_cuts y_flat y_cp y_cA y_cB y_1X y_1Y y_2X y_2Y y_tm y_cells a_mtape a_flood a_going a_field a_from a_mcrowds a_steps a_queue a_letter a_lineX a_lineY a_triedAt a_cellAt a_besideIn a_apart a_drawer a_mkept a_listed a_mkin a_tried a_takenAt a_waysOf) (hP : cP D ct ad x_fed x_tk x_col x_line x_rcells x_rsize x_len x_cuts x_bare x_place x_lA x_lB x_lC x_fX x_fY x_sX x_sY x_made x_fsize x_psize x_over x_touch x_most x_mU x_mV x_area x_board a_tape a_letters a_oneSided a_free a_ends a_crowds a_wmade a_firsts a_widths a_heights a_places a_next a_pnear a_table a_overlaps a_drawers a_kept a_items a_numbers a_marks a_near a_figures a_covered a_pcells a_matrix H) (hQ : mP D ct am y_km y_tp y_goes y_kin y_qd y_sides y_cuts y_flat y_cp y_cA y_cB y_1X y_1Y y_2X y_2Y y_tm y_cells a_mtape a_flood a_going a_field a_from a_mcrowds a_steps a_queue a_letter a_lineX a_lineY a_triedAt a_cellAt a_besideIn a_apart a_drawer a_mkept a_listed a_mkin a_tried a_takenAt a_waysOf H) (hS : va_S (fun q : Nat => s.heap.size ≤ q) s.heap H locs) (hl : lv_has ls 4 [(3, .int v3), (0, .ref b), (1, .ref (ad 0)), (2, .ref (am 0))]) (next : ∀ (H : Heap) (locs : List Loc) (ls : Array Slot) {x_fed x_tk x_col x_line x_rcells x_rsize x_len x_cuts x_bare x_place x_lA x_lB x_lC x_fX x_fY x_sX x_sY x_made x_fsize x_psize x_over x_touch x_most x_mU x_mV x_area : Int32} {x_board : Int64} {a_tape a_letters a_oneSided a_free a_ends a_crowds a_wmade a_firsts a_widths a_heights a_places a_next a_pnear a_table a_overlaps : Nat → Int32} {a_drawers a_kept a_items a_numbers a_marks a_near a_figures a_covered a_pcells a_matrix : Nat → Int64} {y_km y_tp y_goes y_kin y_qd y_sides y_cuts y_flat y_cp y_cA y_cB y_1X y_1Y y_2X y_2Y y_tm y_cells : Int32} {a_mtape a_flood a_going a_field a_from a_mcrowds a_steps a_queue a_letter a_lineX a_lineY a_triedAt a_cellAt a_besideIn a_apart : Nat → Int32} {a_drawer a_mkept a_listed a_mkin a_tried a_takenAt a_waysOf : Nat → Int64}, lv_has ls 4 [(3, .int v3), (0, .ref b), (1, .ref (ad 0)), (2, .ref (am 0))] → INV x_fed x_tk x_col x_line x_rcells x_rsize x_len x_cuts x_bare x_place x_lA x_lB x_lC x_fX x_fY x_sX x_sY x_made x_fsize x_psize x_over x_touch x_most x_mU x_mV x_area x_board a_tape a_letters a_oneSided a_free a_ends a_crowds a_wmade a_firsts a_widths a_heights a_places a_next a_pnear a_table a_overlaps a_drawers a_kept a_items a_numbers a_marks a_near a_figures a_covered a_pcells a_matrix y_km y_tp y_goes y_kin y_qd y_sides y_cuts y_flat y_cp y_cA y_cB y_1X y_1Y y_2X y_2Y y_tm y_cells a_mtape a_flood a_going a_field a_from a_mcrowds a_steps a_queue a_letter a_lineX a_lineY a_triedAt a_cellAt a_besideIn a_apart a_drawer a_mkept a_listed a_mkin a_tried a_takenAt a_waysOf → cP D ct ad x_fed x_tk x_col x_line x_rcells x_rsize x_len x_cuts x_bare x_place x_lA x_lB x_lC x_fX x_fY x_sX x_sY x_made x_fsize x_psize x_over x_touch x_most x_mU x_mV x_area x_board a_tape a_letters a_oneSided a_free a_ends a_crowds a_wmade a_firsts a_widths a_heights a_places a_next a_pnear a_table a_overlaps a_drawers a_kept a_items a_numbers a_marks a_near a_figures a_covered a_pcells a_matrix H → mP D ct am y_km y_tp y_goes y_kin y_qd y_sides y_cuts y_flat y_cp y_cA y_cB y_1X y_1Y y_2X y_2Y y_tm y_cells a_mtape a_flood a_going a_field a_from a_mcrowds a_steps a_queue a_letter a_lineX a_lineY a_triedAt a_cellAt a_besideIn a_apart a_drawer a_mkept a_listed a_mkin a_tried a_takenAt a_waysOf H → va_S (fun q : Nat => s.heap.size ≤ q) s.heap H locs → W p l e room_1 s m #[Value.ref b] below meth c H locs 57 17144 (lw_Z below #[Value.ref b] s) (F0 m 1844 ls [])) : W p l e room_1 s m #[Value.ref b] below meth c H locs 57 17144 (lw_Z below #[Value.ref b] s) (F0 m 1207 ls []) := by
  refine lv_aload_n hx hb dL_law_1207 rfl (lv_at hl 2 rfl) ?_
  refine lv_aload_n hx hb dL_law_1208 rfl (lv_at hl 1 rfl) ?_
  refine lv_iload_n hx hb dL_law_1209 rfl (lv_at hl 0 rfl) ?_
  refine lv_iconst (v := 1) hx hb dL_law_1210 ki_1 ?_
  refine lv_iadd hx hb dL_law_1211 ?_
  refine va_sld hx hb hX hbl hbA hS hi1 dL_law_1212 ?_
  refine lv_aload_n hx hb dL_law_1213 rfl (lv_at hl 1 rfl) ?_
  refine lv_iload_n hx hb dL_law_1214 rfl (lv_at hl 0 rfl) ?_
  refine lv_iconst (v := 2) hx hb dL_law_1215 ki_2 ?_
  refine lv_iadd hx hb dL_law_1216 ?_
  refine va_sld hx hb hX hbl hbA hS hi2 dL_law_1217 ?_
  obtain ⟨r, zc_x_len, zc_a_letters, zm_y_goes, zm_y_sides, zm_a_flood, zm_a_going, zm_a_letter, zm_a_lineX, zm_a_lineY, hc, hm, hinv⟩ := hop (xs (v3 + 1).toNatClampNeg) (xs (v3 + 2).toNatClampNeg) hinv
  refine hv_i hx hb hml hown hw cB_bl (cB_of hN hK hP) (cr_CF hK hP) (c_cf_line l D ct ad hI (xs (v3 + 1).toNatClampNeg) (xs (v3 + 2).toNatClampNeg) r zc_x_len zc_a_letters hc) g_RL_111 ⟨rfl, hd_X11_line⟩ (rest := []) hl.1 hS hcA dL_law_1218 rfl rfl ⟨Nat.le_of_ble_eq_true rfl, Nat.le_of_ble_eq_true rfl⟩ rfl rfl (Nat.le_of_ble_eq_true rfl) ⟨Nat.le_of_ble_eq_true rfl, Nat.le_of_ble_eq_true rfl⟩ (fun H1 locs hP hk hS => ?_)
  replace hQ := mP_keptA hQ hk hap
  clear hk
  refine lv_aload_n hx hb dL_law_1221 rfl (lv_at hl 3 rfl) ?_
  refine lv_aload_n hx hb dL_law_1222 rfl (lv_at hl 1 rfl) ?_
  refine lv_iload_n hx hb dL_law_1223 rfl (lv_at hl 0 rfl) ?_
  refine lv_iconst (v := 1) hx hb dL_law_1224 ki_1 ?_
  refine lv_iadd hx hb dL_law_1225 ?_
  refine va_sld hx hb hX hbl hbA hS hi1 dL_law_1226 ?_
  refine lv_aload_n hx hb dL_law_1227 rfl (lv_at hl 1 rfl) ?_
  refine lv_iload_n hx hb dL_law_1228 rfl (lv_at hl 0 rfl) ?_
  refine lv_iconst (v := 2) hx hb dL_law_1229 ki_2 ?_
  refine lv_iadd hx hb dL_law_1230 ?_
  refine va_sld hx hb hX hbl hbA hS hi2 dL_law_1231 ?_
  refine hv_i hx hb hml hown hw mB_bl (mB_of hN hK hQ) (mr_MO hK hQ) (c_mo_line l D ct am hJ (xs (v3 + 1).toNatClampNeg) (xs (v3 + 2).toNatClampNeg) r zm_y_goes zm_y_sides zm_a_flood zm_a_going zm_a_letter zm_a_lineX zm_a_lineY hm) g_RL_114 ⟨rfl, hd_X12_line⟩ (rest := [.int r]) hl.1 hS hmA dL_law_1232 rfl rfl ⟨Nat.le_of_ble_eq_true rfl, Nat.le_of_ble_eq_true rfl⟩ rfl rfl (Nat.le_of_ble_eq_true rfl) ⟨Nat.le_of_ble_eq_true rfl, Nat.le_of_ble_eq_true rfl⟩ (fun H2 locs hQ hk hS => ?_)
  replace hP := cP_keptA hP hk hap2
  refine lv_icmp_eq hx hb dL_law_1235 (tgt := 1844) rfl (fun _ => ?_) (fun hc => absurd rfl hc)
  exact next _ _ _ hl hinv hP hQ hS
set_option maxHeartbeats 4000000 in
set_option maxRecDepth 100000 in
theorem lawc_tiles {INV : INVT} (hop : OP_tiles INV) {p : Program} {l : Launch} {e : Env} {s : State} {m : MethodId} {below : List Frame} {meth : Method} {c : Code} {H : Heap} {locs : List Loc} {ls : Array Slot} {b L : Nat} {xs : Nat → Int32} {v3 : Int32} {D : va_G} {ct : Nat → ClassId} {ad am : Nat → Nat} {x_fed x_tk x_col x_line x_rcells x_rsize x_len x_cuts x_bare x_place x_lA x_lB x_lC x_fX x_fY x_sX x_sY x_made x_fsize x_psize x_over x_touch x_most x_mU x_mV x_area : Int32} {x_board : Int64} {a_tape a_letters a_oneSided a_free a_ends a_crowds a_wmade a_firsts a_widths a_heights a_places a_next a_pnear a_table a_overlaps : Nat → Int32} {a_drawers a_kept a_items a_numbers a_marks a_near a_figures a_covered a_pcells a_matrix : Nat → Int64} {y_km y_tp y_goes y_kin y_qd y_sides y_cuts y_flat y_cp y_cA y_cB y_1X y_1Y y_2X y_2Y y_tm y_cells : Int32} {a_mtape a_flood a_going a_field a_from a_mcrowds a_steps a_queue a_letter a_lineX a_lineY a_triedAt a_cellAt a_besideIn a_apart : Nat → Int32} {a_drawer a_mkept a_listed a_mkin a_tried a_takenAt a_waysOf : Nat → Int64} (hx : p.tables.exec = Jvm.exec) (hb : c.code = code) (hml : c.maxLocals = 4) (hown : s.vm.findClass RL = some m.cls) (hw : ∀ w ∈ wsL_law, w.before #[Value.ref b] s = true) (hN : NW s) (hK : KK D ct s) (hX : va_X b L xs s s.heap) (hbl : b < s.heap.size) (hbA : ¬ s.heap.size ≤ b) (hI : cI ad) (hJ : mI am) (hcA : ∀ q, cA ad q → s.heap.size ≤ q) (hmA : ∀ q, mA am q → s.heap.size ≤ q) (hap : ∀ q, mA am q → ¬ cA ad q) (hap2 : ∀ q, cA ad q → ¬ mA am q) (hi1 : vp_in (v3 + 1) L) (hi2 : vp_in (v3 + 2) L) (hi3 : vp_in (v3 + 3) L) (hi4 : vp_in (v3 + 4) L) (hi5 : vp_in (v3 + 5) L) (hi6 : vp_in (v3 + 6) L) (hinv : INV x_fed x_tk x_col x_line x_rcells x_rsize x_len x_cuts x_bare x_place x_lA x_lB x_lC x_fX x_fY x_sX x_sY x_made x_fsize x_psize x_over x_touch x_most x_mU x_mV x_area x_board a_tape a_letters a_oneSided a_free a_ends a_crowds a_wmade a_firsts a_widths a_heights a_places a_next a_pnear a_table a_overlaps a_drawers a_kept a_items a_numbers a_marks a_near a_figures a_covered a_pcells a_matrix y_km y_tp y_goes y_kin y_qd y_sides y_cuts y_flat y_cp y_cA y_cB y_1X y_1Y y_2X y_2Y y_tm y_cells a_mtape a_flood a_going a_field a_from a_mcrowds a_steps a_queue a_letter a_lineX a_lineY a_triedAt a_cellAt a_besideIn a_apart a_drawer a_mkept a_listed a_mkin a_tried a_takenAt a_waysOf) (hP : cP D ct ad x_fed x_tk x_col x_line x_rcells x_rsize x_len x_cuts x_bare x_place x_lA x_lB x_lC x_fX x_fY x_sX x_sY x_made x_fsize x_psize x_over x_touch x_most x_mU x_mV x_area x_board a_tape a_letters a_oneSided a_free a_ends a_crowds a_wmade a_firsts a_widths a_heights a_places a_next a_pnear a_table a_overlaps a_drawers a_kept a_items a_numbers a_marks a_near a_figures a_covered a_pcells a_matrix H) (hQ : mP D ct am y_km y_tp y_goes y_kin y_qd y_sides y_cuts y_flat y_cp y_cA y_cB y_1X y_1Y y_2X y_2Y y_tm y_cells a_mtape a_flood a_going a_field a_from a_mcrowds a_steps a_queue a_letter a_lineX a_lineY a_triedAt a_cellAt a_besideIn a_apart a_drawer a_mkept a_listed a_mkin a_tried a_takenAt a_waysOf H) (hS : va_S (fun q : Nat => s.heap.size ≤ q) s.heap H locs) (hl : lv_has ls 4 [(3, .int v3), (0, .ref b), (1, .ref (ad 0)), (2, .ref (am 0))]) (next : ∀ (H : Heap) (locs : List Loc) (ls : Array Slot) {x_fed x_tk x_col x_line x_rcells x_rsize x_len x_cuts x_bare x_place x_lA x_lB x_lC x_fX x_fY x_sX x_sY x_made x_fsize x_psize x_over x_touch x_most x_mU x_mV x_area : Int32} {x_board : Int64} {a_tape a_letters a_oneSided a_free a_ends a_crowds a_wmade a_firsts a_widths a_heights a_places a_next a_pnear a_table a_overlaps : Nat → Int32} {a_drawers a_kept a_items a_numbers a_marks a_near a_figures a_covered a_pcells a_matrix : Nat → Int64} {y_km y_tp y_goes y_kin y_qd y_sides y_cuts y_flat y_cp y_cA y_cB y_1X y_1Y y_2X y_2Y y_tm y_cells : Int32} {a_mtape a_flood a_going a_field a_from a_mcrowds a_steps a_queue a_letter a_lineX a_lineY a_triedAt a_cellAt a_besideIn a_apart : Nat → Int32} {a_drawer a_mkept a_listed a_mkin a_tried a_takenAt a_waysOf : Nat → Int64}, lv_has ls 4 [(3, .int v3), (0, .ref b), (1, .ref (ad 0)), (2, .ref (am 0))] → INV x_fed x_tk x_col x_line x_rcells x_rsize x_len x_cuts x_bare x_place x_lA x_lB x_lC x_fX x_fY x_sX x_sY x_made x_fsize x_psize x_over x_touch x_most x_mU x_mV x_area x_board a_tape a_letters a_oneSided a_free a_ends a_crowds a_wmade a_firsts a_widths a_heights a_places a_next a_pnear a_table a_overlaps a_drawers a_kept a_items a_numbers a_marks a_near a_figures a_covered a_pcells a_matrix y_km y_tp y_goes y_kin y_qd y_sides y_cuts y_flat y_cp y_cA y_cB y_1X y_1Y y_2X y_2Y y_tm y_cells a_mtape a_flood a_going a_field a_from a_mcrowds a_steps a_queue a_letter a_lineX a_lineY a_triedAt a_cellAt a_besideIn a_apart a_drawer a_mkept a_listed a_mkin a_tried a_takenAt a_waysOf → cP D ct ad x_fed x_tk x_col x_line x_rcells x_rsize x_len x_cuts x_bare x_place x_lA x_lB x_lC x_fX x_fY x_sX x_sY x_made x_fsize x_psize x_over x_touch x_most x_mU x_mV x_area x_board a_tape a_letters a_oneSided a_free a_ends a_crowds a_wmade a_firsts a_widths a_heights a_places a_next a_pnear a_table a_overlaps a_drawers a_kept a_items a_numbers a_marks a_near a_figures a_covered a_pcells a_matrix H → mP D ct am y_km y_tp y_goes y_kin y_qd y_sides y_cuts y_flat y_cp y_cA y_cB y_1X y_1Y y_2X y_2Y y_tm y_cells a_mtape a_flood a_going a_field a_from a_mcrowds a_steps a_queue a_letter a_lineX a_lineY a_triedAt a_cellAt a_besideIn a_apart a_drawer a_mkept a_listed a_mkin a_tried a_takenAt a_waysOf H → va_S (fun q : Nat => s.heap.size ≤ q) s.heap H locs → W p l e room_1 s m #[Value.ref b] below meth c H locs 57 17144 (lw_Z below #[Value.ref b] s) (F0 m 1844 ls [])) : W p l e room_1 s m #[Value.ref b] below meth c H locs 57 17144 (lw_Z below #[Value.ref b] s) (F0 m 1240 ls []) := by
  refine lv_aload_n hx hb dL_law_1240 rfl (lv_at hl 2 rfl) ?_
  refine lv_aload_n hx hb dL_law_1241 rfl (lv_at hl 1 rfl) ?_
  refine lv_iload_n hx hb dL_law_1242 rfl (lv_at hl 0 rfl) ?_
  refine lv_iconst (v := 1) hx hb dL_law_1243 ki_1 ?_
  refine lv_iadd hx hb dL_law_1244 ?_
  refine va_sld hx hb hX hbl hbA hS hi1 dL_law_1245 ?_
  refine lv_aload_n hx hb dL_law_1246 rfl (lv_at hl 1 rfl) ?_
  refine lv_iload_n hx hb dL_law_1247 rfl (lv_at hl 0 rfl) ?_
  refine lv_iconst (v := 2) hx hb dL_law_1248 ki_2 ?_
  refine lv_iadd hx hb dL_law_1249 ?_
  refine va_sld hx hb hX hbl hbA hS hi2 dL_law_1250 ?_
  obtain ⟨r, zc_x_len, zc_x_cuts, zc_x_bare, zc_x_place, zc_x_lA, zc_x_lB, zc_x_lC, zc_a_letters, zm_y_goes, zm_y_sides, zm_y_cuts, zm_y_flat, zm_y_cp, zm_y_cA, zm_y_cB, zm_a_flood, zm_a_going, zm_a_letter, zm_a_lineX, zm_a_lineY, hc, hm, hinv⟩ := hop (xs (v3 + 1).toNatClampNeg) (xs (v3 + 2).toNatClampNeg) hinv
  refine hv_i hx hb hml hown hw cB_bl (cB_of hN hK hP) (cr_CF hK hP) (c_cf_tiles l D ct ad hI (xs (v3 + 1).toNatClampNeg) (xs (v3 + 2).toNatClampNeg) r zc_x_len zc_x_cuts zc_x_bare zc_x_place zc_x_lA zc_x_lB zc_x_lC zc_a_letters hc) g_RL_115 ⟨rfl, hd_X11_tiles⟩ (rest := []) hl.1 hS hcA dL_law_1251 rfl rfl ⟨Nat.le_of_ble_eq_true rfl, Nat.le_of_ble_eq_true rfl⟩ rfl rfl (Nat.le_of_ble_eq_true rfl) ⟨Nat.le_of_ble_eq_true rfl, Nat.le_of_ble_eq_true rfl⟩ (fun H1 locs hP hk hS => ?_)
  replace hQ := mP_keptA hQ hk hap
  clear hk
  refine lv_aload_n hx hb dL_law_1254 rfl (lv_at hl 3 rfl) ?_
  refine lv_aload_n hx hb dL_law_1255 rfl (lv_at hl 1 rfl) ?_
  refine lv_iload_n hx hb dL_law_1256 rfl (lv_at hl 0 rfl) ?_
  refine lv_iconst (v := 1) hx hb dL_law_1257 ki_1 ?_
  refine lv_iadd hx hb dL_law_1258 ?_
  refine va_sld hx hb hX hbl hbA hS hi1 dL_law_1259 ?_
  refine lv_aload_n hx hb dL_law_1260 rfl (lv_at hl 1 rfl) ?_
  refine lv_iload_n hx hb dL_law_1261 rfl (lv_at hl 0 rfl) ?_
  refine lv_iconst (v := 2) hx hb dL_law_1262 ki_2 ?_
  refine lv_iadd hx hb dL_law_1263 ?_
  refine va_sld hx hb hX hbl hbA hS hi2 dL_law_1264 ?_
  refine hv_i hx hb hml hown hw mB_bl (mB_of hN hK hQ) (mr_MO hK hQ) (c_mo_tiles l D ct am hJ (xs (v3 + 1).toNatClampNeg) (xs (v3 + 2).toNatClampNeg) r zm_y_goes zm_y_sides zm_y_cuts zm_y_flat zm_y_cp zm_y_cA zm_y_cB zm_a_flood zm_a_going zm_a_letter zm_a_lineX zm_a_lineY hm) g_RL_118 ⟨rfl, hd_X12_tiles⟩ (rest := [.int r]) hl.1 hS hmA dL_law_1265 rfl rfl ⟨Nat.le_of_ble_eq_true rfl, Nat.le_of_ble_eq_true rfl⟩ rfl rfl (Nat.le_of_ble_eq_true rfl) ⟨Nat.le_of_ble_eq_true rfl, Nat.le_of_ble_eq_true rfl⟩ (fun H2 locs hQ hk hS => ?_)
  replace hP := cP_keptA hP hk hap2
  refine lv_icmp_eq hx hb dL_law_1268 (tgt := 1844) rfl (fun _ => ?_) (fun hc => absurd rfl hc)
  exact next _ _ _ hl hinv hP hQ hS
set_option maxHeartbeats 4000000 in
set_option maxRecDepth 100000 in
theorem lawc_tilers {INV : INVT} (hop : OP_tilers INV) {p : Program} {l : Launch} {e : Env} {s : State} {m : MethodId} {below : List Frame} {meth : Method} {c : Code} {H : Heap} {locs : List Loc} {ls : Array Slot} {b L : Nat} {xs : Nat → Int32} {v3 : Int32} {D : va_G} {ct : Nat → ClassId} {ad am : Nat → Nat} {x_fed x_tk x_col x_line x_rcells x_rsize x_len x_cuts x_bare x_place x_lA x_lB x_lC x_fX x_fY x_sX x_sY x_made x_fsize x_psize x_over x_touch x_most x_mU x_mV x_area : Int32} {x_board : Int64} {a_tape a_letters a_oneSided a_free a_ends a_crowds a_wmade a_firsts a_widths a_heights a_places a_next a_pnear a_table a_overlaps : Nat → Int32} {a_drawers a_kept a_items a_numbers a_marks a_near a_figures a_covered a_pcells a_matrix : Nat → Int64} {y_km y_tp y_goes y_kin y_qd y_sides y_cuts y_flat y_cp y_cA y_cB y_1X y_1Y y_2X y_2Y y_tm y_cells : Int32} {a_mtape a_flood a_going a_field a_from a_mcrowds a_steps a_queue a_letter a_lineX a_lineY a_triedAt a_cellAt a_besideIn a_apart : Nat → Int32} {a_drawer a_mkept a_listed a_mkin a_tried a_takenAt a_waysOf : Nat → Int64} (hx : p.tables.exec = Jvm.exec) (hb : c.code = code) (hml : c.maxLocals = 4) (hown : s.vm.findClass RL = some m.cls) (hw : ∀ w ∈ wsL_law, w.before #[Value.ref b] s = true) (hN : NW s) (hK : KK D ct s) (hX : va_X b L xs s s.heap) (hbl : b < s.heap.size) (hbA : ¬ s.heap.size ≤ b) (hI : cI ad) (hJ : mI am) (hcA : ∀ q, cA ad q → s.heap.size ≤ q) (hmA : ∀ q, mA am q → s.heap.size ≤ q) (hap : ∀ q, mA am q → ¬ cA ad q) (hap2 : ∀ q, cA ad q → ¬ mA am q) (hi1 : vp_in (v3 + 1) L) (hi2 : vp_in (v3 + 2) L) (hi3 : vp_in (v3 + 3) L) (hi4 : vp_in (v3 + 4) L) (hi5 : vp_in (v3 + 5) L) (hi6 : vp_in (v3 + 6) L) (hinv : INV x_fed x_tk x_col x_line x_rcells x_rsize x_len x_cuts x_bare x_place x_lA x_lB x_lC x_fX x_fY x_sX x_sY x_made x_fsize x_psize x_over x_touch x_most x_mU x_mV x_area x_board a_tape a_letters a_oneSided a_free a_ends a_crowds a_wmade a_firsts a_widths a_heights a_places a_next a_pnear a_table a_overlaps a_drawers a_kept a_items a_numbers a_marks a_near a_figures a_covered a_pcells a_matrix y_km y_tp y_goes y_kin y_qd y_sides y_cuts y_flat y_cp y_cA y_cB y_1X y_1Y y_2X y_2Y y_tm y_cells a_mtape a_flood a_going a_field a_from a_mcrowds a_steps a_queue a_letter a_lineX a_lineY a_triedAt a_cellAt a_besideIn a_apart a_drawer a_mkept a_listed a_mkin a_tried a_takenAt a_waysOf) (hP : cP D ct ad x_fed x_tk x_col x_line x_rcells x_rsize x_len x_cuts x_bare x_place x_lA x_lB x_lC x_fX x_fY x_sX x_sY x_made x_fsize x_psize x_over x_touch x_most x_mU x_mV x_area x_board a_tape a_letters a_oneSided a_free a_ends a_crowds a_wmade a_firsts a_widths a_heights a_places a_next a_pnear a_table a_overlaps a_drawers a_kept a_items a_numbers a_marks a_near a_figures a_covered a_pcells a_matrix H) (hQ : mP D ct am y_km y_tp y_goes y_kin y_qd y_sides y_cuts y_flat y_cp y_cA y_cB y_1X y_1Y y_2X y_2Y y_tm y_cells a_mtape a_flood a_going a_field a_from a_mcrowds a_steps a_queue a_letter a_lineX a_lineY a_triedAt a_cellAt a_besideIn a_apart a_drawer a_mkept a_listed a_mkin a_tried a_takenAt a_waysOf H) (hS : va_S (fun q : Nat => s.heap.size ≤ q) s.heap H locs) (hl : lv_has ls 4 [(3, .int v3), (0, .ref b), (1, .ref (ad 0)), (2, .ref (am 0))]) (next : ∀ (H : Heap) (locs : List Loc) (ls : Array Slot) {x_fed x_tk x_col x_line x_rcells x_rsize x_len x_cuts x_bare x_place x_lA x_lB x_lC x_fX x_fY x_sX x_sY x_made x_fsize x_psize x_over x_touch x_most x_mU x_mV x_area : Int32} {x_board : Int64} {a_tape a_letters a_oneSided a_free a_ends a_crowds a_wmade a_firsts a_widths a_heights a_places a_next a_pnear a_table a_overlaps : Nat → Int32} {a_drawers a_kept a_items a_numbers a_marks a_near a_figures a_covered a_pcells a_matrix : Nat → Int64} {y_km y_tp y_goes y_kin y_qd y_sides y_cuts y_flat y_cp y_cA y_cB y_1X y_1Y y_2X y_2Y y_tm y_cells : Int32} {a_mtape a_flood a_going a_field a_from a_mcrowds a_steps a_queue a_letter a_lineX a_lineY a_triedAt a_cellAt a_besideIn a_apart : Nat → Int32} {a_drawer a_mkept a_listed a_mkin a_tried a_takenAt a_waysOf : Nat → Int64}, lv_has ls 4 [(3, .int v3), (0, .ref b), (1, .ref (ad 0)), (2, .ref (am 0))] → INV x_fed x_tk x_col x_line x_rcells x_rsize x_len x_cuts x_bare x_place x_lA x_lB x_lC x_fX x_fY x_sX x_sY x_made x_fsize x_psize x_over x_touch x_most x_mU x_mV x_area x_board a_tape a_letters a_oneSided a_free a_ends a_crowds a_wmade a_firsts a_widths a_heights a_places a_next a_pnear a_table a_overlaps a_drawers a_kept a_items a_numbers a_marks a_near a_figures a_covered a_pcells a_matrix y_km y_tp y_goes y_kin y_qd y_sides y_cuts y_flat y_cp y_cA y_cB y_1X y_1Y y_2X y_2Y y_tm y_cells a_mtape a_flood a_going a_field a_from a_mcrowds a_steps a_queue a_letter a_lineX a_lineY a_triedAt a_cellAt a_besideIn a_apart a_drawer a_mkept a_listed a_mkin a_tried a_takenAt a_waysOf → cP D ct ad x_fed x_tk x_col x_line x_rcells x_rsize x_len x_cuts x_bare x_place x_lA x_lB x_lC x_fX x_fY x_sX x_sY x_made x_fsize x_psize x_over x_touch x_most x_mU x_mV x_area x_board a_tape a_letters a_oneSided a_free a_ends a_crowds a_wmade a_firsts a_widths a_heights a_places a_next a_pnear a_table a_overlaps a_drawers a_kept a_items a_numbers a_marks a_near a_figures a_covered a_pcells a_matrix H → mP D ct am y_km y_tp y_goes y_kin y_qd y_sides y_cuts y_flat y_cp y_cA y_cB y_1X y_1Y y_2X y_2Y y_tm y_cells a_mtape a_flood a_going a_field a_from a_mcrowds a_steps a_queue a_letter a_lineX a_lineY a_triedAt a_cellAt a_besideIn a_apart a_drawer a_mkept a_listed a_mkin a_tried a_takenAt a_waysOf H → va_S (fun q : Nat => s.heap.size ≤ q) s.heap H locs → W p l e room_1 s m #[Value.ref b] below meth c H locs 57 17144 (lw_Z below #[Value.ref b] s) (F0 m 1844 ls [])) : W p l e room_1 s m #[Value.ref b] below meth c H locs 57 17144 (lw_Z below #[Value.ref b] s) (F0 m 1273 ls []) := by
  refine lv_aload_n hx hb dL_law_1273 rfl (lv_at hl 2 rfl) ?_
  refine lv_aload_n hx hb dL_law_1274 rfl (lv_at hl 1 rfl) ?_
  refine lv_iload_n hx hb dL_law_1275 rfl (lv_at hl 0 rfl) ?_
  refine lv_iconst (v := 1) hx hb dL_law_1276 ki_1 ?_
  refine lv_iadd hx hb dL_law_1277 ?_
  refine va_sld hx hb hX hbl hbA hS hi1 dL_law_1278 ?_
  refine lv_aload_n hx hb dL_law_1279 rfl (lv_at hl 1 rfl) ?_
  refine lv_iload_n hx hb dL_law_1280 rfl (lv_at hl 0 rfl) ?_
  refine lv_iconst (v := 2) hx hb dL_law_1281 ki_2 ?_
  refine lv_iadd hx hb dL_law_1282 ?_
  refine va_sld hx hb hX hbl hbA hS hi2 dL_law_1283 ?_
  obtain ⟨r, zc_x_len, zc_x_cuts, zc_x_bare, zc_x_place, zc_x_lA, zc_x_lB, zc_x_lC, zc_a_letters, zc_x_made, zc_a_numbers, zc_a_oneSided, zc_a_free, zc_a_ends, zc_a_marks, zm_y_goes, zm_y_sides, zm_y_cuts, zm_y_flat, zm_y_cp, zm_y_cA, zm_y_cB, zm_a_flood, zm_a_going, zm_a_letter, zm_a_lineX, zm_a_lineY, hc, hm, hinv⟩ := hop (xs (v3 + 1).toNatClampNeg) (xs (v3 + 2).toNatClampNeg) hinv
  refine hv_i hx hb hml hown hw cB_bl (cB_of hN hK hP) (cr_CF hK hP) (c_cf_tilers l D ct ad hI (xs (v3 + 1).toNatClampNeg) (xs (v3 + 2).toNatClampNeg) r zc_x_len zc_x_cuts zc_x_bare zc_x_place zc_x_lA zc_x_lB zc_x_lC zc_a_letters zc_x_made zc_a_numbers zc_a_oneSided zc_a_free zc_a_ends zc_a_marks hc) g_RL_119 ⟨rfl, hd_X11_tilers⟩ (rest := []) hl.1 hS hcA dL_law_1284 rfl rfl ⟨Nat.le_of_ble_eq_true rfl, Nat.le_of_ble_eq_true rfl⟩ rfl rfl (Nat.le_of_ble_eq_true rfl) ⟨Nat.le_of_ble_eq_true rfl, Nat.le_of_ble_eq_true rfl⟩ (fun H1 locs hP hk hS => ?_)
  replace hQ := mP_keptA hQ hk hap
  clear hk
  refine lv_aload_n hx hb dL_law_1287 rfl (lv_at hl 3 rfl) ?_
  refine lv_aload_n hx hb dL_law_1288 rfl (lv_at hl 1 rfl) ?_
  refine lv_iload_n hx hb dL_law_1289 rfl (lv_at hl 0 rfl) ?_
  refine lv_iconst (v := 1) hx hb dL_law_1290 ki_1 ?_
  refine lv_iadd hx hb dL_law_1291 ?_
  refine va_sld hx hb hX hbl hbA hS hi1 dL_law_1292 ?_
  refine lv_aload_n hx hb dL_law_1293 rfl (lv_at hl 1 rfl) ?_
  refine lv_iload_n hx hb dL_law_1294 rfl (lv_at hl 0 rfl) ?_
  refine lv_iconst (v := 2) hx hb dL_law_1295 ki_2 ?_
  refine lv_iadd hx hb dL_law_1296 ?_
  refine va_sld hx hb hX hbl hbA hS hi2 dL_law_1297 ?_
  refine hv_i hx hb hml hown hw mB_bl (mB_of hN hK hQ) (mr_MO hK hQ) (c_mo_tilers l D ct am hJ (xs (v3 + 1).toNatClampNeg) (xs (v3 + 2).toNatClampNeg) r zm_y_goes zm_y_sides zm_y_cuts zm_y_flat zm_y_cp zm_y_cA zm_y_cB zm_a_flood zm_a_going zm_a_letter zm_a_lineX zm_a_lineY hm) g_RL_122 ⟨rfl, hd_X12_tilers⟩ (rest := [.int r]) hl.1 hS hmA dL_law_1298 rfl rfl ⟨Nat.le_of_ble_eq_true rfl, Nat.le_of_ble_eq_true rfl⟩ rfl rfl (Nat.le_of_ble_eq_true rfl) ⟨Nat.le_of_ble_eq_true rfl, Nat.le_of_ble_eq_true rfl⟩ (fun H2 locs hQ hk hS => ?_)
  replace hP := cP_keptA hP hk hap2
  refine lv_icmp_eq hx hb dL_law_1301 (tgt := 1844) rfl (fun _ => ?_) (fun hc => absurd rfl hc)
  exact next _ _ _ hl hinv hP hQ hS
set_option maxHeartbeats 4000000 in
set_option maxRecDepth 100000 in
theorem lawc_fill {INV : INVT} (hop : OP_fill INV) {p : Program} {l : Launch} {e : Env} {s : State} {m : MethodId} {below : List Frame} {meth : Method} {c : Code} {H : Heap} {locs : List Loc} {ls : Array Slot} {b L : Nat} {xs : Nat → Int32} {v3 : Int32} {D : va_G} {ct : Nat → ClassId} {ad am : Nat → Nat} {x_fed x_tk x_col x_line x_rcells x_rsize x_len x_cuts x_bare x_place x_lA x_lB x_lC x_fX x_fY x_sX x_sY x_made x_fsize x_psize x_over x_touch x_most x_mU x_mV x_area : Int32} {x_board : Int64} {a_tape a_letters a_oneSided a_free a_ends a_crowds a_wmade a_firsts a_widths a_heights a_places a_next a_pnear a_table a_overlaps : Nat → Int32} {a_drawers a_kept a_items a_numbers a_marks a_near a_figures a_covered a_pcells a_matrix : Nat → Int64} {y_km y_tp y_goes y_kin y_qd y_sides y_cuts y_flat y_cp y_cA y_cB y_1X y_1Y y_2X y_2Y y_tm y_cells : Int32} {a_mtape a_flood a_going a_field a_from a_mcrowds a_steps a_queue a_letter a_lineX a_lineY a_triedAt a_cellAt a_besideIn a_apart : Nat → Int32} {a_drawer a_mkept a_listed a_mkin a_tried a_takenAt a_waysOf : Nat → Int64} (hx : p.tables.exec = Jvm.exec) (hb : c.code = code) (hml : c.maxLocals = 4) (hown : s.vm.findClass RL = some m.cls) (hw : ∀ w ∈ wsL_law, w.before #[Value.ref b] s = true) (hN : NW s) (hK : KK D ct s) (hX : va_X b L xs s s.heap) (hbl : b < s.heap.size) (hbA : ¬ s.heap.size ≤ b) (hI : cI ad) (hJ : mI am) (hcA : ∀ q, cA ad q → s.heap.size ≤ q) (hmA : ∀ q, mA am q → s.heap.size ≤ q) (hap : ∀ q, mA am q → ¬ cA ad q) (hap2 : ∀ q, cA ad q → ¬ mA am q) (hi1 : vp_in (v3 + 1) L) (hi2 : vp_in (v3 + 2) L) (hi3 : vp_in (v3 + 3) L) (hi4 : vp_in (v3 + 4) L) (hi5 : vp_in (v3 + 5) L) (hi6 : vp_in (v3 + 6) L) (hinv : INV x_fed x_tk x_col x_line x_rcells x_rsize x_len x_cuts x_bare x_place x_lA x_lB x_lC x_fX x_fY x_sX x_sY x_made x_fsize x_psize x_over x_touch x_most x_mU x_mV x_area x_board a_tape a_letters a_oneSided a_free a_ends a_crowds a_wmade a_firsts a_widths a_heights a_places a_next a_pnear a_table a_overlaps a_drawers a_kept a_items a_numbers a_marks a_near a_figures a_covered a_pcells a_matrix y_km y_tp y_goes y_kin y_qd y_sides y_cuts y_flat y_cp y_cA y_cB y_1X y_1Y y_2X y_2Y y_tm y_cells a_mtape a_flood a_going a_field a_from a_mcrowds a_steps a_queue a_letter a_lineX a_lineY a_triedAt a_cellAt a_besideIn a_apart a_drawer a_mkept a_listed a_mkin a_tried a_takenAt a_waysOf) (hP : cP D ct ad x_fed x_tk x_col x_line x_rcells x_rsize x_len x_cuts x_bare x_place x_lA x_lB x_lC x_fX x_fY x_sX x_sY x_made x_fsize x_psize x_over x_touch x_most x_mU x_mV x_area x_board a_tape a_letters a_oneSided a_free a_ends a_crowds a_wmade a_firsts a_widths a_heights a_places a_next a_pnear a_table a_overlaps a_drawers a_kept a_items a_numbers a_marks a_near a_figures a_covered a_pcells a_matrix H) (hQ : mP D ct am y_km y_tp y_goes y_kin y_qd y_sides y_cuts y_flat y_cp y_cA y_cB y_1X y_1Y y_2X y_2Y y_tm y_cells a_mtape a_flood a_going a_field a_from a_mcrowds a_steps a_queue a_letter a_lineX a_lineY a_triedAt a_cellAt a_besideIn a_apart a_drawer a_mkept a_listed a_mkin a_tried a_takenAt a_waysOf H) (hS : va_S (fun q : Nat => s.heap.size ≤ q) s.heap H locs) (hl : lv_has ls 4 [(3, .int v3), (0, .ref b), (1, .ref (ad 0)), (2, .ref (am 0))]) (next : ∀ (H : Heap) (locs : List Loc) (ls : Array Slot) {x_fed x_tk x_col x_line x_rcells x_rsize x_len x_cuts x_bare x_place x_lA x_lB x_lC x_fX x_fY x_sX x_sY x_made x_fsize x_psize x_over x_touch x_most x_mU x_mV x_area : Int32} {x_board : Int64} {a_tape a_letters a_oneSided a_free a_ends a_crowds a_wmade a_firsts a_widths a_heights a_places a_next a_pnear a_table a_overlaps : Nat → Int32} {a_drawers a_kept a_items a_numbers a_marks a_near a_figures a_covered a_pcells a_matrix : Nat → Int64} {y_km y_tp y_goes y_kin y_qd y_sides y_cuts y_flat y_cp y_cA y_cB y_1X y_1Y y_2X y_2Y y_tm y_cells : Int32} {a_mtape a_flood a_going a_field a_from a_mcrowds a_steps a_queue a_letter a_lineX a_lineY a_triedAt a_cellAt a_besideIn a_apart : Nat → Int32} {a_drawer a_mkept a_listed a_mkin a_tried a_takenAt a_waysOf : Nat → Int64}, lv_has ls 4 [(3, .int v3), (0, .ref b), (1, .ref (ad 0)), (2, .ref (am 0))] → INV x_fed x_tk x_col x_line x_rcells x_rsize x_len x_cuts x_bare x_place x_lA x_lB x_lC x_fX x_fY x_sX x_sY x_made x_fsize x_psize x_over x_touch x_most x_mU x_mV x_area x_board a_tape a_letters a_oneSided a_free a_ends a_crowds a_wmade a_firsts a_widths a_heights a_places a_next a_pnear a_table a_overlaps a_drawers a_kept a_items a_numbers a_marks a_near a_figures a_covered a_pcells a_matrix y_km y_tp y_goes y_kin y_qd y_sides y_cuts y_flat y_cp y_cA y_cB y_1X y_1Y y_2X y_2Y y_tm y_cells a_mtape a_flood a_going a_field a_from a_mcrowds a_steps a_queue a_letter a_lineX a_lineY a_triedAt a_cellAt a_besideIn a_apart a_drawer a_mkept a_listed a_mkin a_tried a_takenAt a_waysOf → cP D ct ad x_fed x_tk x_col x_line x_rcells x_rsize x_len x_cuts x_bare x_place x_lA x_lB x_lC x_fX x_fY x_sX x_sY x_made x_fsize x_psize x_over x_touch x_most x_mU x_mV x_area x_board a_tape a_letters a_oneSided a_free a_ends a_crowds a_wmade a_firsts a_widths a_heights a_places a_next a_pnear a_table a_overlaps a_drawers a_kept a_items a_numbers a_marks a_near a_figures a_covered a_pcells a_matrix H → mP D ct am y_km y_tp y_goes y_kin y_qd y_sides y_cuts y_flat y_cp y_cA y_cB y_1X y_1Y y_2X y_2Y y_tm y_cells a_mtape a_flood a_going a_field a_from a_mcrowds a_steps a_queue a_letter a_lineX a_lineY a_triedAt a_cellAt a_besideIn a_apart a_drawer a_mkept a_listed a_mkin a_tried a_takenAt a_waysOf H → va_S (fun q : Nat => s.heap.size ≤ q) s.heap H locs → W p l e room_1 s m #[Value.ref b] below meth c H locs 57 17144 (lw_Z below #[Value.ref b] s) (F0 m 1844 ls [])) : W p l e room_1 s m #[Value.ref b] below meth c H locs 57 17144 (lw_Z below #[Value.ref b] s) (F0 m 1306 ls []) := by
  by_cases hz : xs (v3 + 4).toNatClampNeg = 0
  · refine lv_aload_n hx hb dL_law_1306 rfl (lv_at hl 2 rfl) ?_
    refine lv_aload_n hx hb dL_law_1307 rfl (lv_at hl 1 rfl) ?_
    refine lv_iload_n hx hb dL_law_1308 rfl (lv_at hl 0 rfl) ?_
    refine lv_iconst (v := 1) hx hb dL_law_1309 ki_1 ?_
    refine lv_iadd hx hb dL_law_1310 ?_
    refine va_sld hx hb hX hbl hbA hS hi1 dL_law_1311 ?_
    refine lv_aload_n hx hb dL_law_1312 rfl (lv_at hl 1 rfl) ?_
    refine lv_iload_n hx hb dL_law_1313 rfl (lv_at hl 0 rfl) ?_
    refine lv_iconst (v := 2) hx hb dL_law_1314 ki_2 ?_
    refine lv_iadd hx hb dL_law_1315 ?_
    refine va_sld hx hb hX hbl hbA hS hi2 dL_law_1316 ?_
    refine lv_aload_n hx hb dL_law_1317 rfl (lv_at hl 1 rfl) ?_
    refine lv_iload_n hx hb dL_law_1318 rfl (lv_at hl 0 rfl) ?_
    refine lv_iconst (v := 3) hx hb dL_law_1319 ki_3 ?_
    refine lv_iadd hx hb dL_law_1320 ?_
    refine va_sld hx hb hX hbl hbA hS hi3 dL_law_1321 ?_
    refine lv_aload_n hx hb dL_law_1322 rfl (lv_at hl 1 rfl) ?_
    refine lv_iload_n hx hb dL_law_1323 rfl (lv_at hl 0 rfl) ?_
    refine lv_iconst (v := 4) hx hb dL_law_1324 ki_4 ?_
    refine lv_iadd hx hb dL_law_1325 ?_
    refine va_sld hx hb hX hbl hbA hS hi4 dL_law_1326 ?_
    refine lv_if_eq hx hb dL_law_1327 (tgt := 1334) rfl (fun _ => ?_) (fun hc => absurd hz hc)
    refine lv_iconst (v := 0) hx hb dL_law_1334 ki_0 ?_
    obtain ⟨r, zc_x_rsize, zc_a_items, zc_x_fsize, zc_a_figures, zc_a_firsts, zc_a_widths, zc_a_heights, zc_a_covered, zc_a_places, zc_a_next, zm_y_tm, zm_a_tried, zm_a_takenAt, zm_a_triedAt, hc, hm, hinv⟩ := hop (xs (v3 + 1).toNatClampNeg) (xs (v3 + 2).toNatClampNeg) (xs (v3 + 3).toNatClampNeg) 0 (by first | exact Or.inl rfl | exact Or.inr rfl) hinv
    refine hv_i hx hb hml hown hw cB_bl (cB_of hN hK hP) (cr_CF hK hP) (c_cf_fill l D ct ad hI (xs (v3 + 1).toNatClampNeg) (xs (v3 + 2).toNatClampNeg) (xs (v3 + 3).toNatClampNeg) 0 r zc_x_rsize zc_a_items zc_x_fsize zc_a_figures zc_a_firsts zc_a_widths zc_a_heights zc_a_covered zc_a_places zc_a_next hc) g_RL_123 ⟨rfl, hd_X11_fill⟩ (rest := []) hl.1 hS hcA dL_law_1335 rfl rfl ⟨Nat.le_of_ble_eq_true rfl, Nat.le_of_ble_eq_true rfl⟩ rfl rfl (Nat.le_of_ble_eq_true rfl) ⟨Nat.le_of_ble_eq_true rfl, Nat.le_of_ble_eq_true rfl⟩ (fun H1 locs hP hk hS => ?_)
    replace hQ := mP_keptA hQ hk hap
    clear hk
    refine lv_aload_n hx hb dL_law_1338 rfl (lv_at hl 3 rfl) ?_
    refine lv_aload_n hx hb dL_law_1339 rfl (lv_at hl 1 rfl) ?_
    refine lv_iload_n hx hb dL_law_1340 rfl (lv_at hl 0 rfl) ?_
    refine lv_iconst (v := 1) hx hb dL_law_1341 ki_1 ?_
    refine lv_iadd hx hb dL_law_1342 ?_
    refine va_sld hx hb hX hbl hbA hS hi1 dL_law_1343 ?_
    refine lv_aload_n hx hb dL_law_1344 rfl (lv_at hl 1 rfl) ?_
    refine lv_iload_n hx hb dL_law_1345 rfl (lv_at hl 0 rfl) ?_
    refine lv_iconst (v := 2) hx hb dL_law_1346 ki_2 ?_
    refine lv_iadd hx hb dL_law_1347 ?_
    refine va_sld hx hb hX hbl hbA hS hi2 dL_law_1348 ?_
    refine lv_aload_n hx hb dL_law_1349 rfl (lv_at hl 1 rfl) ?_
    refine lv_iload_n hx hb dL_law_1350 rfl (lv_at hl 0 rfl) ?_
    refine lv_iconst (v := 3) hx hb dL_law_1351 ki_3 ?_
    refine lv_iadd hx hb dL_law_1352 ?_
    refine va_sld hx hb hX hbl hbA hS hi3 dL_law_1353 ?_
    refine lv_aload_n hx hb dL_law_1354 rfl (lv_at hl 1 rfl) ?_
    refine lv_iload_n hx hb dL_law_1355 rfl (lv_at hl 0 rfl) ?_
    refine lv_iconst (v := 4) hx hb dL_law_1356 ki_4 ?_
    refine lv_iadd hx hb dL_law_1357 ?_
    refine va_sld hx hb hX hbl hbA hS hi4 dL_law_1358 ?_
    refine lv_if_eq hx hb dL_law_1359 (tgt := 1366) rfl (fun _ => ?_) (fun hc => absurd hz hc)
    refine lv_iconst (v := 0) hx hb dL_law_1366 ki_0 ?_
    refine hv_i hx hb hml hown hw mB_bl (mB_of hN hK hQ) (mr_MO hK hQ) (c_mo_fill l D ct am hJ (xs (v3 + 1).toNatClampNeg) (xs (v3 + 2).toNatClampNeg) (xs (v3 + 3).toNatClampNeg) 0 r zm_y_tm zm_a_tried zm_a_takenAt zm_a_triedAt hm) g_RL_126 ⟨rfl, hd_X12_fill⟩ (rest := [.int r]) hl.1 hS hmA dL_law_1367 rfl rfl ⟨Nat.le_of_ble_eq_true rfl, Nat.le_of_ble_eq_true rfl⟩ rfl rfl (Nat.le_of_ble_eq_true rfl) ⟨Nat.le_of_ble_eq_true rfl, Nat.le_of_ble_eq_true rfl⟩ (fun H2 locs hQ hk hS => ?_)
    replace hP := cP_keptA hP hk hap2
    refine lv_icmp_eq hx hb dL_law_1370 (tgt := 1844) rfl (fun _ => ?_) (fun hc => absurd rfl hc)
    exact next _ _ _ hl hinv hP hQ hS
  · refine lv_aload_n hx hb dL_law_1306 rfl (lv_at hl 2 rfl) ?_
    refine lv_aload_n hx hb dL_law_1307 rfl (lv_at hl 1 rfl) ?_
    refine lv_iload_n hx hb dL_law_1308 rfl (lv_at hl 0 rfl) ?_
    refine lv_iconst (v := 1) hx hb dL_law_1309 ki_1 ?_
    refine lv_iadd hx hb dL_law_1310 ?_
    refine va_sld hx hb hX hbl hbA hS hi1 dL_law_1311 ?_
    refine lv_aload_n hx hb dL_law_1312 rfl (lv_at hl 1 rfl) ?_
    refine lv_iload_n hx hb dL_law_1313 rfl (lv_at hl 0 rfl) ?_
    refine lv_iconst (v := 2) hx hb dL_law_1314 ki_2 ?_
    refine lv_iadd hx hb dL_law_1315 ?_
    refine va_sld hx hb hX hbl hbA hS hi2 dL_law_1316 ?_
    refine lv_aload_n hx hb dL_law_1317 rfl (lv_at hl 1 rfl) ?_
    refine lv_iload_n hx hb dL_law_1318 rfl (lv_at hl 0 rfl) ?_
    refine lv_iconst (v := 3) hx hb dL_law_1319 ki_3 ?_
    refine lv_iadd hx hb dL_law_1320 ?_
    refine va_sld hx hb hX hbl hbA hS hi3 dL_law_1321 ?_
    refine lv_aload_n hx hb dL_law_1322 rfl (lv_at hl 1 rfl) ?_
    refine lv_iload_n hx hb dL_law_1323 rfl (lv_at hl 0 rfl) ?_
    refine lv_iconst (v := 4) hx hb dL_law_1324 ki_4 ?_
    refine lv_iadd hx hb dL_law_1325 ?_
    refine va_sld hx hb hX hbl hbA hS hi4 dL_law_1326 ?_
    refine lv_if_eq hx hb dL_law_1327 (tgt := 1334) rfl (fun hc => absurd hc hz) (fun _ => ?_)
    refine lv_iconst (v := 1) hx hb dL_law_1330 ki_1 ?_
    refine lv_goto hx hb dL_law_1331 (tgt := 1335) rfl ?_
    obtain ⟨r, zc_x_rsize, zc_a_items, zc_x_fsize, zc_a_figures, zc_a_firsts, zc_a_widths, zc_a_heights, zc_a_covered, zc_a_places, zc_a_next, zm_y_tm, zm_a_tried, zm_a_takenAt, zm_a_triedAt, hc, hm, hinv⟩ := hop (xs (v3 + 1).toNatClampNeg) (xs (v3 + 2).toNatClampNeg) (xs (v3 + 3).toNatClampNeg) 1 (by first | exact Or.inl rfl | exact Or.inr rfl) hinv
    refine hv_i hx hb hml hown hw cB_bl (cB_of hN hK hP) (cr_CF hK hP) (c_cf_fill l D ct ad hI (xs (v3 + 1).toNatClampNeg) (xs (v3 + 2).toNatClampNeg) (xs (v3 + 3).toNatClampNeg) 1 r zc_x_rsize zc_a_items zc_x_fsize zc_a_figures zc_a_firsts zc_a_widths zc_a_heights zc_a_covered zc_a_places zc_a_next hc) g_RL_123 ⟨rfl, hd_X11_fill⟩ (rest := []) hl.1 hS hcA dL_law_1335 rfl rfl ⟨Nat.le_of_ble_eq_true rfl, Nat.le_of_ble_eq_true rfl⟩ rfl rfl (Nat.le_of_ble_eq_true rfl) ⟨Nat.le_of_ble_eq_true rfl, Nat.le_of_ble_eq_true rfl⟩ (fun H1 locs hP hk hS => ?_)
    replace hQ := mP_keptA hQ hk hap
    clear hk
    refine lv_aload_n hx hb dL_law_1338 rfl (lv_at hl 3 rfl) ?_
    refine lv_aload_n hx hb dL_law_1339 rfl (lv_at hl 1 rfl) ?_
    refine lv_iload_n hx hb dL_law_1340 rfl (lv_at hl 0 rfl) ?_
    refine lv_iconst (v := 1) hx hb dL_law_1341 ki_1 ?_
    refine lv_iadd hx hb dL_law_1342 ?_
    refine va_sld hx hb hX hbl hbA hS hi1 dL_law_1343 ?_
    refine lv_aload_n hx hb dL_law_1344 rfl (lv_at hl 1 rfl) ?_
    refine lv_iload_n hx hb dL_law_1345 rfl (lv_at hl 0 rfl) ?_
    refine lv_iconst (v := 2) hx hb dL_law_1346 ki_2 ?_
    refine lv_iadd hx hb dL_law_1347 ?_
    refine va_sld hx hb hX hbl hbA hS hi2 dL_law_1348 ?_
    refine lv_aload_n hx hb dL_law_1349 rfl (lv_at hl 1 rfl) ?_
    refine lv_iload_n hx hb dL_law_1350 rfl (lv_at hl 0 rfl) ?_
    refine lv_iconst (v := 3) hx hb dL_law_1351 ki_3 ?_
    refine lv_iadd hx hb dL_law_1352 ?_
    refine va_sld hx hb hX hbl hbA hS hi3 dL_law_1353 ?_
    refine lv_aload_n hx hb dL_law_1354 rfl (lv_at hl 1 rfl) ?_
    refine lv_iload_n hx hb dL_law_1355 rfl (lv_at hl 0 rfl) ?_
    refine lv_iconst (v := 4) hx hb dL_law_1356 ki_4 ?_
    refine lv_iadd hx hb dL_law_1357 ?_
    refine va_sld hx hb hX hbl hbA hS hi4 dL_law_1358 ?_
    refine lv_if_eq hx hb dL_law_1359 (tgt := 1366) rfl (fun hc => absurd hc hz) (fun _ => ?_)
    refine lv_iconst (v := 1) hx hb dL_law_1362 ki_1 ?_
    refine lv_goto hx hb dL_law_1363 (tgt := 1367) rfl ?_
    refine hv_i hx hb hml hown hw mB_bl (mB_of hN hK hQ) (mr_MO hK hQ) (c_mo_fill l D ct am hJ (xs (v3 + 1).toNatClampNeg) (xs (v3 + 2).toNatClampNeg) (xs (v3 + 3).toNatClampNeg) 1 r zm_y_tm zm_a_tried zm_a_takenAt zm_a_triedAt hm) g_RL_126 ⟨rfl, hd_X12_fill⟩ (rest := [.int r]) hl.1 hS hmA dL_law_1367 rfl rfl ⟨Nat.le_of_ble_eq_true rfl, Nat.le_of_ble_eq_true rfl⟩ rfl rfl (Nat.le_of_ble_eq_true rfl) ⟨Nat.le_of_ble_eq_true rfl, Nat.le_of_ble_eq_true rfl⟩ (fun H2 locs hQ hk hS => ?_)
    replace hP := cP_keptA hP hk hap2
    refine lv_icmp_eq hx hb dL_law_1370 (tgt := 1844) rfl (fun _ => ?_) (fun hc => absurd rfl hc)
    exact next _ _ _ hl hinv hP hQ hS
set_option maxHeartbeats 4000000 in
set_option maxRecDepth 100000 in
theorem lawc_vector {INV : INVT} (hop : OP_vector INV) {p : Program} {l : Launch} {e : Env} {s : State} {m : MethodId} {below : List Frame} {meth : Method} {c : Code} {H : Heap} {locs : List Loc} {ls : Array Slot} {b L : Nat} {xs : Nat → Int32} {v3 : Int32} {D : va_G} {ct : Nat → ClassId} {ad am : Nat → Nat} {x_fed x_tk x_col x_line x_rcells x_rsize x_len x_cuts x_bare x_place x_lA x_lB x_lC x_fX x_fY x_sX x_sY x_made x_fsize x_psize x_over x_touch x_most x_mU x_mV x_area : Int32} {x_board : Int64} {a_tape a_letters a_oneSided a_free a_ends a_crowds a_wmade a_firsts a_widths a_heights a_places a_next a_pnear a_table a_overlaps : Nat → Int32} {a_drawers a_kept a_items a_numbers a_marks a_near a_figures a_covered a_pcells a_matrix : Nat → Int64} {y_km y_tp y_goes y_kin y_qd y_sides y_cuts y_flat y_cp y_cA y_cB y_1X y_1Y y_2X y_2Y y_tm y_cells : Int32} {a_mtape a_flood a_going a_field a_from a_mcrowds a_steps a_queue a_letter a_lineX a_lineY a_triedAt a_cellAt a_besideIn a_apart : Nat → Int32} {a_drawer a_mkept a_listed a_mkin a_tried a_takenAt a_waysOf : Nat → Int64} (hx : p.tables.exec = Jvm.exec) (hb : c.code = code) (hml : c.maxLocals = 4) (hown : s.vm.findClass RL = some m.cls) (hw : ∀ w ∈ wsL_law, w.before #[Value.ref b] s = true) (hN : NW s) (hK : KK D ct s) (hX : va_X b L xs s s.heap) (hbl : b < s.heap.size) (hbA : ¬ s.heap.size ≤ b) (hI : cI ad) (hJ : mI am) (hcA : ∀ q, cA ad q → s.heap.size ≤ q) (hmA : ∀ q, mA am q → s.heap.size ≤ q) (hap : ∀ q, mA am q → ¬ cA ad q) (hap2 : ∀ q, cA ad q → ¬ mA am q) (hi1 : vp_in (v3 + 1) L) (hi2 : vp_in (v3 + 2) L) (hi3 : vp_in (v3 + 3) L) (hi4 : vp_in (v3 + 4) L) (hi5 : vp_in (v3 + 5) L) (hi6 : vp_in (v3 + 6) L) (hinv : INV x_fed x_tk x_col x_line x_rcells x_rsize x_len x_cuts x_bare x_place x_lA x_lB x_lC x_fX x_fY x_sX x_sY x_made x_fsize x_psize x_over x_touch x_most x_mU x_mV x_area x_board a_tape a_letters a_oneSided a_free a_ends a_crowds a_wmade a_firsts a_widths a_heights a_places a_next a_pnear a_table a_overlaps a_drawers a_kept a_items a_numbers a_marks a_near a_figures a_covered a_pcells a_matrix y_km y_tp y_goes y_kin y_qd y_sides y_cuts y_flat y_cp y_cA y_cB y_1X y_1Y y_2X y_2Y y_tm y_cells a_mtape a_flood a_going a_field a_from a_mcrowds a_steps a_queue a_letter a_lineX a_lineY a_triedAt a_cellAt a_besideIn a_apart a_drawer a_mkept a_listed a_mkin a_tried a_takenAt a_waysOf) (hP : cP D ct ad x_fed x_tk x_col x_line x_rcells x_rsize x_len x_cuts x_bare x_place x_lA x_lB x_lC x_fX x_fY x_sX x_sY x_made x_fsize x_psize x_over x_touch x_most x_mU x_mV x_area x_board a_tape a_letters a_oneSided a_free a_ends a_crowds a_wmade a_firsts a_widths a_heights a_places a_next a_pnear a_table a_overlaps a_drawers a_kept a_items a_numbers a_marks a_near a_figures a_covered a_pcells a_matrix H) (hQ : mP D ct am y_km y_tp y_goes y_kin y_qd y_sides y_cuts y_flat y_cp y_cA y_cB y_1X y_1Y y_2X y_2Y y_tm y_cells a_mtape a_flood a_going a_field a_from a_mcrowds a_steps a_queue a_letter a_lineX a_lineY a_triedAt a_cellAt a_besideIn a_apart a_drawer a_mkept a_listed a_mkin a_tried a_takenAt a_waysOf H) (hS : va_S (fun q : Nat => s.heap.size ≤ q) s.heap H locs) (hl : lv_has ls 4 [(3, .int v3), (0, .ref b), (1, .ref (ad 0)), (2, .ref (am 0))]) (next : ∀ (H : Heap) (locs : List Loc) (ls : Array Slot) {x_fed x_tk x_col x_line x_rcells x_rsize x_len x_cuts x_bare x_place x_lA x_lB x_lC x_fX x_fY x_sX x_sY x_made x_fsize x_psize x_over x_touch x_most x_mU x_mV x_area : Int32} {x_board : Int64} {a_tape a_letters a_oneSided a_free a_ends a_crowds a_wmade a_firsts a_widths a_heights a_places a_next a_pnear a_table a_overlaps : Nat → Int32} {a_drawers a_kept a_items a_numbers a_marks a_near a_figures a_covered a_pcells a_matrix : Nat → Int64} {y_km y_tp y_goes y_kin y_qd y_sides y_cuts y_flat y_cp y_cA y_cB y_1X y_1Y y_2X y_2Y y_tm y_cells : Int32} {a_mtape a_flood a_going a_field a_from a_mcrowds a_steps a_queue a_letter a_lineX a_lineY a_triedAt a_cellAt a_besideIn a_apart : Nat → Int32} {a_drawer a_mkept a_listed a_mkin a_tried a_takenAt a_waysOf : Nat → Int64}, lv_has ls 4 [(3, .int v3), (0, .ref b), (1, .ref (ad 0)), (2, .ref (am 0))] → INV x_fed x_tk x_col x_line x_rcells x_rsize x_len x_cuts x_bare x_place x_lA x_lB x_lC x_fX x_fY x_sX x_sY x_made x_fsize x_psize x_over x_touch x_most x_mU x_mV x_area x_board a_tape a_letters a_oneSided a_free a_ends a_crowds a_wmade a_firsts a_widths a_heights a_places a_next a_pnear a_table a_overlaps a_drawers a_kept a_items a_numbers a_marks a_near a_figures a_covered a_pcells a_matrix y_km y_tp y_goes y_kin y_qd y_sides y_cuts y_flat y_cp y_cA y_cB y_1X y_1Y y_2X y_2Y y_tm y_cells a_mtape a_flood a_going a_field a_from a_mcrowds a_steps a_queue a_letter a_lineX a_lineY a_triedAt a_cellAt a_besideIn a_apart a_drawer a_mkept a_listed a_mkin a_tried a_takenAt a_waysOf → cP D ct ad x_fed x_tk x_col x_line x_rcells x_rsize x_len x_cuts x_bare x_place x_lA x_lB x_lC x_fX x_fY x_sX x_sY x_made x_fsize x_psize x_over x_touch x_most x_mU x_mV x_area x_board a_tape a_letters a_oneSided a_free a_ends a_crowds a_wmade a_firsts a_widths a_heights a_places a_next a_pnear a_table a_overlaps a_drawers a_kept a_items a_numbers a_marks a_near a_figures a_covered a_pcells a_matrix H → mP D ct am y_km y_tp y_goes y_kin y_qd y_sides y_cuts y_flat y_cp y_cA y_cB y_1X y_1Y y_2X y_2Y y_tm y_cells a_mtape a_flood a_going a_field a_from a_mcrowds a_steps a_queue a_letter a_lineX a_lineY a_triedAt a_cellAt a_besideIn a_apart a_drawer a_mkept a_listed a_mkin a_tried a_takenAt a_waysOf H → va_S (fun q : Nat => s.heap.size ≤ q) s.heap H locs → W p l e room_1 s m #[Value.ref b] below meth c H locs 57 17144 (lw_Z below #[Value.ref b] s) (F0 m 1844 ls [])) : W p l e room_1 s m #[Value.ref b] below meth c H locs 57 17144 (lw_Z below #[Value.ref b] s) (F0 m 1375 ls []) := by
  refine lv_aload_n hx hb dL_law_1375 rfl (lv_at hl 2 rfl) ?_
  refine lv_aload_n hx hb dL_law_1376 rfl (lv_at hl 1 rfl) ?_
  refine lv_iload_n hx hb dL_law_1377 rfl (lv_at hl 0 rfl) ?_
  refine lv_iconst (v := 1) hx hb dL_law_1378 ki_1 ?_
  refine lv_iadd hx hb dL_law_1379 ?_
  refine va_sld hx hb hX hbl hbA hS hi1 dL_law_1380 ?_
  refine lv_aload_n hx hb dL_law_1381 rfl (lv_at hl 1 rfl) ?_
  refine lv_iload_n hx hb dL_law_1382 rfl (lv_at hl 0 rfl) ?_
  refine lv_iconst (v := 2) hx hb dL_law_1383 ki_2 ?_
  refine lv_iadd hx hb dL_law_1384 ?_
  refine va_sld hx hb hX hbl hbA hS hi2 dL_law_1385 ?_
  obtain ⟨r, zc_x_len, zc_x_cuts, zc_x_bare, zc_x_place, zc_x_lA, zc_x_lB, zc_x_lC, zc_x_fX, zc_x_fY, zc_x_sX, zc_x_sY, zc_a_letters, zm_y_goes, zm_y_sides, zm_y_cuts, zm_y_flat, zm_y_cp, zm_y_cA, zm_y_cB, zm_y_1X, zm_y_1Y, zm_y_2X, zm_y_2Y, zm_a_flood, zm_a_going, zm_a_letter, zm_a_lineX, zm_a_lineY, hc, hm, hinv⟩ := hop (xs (v3 + 1).toNatClampNeg) (xs (v3 + 2).toNatClampNeg) hinv
  refine hv_i hx hb hml hown hw cB_bl (cB_of hN hK hP) (cr_CF hK hP) (c_cf_vector l D ct ad hI (xs (v3 + 1).toNatClampNeg) (xs (v3 + 2).toNatClampNeg) r zc_x_len zc_x_cuts zc_x_bare zc_x_place zc_x_lA zc_x_lB zc_x_lC zc_x_fX zc_x_fY zc_x_sX zc_x_sY zc_a_letters hc) g_RL_127 ⟨rfl, hd_X11_vector⟩ (rest := []) hl.1 hS hcA dL_law_1386 rfl rfl ⟨Nat.le_of_ble_eq_true rfl, Nat.le_of_ble_eq_true rfl⟩ rfl rfl (Nat.le_of_ble_eq_true rfl) ⟨Nat.le_of_ble_eq_true rfl, Nat.le_of_ble_eq_true rfl⟩ (fun H1 locs hP hk hS => ?_)
  replace hQ := mP_keptA hQ hk hap
  clear hk
  refine lv_aload_n hx hb dL_law_1389 rfl (lv_at hl 3 rfl) ?_
  refine lv_aload_n hx hb dL_law_1390 rfl (lv_at hl 1 rfl) ?_
  refine lv_iload_n hx hb dL_law_1391 rfl (lv_at hl 0 rfl) ?_
  refine lv_iconst (v := 1) hx hb dL_law_1392 ki_1 ?_
  refine lv_iadd hx hb dL_law_1393 ?_
  refine va_sld hx hb hX hbl hbA hS hi1 dL_law_1394 ?_
  refine lv_aload_n hx hb dL_law_1395 rfl (lv_at hl 1 rfl) ?_
  refine lv_iload_n hx hb dL_law_1396 rfl (lv_at hl 0 rfl) ?_
  refine lv_iconst (v := 2) hx hb dL_law_1397 ki_2 ?_
  refine lv_iadd hx hb dL_law_1398 ?_
  refine va_sld hx hb hX hbl hbA hS hi2 dL_law_1399 ?_
  refine hv_i hx hb hml hown hw mB_bl (mB_of hN hK hQ) (mr_MO hK hQ) (c_mo_vector l D ct am hJ (xs (v3 + 1).toNatClampNeg) (xs (v3 + 2).toNatClampNeg) r zm_y_goes zm_y_sides zm_y_cuts zm_y_flat zm_y_cp zm_y_cA zm_y_cB zm_y_1X zm_y_1Y zm_y_2X zm_y_2Y zm_a_flood zm_a_going zm_a_letter zm_a_lineX zm_a_lineY hm) g_RL_130 ⟨rfl, hd_X12_vector⟩ (rest := [.int r]) hl.1 hS hmA dL_law_1400 rfl rfl ⟨Nat.le_of_ble_eq_true rfl, Nat.le_of_ble_eq_true rfl⟩ rfl rfl (Nat.le_of_ble_eq_true rfl) ⟨Nat.le_of_ble_eq_true rfl, Nat.le_of_ble_eq_true rfl⟩ (fun H2 locs hQ hk hS => ?_)
  replace hP := cP_keptA hP hk hap2
  refine lv_icmp_eq hx hb dL_law_1403 (tgt := 1844) rfl (fun _ => ?_) (fun hc => absurd rfl hc)
  exact next _ _ _ hl hinv hP hQ hS
set_option maxHeartbeats 4000000 in
set_option maxRecDepth 100000 in
theorem lawc_owner {INV : INVT} (hop : OP_owner INV) {p : Program} {l : Launch} {e : Env} {s : State} {m : MethodId} {below : List Frame} {meth : Method} {c : Code} {H : Heap} {locs : List Loc} {ls : Array Slot} {b L : Nat} {xs : Nat → Int32} {v3 : Int32} {D : va_G} {ct : Nat → ClassId} {ad am : Nat → Nat} {x_fed x_tk x_col x_line x_rcells x_rsize x_len x_cuts x_bare x_place x_lA x_lB x_lC x_fX x_fY x_sX x_sY x_made x_fsize x_psize x_over x_touch x_most x_mU x_mV x_area : Int32} {x_board : Int64} {a_tape a_letters a_oneSided a_free a_ends a_crowds a_wmade a_firsts a_widths a_heights a_places a_next a_pnear a_table a_overlaps : Nat → Int32} {a_drawers a_kept a_items a_numbers a_marks a_near a_figures a_covered a_pcells a_matrix : Nat → Int64} {y_km y_tp y_goes y_kin y_qd y_sides y_cuts y_flat y_cp y_cA y_cB y_1X y_1Y y_2X y_2Y y_tm y_cells : Int32} {a_mtape a_flood a_going a_field a_from a_mcrowds a_steps a_queue a_letter a_lineX a_lineY a_triedAt a_cellAt a_besideIn a_apart : Nat → Int32} {a_drawer a_mkept a_listed a_mkin a_tried a_takenAt a_waysOf : Nat → Int64} (hx : p.tables.exec = Jvm.exec) (hb : c.code = code) (hml : c.maxLocals = 4) (hown : s.vm.findClass RL = some m.cls) (hw : ∀ w ∈ wsL_law, w.before #[Value.ref b] s = true) (hN : NW s) (hK : KK D ct s) (hX : va_X b L xs s s.heap) (hbl : b < s.heap.size) (hbA : ¬ s.heap.size ≤ b) (hI : cI ad) (hJ : mI am) (hcA : ∀ q, cA ad q → s.heap.size ≤ q) (hmA : ∀ q, mA am q → s.heap.size ≤ q) (hap : ∀ q, mA am q → ¬ cA ad q) (hap2 : ∀ q, cA ad q → ¬ mA am q) (hi1 : vp_in (v3 + 1) L) (hi2 : vp_in (v3 + 2) L) (hi3 : vp_in (v3 + 3) L) (hi4 : vp_in (v3 + 4) L) (hi5 : vp_in (v3 + 5) L) (hi6 : vp_in (v3 + 6) L) (hinv : INV x_fed x_tk x_col x_line x_rcells x_rsize x_len x_cuts x_bare x_place x_lA x_lB x_lC x_fX x_fY x_sX x_sY x_made x_fsize x_psize x_over x_touch x_most x_mU x_mV x_area x_board a_tape a_letters a_oneSided a_free a_ends a_crowds a_wmade a_firsts a_widths a_heights a_places a_next a_pnear a_table a_overlaps a_drawers a_kept a_items a_numbers a_marks a_near a_figures a_covered a_pcells a_matrix y_km y_tp y_goes y_kin y_qd y_sides y_cuts y_flat y_cp y_cA y_cB y_1X y_1Y y_2X y_2Y y_tm y_cells a_mtape a_flood a_going a_field a_from a_mcrowds a_steps a_queue a_letter a_lineX a_lineY a_triedAt a_cellAt a_besideIn a_apart a_drawer a_mkept a_listed a_mkin a_tried a_takenAt a_waysOf) (hP : cP D ct ad x_fed x_tk x_col x_line x_rcells x_rsize x_len x_cuts x_bare x_place x_lA x_lB x_lC x_fX x_fY x_sX x_sY x_made x_fsize x_psize x_over x_touch x_most x_mU x_mV x_area x_board a_tape a_letters a_oneSided a_free a_ends a_crowds a_wmade a_firsts a_widths a_heights a_places a_next a_pnear a_table a_overlaps a_drawers a_kept a_items a_numbers a_marks a_near a_figures a_covered a_pcells a_matrix H) (hQ : mP D ct am y_km y_tp y_goes y_kin y_qd y_sides y_cuts y_flat y_cp y_cA y_cB y_1X y_1Y y_2X y_2Y y_tm y_cells a_mtape a_flood a_going a_field a_from a_mcrowds a_steps a_queue a_letter a_lineX a_lineY a_triedAt a_cellAt a_besideIn a_apart a_drawer a_mkept a_listed a_mkin a_tried a_takenAt a_waysOf H) (hS : va_S (fun q : Nat => s.heap.size ≤ q) s.heap H locs) (hl : lv_has ls 4 [(3, .int v3), (0, .ref b), (1, .ref (ad 0)), (2, .ref (am 0))]) (next : ∀ (H : Heap) (locs : List Loc) (ls : Array Slot) {x_fed x_tk x_col x_line x_rcells x_rsize x_len x_cuts x_bare x_place x_lA x_lB x_lC x_fX x_fY x_sX x_sY x_made x_fsize x_psize x_over x_touch x_most x_mU x_mV x_area : Int32} {x_board : Int64} {a_tape a_letters a_oneSided a_free a_ends a_crowds a_wmade a_firsts a_widths a_heights a_places a_next a_pnear a_table a_overlaps : Nat → Int32} {a_drawers a_kept a_items a_numbers a_marks a_near a_figures a_covered a_pcells a_matrix : Nat → Int64} {y_km y_tp y_goes y_kin y_qd y_sides y_cuts y_flat y_cp y_cA y_cB y_1X y_1Y y_2X y_2Y y_tm y_cells : Int32} {a_mtape a_flood a_going a_field a_from a_mcrowds a_steps a_queue a_letter a_lineX a_lineY a_triedAt a_cellAt a_besideIn a_apart : Nat → Int32} {a_drawer a_mkept a_listed a_mkin a_tried a_takenAt a_waysOf : Nat → Int64}, lv_has ls 4 [(3, .int v3), (0, .ref b), (1, .ref (ad 0)), (2, .ref (am 0))] → INV x_fed x_tk x_col x_line x_rcells x_rsize x_len x_cuts x_bare x_place x_lA x_lB x_lC x_fX x_fY x_sX x_sY x_made x_fsize x_psize x_over x_touch x_most x_mU x_mV x_area x_board a_tape a_letters a_oneSided a_free a_ends a_crowds a_wmade a_firsts a_widths a_heights a_places a_next a_pnear a_table a_overlaps a_drawers a_kept a_items a_numbers a_marks a_near a_figures a_covered a_pcells a_matrix y_km y_tp y_goes y_kin y_qd y_sides y_cuts y_flat y_cp y_cA y_cB y_1X y_1Y y_2X y_2Y y_tm y_cells a_mtape a_flood a_going a_field a_from a_mcrowds a_steps a_queue a_letter a_lineX a_lineY a_triedAt a_cellAt a_besideIn a_apart a_drawer a_mkept a_listed a_mkin a_tried a_takenAt a_waysOf → cP D ct ad x_fed x_tk x_col x_line x_rcells x_rsize x_len x_cuts x_bare x_place x_lA x_lB x_lC x_fX x_fY x_sX x_sY x_made x_fsize x_psize x_over x_touch x_most x_mU x_mV x_area x_board a_tape a_letters a_oneSided a_free a_ends a_crowds a_wmade a_firsts a_widths a_heights a_places a_next a_pnear a_table a_overlaps a_drawers a_kept a_items a_numbers a_marks a_near a_figures a_covered a_pcells a_matrix H → mP D ct am y_km y_tp y_goes y_kin y_qd y_sides y_cuts y_flat y_cp y_cA y_cB y_1X y_1Y y_2X y_2Y y_tm y_cells a_mtape a_flood a_going a_field a_from a_mcrowds a_steps a_queue a_letter a_lineX a_lineY a_triedAt a_cellAt a_besideIn a_apart a_drawer a_mkept a_listed a_mkin a_tried a_takenAt a_waysOf H → va_S (fun q : Nat => s.heap.size ≤ q) s.heap H locs → W p l e room_1 s m #[Value.ref b] below meth c H locs 57 17144 (lw_Z below #[Value.ref b] s) (F0 m 1844 ls [])) : W p l e room_1 s m #[Value.ref b] below meth c H locs 57 17144 (lw_Z below #[Value.ref b] s) (F0 m 1408 ls []) := by
  refine lv_aload_n hx hb dL_law_1408 rfl (lv_at hl 2 rfl) ?_
  refine lv_aload_n hx hb dL_law_1409 rfl (lv_at hl 1 rfl) ?_
  refine lv_iload_n hx hb dL_law_1410 rfl (lv_at hl 0 rfl) ?_
  refine lv_iconst (v := 1) hx hb dL_law_1411 ki_1 ?_
  refine lv_iadd hx hb dL_law_1412 ?_
  refine va_sld hx hb hX hbl hbA hS hi1 dL_law_1413 ?_
  refine lv_aload_n hx hb dL_law_1414 rfl (lv_at hl 1 rfl) ?_
  refine lv_iload_n hx hb dL_law_1415 rfl (lv_at hl 0 rfl) ?_
  refine lv_iconst (v := 2) hx hb dL_law_1416 ki_2 ?_
  refine lv_iadd hx hb dL_law_1417 ?_
  refine va_sld hx hb hX hbl hbA hS hi2 dL_law_1418 ?_
  refine lv_aload_n hx hb dL_law_1419 rfl (lv_at hl 1 rfl) ?_
  refine lv_iload_n hx hb dL_law_1420 rfl (lv_at hl 0 rfl) ?_
  refine lv_iconst (v := 3) hx hb dL_law_1421 ki_3 ?_
  refine lv_iadd hx hb dL_law_1422 ?_
  refine va_sld hx hb hX hbl hbA hS hi3 dL_law_1423 ?_
  refine lv_aload_n hx hb dL_law_1424 rfl (lv_at hl 1 rfl) ?_
  refine lv_iload_n hx hb dL_law_1425 rfl (lv_at hl 0 rfl) ?_
  refine lv_iconst (v := 4) hx hb dL_law_1426 ki_4 ?_
  refine lv_iadd hx hb dL_law_1427 ?_
  refine va_sld hx hb hX hbl hbA hS hi4 dL_law_1428 ?_
  obtain ⟨r, zc_x_len, zc_x_cuts, zc_x_bare, zc_x_place, zc_x_lA, zc_x_lB, zc_x_lC, zc_x_fX, zc_x_fY, zc_x_sX, zc_x_sY, zc_a_letters, zm_y_goes, zm_y_sides, zm_y_cuts, zm_y_flat, zm_y_cp, zm_y_cA, zm_y_cB, zm_y_1X, zm_y_1Y, zm_y_2X, zm_y_2Y, zm_a_flood, zm_a_going, zm_a_letter, zm_a_lineX, zm_a_lineY, hc, hm, hinv⟩ := hop (xs (v3 + 1).toNatClampNeg) (xs (v3 + 2).toNatClampNeg) (xs (v3 + 3).toNatClampNeg) (xs (v3 + 4).toNatClampNeg) hinv
  refine hv_i hx hb hml hown hw cB_bl (cB_of hN hK hP) (cr_CF hK hP) (c_cf_owner l D ct ad hI (xs (v3 + 1).toNatClampNeg) (xs (v3 + 2).toNatClampNeg) (xs (v3 + 3).toNatClampNeg) (xs (v3 + 4).toNatClampNeg) r zc_x_len zc_x_cuts zc_x_bare zc_x_place zc_x_lA zc_x_lB zc_x_lC zc_x_fX zc_x_fY zc_x_sX zc_x_sY zc_a_letters hc) g_RL_131 ⟨rfl, hd_X11_owner⟩ (rest := []) hl.1 hS hcA dL_law_1429 rfl rfl ⟨Nat.le_of_ble_eq_true rfl, Nat.le_of_ble_eq_true rfl⟩ rfl rfl (Nat.le_of_ble_eq_true rfl) ⟨Nat.le_of_ble_eq_true rfl, Nat.le_of_ble_eq_true rfl⟩ (fun H1 locs hP hk hS => ?_)
  replace hQ := mP_keptA hQ hk hap
  clear hk
  refine lv_aload_n hx hb dL_law_1432 rfl (lv_at hl 3 rfl) ?_
  refine lv_aload_n hx hb dL_law_1433 rfl (lv_at hl 1 rfl) ?_
  refine lv_iload_n hx hb dL_law_1434 rfl (lv_at hl 0 rfl) ?_
  refine lv_iconst (v := 1) hx hb dL_law_1435 ki_1 ?_
  refine lv_iadd hx hb dL_law_1436 ?_
  refine va_sld hx hb hX hbl hbA hS hi1 dL_law_1437 ?_
  refine lv_aload_n hx hb dL_law_1438 rfl (lv_at hl 1 rfl) ?_
  refine lv_iload_n hx hb dL_law_1439 rfl (lv_at hl 0 rfl) ?_
  refine lv_iconst (v := 2) hx hb dL_law_1440 ki_2 ?_
  refine lv_iadd hx hb dL_law_1441 ?_
  refine va_sld hx hb hX hbl hbA hS hi2 dL_law_1442 ?_
  refine lv_aload_n hx hb dL_law_1443 rfl (lv_at hl 1 rfl) ?_
  refine lv_iload_n hx hb dL_law_1444 rfl (lv_at hl 0 rfl) ?_
  refine lv_iconst (v := 3) hx hb dL_law_1445 ki_3 ?_
  refine lv_iadd hx hb dL_law_1446 ?_
  refine va_sld hx hb hX hbl hbA hS hi3 dL_law_1447 ?_
  refine lv_aload_n hx hb dL_law_1448 rfl (lv_at hl 1 rfl) ?_
  refine lv_iload_n hx hb dL_law_1449 rfl (lv_at hl 0 rfl) ?_
  refine lv_iconst (v := 4) hx hb dL_law_1450 ki_4 ?_
  refine lv_iadd hx hb dL_law_1451 ?_
  refine va_sld hx hb hX hbl hbA hS hi4 dL_law_1452 ?_
  refine hv_i hx hb hml hown hw mB_bl (mB_of hN hK hQ) (mr_MO hK hQ) (c_mo_owner l D ct am hJ (xs (v3 + 1).toNatClampNeg) (xs (v3 + 2).toNatClampNeg) (xs (v3 + 3).toNatClampNeg) (xs (v3 + 4).toNatClampNeg) r zm_y_goes zm_y_sides zm_y_cuts zm_y_flat zm_y_cp zm_y_cA zm_y_cB zm_y_1X zm_y_1Y zm_y_2X zm_y_2Y zm_a_flood zm_a_going zm_a_letter zm_a_lineX zm_a_lineY hm) g_RL_135 ⟨rfl, hd_X12_owner⟩ (rest := [.int r]) hl.1 hS hmA dL_law_1453 rfl rfl ⟨Nat.le_of_ble_eq_true rfl, Nat.le_of_ble_eq_true rfl⟩ rfl rfl (Nat.le_of_ble_eq_true rfl) ⟨Nat.le_of_ble_eq_true rfl, Nat.le_of_ble_eq_true rfl⟩ (fun H2 locs hQ hk hS => ?_)
  replace hP := cP_keptA hP hk hap2
  refine lv_icmp_eq hx hb dL_law_1456 (tgt := 1844) rfl (fun _ => ?_) (fun hc => absurd rfl hc)
  exact next _ _ _ hl hinv hP hQ hS
set_option maxHeartbeats 4000000 in
set_option maxRecDepth 100000 in
theorem lawc_part {INV : INVT} (hop : OP_part INV) {p : Program} {l : Launch} {e : Env} {s : State} {m : MethodId} {below : List Frame} {meth : Method} {c : Code} {H : Heap} {locs : List Loc} {ls : Array Slot} {b L : Nat} {xs : Nat → Int32} {v3 : Int32} {D : va_G} {ct : Nat → ClassId} {ad am : Nat → Nat} {x_fed x_tk x_col x_line x_rcells x_rsize x_len x_cuts x_bare x_place x_lA x_lB x_lC x_fX x_fY x_sX x_sY x_made x_fsize x_psize x_over x_touch x_most x_mU x_mV x_area : Int32} {x_board : Int64} {a_tape a_letters a_oneSided a_free a_ends a_crowds a_wmade a_firsts a_widths a_heights a_places a_next a_pnear a_table a_overlaps : Nat → Int32} {a_drawers a_kept a_items a_numbers a_marks a_near a_figures a_covered a_pcells a_matrix : Nat → Int64} {y_km y_tp y_goes y_kin y_qd y_sides y_cuts y_flat y_cp y_cA y_cB y_1X y_1Y y_2X y_2Y y_tm y_cells : Int32} {a_mtape a_flood a_going a_field a_from a_mcrowds a_steps a_queue a_letter a_lineX a_lineY a_triedAt a_cellAt a_besideIn a_apart : Nat → Int32} {a_drawer a_mkept a_listed a_mkin a_tried a_takenAt a_waysOf : Nat → Int64} (hx : p.tables.exec = Jvm.exec) (hb : c.code = code) (hml : c.maxLocals = 4) (hown : s.vm.findClass RL = some m.cls) (hw : ∀ w ∈ wsL_law, w.before #[Value.ref b] s = true) (hN : NW s) (hK : KK D ct s) (hX : va_X b L xs s s.heap) (hbl : b < s.heap.size) (hbA : ¬ s.heap.size ≤ b) (hI : cI ad) (hJ : mI am) (hcA : ∀ q, cA ad q → s.heap.size ≤ q) (hmA : ∀ q, mA am q → s.heap.size ≤ q) (hap : ∀ q, mA am q → ¬ cA ad q) (hap2 : ∀ q, cA ad q → ¬ mA am q) (hi1 : vp_in (v3 + 1) L) (hi2 : vp_in (v3 + 2) L) (hi3 : vp_in (v3 + 3) L) (hi4 : vp_in (v3 + 4) L) (hi5 : vp_in (v3 + 5) L) (hi6 : vp_in (v3 + 6) L) (hinv : INV x_fed x_tk x_col x_line x_rcells x_rsize x_len x_cuts x_bare x_place x_lA x_lB x_lC x_fX x_fY x_sX x_sY x_made x_fsize x_psize x_over x_touch x_most x_mU x_mV x_area x_board a_tape a_letters a_oneSided a_free a_ends a_crowds a_wmade a_firsts a_widths a_heights a_places a_next a_pnear a_table a_overlaps a_drawers a_kept a_items a_numbers a_marks a_near a_figures a_covered a_pcells a_matrix y_km y_tp y_goes y_kin y_qd y_sides y_cuts y_flat y_cp y_cA y_cB y_1X y_1Y y_2X y_2Y y_tm y_cells a_mtape a_flood a_going a_field a_from a_mcrowds a_steps a_queue a_letter a_lineX a_lineY a_triedAt a_cellAt a_besideIn a_apart a_drawer a_mkept a_listed a_mkin a_tried a_takenAt a_waysOf) (hP : cP D ct ad x_fed x_tk x_col x_line x_rcells x_rsize x_len x_cuts x_bare x_place x_lA x_lB x_lC x_fX x_fY x_sX x_sY x_made x_fsize x_psize x_over x_touch x_most x_mU x_mV x_area x_board a_tape a_letters a_oneSided a_free a_ends a_crowds a_wmade a_firsts a_widths a_heights a_places a_next a_pnear a_table a_overlaps a_drawers a_kept a_items a_numbers a_marks a_near a_figures a_covered a_pcells a_matrix H) (hQ : mP D ct am y_km y_tp y_goes y_kin y_qd y_sides y_cuts y_flat y_cp y_cA y_cB y_1X y_1Y y_2X y_2Y y_tm y_cells a_mtape a_flood a_going a_field a_from a_mcrowds a_steps a_queue a_letter a_lineX a_lineY a_triedAt a_cellAt a_besideIn a_apart a_drawer a_mkept a_listed a_mkin a_tried a_takenAt a_waysOf H) (hS : va_S (fun q : Nat => s.heap.size ≤ q) s.heap H locs) (hl : lv_has ls 4 [(3, .int v3), (0, .ref b), (1, .ref (ad 0)), (2, .ref (am 0))]) (next : ∀ (H : Heap) (locs : List Loc) (ls : Array Slot) {x_fed x_tk x_col x_line x_rcells x_rsize x_len x_cuts x_bare x_place x_lA x_lB x_lC x_fX x_fY x_sX x_sY x_made x_fsize x_psize x_over x_touch x_most x_mU x_mV x_area : Int32} {x_board : Int64} {a_tape a_letters a_oneSided a_free a_ends a_crowds a_wmade a_firsts a_widths a_heights a_places a_next a_pnear a_table a_overlaps : Nat → Int32} {a_drawers a_kept a_items a_numbers a_marks a_near a_figures a_covered a_pcells a_matrix : Nat → Int64} {y_km y_tp y_goes y_kin y_qd y_sides y_cuts y_flat y_cp y_cA y_cB y_1X y_1Y y_2X y_2Y y_tm y_cells : Int32} {a_mtape a_flood a_going a_field a_from a_mcrowds a_steps a_queue a_letter a_lineX a_lineY a_triedAt a_cellAt a_besideIn a_apart : Nat → Int32} {a_drawer a_mkept a_listed a_mkin a_tried a_takenAt a_waysOf : Nat → Int64}, lv_has ls 4 [(3, .int v3), (0, .ref b), (1, .ref (ad 0)), (2, .ref (am 0))] → INV x_fed x_tk x_col x_line x_rcells x_rsize x_len x_cuts x_bare x_place x_lA x_lB x_lC x_fX x_fY x_sX x_sY x_made x_fsize x_psize x_over x_touch x_most x_mU x_mV x_area x_board a_tape a_letters a_oneSided a_free a_ends a_crowds a_wmade a_firsts a_widths a_heights a_places a_next a_pnear a_table a_overlaps a_drawers a_kept a_items a_numbers a_marks a_near a_figures a_covered a_pcells a_matrix y_km y_tp y_goes y_kin y_qd y_sides y_cuts y_flat y_cp y_cA y_cB y_1X y_1Y y_2X y_2Y y_tm y_cells a_mtape a_flood a_going a_field a_from a_mcrowds a_steps a_queue a_letter a_lineX a_lineY a_triedAt a_cellAt a_besideIn a_apart a_drawer a_mkept a_listed a_mkin a_tried a_takenAt a_waysOf → cP D ct ad x_fed x_tk x_col x_line x_rcells x_rsize x_len x_cuts x_bare x_place x_lA x_lB x_lC x_fX x_fY x_sX x_sY x_made x_fsize x_psize x_over x_touch x_most x_mU x_mV x_area x_board a_tape a_letters a_oneSided a_free a_ends a_crowds a_wmade a_firsts a_widths a_heights a_places a_next a_pnear a_table a_overlaps a_drawers a_kept a_items a_numbers a_marks a_near a_figures a_covered a_pcells a_matrix H → mP D ct am y_km y_tp y_goes y_kin y_qd y_sides y_cuts y_flat y_cp y_cA y_cB y_1X y_1Y y_2X y_2Y y_tm y_cells a_mtape a_flood a_going a_field a_from a_mcrowds a_steps a_queue a_letter a_lineX a_lineY a_triedAt a_cellAt a_besideIn a_apart a_drawer a_mkept a_listed a_mkin a_tried a_takenAt a_waysOf H → va_S (fun q : Nat => s.heap.size ≤ q) s.heap H locs → W p l e room_1 s m #[Value.ref b] below meth c H locs 57 17144 (lw_Z below #[Value.ref b] s) (F0 m 1844 ls [])) : W p l e room_1 s m #[Value.ref b] below meth c H locs 57 17144 (lw_Z below #[Value.ref b] s) (F0 m 1461 ls []) := by
  refine lv_aload_n hx hb dL_law_1461 rfl (lv_at hl 2 rfl) ?_
  refine lv_aload_n hx hb dL_law_1462 rfl (lv_at hl 1 rfl) ?_
  refine lv_iload_n hx hb dL_law_1463 rfl (lv_at hl 0 rfl) ?_
  refine lv_iconst (v := 1) hx hb dL_law_1464 ki_1 ?_
  refine lv_iadd hx hb dL_law_1465 ?_
  refine va_sld hx hb hX hbl hbA hS hi1 dL_law_1466 ?_
  refine lv_aload_n hx hb dL_law_1467 rfl (lv_at hl 1 rfl) ?_
  refine lv_iload_n hx hb dL_law_1468 rfl (lv_at hl 0 rfl) ?_
  refine lv_iconst (v := 2) hx hb dL_law_1469 ki_2 ?_
  refine lv_iadd hx hb dL_law_1470 ?_
  refine va_sld hx hb hX hbl hbA hS hi2 dL_law_1471 ?_
  obtain ⟨r, zc_x_psize, zc_a_pcells, zc_a_pnear, zc_a_table, zc_a_matrix, zm_y_cells, zm_a_cellAt, zm_a_besideIn, zm_a_apart, zm_a_waysOf, hc, hm, hinv⟩ := hop (xs (v3 + 1).toNatClampNeg) (xs (v3 + 2).toNatClampNeg) hinv
  refine hv_l hx hb hml hown hw cB_bl (cB_of hN hK hP) (cr_CF hK hP) (c_cf_part l D ct ad hI (xs (v3 + 1).toNatClampNeg) (xs (v3 + 2).toNatClampNeg) r zc_x_psize zc_a_pcells zc_a_pnear zc_a_table zc_a_matrix hc) g_RL_136 ⟨rfl, hd_X11_part⟩ (rest := []) hl.1 hS hcA dL_law_1472 rfl rfl ⟨Nat.le_of_ble_eq_true rfl, Nat.le_of_ble_eq_true rfl⟩ rfl rfl (Nat.le_of_ble_eq_true rfl) ⟨Nat.le_of_ble_eq_true rfl, Nat.le_of_ble_eq_true rfl⟩ (fun H1 locs hP hk hS => ?_)
  replace hQ := mP_keptA hQ hk hap
  clear hk
  refine lv_aload_n hx hb dL_law_1475 rfl (lv_at hl 3 rfl) ?_
  refine lv_aload_n hx hb dL_law_1476 rfl (lv_at hl 1 rfl) ?_
  refine lv_iload_n hx hb dL_law_1477 rfl (lv_at hl 0 rfl) ?_
  refine lv_iconst (v := 1) hx hb dL_law_1478 ki_1 ?_
  refine lv_iadd hx hb dL_law_1479 ?_
  refine va_sld hx hb hX hbl hbA hS hi1 dL_law_1480 ?_
  refine lv_aload_n hx hb dL_law_1481 rfl (lv_at hl 1 rfl) ?_
  refine lv_iload_n hx hb dL_law_1482 rfl (lv_at hl 0 rfl) ?_
  refine lv_iconst (v := 2) hx hb dL_law_1483 ki_2 ?_
  refine lv_iadd hx hb dL_law_1484 ?_
  refine va_sld hx hb hX hbl hbA hS hi2 dL_law_1485 ?_
  refine hv_l hx hb hml hown hw mB_bl (mB_of hN hK hQ) (mr_MO hK hQ) (c_mo_part l D ct am hJ (xs (v3 + 1).toNatClampNeg) (xs (v3 + 2).toNatClampNeg) r zm_y_cells zm_a_cellAt zm_a_besideIn zm_a_apart zm_a_waysOf hm) g_RL_139 ⟨rfl, hd_X12_part⟩ (rest := [.long r]) hl.1 hS hmA dL_law_1486 rfl rfl ⟨Nat.le_of_ble_eq_true rfl, Nat.le_of_ble_eq_true rfl⟩ rfl rfl (Nat.le_of_ble_eq_true rfl) ⟨Nat.le_of_ble_eq_true rfl, Nat.le_of_ble_eq_true rfl⟩ (fun H2 locs hQ hk hS => ?_)
  replace hP := cP_keptA hP hk hap2
  refine W.lcmp hx hb dL_law_1489 ?_
  refine lv_if_eq hx hb dL_law_1490 (tgt := 1844) rfl (fun _ => ?_) (fun hc => absurd ((lg_cmp_eq _ _).mpr rfl) hc)
  exact next _ _ _ hl hinv hP hQ hS
set_option maxHeartbeats 4000000 in
set_option maxRecDepth 100000 in
theorem lawc_inside {INV : INVT} (hop : OP_inside INV) {p : Program} {l : Launch} {e : Env} {s : State} {m : MethodId} {below : List Frame} {meth : Method} {c : Code} {H : Heap} {locs : List Loc} {ls : Array Slot} {b L : Nat} {xs : Nat → Int32} {v3 : Int32} {D : va_G} {ct : Nat → ClassId} {ad am : Nat → Nat} {x_fed x_tk x_col x_line x_rcells x_rsize x_len x_cuts x_bare x_place x_lA x_lB x_lC x_fX x_fY x_sX x_sY x_made x_fsize x_psize x_over x_touch x_most x_mU x_mV x_area : Int32} {x_board : Int64} {a_tape a_letters a_oneSided a_free a_ends a_crowds a_wmade a_firsts a_widths a_heights a_places a_next a_pnear a_table a_overlaps : Nat → Int32} {a_drawers a_kept a_items a_numbers a_marks a_near a_figures a_covered a_pcells a_matrix : Nat → Int64} {y_km y_tp y_goes y_kin y_qd y_sides y_cuts y_flat y_cp y_cA y_cB y_1X y_1Y y_2X y_2Y y_tm y_cells : Int32} {a_mtape a_flood a_going a_field a_from a_mcrowds a_steps a_queue a_letter a_lineX a_lineY a_triedAt a_cellAt a_besideIn a_apart : Nat → Int32} {a_drawer a_mkept a_listed a_mkin a_tried a_takenAt a_waysOf : Nat → Int64} (hx : p.tables.exec = Jvm.exec) (hb : c.code = code) (hml : c.maxLocals = 4) (hown : s.vm.findClass RL = some m.cls) (hw : ∀ w ∈ wsL_law, w.before #[Value.ref b] s = true) (hN : NW s) (hK : KK D ct s) (hX : va_X b L xs s s.heap) (hbl : b < s.heap.size) (hbA : ¬ s.heap.size ≤ b) (hI : cI ad) (hJ : mI am) (hcA : ∀ q, cA ad q → s.heap.size ≤ q) (hmA : ∀ q, mA am q → s.heap.size ≤ q) (hap : ∀ q, mA am q → ¬ cA ad q) (hap2 : ∀ q, cA ad q → ¬ mA am q) (hi1 : vp_in (v3 + 1) L) (hi2 : vp_in (v3 + 2) L) (hi3 : vp_in (v3 + 3) L) (hi4 : vp_in (v3 + 4) L) (hi5 : vp_in (v3 + 5) L) (hi6 : vp_in (v3 + 6) L) (hinv : INV x_fed x_tk x_col x_line x_rcells x_rsize x_len x_cuts x_bare x_place x_lA x_lB x_lC x_fX x_fY x_sX x_sY x_made x_fsize x_psize x_over x_touch x_most x_mU x_mV x_area x_board a_tape a_letters a_oneSided a_free a_ends a_crowds a_wmade a_firsts a_widths a_heights a_places a_next a_pnear a_table a_overlaps a_drawers a_kept a_items a_numbers a_marks a_near a_figures a_covered a_pcells a_matrix y_km y_tp y_goes y_kin y_qd y_sides y_cuts y_flat y_cp y_cA y_cB y_1X y_1Y y_2X y_2Y y_tm y_cells a_mtape a_flood a_going a_field a_from a_mcrowds a_steps a_queue a_letter a_lineX a_lineY a_triedAt a_cellAt a_besideIn a_apart a_drawer a_mkept a_listed a_mkin a_tried a_takenAt a_waysOf) (hP : cP D ct ad x_fed x_tk x_col x_line x_rcells x_rsize x_len x_cuts x_bare x_place x_lA x_lB x_lC x_fX x_fY x_sX x_sY x_made x_fsize x_psize x_over x_touch x_most x_mU x_mV x_area x_board a_tape a_letters a_oneSided a_free a_ends a_crowds a_wmade a_firsts a_widths a_heights a_places a_next a_pnear a_table a_overlaps a_drawers a_kept a_items a_numbers a_marks a_near a_figures a_covered a_pcells a_matrix H) (hQ : mP D ct am y_km y_tp y_goes y_kin y_qd y_sides y_cuts y_flat y_cp y_cA y_cB y_1X y_1Y y_2X y_2Y y_tm y_cells a_mtape a_flood a_going a_field a_from a_mcrowds a_steps a_queue a_letter a_lineX a_lineY a_triedAt a_cellAt a_besideIn a_apart a_drawer a_mkept a_listed a_mkin a_tried a_takenAt a_waysOf H) (hS : va_S (fun q : Nat => s.heap.size ≤ q) s.heap H locs) (hl : lv_has ls 4 [(3, .int v3), (0, .ref b), (1, .ref (ad 0)), (2, .ref (am 0))]) (next : ∀ (H : Heap) (locs : List Loc) (ls : Array Slot) {x_fed x_tk x_col x_line x_rcells x_rsize x_len x_cuts x_bare x_place x_lA x_lB x_lC x_fX x_fY x_sX x_sY x_made x_fsize x_psize x_over x_touch x_most x_mU x_mV x_area : Int32} {x_board : Int64} {a_tape a_letters a_oneSided a_free a_ends a_crowds a_wmade a_firsts a_widths a_heights a_places a_next a_pnear a_table a_overlaps : Nat → Int32} {a_drawers a_kept a_items a_numbers a_marks a_near a_figures a_covered a_pcells a_matrix : Nat → Int64} {y_km y_tp y_goes y_kin y_qd y_sides y_cuts y_flat y_cp y_cA y_cB y_1X y_1Y y_2X y_2Y y_tm y_cells : Int32} {a_mtape a_flood a_going a_field a_from a_mcrowds a_steps a_queue a_letter a_lineX a_lineY a_triedAt a_cellAt a_besideIn a_apart : Nat → Int32} {a_drawer a_mkept a_listed a_mkin a_tried a_takenAt a_waysOf : Nat → Int64}, lv_has ls 4 [(3, .int v3), (0, .ref b), (1, .ref (ad 0)), (2, .ref (am 0))] → INV x_fed x_tk x_col x_line x_rcells x_rsize x_len x_cuts x_bare x_place x_lA x_lB x_lC x_fX x_fY x_sX x_sY x_made x_fsize x_psize x_over x_touch x_most x_mU x_mV x_area x_board a_tape a_letters a_oneSided a_free a_ends a_crowds a_wmade a_firsts a_widths a_heights a_places a_next a_pnear a_table a_overlaps a_drawers a_kept a_items a_numbers a_marks a_near a_figures a_covered a_pcells a_matrix y_km y_tp y_goes y_kin y_qd y_sides y_cuts y_flat y_cp y_cA y_cB y_1X y_1Y y_2X y_2Y y_tm y_cells a_mtape a_flood a_going a_field a_from a_mcrowds a_steps a_queue a_letter a_lineX a_lineY a_triedAt a_cellAt a_besideIn a_apart a_drawer a_mkept a_listed a_mkin a_tried a_takenAt a_waysOf → cP D ct ad x_fed x_tk x_col x_line x_rcells x_rsize x_len x_cuts x_bare x_place x_lA x_lB x_lC x_fX x_fY x_sX x_sY x_made x_fsize x_psize x_over x_touch x_most x_mU x_mV x_area x_board a_tape a_letters a_oneSided a_free a_ends a_crowds a_wmade a_firsts a_widths a_heights a_places a_next a_pnear a_table a_overlaps a_drawers a_kept a_items a_numbers a_marks a_near a_figures a_covered a_pcells a_matrix H → mP D ct am y_km y_tp y_goes y_kin y_qd y_sides y_cuts y_flat y_cp y_cA y_cB y_1X y_1Y y_2X y_2Y y_tm y_cells a_mtape a_flood a_going a_field a_from a_mcrowds a_steps a_queue a_letter a_lineX a_lineY a_triedAt a_cellAt a_besideIn a_apart a_drawer a_mkept a_listed a_mkin a_tried a_takenAt a_waysOf H → va_S (fun q : Nat => s.heap.size ≤ q) s.heap H locs → W p l e room_1 s m #[Value.ref b] below meth c H locs 57 17144 (lw_Z below #[Value.ref b] s) (F0 m 1844 ls [])) : W p l e room_1 s m #[Value.ref b] below meth c H locs 57 17144 (lw_Z below #[Value.ref b] s) (F0 m 1495 ls []) := by
  by_cases hz : xs (v3 + 3).toNatClampNeg = 0
  · refine lv_aload_n hx hb dL_law_1495 rfl (lv_at hl 2 rfl) ?_
    refine lv_aload_n hx hb dL_law_1496 rfl (lv_at hl 1 rfl) ?_
    refine lv_iload_n hx hb dL_law_1497 rfl (lv_at hl 0 rfl) ?_
    refine lv_iconst (v := 1) hx hb dL_law_1498 ki_1 ?_
    refine lv_iadd hx hb dL_law_1499 ?_
    refine va_sld hx hb hX hbl hbA hS hi1 dL_law_1500 ?_
    refine lv_aload_n hx hb dL_law_1501 rfl (lv_at hl 1 rfl) ?_
    refine lv_iload_n hx hb dL_law_1502 rfl (lv_at hl 0 rfl) ?_
    refine lv_iconst (v := 2) hx hb dL_law_1503 ki_2 ?_
    refine lv_iadd hx hb dL_law_1504 ?_
    refine va_sld hx hb hX hbl hbA hS hi2 dL_law_1505 ?_
    refine lv_aload_n hx hb dL_law_1506 rfl (lv_at hl 1 rfl) ?_
    refine lv_iload_n hx hb dL_law_1507 rfl (lv_at hl 0 rfl) ?_
    refine lv_iconst (v := 3) hx hb dL_law_1508 ki_3 ?_
    refine lv_iadd hx hb dL_law_1509 ?_
    refine va_sld hx hb hX hbl hbA hS hi3 dL_law_1510 ?_
    refine lv_if_eq hx hb dL_law_1511 (tgt := 1518) rfl (fun _ => ?_) (fun hc => absurd hz hc)
    refine lv_iconst (v := 0) hx hb dL_law_1518 ki_0 ?_
    obtain ⟨r, zc_x_rsize, zc_a_items, zm_y_tm, zm_a_tried, hc, hm, hinv⟩ := hop (xs (v3 + 1).toNatClampNeg) (xs (v3 + 2).toNatClampNeg) 0 (by first | exact Or.inl rfl | exact Or.inr rfl) hinv
    refine hv_i hx hb hml hown hw cB_bl (cB_of hN hK hP) (cr_CF hK hP) (c_cf_inside l D ct ad hI (xs (v3 + 1).toNatClampNeg) (xs (v3 + 2).toNatClampNeg) 0 r zc_x_rsize zc_a_items hc) g_RL_140 ⟨rfl, hd_X11_inside⟩ (rest := []) hl.1 hS hcA dL_law_1519 rfl rfl ⟨Nat.le_of_ble_eq_true rfl, Nat.le_of_ble_eq_true rfl⟩ rfl rfl (Nat.le_of_ble_eq_true rfl) ⟨Nat.le_of_ble_eq_true rfl, Nat.le_of_ble_eq_true rfl⟩ (fun H1 locs hP hk hS => ?_)
    replace hQ := mP_keptA hQ hk hap
    clear hk
    refine lv_aload_n hx hb dL_law_1522 rfl (lv_at hl 3 rfl) ?_
    refine lv_aload_n hx hb dL_law_1523 rfl (lv_at hl 1 rfl) ?_
    refine lv_iload_n hx hb dL_law_1524 rfl (lv_at hl 0 rfl) ?_
    refine lv_iconst (v := 1) hx hb dL_law_1525 ki_1 ?_
    refine lv_iadd hx hb dL_law_1526 ?_
    refine va_sld hx hb hX hbl hbA hS hi1 dL_law_1527 ?_
    refine lv_aload_n hx hb dL_law_1528 rfl (lv_at hl 1 rfl) ?_
    refine lv_iload_n hx hb dL_law_1529 rfl (lv_at hl 0 rfl) ?_
    refine lv_iconst (v := 2) hx hb dL_law_1530 ki_2 ?_
    refine lv_iadd hx hb dL_law_1531 ?_
    refine va_sld hx hb hX hbl hbA hS hi2 dL_law_1532 ?_
    refine lv_aload_n hx hb dL_law_1533 rfl (lv_at hl 1 rfl) ?_
    refine lv_iload_n hx hb dL_law_1534 rfl (lv_at hl 0 rfl) ?_
    refine lv_iconst (v := 3) hx hb dL_law_1535 ki_3 ?_
    refine lv_iadd hx hb dL_law_1536 ?_
    refine va_sld hx hb hX hbl hbA hS hi3 dL_law_1537 ?_
    refine lv_if_eq hx hb dL_law_1538 (tgt := 1545) rfl (fun _ => ?_) (fun hc => absurd hz hc)
    refine lv_iconst (v := 0) hx hb dL_law_1545 ki_0 ?_
    refine hv_i hx hb hml hown hw mB_bl (mB_of hN hK hQ) (mr_MO hK hQ) (c_mo_inside l D ct am hJ (xs (v3 + 1).toNatClampNeg) (xs (v3 + 2).toNatClampNeg) 0 r zm_y_tm zm_a_tried hm) g_RL_143 ⟨rfl, hd_X12_inside⟩ (rest := [.int r]) hl.1 hS hmA dL_law_1546 rfl rfl ⟨Nat.le_of_ble_eq_true rfl, Nat.le_of_ble_eq_true rfl⟩ rfl rfl (Nat.le_of_ble_eq_true rfl) ⟨Nat.le_of_ble_eq_true rfl, Nat.le_of_ble_eq_true rfl⟩ (fun H2 locs hQ hk hS => ?_)
    replace hP := cP_keptA hP hk hap2
    refine lv_icmp_eq hx hb dL_law_1549 (tgt := 1844) rfl (fun _ => ?_) (fun hc => absurd rfl hc)
    exact next _ _ _ hl hinv hP hQ hS
  · refine lv_aload_n hx hb dL_law_1495 rfl (lv_at hl 2 rfl) ?_
    refine lv_aload_n hx hb dL_law_1496 rfl (lv_at hl 1 rfl) ?_
    refine lv_iload_n hx hb dL_law_1497 rfl (lv_at hl 0 rfl) ?_
    refine lv_iconst (v := 1) hx hb dL_law_1498 ki_1 ?_
    refine lv_iadd hx hb dL_law_1499 ?_
    refine va_sld hx hb hX hbl hbA hS hi1 dL_law_1500 ?_
    refine lv_aload_n hx hb dL_law_1501 rfl (lv_at hl 1 rfl) ?_
    refine lv_iload_n hx hb dL_law_1502 rfl (lv_at hl 0 rfl) ?_
    refine lv_iconst (v := 2) hx hb dL_law_1503 ki_2 ?_
    refine lv_iadd hx hb dL_law_1504 ?_
    refine va_sld hx hb hX hbl hbA hS hi2 dL_law_1505 ?_
    refine lv_aload_n hx hb dL_law_1506 rfl (lv_at hl 1 rfl) ?_
    refine lv_iload_n hx hb dL_law_1507 rfl (lv_at hl 0 rfl) ?_
    refine lv_iconst (v := 3) hx hb dL_law_1508 ki_3 ?_
    refine lv_iadd hx hb dL_law_1509 ?_
    refine va_sld hx hb hX hbl hbA hS hi3 dL_law_1510 ?_
    refine lv_if_eq hx hb dL_law_1511 (tgt := 1518) rfl (fun hc => absurd hc hz) (fun _ => ?_)
    refine lv_iconst (v := 1) hx hb dL_law_1514 ki_1 ?_
    refine lv_goto hx hb dL_law_1515 (tgt := 1519) rfl ?_
    obtain ⟨r, zc_x_rsize, zc_a_items, zm_y_tm, zm_a_tried, hc, hm, hinv⟩ := hop (xs (v3 + 1).toNatClampNeg) (xs (v3 + 2).toNatClampNeg) 1 (by first | exact Or.inl rfl | exact Or.inr rfl) hinv
    refine hv_i hx hb hml hown hw cB_bl (cB_of hN hK hP) (cr_CF hK hP) (c_cf_inside l D ct ad hI (xs (v3 + 1).toNatClampNeg) (xs (v3 + 2).toNatClampNeg) 1 r zc_x_rsize zc_a_items hc) g_RL_140 ⟨rfl, hd_X11_inside⟩ (rest := []) hl.1 hS hcA dL_law_1519 rfl rfl ⟨Nat.le_of_ble_eq_true rfl, Nat.le_of_ble_eq_true rfl⟩ rfl rfl (Nat.le_of_ble_eq_true rfl) ⟨Nat.le_of_ble_eq_true rfl, Nat.le_of_ble_eq_true rfl⟩ (fun H1 locs hP hk hS => ?_)
    replace hQ := mP_keptA hQ hk hap
    clear hk
    refine lv_aload_n hx hb dL_law_1522 rfl (lv_at hl 3 rfl) ?_
    refine lv_aload_n hx hb dL_law_1523 rfl (lv_at hl 1 rfl) ?_
    refine lv_iload_n hx hb dL_law_1524 rfl (lv_at hl 0 rfl) ?_
    refine lv_iconst (v := 1) hx hb dL_law_1525 ki_1 ?_
    refine lv_iadd hx hb dL_law_1526 ?_
    refine va_sld hx hb hX hbl hbA hS hi1 dL_law_1527 ?_
    refine lv_aload_n hx hb dL_law_1528 rfl (lv_at hl 1 rfl) ?_
    refine lv_iload_n hx hb dL_law_1529 rfl (lv_at hl 0 rfl) ?_
    refine lv_iconst (v := 2) hx hb dL_law_1530 ki_2 ?_
    refine lv_iadd hx hb dL_law_1531 ?_
    refine va_sld hx hb hX hbl hbA hS hi2 dL_law_1532 ?_
    refine lv_aload_n hx hb dL_law_1533 rfl (lv_at hl 1 rfl) ?_
    refine lv_iload_n hx hb dL_law_1534 rfl (lv_at hl 0 rfl) ?_
    refine lv_iconst (v := 3) hx hb dL_law_1535 ki_3 ?_
    refine lv_iadd hx hb dL_law_1536 ?_
    refine va_sld hx hb hX hbl hbA hS hi3 dL_law_1537 ?_
    refine lv_if_eq hx hb dL_law_1538 (tgt := 1545) rfl (fun hc => absurd hc hz) (fun _ => ?_)
    refine lv_iconst (v := 1) hx hb dL_law_1541 ki_1 ?_
    refine lv_goto hx hb dL_law_1542 (tgt := 1546) rfl ?_
    refine hv_i hx hb hml hown hw mB_bl (mB_of hN hK hQ) (mr_MO hK hQ) (c_mo_inside l D ct am hJ (xs (v3 + 1).toNatClampNeg) (xs (v3 + 2).toNatClampNeg) 1 r zm_y_tm zm_a_tried hm) g_RL_143 ⟨rfl, hd_X12_inside⟩ (rest := [.int r]) hl.1 hS hmA dL_law_1546 rfl rfl ⟨Nat.le_of_ble_eq_true rfl, Nat.le_of_ble_eq_true rfl⟩ rfl rfl (Nat.le_of_ble_eq_true rfl) ⟨Nat.le_of_ble_eq_true rfl, Nat.le_of_ble_eq_true rfl⟩ (fun H2 locs hQ hk hS => ?_)
    replace hP := cP_keptA hP hk hap2
    refine lv_icmp_eq hx hb dL_law_1549 (tgt := 1844) rfl (fun _ => ?_) (fun hc => absurd rfl hc)
    exact next _ _ _ hl hinv hP hQ hS
set_option maxHeartbeats 4000000 in
set_option maxRecDepth 100000 in
theorem lawc_common {INV : INVT} (hop : OP_common INV) {p : Program} {l : Launch} {e : Env} {s : State} {m : MethodId} {below : List Frame} {meth : Method} {c : Code} {H : Heap} {locs : List Loc} {ls : Array Slot} {b L : Nat} {xs : Nat → Int32} {v3 : Int32} {D : va_G} {ct : Nat → ClassId} {ad am : Nat → Nat} {x_fed x_tk x_col x_line x_rcells x_rsize x_len x_cuts x_bare x_place x_lA x_lB x_lC x_fX x_fY x_sX x_sY x_made x_fsize x_psize x_over x_touch x_most x_mU x_mV x_area : Int32} {x_board : Int64} {a_tape a_letters a_oneSided a_free a_ends a_crowds a_wmade a_firsts a_widths a_heights a_places a_next a_pnear a_table a_overlaps : Nat → Int32} {a_drawers a_kept a_items a_numbers a_marks a_near a_figures a_covered a_pcells a_matrix : Nat → Int64} {y_km y_tp y_goes y_kin y_qd y_sides y_cuts y_flat y_cp y_cA y_cB y_1X y_1Y y_2X y_2Y y_tm y_cells : Int32} {a_mtape a_flood a_going a_field a_from a_mcrowds a_steps a_queue a_letter a_lineX a_lineY a_triedAt a_cellAt a_besideIn a_apart : Nat → Int32} {a_drawer a_mkept a_listed a_mkin a_tried a_takenAt a_waysOf : Nat → Int64} (hx : p.tables.exec = Jvm.exec) (hb : c.code = code) (hml : c.maxLocals = 4) (hown : s.vm.findClass RL = some m.cls) (hw : ∀ w ∈ wsL_law, w.before #[Value.ref b] s = true) (hN : NW s) (hK : KK D ct s) (hX : va_X b L xs s s.heap) (hbl : b < s.heap.size) (hbA : ¬ s.heap.size ≤ b) (hI : cI ad) (hJ : mI am) (hcA : ∀ q, cA ad q → s.heap.size ≤ q) (hmA : ∀ q, mA am q → s.heap.size ≤ q) (hap : ∀ q, mA am q → ¬ cA ad q) (hap2 : ∀ q, cA ad q → ¬ mA am q) (hi1 : vp_in (v3 + 1) L) (hi2 : vp_in (v3 + 2) L) (hi3 : vp_in (v3 + 3) L) (hi4 : vp_in (v3 + 4) L) (hi5 : vp_in (v3 + 5) L) (hi6 : vp_in (v3 + 6) L) (hinv : INV x_fed x_tk x_col x_line x_rcells x_rsize x_len x_cuts x_bare x_place x_lA x_lB x_lC x_fX x_fY x_sX x_sY x_made x_fsize x_psize x_over x_touch x_most x_mU x_mV x_area x_board a_tape a_letters a_oneSided a_free a_ends a_crowds a_wmade a_firsts a_widths a_heights a_places a_next a_pnear a_table a_overlaps a_drawers a_kept a_items a_numbers a_marks a_near a_figures a_covered a_pcells a_matrix y_km y_tp y_goes y_kin y_qd y_sides y_cuts y_flat y_cp y_cA y_cB y_1X y_1Y y_2X y_2Y y_tm y_cells a_mtape a_flood a_going a_field a_from a_mcrowds a_steps a_queue a_letter a_lineX a_lineY a_triedAt a_cellAt a_besideIn a_apart a_drawer a_mkept a_listed a_mkin a_tried a_takenAt a_waysOf) (hP : cP D ct ad x_fed x_tk x_col x_line x_rcells x_rsize x_len x_cuts x_bare x_place x_lA x_lB x_lC x_fX x_fY x_sX x_sY x_made x_fsize x_psize x_over x_touch x_most x_mU x_mV x_area x_board a_tape a_letters a_oneSided a_free a_ends a_crowds a_wmade a_firsts a_widths a_heights a_places a_next a_pnear a_table a_overlaps a_drawers a_kept a_items a_numbers a_marks a_near a_figures a_covered a_pcells a_matrix H) (hQ : mP D ct am y_km y_tp y_goes y_kin y_qd y_sides y_cuts y_flat y_cp y_cA y_cB y_1X y_1Y y_2X y_2Y y_tm y_cells a_mtape a_flood a_going a_field a_from a_mcrowds a_steps a_queue a_letter a_lineX a_lineY a_triedAt a_cellAt a_besideIn a_apart a_drawer a_mkept a_listed a_mkin a_tried a_takenAt a_waysOf H) (hS : va_S (fun q : Nat => s.heap.size ≤ q) s.heap H locs) (hl : lv_has ls 4 [(3, .int v3), (0, .ref b), (1, .ref (ad 0)), (2, .ref (am 0))]) (next : ∀ (H : Heap) (locs : List Loc) (ls : Array Slot) {x_fed x_tk x_col x_line x_rcells x_rsize x_len x_cuts x_bare x_place x_lA x_lB x_lC x_fX x_fY x_sX x_sY x_made x_fsize x_psize x_over x_touch x_most x_mU x_mV x_area : Int32} {x_board : Int64} {a_tape a_letters a_oneSided a_free a_ends a_crowds a_wmade a_firsts a_widths a_heights a_places a_next a_pnear a_table a_overlaps : Nat → Int32} {a_drawers a_kept a_items a_numbers a_marks a_near a_figures a_covered a_pcells a_matrix : Nat → Int64} {y_km y_tp y_goes y_kin y_qd y_sides y_cuts y_flat y_cp y_cA y_cB y_1X y_1Y y_2X y_2Y y_tm y_cells : Int32} {a_mtape a_flood a_going a_field a_from a_mcrowds a_steps a_queue a_letter a_lineX a_lineY a_triedAt a_cellAt a_besideIn a_apart : Nat → Int32} {a_drawer a_mkept a_listed a_mkin a_tried a_takenAt a_waysOf : Nat → Int64}, lv_has ls 4 [(3, .int v3), (0, .ref b), (1, .ref (ad 0)), (2, .ref (am 0))] → INV x_fed x_tk x_col x_line x_rcells x_rsize x_len x_cuts x_bare x_place x_lA x_lB x_lC x_fX x_fY x_sX x_sY x_made x_fsize x_psize x_over x_touch x_most x_mU x_mV x_area x_board a_tape a_letters a_oneSided a_free a_ends a_crowds a_wmade a_firsts a_widths a_heights a_places a_next a_pnear a_table a_overlaps a_drawers a_kept a_items a_numbers a_marks a_near a_figures a_covered a_pcells a_matrix y_km y_tp y_goes y_kin y_qd y_sides y_cuts y_flat y_cp y_cA y_cB y_1X y_1Y y_2X y_2Y y_tm y_cells a_mtape a_flood a_going a_field a_from a_mcrowds a_steps a_queue a_letter a_lineX a_lineY a_triedAt a_cellAt a_besideIn a_apart a_drawer a_mkept a_listed a_mkin a_tried a_takenAt a_waysOf → cP D ct ad x_fed x_tk x_col x_line x_rcells x_rsize x_len x_cuts x_bare x_place x_lA x_lB x_lC x_fX x_fY x_sX x_sY x_made x_fsize x_psize x_over x_touch x_most x_mU x_mV x_area x_board a_tape a_letters a_oneSided a_free a_ends a_crowds a_wmade a_firsts a_widths a_heights a_places a_next a_pnear a_table a_overlaps a_drawers a_kept a_items a_numbers a_marks a_near a_figures a_covered a_pcells a_matrix H → mP D ct am y_km y_tp y_goes y_kin y_qd y_sides y_cuts y_flat y_cp y_cA y_cB y_1X y_1Y y_2X y_2Y y_tm y_cells a_mtape a_flood a_going a_field a_from a_mcrowds a_steps a_queue a_letter a_lineX a_lineY a_triedAt a_cellAt a_besideIn a_apart a_drawer a_mkept a_listed a_mkin a_tried a_takenAt a_waysOf H → va_S (fun q : Nat => s.heap.size ≤ q) s.heap H locs → W p l e room_1 s m #[Value.ref b] below meth c H locs 57 17144 (lw_Z below #[Value.ref b] s) (F0 m 1844 ls [])) : W p l e room_1 s m #[Value.ref b] below meth c H locs 57 17144 (lw_Z below #[Value.ref b] s) (F0 m 1554 ls []) := by
  refine lv_aload_n hx hb dL_law_1554 rfl (lv_at hl 2 rfl) ?_
  refine lv_aload_n hx hb dL_law_1555 rfl (lv_at hl 1 rfl) ?_
  refine lv_iload_n hx hb dL_law_1556 rfl (lv_at hl 0 rfl) ?_
  refine lv_iconst (v := 1) hx hb dL_law_1557 ki_1 ?_
  refine lv_iadd hx hb dL_law_1558 ?_
  refine va_sld hx hb hX hbl hbA hS hi1 dL_law_1559 ?_
  refine lv_aload_n hx hb dL_law_1560 rfl (lv_at hl 1 rfl) ?_
  refine lv_iload_n hx hb dL_law_1561 rfl (lv_at hl 0 rfl) ?_
  refine lv_iconst (v := 2) hx hb dL_law_1562 ki_2 ?_
  refine lv_iadd hx hb dL_law_1563 ?_
  refine va_sld hx hb hX hbl hbA hS hi2 dL_law_1564 ?_
  obtain ⟨r, zc_x_rsize, zc_a_items, zm_y_cells, zm_a_cellAt, zm_a_besideIn, hc, hm, hinv⟩ := hop (xs (v3 + 1).toNatClampNeg) (xs (v3 + 2).toNatClampNeg) hinv
  refine hv_i hx hb hml hown hw cB_bl (cB_of hN hK hP) (cr_CF hK hP) (c_cf_common l D ct ad hI (xs (v3 + 1).toNatClampNeg) (xs (v3 + 2).toNatClampNeg) r zc_x_rsize zc_a_items hc) g_RL_144 ⟨rfl, hd_X11_common⟩ (rest := []) hl.1 hS hcA dL_law_1565 rfl rfl ⟨Nat.le_of_ble_eq_true rfl, Nat.le_of_ble_eq_true rfl⟩ rfl rfl (Nat.le_of_ble_eq_true rfl) ⟨Nat.le_of_ble_eq_true rfl, Nat.le_of_ble_eq_true rfl⟩ (fun H1 locs hP hk hS => ?_)
  replace hQ := mP_keptA hQ hk hap
  clear hk
  refine lv_aload_n hx hb dL_law_1568 rfl (lv_at hl 3 rfl) ?_
  refine lv_aload_n hx hb dL_law_1569 rfl (lv_at hl 1 rfl) ?_
  refine lv_iload_n hx hb dL_law_1570 rfl (lv_at hl 0 rfl) ?_
  refine lv_iconst (v := 1) hx hb dL_law_1571 ki_1 ?_
  refine lv_iadd hx hb dL_law_1572 ?_
  refine va_sld hx hb hX hbl hbA hS hi1 dL_law_1573 ?_
  refine lv_aload_n hx hb dL_law_1574 rfl (lv_at hl 1 rfl) ?_
  refine lv_iload_n hx hb dL_law_1575 rfl (lv_at hl 0 rfl) ?_
  refine lv_iconst (v := 2) hx hb dL_law_1576 ki_2 ?_
  refine lv_iadd hx hb dL_law_1577 ?_
  refine va_sld hx hb hX hbl hbA hS hi2 dL_law_1578 ?_
  refine hv_i hx hb hml hown hw mB_bl (mB_of hN hK hQ) (mr_MO hK hQ) (c_mo_common l D ct am hJ (xs (v3 + 1).toNatClampNeg) (xs (v3 + 2).toNatClampNeg) r zm_y_cells zm_a_cellAt zm_a_besideIn hm) g_RL_147 ⟨rfl, hd_X12_common⟩ (rest := [.int r]) hl.1 hS hmA dL_law_1579 rfl rfl ⟨Nat.le_of_ble_eq_true rfl, Nat.le_of_ble_eq_true rfl⟩ rfl rfl (Nat.le_of_ble_eq_true rfl) ⟨Nat.le_of_ble_eq_true rfl, Nat.le_of_ble_eq_true rfl⟩ (fun H2 locs hQ hk hS => ?_)
  replace hP := cP_keptA hP hk hap2
  refine lv_icmp_eq hx hb dL_law_1582 (tgt := 1844) rfl (fun _ => ?_) (fun hc => absurd rfl hc)
  exact next _ _ _ hl hinv hP hQ hS
set_option maxHeartbeats 4000000 in
set_option maxRecDepth 100000 in
theorem lawc_keep {INV : INVT} (hop : OP_keep INV) {p : Program} {l : Launch} {e : Env} {s : State} {m : MethodId} {below : List Frame} {meth : Method} {c : Code} {H : Heap} {locs : List Loc} {ls : Array Slot} {b L : Nat} {xs : Nat → Int32} {v3 : Int32} {D : va_G} {ct : Nat → ClassId} {ad am : Nat → Nat} {x_fed x_tk x_col x_line x_rcells x_rsize x_len x_cuts x_bare x_place x_lA x_lB x_lC x_fX x_fY x_sX x_sY x_made x_fsize x_psize x_over x_touch x_most x_mU x_mV x_area : Int32} {x_board : Int64} {a_tape a_letters a_oneSided a_free a_ends a_crowds a_wmade a_firsts a_widths a_heights a_places a_next a_pnear a_table a_overlaps : Nat → Int32} {a_drawers a_kept a_items a_numbers a_marks a_near a_figures a_covered a_pcells a_matrix : Nat → Int64} {y_km y_tp y_goes y_kin y_qd y_sides y_cuts y_flat y_cp y_cA y_cB y_1X y_1Y y_2X y_2Y y_tm y_cells : Int32} {a_mtape a_flood a_going a_field a_from a_mcrowds a_steps a_queue a_letter a_lineX a_lineY a_triedAt a_cellAt a_besideIn a_apart : Nat → Int32} {a_drawer a_mkept a_listed a_mkin a_tried a_takenAt a_waysOf : Nat → Int64} (hx : p.tables.exec = Jvm.exec) (hb : c.code = code) (hml : c.maxLocals = 4) (hown : s.vm.findClass RL = some m.cls) (hw : ∀ w ∈ wsL_law, w.before #[Value.ref b] s = true) (hN : NW s) (hK : KK D ct s) (hX : va_X b L xs s s.heap) (hbl : b < s.heap.size) (hbA : ¬ s.heap.size ≤ b) (hI : cI ad) (hJ : mI am) (hcA : ∀ q, cA ad q → s.heap.size ≤ q) (hmA : ∀ q, mA am q → s.heap.size ≤ q) (hap : ∀ q, mA am q → ¬ cA ad q) (hap2 : ∀ q, cA ad q → ¬ mA am q) (hi1 : vp_in (v3 + 1) L) (hi2 : vp_in (v3 + 2) L) (hi3 : vp_in (v3 + 3) L) (hi4 : vp_in (v3 + 4) L) (hi5 : vp_in (v3 + 5) L) (hi6 : vp_in (v3 + 6) L) (hinv : INV x_fed x_tk x_col x_line x_rcells x_rsize x_len x_cuts x_bare x_place x_lA x_lB x_lC x_fX x_fY x_sX x_sY x_made x_fsize x_psize x_over x_touch x_most x_mU x_mV x_area x_board a_tape a_letters a_oneSided a_free a_ends a_crowds a_wmade a_firsts a_widths a_heights a_places a_next a_pnear a_table a_overlaps a_drawers a_kept a_items a_numbers a_marks a_near a_figures a_covered a_pcells a_matrix y_km y_tp y_goes y_kin y_qd y_sides y_cuts y_flat y_cp y_cA y_cB y_1X y_1Y y_2X y_2Y y_tm y_cells a_mtape a_flood a_going a_field a_from a_mcrowds a_steps a_queue a_letter a_lineX a_lineY a_triedAt a_cellAt a_besideIn a_apart a_drawer a_mkept a_listed a_mkin a_tried a_takenAt a_waysOf) (hP : cP D ct ad x_fed x_tk x_col x_line x_rcells x_rsize x_len x_cuts x_bare x_place x_lA x_lB x_lC x_fX x_fY x_sX x_sY x_made x_fsize x_psize x_over x_touch x_most x_mU x_mV x_area x_board a_tape a_letters a_oneSided a_free a_ends a_crowds a_wmade a_firsts a_widths a_heights a_places a_next a_pnear a_table a_overlaps a_drawers a_kept a_items a_numbers a_marks a_near a_figures a_covered a_pcells a_matrix H) (hQ : mP D ct am y_km y_tp y_goes y_kin y_qd y_sides y_cuts y_flat y_cp y_cA y_cB y_1X y_1Y y_2X y_2Y y_tm y_cells a_mtape a_flood a_going a_field a_from a_mcrowds a_steps a_queue a_letter a_lineX a_lineY a_triedAt a_cellAt a_besideIn a_apart a_drawer a_mkept a_listed a_mkin a_tried a_takenAt a_waysOf H) (hS : va_S (fun q : Nat => s.heap.size ≤ q) s.heap H locs) (hl : lv_has ls 4 [(3, .int v3), (0, .ref b), (1, .ref (ad 0)), (2, .ref (am 0))]) (next : ∀ (H : Heap) (locs : List Loc) (ls : Array Slot) {x_fed x_tk x_col x_line x_rcells x_rsize x_len x_cuts x_bare x_place x_lA x_lB x_lC x_fX x_fY x_sX x_sY x_made x_fsize x_psize x_over x_touch x_most x_mU x_mV x_area : Int32} {x_board : Int64} {a_tape a_letters a_oneSided a_free a_ends a_crowds a_wmade a_firsts a_widths a_heights a_places a_next a_pnear a_table a_overlaps : Nat → Int32} {a_drawers a_kept a_items a_numbers a_marks a_near a_figures a_covered a_pcells a_matrix : Nat → Int64} {y_km y_tp y_goes y_kin y_qd y_sides y_cuts y_flat y_cp y_cA y_cB y_1X y_1Y y_2X y_2Y y_tm y_cells : Int32} {a_mtape a_flood a_going a_field a_from a_mcrowds a_steps a_queue a_letter a_lineX a_lineY a_triedAt a_cellAt a_besideIn a_apart : Nat → Int32} {a_drawer a_mkept a_listed a_mkin a_tried a_takenAt a_waysOf : Nat → Int64}, lv_has ls 4 [(3, .int v3), (0, .ref b), (1, .ref (ad 0)), (2, .ref (am 0))] → INV x_fed x_tk x_col x_line x_rcells x_rsize x_len x_cuts x_bare x_place x_lA x_lB x_lC x_fX x_fY x_sX x_sY x_made x_fsize x_psize x_over x_touch x_most x_mU x_mV x_area x_board a_tape a_letters a_oneSided a_free a_ends a_crowds a_wmade a_firsts a_widths a_heights a_places a_next a_pnear a_table a_overlaps a_drawers a_kept a_items a_numbers a_marks a_near a_figures a_covered a_pcells a_matrix y_km y_tp y_goes y_kin y_qd y_sides y_cuts y_flat y_cp y_cA y_cB y_1X y_1Y y_2X y_2Y y_tm y_cells a_mtape a_flood a_going a_field a_from a_mcrowds a_steps a_queue a_letter a_lineX a_lineY a_triedAt a_cellAt a_besideIn a_apart a_drawer a_mkept a_listed a_mkin a_tried a_takenAt a_waysOf → cP D ct ad x_fed x_tk x_col x_line x_rcells x_rsize x_len x_cuts x_bare x_place x_lA x_lB x_lC x_fX x_fY x_sX x_sY x_made x_fsize x_psize x_over x_touch x_most x_mU x_mV x_area x_board a_tape a_letters a_oneSided a_free a_ends a_crowds a_wmade a_firsts a_widths a_heights a_places a_next a_pnear a_table a_overlaps a_drawers a_kept a_items a_numbers a_marks a_near a_figures a_covered a_pcells a_matrix H → mP D ct am y_km y_tp y_goes y_kin y_qd y_sides y_cuts y_flat y_cp y_cA y_cB y_1X y_1Y y_2X y_2Y y_tm y_cells a_mtape a_flood a_going a_field a_from a_mcrowds a_steps a_queue a_letter a_lineX a_lineY a_triedAt a_cellAt a_besideIn a_apart a_drawer a_mkept a_listed a_mkin a_tried a_takenAt a_waysOf H → va_S (fun q : Nat => s.heap.size ≤ q) s.heap H locs → W p l e room_1 s m #[Value.ref b] below meth c H locs 57 17144 (lw_Z below #[Value.ref b] s) (F0 m 1844 ls [])) : W p l e room_1 s m #[Value.ref b] below meth c H locs 57 17144 (lw_Z below #[Value.ref b] s) (F0 m 1587 ls []) := by
  refine lv_aload_n hx hb dL_law_1587 rfl (lv_at hl 2 rfl) ?_
  obtain ⟨r, zc_x_tk, zc_a_kept, zm_y_km, zm_a_mkept, hc, hm, hinv⟩ := hop  hinv
  refine hv_i hx hb hml hown hw cB_bl (cB_of hN hK hP) (cr_CF hK hP) (c_cf_keep l D ct ad hI r zc_x_tk zc_a_kept hc) g_RL_148 ⟨rfl, hd_X11_keep⟩ (rest := []) hl.1 hS hcA dL_law_1588 rfl rfl ⟨Nat.le_of_ble_eq_true rfl, Nat.le_of_ble_eq_true rfl⟩ rfl rfl (Nat.le_of_ble_eq_true rfl) ⟨Nat.le_of_ble_eq_true rfl, Nat.le_of_ble_eq_true rfl⟩ (fun H1 locs hP hk hS => ?_)
  replace hQ := mP_keptA hQ hk hap
  clear hk
  refine lv_aload_n hx hb dL_law_1591 rfl (lv_at hl 3 rfl) ?_
  refine hv_i hx hb hml hown hw mB_bl (mB_of hN hK hQ) (mr_MO hK hQ) (c_mo_keep l D ct am hJ r zm_y_km zm_a_mkept hm) g_RL_152 ⟨rfl, hd_X12_keep⟩ (rest := [.int r]) hl.1 hS hmA dL_law_1592 rfl rfl ⟨Nat.le_of_ble_eq_true rfl, Nat.le_of_ble_eq_true rfl⟩ rfl rfl (Nat.le_of_ble_eq_true rfl) ⟨Nat.le_of_ble_eq_true rfl, Nat.le_of_ble_eq_true rfl⟩ (fun H2 locs hQ hk hS => ?_)
  replace hP := cP_keptA hP hk hap2
  refine lv_icmp_eq hx hb dL_law_1595 (tgt := 1844) rfl (fun _ => ?_) (fun hc => absurd rfl hc)
  exact next _ _ _ hl hinv hP hQ hS
set_option maxHeartbeats 4000000 in
set_option maxRecDepth 100000 in
theorem lawc_back {INV : INVT} (hop : OP_back INV) {p : Program} {l : Launch} {e : Env} {s : State} {m : MethodId} {below : List Frame} {meth : Method} {c : Code} {H : Heap} {locs : List Loc} {ls : Array Slot} {b L : Nat} {xs : Nat → Int32} {v3 : Int32} {D : va_G} {ct : Nat → ClassId} {ad am : Nat → Nat} {x_fed x_tk x_col x_line x_rcells x_rsize x_len x_cuts x_bare x_place x_lA x_lB x_lC x_fX x_fY x_sX x_sY x_made x_fsize x_psize x_over x_touch x_most x_mU x_mV x_area : Int32} {x_board : Int64} {a_tape a_letters a_oneSided a_free a_ends a_crowds a_wmade a_firsts a_widths a_heights a_places a_next a_pnear a_table a_overlaps : Nat → Int32} {a_drawers a_kept a_items a_numbers a_marks a_near a_figures a_covered a_pcells a_matrix : Nat → Int64} {y_km y_tp y_goes y_kin y_qd y_sides y_cuts y_flat y_cp y_cA y_cB y_1X y_1Y y_2X y_2Y y_tm y_cells : Int32} {a_mtape a_flood a_going a_field a_from a_mcrowds a_steps a_queue a_letter a_lineX a_lineY a_triedAt a_cellAt a_besideIn a_apart : Nat → Int32} {a_drawer a_mkept a_listed a_mkin a_tried a_takenAt a_waysOf : Nat → Int64} (hx : p.tables.exec = Jvm.exec) (hb : c.code = code) (hml : c.maxLocals = 4) (hown : s.vm.findClass RL = some m.cls) (hw : ∀ w ∈ wsL_law, w.before #[Value.ref b] s = true) (hN : NW s) (hK : KK D ct s) (hX : va_X b L xs s s.heap) (hbl : b < s.heap.size) (hbA : ¬ s.heap.size ≤ b) (hI : cI ad) (hJ : mI am) (hcA : ∀ q, cA ad q → s.heap.size ≤ q) (hmA : ∀ q, mA am q → s.heap.size ≤ q) (hap : ∀ q, mA am q → ¬ cA ad q) (hap2 : ∀ q, cA ad q → ¬ mA am q) (hi1 : vp_in (v3 + 1) L) (hi2 : vp_in (v3 + 2) L) (hi3 : vp_in (v3 + 3) L) (hi4 : vp_in (v3 + 4) L) (hi5 : vp_in (v3 + 5) L) (hi6 : vp_in (v3 + 6) L) (hinv : INV x_fed x_tk x_col x_line x_rcells x_rsize x_len x_cuts x_bare x_place x_lA x_lB x_lC x_fX x_fY x_sX x_sY x_made x_fsize x_psize x_over x_touch x_most x_mU x_mV x_area x_board a_tape a_letters a_oneSided a_free a_ends a_crowds a_wmade a_firsts a_widths a_heights a_places a_next a_pnear a_table a_overlaps a_drawers a_kept a_items a_numbers a_marks a_near a_figures a_covered a_pcells a_matrix y_km y_tp y_goes y_kin y_qd y_sides y_cuts y_flat y_cp y_cA y_cB y_1X y_1Y y_2X y_2Y y_tm y_cells a_mtape a_flood a_going a_field a_from a_mcrowds a_steps a_queue a_letter a_lineX a_lineY a_triedAt a_cellAt a_besideIn a_apart a_drawer a_mkept a_listed a_mkin a_tried a_takenAt a_waysOf) (hP : cP D ct ad x_fed x_tk x_col x_line x_rcells x_rsize x_len x_cuts x_bare x_place x_lA x_lB x_lC x_fX x_fY x_sX x_sY x_made x_fsize x_psize x_over x_touch x_most x_mU x_mV x_area x_board a_tape a_letters a_oneSided a_free a_ends a_crowds a_wmade a_firsts a_widths a_heights a_places a_next a_pnear a_table a_overlaps a_drawers a_kept a_items a_numbers a_marks a_near a_figures a_covered a_pcells a_matrix H) (hQ : mP D ct am y_km y_tp y_goes y_kin y_qd y_sides y_cuts y_flat y_cp y_cA y_cB y_1X y_1Y y_2X y_2Y y_tm y_cells a_mtape a_flood a_going a_field a_from a_mcrowds a_steps a_queue a_letter a_lineX a_lineY a_triedAt a_cellAt a_besideIn a_apart a_drawer a_mkept a_listed a_mkin a_tried a_takenAt a_waysOf H) (hS : va_S (fun q : Nat => s.heap.size ≤ q) s.heap H locs) (hl : lv_has ls 4 [(3, .int v3), (0, .ref b), (1, .ref (ad 0)), (2, .ref (am 0))]) (next : ∀ (H : Heap) (locs : List Loc) (ls : Array Slot) {x_fed x_tk x_col x_line x_rcells x_rsize x_len x_cuts x_bare x_place x_lA x_lB x_lC x_fX x_fY x_sX x_sY x_made x_fsize x_psize x_over x_touch x_most x_mU x_mV x_area : Int32} {x_board : Int64} {a_tape a_letters a_oneSided a_free a_ends a_crowds a_wmade a_firsts a_widths a_heights a_places a_next a_pnear a_table a_overlaps : Nat → Int32} {a_drawers a_kept a_items a_numbers a_marks a_near a_figures a_covered a_pcells a_matrix : Nat → Int64} {y_km y_tp y_goes y_kin y_qd y_sides y_cuts y_flat y_cp y_cA y_cB y_1X y_1Y y_2X y_2Y y_tm y_cells : Int32} {a_mtape a_flood a_going a_field a_from a_mcrowds a_steps a_queue a_letter a_lineX a_lineY a_triedAt a_cellAt a_besideIn a_apart : Nat → Int32} {a_drawer a_mkept a_listed a_mkin a_tried a_takenAt a_waysOf : Nat → Int64}, lv_has ls 4 [(3, .int v3), (0, .ref b), (1, .ref (ad 0)), (2, .ref (am 0))] → INV x_fed x_tk x_col x_line x_rcells x_rsize x_len x_cuts x_bare x_place x_lA x_lB x_lC x_fX x_fY x_sX x_sY x_made x_fsize x_psize x_over x_touch x_most x_mU x_mV x_area x_board a_tape a_letters a_oneSided a_free a_ends a_crowds a_wmade a_firsts a_widths a_heights a_places a_next a_pnear a_table a_overlaps a_drawers a_kept a_items a_numbers a_marks a_near a_figures a_covered a_pcells a_matrix y_km y_tp y_goes y_kin y_qd y_sides y_cuts y_flat y_cp y_cA y_cB y_1X y_1Y y_2X y_2Y y_tm y_cells a_mtape a_flood a_going a_field a_from a_mcrowds a_steps a_queue a_letter a_lineX a_lineY a_triedAt a_cellAt a_besideIn a_apart a_drawer a_mkept a_listed a_mkin a_tried a_takenAt a_waysOf → cP D ct ad x_fed x_tk x_col x_line x_rcells x_rsize x_len x_cuts x_bare x_place x_lA x_lB x_lC x_fX x_fY x_sX x_sY x_made x_fsize x_psize x_over x_touch x_most x_mU x_mV x_area x_board a_tape a_letters a_oneSided a_free a_ends a_crowds a_wmade a_firsts a_widths a_heights a_places a_next a_pnear a_table a_overlaps a_drawers a_kept a_items a_numbers a_marks a_near a_figures a_covered a_pcells a_matrix H → mP D ct am y_km y_tp y_goes y_kin y_qd y_sides y_cuts y_flat y_cp y_cA y_cB y_1X y_1Y y_2X y_2Y y_tm y_cells a_mtape a_flood a_going a_field a_from a_mcrowds a_steps a_queue a_letter a_lineX a_lineY a_triedAt a_cellAt a_besideIn a_apart a_drawer a_mkept a_listed a_mkin a_tried a_takenAt a_waysOf H → va_S (fun q : Nat => s.heap.size ≤ q) s.heap H locs → W p l e room_1 s m #[Value.ref b] below meth c H locs 57 17144 (lw_Z below #[Value.ref b] s) (F0 m 1844 ls [])) : W p l e room_1 s m #[Value.ref b] below meth c H locs 57 17144 (lw_Z below #[Value.ref b] s) (F0 m 1600 ls []) := by
  refine lv_aload_n hx hb dL_law_1600 rfl (lv_at hl 2 rfl) ?_
  obtain ⟨r, zc_x_tk, zc_a_drawers, zm_y_km, zm_a_drawer, hc, hm, hinv⟩ := hop  hinv
  refine hv_i hx hb hml hown hw cB_bl (cB_of hN hK hP) (cr_CF hK hP) (c_cf_back l D ct ad hI r zc_x_tk zc_a_drawers hc) g_RL_153 ⟨rfl, hd_X11_back⟩ (rest := []) hl.1 hS hcA dL_law_1601 rfl rfl ⟨Nat.le_of_ble_eq_true rfl, Nat.le_of_ble_eq_true rfl⟩ rfl rfl (Nat.le_of_ble_eq_true rfl) ⟨Nat.le_of_ble_eq_true rfl, Nat.le_of_ble_eq_true rfl⟩ (fun H1 locs hP hk hS => ?_)
  replace hQ := mP_keptA hQ hk hap
  clear hk
  refine lv_aload_n hx hb dL_law_1604 rfl (lv_at hl 3 rfl) ?_
  refine hv_i hx hb hml hown hw mB_bl (mB_of hN hK hQ) (mr_MO hK hQ) (c_mo_back l D ct am hJ r zm_y_km zm_a_drawer hm) g_RL_156 ⟨rfl, hd_X12_back⟩ (rest := [.int r]) hl.1 hS hmA dL_law_1605 rfl rfl ⟨Nat.le_of_ble_eq_true rfl, Nat.le_of_ble_eq_true rfl⟩ rfl rfl (Nat.le_of_ble_eq_true rfl) ⟨Nat.le_of_ble_eq_true rfl, Nat.le_of_ble_eq_true rfl⟩ (fun H2 locs hQ hk hS => ?_)
  replace hP := cP_keptA hP hk hap2
  refine lv_icmp_eq hx hb dL_law_1608 (tgt := 1844) rfl (fun _ => ?_) (fun hc => absurd rfl hc)
  exact next _ _ _ hl hinv hP hQ hS
set_option maxHeartbeats 4000000 in
set_option maxRecDepth 100000 in
theorem lawc_join {INV : INVT} (hop : OP_join INV) {p : Program} {l : Launch} {e : Env} {s : State} {m : MethodId} {below : List Frame} {meth : Method} {c : Code} {H : Heap} {locs : List Loc} {ls : Array Slot} {b L : Nat} {xs : Nat → Int32} {v3 : Int32} {D : va_G} {ct : Nat → ClassId} {ad am : Nat → Nat} {x_fed x_tk x_col x_line x_rcells x_rsize x_len x_cuts x_bare x_place x_lA x_lB x_lC x_fX x_fY x_sX x_sY x_made x_fsize x_psize x_over x_touch x_most x_mU x_mV x_area : Int32} {x_board : Int64} {a_tape a_letters a_oneSided a_free a_ends a_crowds a_wmade a_firsts a_widths a_heights a_places a_next a_pnear a_table a_overlaps : Nat → Int32} {a_drawers a_kept a_items a_numbers a_marks a_near a_figures a_covered a_pcells a_matrix : Nat → Int64} {y_km y_tp y_goes y_kin y_qd y_sides y_cuts y_flat y_cp y_cA y_cB y_1X y_1Y y_2X y_2Y y_tm y_cells : Int32} {a_mtape a_flood a_going a_field a_from a_mcrowds a_steps a_queue a_letter a_lineX a_lineY a_triedAt a_cellAt a_besideIn a_apart : Nat → Int32} {a_drawer a_mkept a_listed a_mkin a_tried a_takenAt a_waysOf : Nat → Int64} (hx : p.tables.exec = Jvm.exec) (hb : c.code = code) (hml : c.maxLocals = 4) (hown : s.vm.findClass RL = some m.cls) (hw : ∀ w ∈ wsL_law, w.before #[Value.ref b] s = true) (hN : NW s) (hK : KK D ct s) (hX : va_X b L xs s s.heap) (hbl : b < s.heap.size) (hbA : ¬ s.heap.size ≤ b) (hI : cI ad) (hJ : mI am) (hcA : ∀ q, cA ad q → s.heap.size ≤ q) (hmA : ∀ q, mA am q → s.heap.size ≤ q) (hap : ∀ q, mA am q → ¬ cA ad q) (hap2 : ∀ q, cA ad q → ¬ mA am q) (hi1 : vp_in (v3 + 1) L) (hi2 : vp_in (v3 + 2) L) (hi3 : vp_in (v3 + 3) L) (hi4 : vp_in (v3 + 4) L) (hi5 : vp_in (v3 + 5) L) (hi6 : vp_in (v3 + 6) L) (hinv : INV x_fed x_tk x_col x_line x_rcells x_rsize x_len x_cuts x_bare x_place x_lA x_lB x_lC x_fX x_fY x_sX x_sY x_made x_fsize x_psize x_over x_touch x_most x_mU x_mV x_area x_board a_tape a_letters a_oneSided a_free a_ends a_crowds a_wmade a_firsts a_widths a_heights a_places a_next a_pnear a_table a_overlaps a_drawers a_kept a_items a_numbers a_marks a_near a_figures a_covered a_pcells a_matrix y_km y_tp y_goes y_kin y_qd y_sides y_cuts y_flat y_cp y_cA y_cB y_1X y_1Y y_2X y_2Y y_tm y_cells a_mtape a_flood a_going a_field a_from a_mcrowds a_steps a_queue a_letter a_lineX a_lineY a_triedAt a_cellAt a_besideIn a_apart a_drawer a_mkept a_listed a_mkin a_tried a_takenAt a_waysOf) (hP : cP D ct ad x_fed x_tk x_col x_line x_rcells x_rsize x_len x_cuts x_bare x_place x_lA x_lB x_lC x_fX x_fY x_sX x_sY x_made x_fsize x_psize x_over x_touch x_most x_mU x_mV x_area x_board a_tape a_letters a_oneSided a_free a_ends a_crowds a_wmade a_firsts a_widths a_heights a_places a_next a_pnear a_table a_overlaps a_drawers a_kept a_items a_numbers a_marks a_near a_figures a_covered a_pcells a_matrix H) (hQ : mP D ct am y_km y_tp y_goes y_kin y_qd y_sides y_cuts y_flat y_cp y_cA y_cB y_1X y_1Y y_2X y_2Y y_tm y_cells a_mtape a_flood a_going a_field a_from a_mcrowds a_steps a_queue a_letter a_lineX a_lineY a_triedAt a_cellAt a_besideIn a_apart a_drawer a_mkept a_listed a_mkin a_tried a_takenAt a_waysOf H) (hS : va_S (fun q : Nat => s.heap.size ≤ q) s.heap H locs) (hl : lv_has ls 4 [(3, .int v3), (0, .ref b), (1, .ref (ad 0)), (2, .ref (am 0))]) (next : ∀ (H : Heap) (locs : List Loc) (ls : Array Slot) {x_fed x_tk x_col x_line x_rcells x_rsize x_len x_cuts x_bare x_place x_lA x_lB x_lC x_fX x_fY x_sX x_sY x_made x_fsize x_psize x_over x_touch x_most x_mU x_mV x_area : Int32} {x_board : Int64} {a_tape a_letters a_oneSided a_free a_ends a_crowds a_wmade a_firsts a_widths a_heights a_places a_next a_pnear a_table a_overlaps : Nat → Int32} {a_drawers a_kept a_items a_numbers a_marks a_near a_figures a_covered a_pcells a_matrix : Nat → Int64} {y_km y_tp y_goes y_kin y_qd y_sides y_cuts y_flat y_cp y_cA y_cB y_1X y_1Y y_2X y_2Y y_tm y_cells : Int32} {a_mtape a_flood a_going a_field a_from a_mcrowds a_steps a_queue a_letter a_lineX a_lineY a_triedAt a_cellAt a_besideIn a_apart : Nat → Int32} {a_drawer a_mkept a_listed a_mkin a_tried a_takenAt a_waysOf : Nat → Int64}, lv_has ls 4 [(3, .int v3), (0, .ref b), (1, .ref (ad 0)), (2, .ref (am 0))] → INV x_fed x_tk x_col x_line x_rcells x_rsize x_len x_cuts x_bare x_place x_lA x_lB x_lC x_fX x_fY x_sX x_sY x_made x_fsize x_psize x_over x_touch x_most x_mU x_mV x_area x_board a_tape a_letters a_oneSided a_free a_ends a_crowds a_wmade a_firsts a_widths a_heights a_places a_next a_pnear a_table a_overlaps a_drawers a_kept a_items a_numbers a_marks a_near a_figures a_covered a_pcells a_matrix y_km y_tp y_goes y_kin y_qd y_sides y_cuts y_flat y_cp y_cA y_cB y_1X y_1Y y_2X y_2Y y_tm y_cells a_mtape a_flood a_going a_field a_from a_mcrowds a_steps a_queue a_letter a_lineX a_lineY a_triedAt a_cellAt a_besideIn a_apart a_drawer a_mkept a_listed a_mkin a_tried a_takenAt a_waysOf → cP D ct ad x_fed x_tk x_col x_line x_rcells x_rsize x_len x_cuts x_bare x_place x_lA x_lB x_lC x_fX x_fY x_sX x_sY x_made x_fsize x_psize x_over x_touch x_most x_mU x_mV x_area x_board a_tape a_letters a_oneSided a_free a_ends a_crowds a_wmade a_firsts a_widths a_heights a_places a_next a_pnear a_table a_overlaps a_drawers a_kept a_items a_numbers a_marks a_near a_figures a_covered a_pcells a_matrix H → mP D ct am y_km y_tp y_goes y_kin y_qd y_sides y_cuts y_flat y_cp y_cA y_cB y_1X y_1Y y_2X y_2Y y_tm y_cells a_mtape a_flood a_going a_field a_from a_mcrowds a_steps a_queue a_letter a_lineX a_lineY a_triedAt a_cellAt a_besideIn a_apart a_drawer a_mkept a_listed a_mkin a_tried a_takenAt a_waysOf H → va_S (fun q : Nat => s.heap.size ≤ q) s.heap H locs → W p l e room_1 s m #[Value.ref b] below meth c H locs 57 17144 (lw_Z below #[Value.ref b] s) (F0 m 1844 ls [])) : W p l e room_1 s m #[Value.ref b] below meth c H locs 57 17144 (lw_Z below #[Value.ref b] s) (F0 m 1613 ls []) := by
  by_cases hz : xs (v3 + 5).toNatClampNeg = 0
  · refine lv_aload_n hx hb dL_law_1613 rfl (lv_at hl 2 rfl) ?_
    refine lv_aload_n hx hb dL_law_1614 rfl (lv_at hl 1 rfl) ?_
    refine lv_iload_n hx hb dL_law_1615 rfl (lv_at hl 0 rfl) ?_
    refine lv_iconst (v := 1) hx hb dL_law_1616 ki_1 ?_
    refine lv_iadd hx hb dL_law_1617 ?_
    refine va_sld hx hb hX hbl hbA hS hi1 dL_law_1618 ?_
    refine lv_aload_n hx hb dL_law_1619 rfl (lv_at hl 1 rfl) ?_
    refine lv_iload_n hx hb dL_law_1620 rfl (lv_at hl 0 rfl) ?_
    refine lv_iconst (v := 2) hx hb dL_law_1621 ki_2 ?_
    refine lv_iadd hx hb dL_law_1622 ?_
    refine va_sld hx hb hX hbl hbA hS hi2 dL_law_1623 ?_
    refine lv_aload_n hx hb dL_law_1624 rfl (lv_at hl 1 rfl) ?_
    refine lv_iload_n hx hb dL_law_1625 rfl (lv_at hl 0 rfl) ?_
    refine lv_iconst (v := 3) hx hb dL_law_1626 ki_3 ?_
    refine lv_iadd hx hb dL_law_1627 ?_
    refine va_sld hx hb hX hbl hbA hS hi3 dL_law_1628 ?_
    refine lv_aload_n hx hb dL_law_1629 rfl (lv_at hl 1 rfl) ?_
    refine lv_iload_n hx hb dL_law_1630 rfl (lv_at hl 0 rfl) ?_
    refine lv_iconst (v := 4) hx hb dL_law_1631 ki_4 ?_
    refine lv_iadd hx hb dL_law_1632 ?_
    refine va_sld hx hb hX hbl hbA hS hi4 dL_law_1633 ?_
    refine lv_aload_n hx hb dL_law_1634 rfl (lv_at hl 1 rfl) ?_
    refine lv_iload_n hx hb dL_law_1635 rfl (lv_at hl 0 rfl) ?_
    refine lv_iconst (v := 5) hx hb dL_law_1636 ki_5 ?_
    refine lv_iadd hx hb dL_law_1637 ?_
    refine va_sld hx hb hX hbl hbA hS hi5 dL_law_1638 ?_
    refine lv_if_eq hx hb dL_law_1639 (tgt := 1646) rfl (fun _ => ?_) (fun hc => absurd hz hc)
    refine lv_iconst (v := 0) hx hb dL_law_1646 ki_0 ?_
    obtain ⟨r, zc_a_drawers, zm_a_drawer, zm_a_field, hc, hm, hinv⟩ := hop (xs (v3 + 1).toNatClampNeg) (xs (v3 + 2).toNatClampNeg) (xs (v3 + 3).toNatClampNeg) (xs (v3 + 4).toNatClampNeg) 0 (by first | exact Or.inl rfl | exact Or.inr rfl) hinv
    refine hv_i hx hb hml hown hw cB_bl (cB_of hN hK hP) (cr_CF hK hP) (c_cf_join l D ct ad hI (xs (v3 + 1).toNatClampNeg) (xs (v3 + 2).toNatClampNeg) (xs (v3 + 3).toNatClampNeg) (xs (v3 + 4).toNatClampNeg) 0 r zc_a_drawers hc) g_RL_157 ⟨rfl, hd_X11_join⟩ (rest := []) hl.1 hS hcA dL_law_1647 rfl rfl ⟨Nat.le_of_ble_eq_true rfl, Nat.le_of_ble_eq_true rfl⟩ rfl rfl (Nat.le_of_ble_eq_true rfl) ⟨Nat.le_of_ble_eq_true rfl, Nat.le_of_ble_eq_true rfl⟩ (fun H1 locs hP hk hS => ?_)
    replace hQ := mP_keptA hQ hk hap
    clear hk
    refine lv_aload_n hx hb dL_law_1650 rfl (lv_at hl 3 rfl) ?_
    refine lv_aload_n hx hb dL_law_1651 rfl (lv_at hl 1 rfl) ?_
    refine lv_iload_n hx hb dL_law_1652 rfl (lv_at hl 0 rfl) ?_
    refine lv_iconst (v := 1) hx hb dL_law_1653 ki_1 ?_
    refine lv_iadd hx hb dL_law_1654 ?_
    refine va_sld hx hb hX hbl hbA hS hi1 dL_law_1655 ?_
    refine lv_aload_n hx hb dL_law_1656 rfl (lv_at hl 1 rfl) ?_
    refine lv_iload_n hx hb dL_law_1657 rfl (lv_at hl 0 rfl) ?_
    refine lv_iconst (v := 2) hx hb dL_law_1658 ki_2 ?_
    refine lv_iadd hx hb dL_law_1659 ?_
    refine va_sld hx hb hX hbl hbA hS hi2 dL_law_1660 ?_
    refine lv_aload_n hx hb dL_law_1661 rfl (lv_at hl 1 rfl) ?_
    refine lv_iload_n hx hb dL_law_1662 rfl (lv_at hl 0 rfl) ?_
    refine lv_iconst (v := 3) hx hb dL_law_1663 ki_3 ?_
    refine lv_iadd hx hb dL_law_1664 ?_
    refine va_sld hx hb hX hbl hbA hS hi3 dL_law_1665 ?_
    refine lv_aload_n hx hb dL_law_1666 rfl (lv_at hl 1 rfl) ?_
    refine lv_iload_n hx hb dL_law_1667 rfl (lv_at hl 0 rfl) ?_
    refine lv_iconst (v := 4) hx hb dL_law_1668 ki_4 ?_
    refine lv_iadd hx hb dL_law_1669 ?_
    refine va_sld hx hb hX hbl hbA hS hi4 dL_law_1670 ?_
    refine lv_aload_n hx hb dL_law_1671 rfl (lv_at hl 1 rfl) ?_
    refine lv_iload_n hx hb dL_law_1672 rfl (lv_at hl 0 rfl) ?_
    refine lv_iconst (v := 5) hx hb dL_law_1673 ki_5 ?_
    refine lv_iadd hx hb dL_law_1674 ?_
    refine va_sld hx hb hX hbl hbA hS hi5 dL_law_1675 ?_
    refine lv_if_eq hx hb dL_law_1676 (tgt := 1683) rfl (fun _ => ?_) (fun hc => absurd hz hc)
    refine lv_iconst (v := 0) hx hb dL_law_1683 ki_0 ?_
    refine hv_i hx hb hml hown hw mB_bl (mB_of hN hK hQ) (mr_MO hK hQ) (c_mo_join l D ct am hJ (xs (v3 + 1).toNatClampNeg) (xs (v3 + 2).toNatClampNeg) (xs (v3 + 3).toNatClampNeg) (xs (v3 + 4).toNatClampNeg) 0 r zm_a_drawer zm_a_field hm) g_RL_161 ⟨rfl, hd_X12_join⟩ (rest := [.int r]) hl.1 hS hmA dL_law_1684 rfl rfl ⟨Nat.le_of_ble_eq_true rfl, Nat.le_of_ble_eq_true rfl⟩ rfl rfl (Nat.le_of_ble_eq_true rfl) ⟨Nat.le_of_ble_eq_true rfl, Nat.le_of_ble_eq_true rfl⟩ (fun H2 locs hQ hk hS => ?_)
    replace hP := cP_keptA hP hk hap2
    refine lv_icmp_eq hx hb dL_law_1687 (tgt := 1844) rfl (fun _ => ?_) (fun hc => absurd rfl hc)
    exact next _ _ _ hl hinv hP hQ hS
  · refine lv_aload_n hx hb dL_law_1613 rfl (lv_at hl 2 rfl) ?_
    refine lv_aload_n hx hb dL_law_1614 rfl (lv_at hl 1 rfl) ?_
    refine lv_iload_n hx hb dL_law_1615 rfl (lv_at hl 0 rfl) ?_
    refine lv_iconst (v := 1) hx hb dL_law_1616 ki_1 ?_
    refine lv_iadd hx hb dL_law_1617 ?_
    refine va_sld hx hb hX hbl hbA hS hi1 dL_law_1618 ?_
    refine lv_aload_n hx hb dL_law_1619 rfl (lv_at hl 1 rfl) ?_
    refine lv_iload_n hx hb dL_law_1620 rfl (lv_at hl 0 rfl) ?_
    refine lv_iconst (v := 2) hx hb dL_law_1621 ki_2 ?_
    refine lv_iadd hx hb dL_law_1622 ?_
    refine va_sld hx hb hX hbl hbA hS hi2 dL_law_1623 ?_
    refine lv_aload_n hx hb dL_law_1624 rfl (lv_at hl 1 rfl) ?_
    refine lv_iload_n hx hb dL_law_1625 rfl (lv_at hl 0 rfl) ?_
    refine lv_iconst (v := 3) hx hb dL_law_1626 ki_3 ?_
    refine lv_iadd hx hb dL_law_1627 ?_
    refine va_sld hx hb hX hbl hbA hS hi3 dL_law_1628 ?_
    refine lv_aload_n hx hb dL_law_1629 rfl (lv_at hl 1 rfl) ?_
    refine lv_iload_n hx hb dL_law_1630 rfl (lv_at hl 0 rfl) ?_
    refine lv_iconst (v := 4) hx hb dL_law_1631 ki_4 ?_
    refine lv_iadd hx hb dL_law_1632 ?_
    refine va_sld hx hb hX hbl hbA hS hi4 dL_law_1633 ?_
    refine lv_aload_n hx hb dL_law_1634 rfl (lv_at hl 1 rfl) ?_
    refine lv_iload_n hx hb dL_law_1635 rfl (lv_at hl 0 rfl) ?_
    refine lv_iconst (v := 5) hx hb dL_law_1636 ki_5 ?_
    refine lv_iadd hx hb dL_law_1637 ?_
    refine va_sld hx hb hX hbl hbA hS hi5 dL_law_1638 ?_
    refine lv_if_eq hx hb dL_law_1639 (tgt := 1646) rfl (fun hc => absurd hc hz) (fun _ => ?_)
    refine lv_iconst (v := 1) hx hb dL_law_1642 ki_1 ?_
    refine lv_goto hx hb dL_law_1643 (tgt := 1647) rfl ?_
    obtain ⟨r, zc_a_drawers, zm_a_drawer, zm_a_field, hc, hm, hinv⟩ := hop (xs (v3 + 1).toNatClampNeg) (xs (v3 + 2).toNatClampNeg) (xs (v3 + 3).toNatClampNeg) (xs (v3 + 4).toNatClampNeg) 1 (by first | exact Or.inl rfl | exact Or.inr rfl) hinv
    refine hv_i hx hb hml hown hw cB_bl (cB_of hN hK hP) (cr_CF hK hP) (c_cf_join l D ct ad hI (xs (v3 + 1).toNatClampNeg) (xs (v3 + 2).toNatClampNeg) (xs (v3 + 3).toNatClampNeg) (xs (v3 + 4).toNatClampNeg) 1 r zc_a_drawers hc) g_RL_157 ⟨rfl, hd_X11_join⟩ (rest := []) hl.1 hS hcA dL_law_1647 rfl rfl ⟨Nat.le_of_ble_eq_true rfl, Nat.le_of_ble_eq_true rfl⟩ rfl rfl (Nat.le_of_ble_eq_true rfl) ⟨Nat.le_of_ble_eq_true rfl, Nat.le_of_ble_eq_true rfl⟩ (fun H1 locs hP hk hS => ?_)
    replace hQ := mP_keptA hQ hk hap
    clear hk
    refine lv_aload_n hx hb dL_law_1650 rfl (lv_at hl 3 rfl) ?_
    refine lv_aload_n hx hb dL_law_1651 rfl (lv_at hl 1 rfl) ?_
    refine lv_iload_n hx hb dL_law_1652 rfl (lv_at hl 0 rfl) ?_
    refine lv_iconst (v := 1) hx hb dL_law_1653 ki_1 ?_
    refine lv_iadd hx hb dL_law_1654 ?_
    refine va_sld hx hb hX hbl hbA hS hi1 dL_law_1655 ?_
    refine lv_aload_n hx hb dL_law_1656 rfl (lv_at hl 1 rfl) ?_
    refine lv_iload_n hx hb dL_law_1657 rfl (lv_at hl 0 rfl) ?_
    refine lv_iconst (v := 2) hx hb dL_law_1658 ki_2 ?_
    refine lv_iadd hx hb dL_law_1659 ?_
    refine va_sld hx hb hX hbl hbA hS hi2 dL_law_1660 ?_
    refine lv_aload_n hx hb dL_law_1661 rfl (lv_at hl 1 rfl) ?_
    refine lv_iload_n hx hb dL_law_1662 rfl (lv_at hl 0 rfl) ?_
    refine lv_iconst (v := 3) hx hb dL_law_1663 ki_3 ?_
    refine lv_iadd hx hb dL_law_1664 ?_
    refine va_sld hx hb hX hbl hbA hS hi3 dL_law_1665 ?_
    refine lv_aload_n hx hb dL_law_1666 rfl (lv_at hl 1 rfl) ?_
    refine lv_iload_n hx hb dL_law_1667 rfl (lv_at hl 0 rfl) ?_
    refine lv_iconst (v := 4) hx hb dL_law_1668 ki_4 ?_
    refine lv_iadd hx hb dL_law_1669 ?_
    refine va_sld hx hb hX hbl hbA hS hi4 dL_law_1670 ?_
    refine lv_aload_n hx hb dL_law_1671 rfl (lv_at hl 1 rfl) ?_
    refine lv_iload_n hx hb dL_law_1672 rfl (lv_at hl 0 rfl) ?_
    refine lv_iconst (v := 5) hx hb dL_law_1673 ki_5 ?_
    refine lv_iadd hx hb dL_law_1674 ?_
    refine va_sld hx hb hX hbl hbA hS hi5 dL_law_1675 ?_
    refine lv_if_eq hx hb dL_law_1676 (tgt := 1683) rfl (fun hc => absurd hc hz) (fun _ => ?_)
    refine lv_iconst (v := 1) hx hb dL_law_1679 ki_1 ?_
    refine lv_goto hx hb dL_law_1680 (tgt := 1684) rfl ?_
    refine hv_i hx hb hml hown hw mB_bl (mB_of hN hK hQ) (mr_MO hK hQ) (c_mo_join l D ct am hJ (xs (v3 + 1).toNatClampNeg) (xs (v3 + 2).toNatClampNeg) (xs (v3 + 3).toNatClampNeg) (xs (v3 + 4).toNatClampNeg) 1 r zm_a_drawer zm_a_field hm) g_RL_161 ⟨rfl, hd_X12_join⟩ (rest := [.int r]) hl.1 hS hmA dL_law_1684 rfl rfl ⟨Nat.le_of_ble_eq_true rfl, Nat.le_of_ble_eq_true rfl⟩ rfl rfl (Nat.le_of_ble_eq_true rfl) ⟨Nat.le_of_ble_eq_true rfl, Nat.le_of_ble_eq_true rfl⟩ (fun H2 locs hQ hk hS => ?_)
    replace hP := cP_keptA hP hk hap2
    refine lv_icmp_eq hx hb dL_law_1687 (tgt := 1844) rfl (fun _ => ?_) (fun hc => absurd rfl hc)
    exact next _ _ _ hl hinv hP hQ hS
set_option maxHeartbeats 4000000 in
set_option maxRecDepth 100000 in
theorem lawc_swap {INV : INVT} (hop : OP_swap INV) {p : Program} {l : Launch} {e : Env} {s : State} {m : MethodId} {below : List Frame} {meth : Method} {c : Code} {H : Heap} {locs : List Loc} {ls : Array Slot} {b L : Nat} {xs : Nat → Int32} {v3 : Int32} {D : va_G} {ct : Nat → ClassId} {ad am : Nat → Nat} {x_fed x_tk x_col x_line x_rcells x_rsize x_len x_cuts x_bare x_place x_lA x_lB x_lC x_fX x_fY x_sX x_sY x_made x_fsize x_psize x_over x_touch x_most x_mU x_mV x_area : Int32} {x_board : Int64} {a_tape a_letters a_oneSided a_free a_ends a_crowds a_wmade a_firsts a_widths a_heights a_places a_next a_pnear a_table a_overlaps : Nat → Int32} {a_drawers a_kept a_items a_numbers a_marks a_near a_figures a_covered a_pcells a_matrix : Nat → Int64} {y_km y_tp y_goes y_kin y_qd y_sides y_cuts y_flat y_cp y_cA y_cB y_1X y_1Y y_2X y_2Y y_tm y_cells : Int32} {a_mtape a_flood a_going a_field a_from a_mcrowds a_steps a_queue a_letter a_lineX a_lineY a_triedAt a_cellAt a_besideIn a_apart : Nat → Int32} {a_drawer a_mkept a_listed a_mkin a_tried a_takenAt a_waysOf : Nat → Int64} (hx : p.tables.exec = Jvm.exec) (hb : c.code = code) (hml : c.maxLocals = 4) (hown : s.vm.findClass RL = some m.cls) (hw : ∀ w ∈ wsL_law, w.before #[Value.ref b] s = true) (hN : NW s) (hK : KK D ct s) (hX : va_X b L xs s s.heap) (hbl : b < s.heap.size) (hbA : ¬ s.heap.size ≤ b) (hI : cI ad) (hJ : mI am) (hcA : ∀ q, cA ad q → s.heap.size ≤ q) (hmA : ∀ q, mA am q → s.heap.size ≤ q) (hap : ∀ q, mA am q → ¬ cA ad q) (hap2 : ∀ q, cA ad q → ¬ mA am q) (hi1 : vp_in (v3 + 1) L) (hi2 : vp_in (v3 + 2) L) (hi3 : vp_in (v3 + 3) L) (hi4 : vp_in (v3 + 4) L) (hi5 : vp_in (v3 + 5) L) (hi6 : vp_in (v3 + 6) L) (hinv : INV x_fed x_tk x_col x_line x_rcells x_rsize x_len x_cuts x_bare x_place x_lA x_lB x_lC x_fX x_fY x_sX x_sY x_made x_fsize x_psize x_over x_touch x_most x_mU x_mV x_area x_board a_tape a_letters a_oneSided a_free a_ends a_crowds a_wmade a_firsts a_widths a_heights a_places a_next a_pnear a_table a_overlaps a_drawers a_kept a_items a_numbers a_marks a_near a_figures a_covered a_pcells a_matrix y_km y_tp y_goes y_kin y_qd y_sides y_cuts y_flat y_cp y_cA y_cB y_1X y_1Y y_2X y_2Y y_tm y_cells a_mtape a_flood a_going a_field a_from a_mcrowds a_steps a_queue a_letter a_lineX a_lineY a_triedAt a_cellAt a_besideIn a_apart a_drawer a_mkept a_listed a_mkin a_tried a_takenAt a_waysOf) (hP : cP D ct ad x_fed x_tk x_col x_line x_rcells x_rsize x_len x_cuts x_bare x_place x_lA x_lB x_lC x_fX x_fY x_sX x_sY x_made x_fsize x_psize x_over x_touch x_most x_mU x_mV x_area x_board a_tape a_letters a_oneSided a_free a_ends a_crowds a_wmade a_firsts a_widths a_heights a_places a_next a_pnear a_table a_overlaps a_drawers a_kept a_items a_numbers a_marks a_near a_figures a_covered a_pcells a_matrix H) (hQ : mP D ct am y_km y_tp y_goes y_kin y_qd y_sides y_cuts y_flat y_cp y_cA y_cB y_1X y_1Y y_2X y_2Y y_tm y_cells a_mtape a_flood a_going a_field a_from a_mcrowds a_steps a_queue a_letter a_lineX a_lineY a_triedAt a_cellAt a_besideIn a_apart a_drawer a_mkept a_listed a_mkin a_tried a_takenAt a_waysOf H) (hS : va_S (fun q : Nat => s.heap.size ≤ q) s.heap H locs) (hl : lv_has ls 4 [(3, .int v3), (0, .ref b), (1, .ref (ad 0)), (2, .ref (am 0))]) (next : ∀ (H : Heap) (locs : List Loc) (ls : Array Slot) {x_fed x_tk x_col x_line x_rcells x_rsize x_len x_cuts x_bare x_place x_lA x_lB x_lC x_fX x_fY x_sX x_sY x_made x_fsize x_psize x_over x_touch x_most x_mU x_mV x_area : Int32} {x_board : Int64} {a_tape a_letters a_oneSided a_free a_ends a_crowds a_wmade a_firsts a_widths a_heights a_places a_next a_pnear a_table a_overlaps : Nat → Int32} {a_drawers a_kept a_items a_numbers a_marks a_near a_figures a_covered a_pcells a_matrix : Nat → Int64} {y_km y_tp y_goes y_kin y_qd y_sides y_cuts y_flat y_cp y_cA y_cB y_1X y_1Y y_2X y_2Y y_tm y_cells : Int32} {a_mtape a_flood a_going a_field a_from a_mcrowds a_steps a_queue a_letter a_lineX a_lineY a_triedAt a_cellAt a_besideIn a_apart : Nat → Int32} {a_drawer a_mkept a_listed a_mkin a_tried a_takenAt a_waysOf : Nat → Int64}, lv_has ls 4 [(3, .int v3), (0, .ref b), (1, .ref (ad 0)), (2, .ref (am 0))] → INV x_fed x_tk x_col x_line x_rcells x_rsize x_len x_cuts x_bare x_place x_lA x_lB x_lC x_fX x_fY x_sX x_sY x_made x_fsize x_psize x_over x_touch x_most x_mU x_mV x_area x_board a_tape a_letters a_oneSided a_free a_ends a_crowds a_wmade a_firsts a_widths a_heights a_places a_next a_pnear a_table a_overlaps a_drawers a_kept a_items a_numbers a_marks a_near a_figures a_covered a_pcells a_matrix y_km y_tp y_goes y_kin y_qd y_sides y_cuts y_flat y_cp y_cA y_cB y_1X y_1Y y_2X y_2Y y_tm y_cells a_mtape a_flood a_going a_field a_from a_mcrowds a_steps a_queue a_letter a_lineX a_lineY a_triedAt a_cellAt a_besideIn a_apart a_drawer a_mkept a_listed a_mkin a_tried a_takenAt a_waysOf → cP D ct ad x_fed x_tk x_col x_line x_rcells x_rsize x_len x_cuts x_bare x_place x_lA x_lB x_lC x_fX x_fY x_sX x_sY x_made x_fsize x_psize x_over x_touch x_most x_mU x_mV x_area x_board a_tape a_letters a_oneSided a_free a_ends a_crowds a_wmade a_firsts a_widths a_heights a_places a_next a_pnear a_table a_overlaps a_drawers a_kept a_items a_numbers a_marks a_near a_figures a_covered a_pcells a_matrix H → mP D ct am y_km y_tp y_goes y_kin y_qd y_sides y_cuts y_flat y_cp y_cA y_cB y_1X y_1Y y_2X y_2Y y_tm y_cells a_mtape a_flood a_going a_field a_from a_mcrowds a_steps a_queue a_letter a_lineX a_lineY a_triedAt a_cellAt a_besideIn a_apart a_drawer a_mkept a_listed a_mkin a_tried a_takenAt a_waysOf H → va_S (fun q : Nat => s.heap.size ≤ q) s.heap H locs → W p l e room_1 s m #[Value.ref b] below meth c H locs 57 17144 (lw_Z below #[Value.ref b] s) (F0 m 1844 ls [])) : W p l e room_1 s m #[Value.ref b] below meth c H locs 57 17144 (lw_Z below #[Value.ref b] s) (F0 m 1692 ls []) := by
  refine lv_aload_n hx hb dL_law_1692 rfl (lv_at hl 2 rfl) ?_
  refine lv_aload_n hx hb dL_law_1693 rfl (lv_at hl 1 rfl) ?_
  refine lv_iload_n hx hb dL_law_1694 rfl (lv_at hl 0 rfl) ?_
  refine lv_iconst (v := 1) hx hb dL_law_1695 ki_1 ?_
  refine lv_iadd hx hb dL_law_1696 ?_
  refine va_sld hx hb hX hbl hbA hS hi1 dL_law_1697 ?_
  refine lv_aload_n hx hb dL_law_1698 rfl (lv_at hl 1 rfl) ?_
  refine lv_iload_n hx hb dL_law_1699 rfl (lv_at hl 0 rfl) ?_
  refine lv_iconst (v := 2) hx hb dL_law_1700 ki_2 ?_
  refine lv_iadd hx hb dL_law_1701 ?_
  refine va_sld hx hb hX hbl hbA hS hi2 dL_law_1702 ?_
  obtain ⟨r, zc_a_drawers, zm_a_drawer, hc, hm, hinv⟩ := hop (xs (v3 + 1).toNatClampNeg) (xs (v3 + 2).toNatClampNeg) hinv
  refine hv_i hx hb hml hown hw cB_bl (cB_of hN hK hP) (cr_CF hK hP) (c_cf_swap l D ct ad hI (xs (v3 + 1).toNatClampNeg) (xs (v3 + 2).toNatClampNeg) r zc_a_drawers hc) g_RL_162 ⟨rfl, hd_X11_swap⟩ (rest := []) hl.1 hS hcA dL_law_1703 rfl rfl ⟨Nat.le_of_ble_eq_true rfl, Nat.le_of_ble_eq_true rfl⟩ rfl rfl (Nat.le_of_ble_eq_true rfl) ⟨Nat.le_of_ble_eq_true rfl, Nat.le_of_ble_eq_true rfl⟩ (fun H1 locs hP hk hS => ?_)
  replace hQ := mP_keptA hQ hk hap
  clear hk
  refine lv_aload_n hx hb dL_law_1706 rfl (lv_at hl 3 rfl) ?_
  refine lv_aload_n hx hb dL_law_1707 rfl (lv_at hl 1 rfl) ?_
  refine lv_iload_n hx hb dL_law_1708 rfl (lv_at hl 0 rfl) ?_
  refine lv_iconst (v := 1) hx hb dL_law_1709 ki_1 ?_
  refine lv_iadd hx hb dL_law_1710 ?_
  refine va_sld hx hb hX hbl hbA hS hi1 dL_law_1711 ?_
  refine lv_aload_n hx hb dL_law_1712 rfl (lv_at hl 1 rfl) ?_
  refine lv_iload_n hx hb dL_law_1713 rfl (lv_at hl 0 rfl) ?_
  refine lv_iconst (v := 2) hx hb dL_law_1714 ki_2 ?_
  refine lv_iadd hx hb dL_law_1715 ?_
  refine va_sld hx hb hX hbl hbA hS hi2 dL_law_1716 ?_
  refine hv_i hx hb hml hown hw mB_bl (mB_of hN hK hQ) (mr_MO hK hQ) (c_mo_swap l D ct am hJ (xs (v3 + 1).toNatClampNeg) (xs (v3 + 2).toNatClampNeg) r zm_a_drawer hm) g_RL_165 ⟨rfl, hd_X12_swap⟩ (rest := [.int r]) hl.1 hS hmA dL_law_1717 rfl rfl ⟨Nat.le_of_ble_eq_true rfl, Nat.le_of_ble_eq_true rfl⟩ rfl rfl (Nat.le_of_ble_eq_true rfl) ⟨Nat.le_of_ble_eq_true rfl, Nat.le_of_ble_eq_true rfl⟩ (fun H2 locs hQ hk hS => ?_)
  replace hP := cP_keptA hP hk hap2
  refine lv_icmp_eq hx hb dL_law_1720 (tgt := 1844) rfl (fun _ => ?_) (fun hc => absurd rfl hc)
  exact next _ _ _ hl hinv hP hQ hS
set_option maxHeartbeats 4000000 in
set_option maxRecDepth 100000 in
theorem lawc_share {INV : INVT} (hop : OP_share INV) {p : Program} {l : Launch} {e : Env} {s : State} {m : MethodId} {below : List Frame} {meth : Method} {c : Code} {H : Heap} {locs : List Loc} {ls : Array Slot} {b L : Nat} {xs : Nat → Int32} {v3 : Int32} {D : va_G} {ct : Nat → ClassId} {ad am : Nat → Nat} {x_fed x_tk x_col x_line x_rcells x_rsize x_len x_cuts x_bare x_place x_lA x_lB x_lC x_fX x_fY x_sX x_sY x_made x_fsize x_psize x_over x_touch x_most x_mU x_mV x_area : Int32} {x_board : Int64} {a_tape a_letters a_oneSided a_free a_ends a_crowds a_wmade a_firsts a_widths a_heights a_places a_next a_pnear a_table a_overlaps : Nat → Int32} {a_drawers a_kept a_items a_numbers a_marks a_near a_figures a_covered a_pcells a_matrix : Nat → Int64} {y_km y_tp y_goes y_kin y_qd y_sides y_cuts y_flat y_cp y_cA y_cB y_1X y_1Y y_2X y_2Y y_tm y_cells : Int32} {a_mtape a_flood a_going a_field a_from a_mcrowds a_steps a_queue a_letter a_lineX a_lineY a_triedAt a_cellAt a_besideIn a_apart : Nat → Int32} {a_drawer a_mkept a_listed a_mkin a_tried a_takenAt a_waysOf : Nat → Int64} (hx : p.tables.exec = Jvm.exec) (hb : c.code = code) (hml : c.maxLocals = 4) (hown : s.vm.findClass RL = some m.cls) (hw : ∀ w ∈ wsL_law, w.before #[Value.ref b] s = true) (hN : NW s) (hK : KK D ct s) (hX : va_X b L xs s s.heap) (hbl : b < s.heap.size) (hbA : ¬ s.heap.size ≤ b) (hI : cI ad) (hJ : mI am) (hcA : ∀ q, cA ad q → s.heap.size ≤ q) (hmA : ∀ q, mA am q → s.heap.size ≤ q) (hap : ∀ q, mA am q → ¬ cA ad q) (hap2 : ∀ q, cA ad q → ¬ mA am q) (hi1 : vp_in (v3 + 1) L) (hi2 : vp_in (v3 + 2) L) (hi3 : vp_in (v3 + 3) L) (hi4 : vp_in (v3 + 4) L) (hi5 : vp_in (v3 + 5) L) (hi6 : vp_in (v3 + 6) L) (hinv : INV x_fed x_tk x_col x_line x_rcells x_rsize x_len x_cuts x_bare x_place x_lA x_lB x_lC x_fX x_fY x_sX x_sY x_made x_fsize x_psize x_over x_touch x_most x_mU x_mV x_area x_board a_tape a_letters a_oneSided a_free a_ends a_crowds a_wmade a_firsts a_widths a_heights a_places a_next a_pnear a_table a_overlaps a_drawers a_kept a_items a_numbers a_marks a_near a_figures a_covered a_pcells a_matrix y_km y_tp y_goes y_kin y_qd y_sides y_cuts y_flat y_cp y_cA y_cB y_1X y_1Y y_2X y_2Y y_tm y_cells a_mtape a_flood a_going a_field a_from a_mcrowds a_steps a_queue a_letter a_lineX a_lineY a_triedAt a_cellAt a_besideIn a_apart a_drawer a_mkept a_listed a_mkin a_tried a_takenAt a_waysOf) (hP : cP D ct ad x_fed x_tk x_col x_line x_rcells x_rsize x_len x_cuts x_bare x_place x_lA x_lB x_lC x_fX x_fY x_sX x_sY x_made x_fsize x_psize x_over x_touch x_most x_mU x_mV x_area x_board a_tape a_letters a_oneSided a_free a_ends a_crowds a_wmade a_firsts a_widths a_heights a_places a_next a_pnear a_table a_overlaps a_drawers a_kept a_items a_numbers a_marks a_near a_figures a_covered a_pcells a_matrix H) (hQ : mP D ct am y_km y_tp y_goes y_kin y_qd y_sides y_cuts y_flat y_cp y_cA y_cB y_1X y_1Y y_2X y_2Y y_tm y_cells a_mtape a_flood a_going a_field a_from a_mcrowds a_steps a_queue a_letter a_lineX a_lineY a_triedAt a_cellAt a_besideIn a_apart a_drawer a_mkept a_listed a_mkin a_tried a_takenAt a_waysOf H) (hS : va_S (fun q : Nat => s.heap.size ≤ q) s.heap H locs) (hl : lv_has ls 4 [(3, .int v3), (0, .ref b), (1, .ref (ad 0)), (2, .ref (am 0))]) (next : ∀ (H : Heap) (locs : List Loc) (ls : Array Slot) {x_fed x_tk x_col x_line x_rcells x_rsize x_len x_cuts x_bare x_place x_lA x_lB x_lC x_fX x_fY x_sX x_sY x_made x_fsize x_psize x_over x_touch x_most x_mU x_mV x_area : Int32} {x_board : Int64} {a_tape a_letters a_oneSided a_free a_ends a_crowds a_wmade a_firsts a_widths a_heights a_places a_next a_pnear a_table a_overlaps : Nat → Int32} {a_drawers a_kept a_items a_numbers a_marks a_near a_figures a_covered a_pcells a_matrix : Nat → Int64} {y_km y_tp y_goes y_kin y_qd y_sides y_cuts y_flat y_cp y_cA y_cB y_1X y_1Y y_2X y_2Y y_tm y_cells : Int32} {a_mtape a_flood a_going a_field a_from a_mcrowds a_steps a_queue a_letter a_lineX a_lineY a_triedAt a_cellAt a_besideIn a_apart : Nat → Int32} {a_drawer a_mkept a_listed a_mkin a_tried a_takenAt a_waysOf : Nat → Int64}, lv_has ls 4 [(3, .int v3), (0, .ref b), (1, .ref (ad 0)), (2, .ref (am 0))] → INV x_fed x_tk x_col x_line x_rcells x_rsize x_len x_cuts x_bare x_place x_lA x_lB x_lC x_fX x_fY x_sX x_sY x_made x_fsize x_psize x_over x_touch x_most x_mU x_mV x_area x_board a_tape a_letters a_oneSided a_free a_ends a_crowds a_wmade a_firsts a_widths a_heights a_places a_next a_pnear a_table a_overlaps a_drawers a_kept a_items a_numbers a_marks a_near a_figures a_covered a_pcells a_matrix y_km y_tp y_goes y_kin y_qd y_sides y_cuts y_flat y_cp y_cA y_cB y_1X y_1Y y_2X y_2Y y_tm y_cells a_mtape a_flood a_going a_field a_from a_mcrowds a_steps a_queue a_letter a_lineX a_lineY a_triedAt a_cellAt a_besideIn a_apart a_drawer a_mkept a_listed a_mkin a_tried a_takenAt a_waysOf → cP D ct ad x_fed x_tk x_col x_line x_rcells x_rsize x_len x_cuts x_bare x_place x_lA x_lB x_lC x_fX x_fY x_sX x_sY x_made x_fsize x_psize x_over x_touch x_most x_mU x_mV x_area x_board a_tape a_letters a_oneSided a_free a_ends a_crowds a_wmade a_firsts a_widths a_heights a_places a_next a_pnear a_table a_overlaps a_drawers a_kept a_items a_numbers a_marks a_near a_figures a_covered a_pcells a_matrix H → mP D ct am y_km y_tp y_goes y_kin y_qd y_sides y_cuts y_flat y_cp y_cA y_cB y_1X y_1Y y_2X y_2Y y_tm y_cells a_mtape a_flood a_going a_field a_from a_mcrowds a_steps a_queue a_letter a_lineX a_lineY a_triedAt a_cellAt a_besideIn a_apart a_drawer a_mkept a_listed a_mkin a_tried a_takenAt a_waysOf H → va_S (fun q : Nat => s.heap.size ≤ q) s.heap H locs → W p l e room_1 s m #[Value.ref b] below meth c H locs 57 17144 (lw_Z below #[Value.ref b] s) (F0 m 1844 ls [])) : W p l e room_1 s m #[Value.ref b] below meth c H locs 57 17144 (lw_Z below #[Value.ref b] s) (F0 m 1725 ls []) := by
  refine lv_aload_n hx hb dL_law_1725 rfl (lv_at hl 2 rfl) ?_
  refine lv_aload_n hx hb dL_law_1726 rfl (lv_at hl 1 rfl) ?_
  refine lv_iload_n hx hb dL_law_1727 rfl (lv_at hl 0 rfl) ?_
  refine lv_iconst (v := 1) hx hb dL_law_1728 ki_1 ?_
  refine lv_iadd hx hb dL_law_1729 ?_
  refine va_sld hx hb hX hbl hbA hS hi1 dL_law_1730 ?_
  refine lv_aload_n hx hb dL_law_1731 rfl (lv_at hl 1 rfl) ?_
  refine lv_iload_n hx hb dL_law_1732 rfl (lv_at hl 0 rfl) ?_
  refine lv_iconst (v := 2) hx hb dL_law_1733 ki_2 ?_
  refine lv_iadd hx hb dL_law_1734 ?_
  refine va_sld hx hb hX hbl hbA hS hi2 dL_law_1735 ?_
  refine lv_aload_n hx hb dL_law_1736 rfl (lv_at hl 1 rfl) ?_
  refine lv_iload_n hx hb dL_law_1737 rfl (lv_at hl 0 rfl) ?_
  refine lv_iconst (v := 3) hx hb dL_law_1738 ki_3 ?_
  refine lv_iadd hx hb dL_law_1739 ?_
  refine va_sld hx hb hX hbl hbA hS hi3 dL_law_1740 ?_
  refine lv_aload_n hx hb dL_law_1741 rfl (lv_at hl 1 rfl) ?_
  refine lv_iload_n hx hb dL_law_1742 rfl (lv_at hl 0 rfl) ?_
  refine lv_iconst (v := 4) hx hb dL_law_1743 ki_4 ?_
  refine lv_iadd hx hb dL_law_1744 ?_
  refine va_sld hx hb hX hbl hbA hS hi4 dL_law_1745 ?_
  obtain ⟨r, hc, hm, hinv⟩ := hop (xs (v3 + 1).toNatClampNeg) (xs (v3 + 2).toNatClampNeg) (xs (v3 + 3).toNatClampNeg) (xs (v3 + 4).toNatClampNeg) hinv
  refine hv_i hx hb hml hown hw cB_bl (cB_of hN hK hP) (cr_CF hK hP) (c_cf_share l D ct ad hI (xs (v3 + 1).toNatClampNeg) (xs (v3 + 2).toNatClampNeg) (xs (v3 + 3).toNatClampNeg) (xs (v3 + 4).toNatClampNeg) r hc) g_RL_166 ⟨rfl, hd_X11_share⟩ (rest := []) hl.1 hS hcA dL_law_1746 rfl rfl ⟨Nat.le_of_ble_eq_true rfl, Nat.le_of_ble_eq_true rfl⟩ rfl rfl (Nat.le_of_ble_eq_true rfl) ⟨Nat.le_of_ble_eq_true rfl, Nat.le_of_ble_eq_true rfl⟩ (fun H1 locs hP hk hS => ?_)
  replace hQ := mP_keptA hQ hk hap
  clear hk
  refine lv_aload_n hx hb dL_law_1749 rfl (lv_at hl 3 rfl) ?_
  refine lv_aload_n hx hb dL_law_1750 rfl (lv_at hl 1 rfl) ?_
  refine lv_iload_n hx hb dL_law_1751 rfl (lv_at hl 0 rfl) ?_
  refine lv_iconst (v := 1) hx hb dL_law_1752 ki_1 ?_
  refine lv_iadd hx hb dL_law_1753 ?_
  refine va_sld hx hb hX hbl hbA hS hi1 dL_law_1754 ?_
  refine lv_aload_n hx hb dL_law_1755 rfl (lv_at hl 1 rfl) ?_
  refine lv_iload_n hx hb dL_law_1756 rfl (lv_at hl 0 rfl) ?_
  refine lv_iconst (v := 2) hx hb dL_law_1757 ki_2 ?_
  refine lv_iadd hx hb dL_law_1758 ?_
  refine va_sld hx hb hX hbl hbA hS hi2 dL_law_1759 ?_
  refine lv_aload_n hx hb dL_law_1760 rfl (lv_at hl 1 rfl) ?_
  refine lv_iload_n hx hb dL_law_1761 rfl (lv_at hl 0 rfl) ?_
  refine lv_iconst (v := 3) hx hb dL_law_1762 ki_3 ?_
  refine lv_iadd hx hb dL_law_1763 ?_
  refine va_sld hx hb hX hbl hbA hS hi3 dL_law_1764 ?_
  refine lv_aload_n hx hb dL_law_1765 rfl (lv_at hl 1 rfl) ?_
  refine lv_iload_n hx hb dL_law_1766 rfl (lv_at hl 0 rfl) ?_
  refine lv_iconst (v := 4) hx hb dL_law_1767 ki_4 ?_
  refine lv_iadd hx hb dL_law_1768 ?_
  refine va_sld hx hb hX hbl hbA hS hi4 dL_law_1769 ?_
  refine hv_i hx hb hml hown hw mB_bl (mB_of hN hK hQ) (mr_MO hK hQ) (c_mo_share l D ct am hJ (xs (v3 + 1).toNatClampNeg) (xs (v3 + 2).toNatClampNeg) (xs (v3 + 3).toNatClampNeg) (xs (v3 + 4).toNatClampNeg) r hm) g_RL_169 ⟨rfl, hd_X12_share⟩ (rest := [.int r]) hl.1 hS hmA dL_law_1770 rfl rfl ⟨Nat.le_of_ble_eq_true rfl, Nat.le_of_ble_eq_true rfl⟩ rfl rfl (Nat.le_of_ble_eq_true rfl) ⟨Nat.le_of_ble_eq_true rfl, Nat.le_of_ble_eq_true rfl⟩ (fun H2 locs hQ hk hS => ?_)
  replace hP := cP_keptA hP hk hap2
  refine lv_icmp_eq hx hb dL_law_1773 (tgt := 1844) rfl (fun _ => ?_) (fun hc => absurd rfl hc)
  exact next _ _ _ hl hinv hP hQ hS
set_option maxHeartbeats 4000000 in
set_option maxRecDepth 100000 in
theorem lawc_touch {INV : INVT} (hop : OP_touch INV) {p : Program} {l : Launch} {e : Env} {s : State} {m : MethodId} {below : List Frame} {meth : Method} {c : Code} {H : Heap} {locs : List Loc} {ls : Array Slot} {b L : Nat} {xs : Nat → Int32} {v3 : Int32} {D : va_G} {ct : Nat → ClassId} {ad am : Nat → Nat} {x_fed x_tk x_col x_line x_rcells x_rsize x_len x_cuts x_bare x_place x_lA x_lB x_lC x_fX x_fY x_sX x_sY x_made x_fsize x_psize x_over x_touch x_most x_mU x_mV x_area : Int32} {x_board : Int64} {a_tape a_letters a_oneSided a_free a_ends a_crowds a_wmade a_firsts a_widths a_heights a_places a_next a_pnear a_table a_overlaps : Nat → Int32} {a_drawers a_kept a_items a_numbers a_marks a_near a_figures a_covered a_pcells a_matrix : Nat → Int64} {y_km y_tp y_goes y_kin y_qd y_sides y_cuts y_flat y_cp y_cA y_cB y_1X y_1Y y_2X y_2Y y_tm y_cells : Int32} {a_mtape a_flood a_going a_field a_from a_mcrowds a_steps a_queue a_letter a_lineX a_lineY a_triedAt a_cellAt a_besideIn a_apart : Nat → Int32} {a_drawer a_mkept a_listed a_mkin a_tried a_takenAt a_waysOf : Nat → Int64} (hx : p.tables.exec = Jvm.exec) (hb : c.code = code) (hml : c.maxLocals = 4) (hown : s.vm.findClass RL = some m.cls) (hw : ∀ w ∈ wsL_law, w.before #[Value.ref b] s = true) (hN : NW s) (hK : KK D ct s) (hX : va_X b L xs s s.heap) (hbl : b < s.heap.size) (hbA : ¬ s.heap.size ≤ b) (hI : cI ad) (hJ : mI am) (hcA : ∀ q, cA ad q → s.heap.size ≤ q) (hmA : ∀ q, mA am q → s.heap.size ≤ q) (hap : ∀ q, mA am q → ¬ cA ad q) (hap2 : ∀ q, cA ad q → ¬ mA am q) (hi1 : vp_in (v3 + 1) L) (hi2 : vp_in (v3 + 2) L) (hi3 : vp_in (v3 + 3) L) (hi4 : vp_in (v3 + 4) L) (hi5 : vp_in (v3 + 5) L) (hi6 : vp_in (v3 + 6) L) (hinv : INV x_fed x_tk x_col x_line x_rcells x_rsize x_len x_cuts x_bare x_place x_lA x_lB x_lC x_fX x_fY x_sX x_sY x_made x_fsize x_psize x_over x_touch x_most x_mU x_mV x_area x_board a_tape a_letters a_oneSided a_free a_ends a_crowds a_wmade a_firsts a_widths a_heights a_places a_next a_pnear a_table a_overlaps a_drawers a_kept a_items a_numbers a_marks a_near a_figures a_covered a_pcells a_matrix y_km y_tp y_goes y_kin y_qd y_sides y_cuts y_flat y_cp y_cA y_cB y_1X y_1Y y_2X y_2Y y_tm y_cells a_mtape a_flood a_going a_field a_from a_mcrowds a_steps a_queue a_letter a_lineX a_lineY a_triedAt a_cellAt a_besideIn a_apart a_drawer a_mkept a_listed a_mkin a_tried a_takenAt a_waysOf) (hP : cP D ct ad x_fed x_tk x_col x_line x_rcells x_rsize x_len x_cuts x_bare x_place x_lA x_lB x_lC x_fX x_fY x_sX x_sY x_made x_fsize x_psize x_over x_touch x_most x_mU x_mV x_area x_board a_tape a_letters a_oneSided a_free a_ends a_crowds a_wmade a_firsts a_widths a_heights a_places a_next a_pnear a_table a_overlaps a_drawers a_kept a_items a_numbers a_marks a_near a_figures a_covered a_pcells a_matrix H) (hQ : mP D ct am y_km y_tp y_goes y_kin y_qd y_sides y_cuts y_flat y_cp y_cA y_cB y_1X y_1Y y_2X y_2Y y_tm y_cells a_mtape a_flood a_going a_field a_from a_mcrowds a_steps a_queue a_letter a_lineX a_lineY a_triedAt a_cellAt a_besideIn a_apart a_drawer a_mkept a_listed a_mkin a_tried a_takenAt a_waysOf H) (hS : va_S (fun q : Nat => s.heap.size ≤ q) s.heap H locs) (hl : lv_has ls 4 [(3, .int v3), (0, .ref b), (1, .ref (ad 0)), (2, .ref (am 0))]) (next : ∀ (H : Heap) (locs : List Loc) (ls : Array Slot) {x_fed x_tk x_col x_line x_rcells x_rsize x_len x_cuts x_bare x_place x_lA x_lB x_lC x_fX x_fY x_sX x_sY x_made x_fsize x_psize x_over x_touch x_most x_mU x_mV x_area : Int32} {x_board : Int64} {a_tape a_letters a_oneSided a_free a_ends a_crowds a_wmade a_firsts a_widths a_heights a_places a_next a_pnear a_table a_overlaps : Nat → Int32} {a_drawers a_kept a_items a_numbers a_marks a_near a_figures a_covered a_pcells a_matrix : Nat → Int64} {y_km y_tp y_goes y_kin y_qd y_sides y_cuts y_flat y_cp y_cA y_cB y_1X y_1Y y_2X y_2Y y_tm y_cells : Int32} {a_mtape a_flood a_going a_field a_from a_mcrowds a_steps a_queue a_letter a_lineX a_lineY a_triedAt a_cellAt a_besideIn a_apart : Nat → Int32} {a_drawer a_mkept a_listed a_mkin a_tried a_takenAt a_waysOf : Nat → Int64}, lv_has ls 4 [(3, .int v3), (0, .ref b), (1, .ref (ad 0)), (2, .ref (am 0))] → INV x_fed x_tk x_col x_line x_rcells x_rsize x_len x_cuts x_bare x_place x_lA x_lB x_lC x_fX x_fY x_sX x_sY x_made x_fsize x_psize x_over x_touch x_most x_mU x_mV x_area x_board a_tape a_letters a_oneSided a_free a_ends a_crowds a_wmade a_firsts a_widths a_heights a_places a_next a_pnear a_table a_overlaps a_drawers a_kept a_items a_numbers a_marks a_near a_figures a_covered a_pcells a_matrix y_km y_tp y_goes y_kin y_qd y_sides y_cuts y_flat y_cp y_cA y_cB y_1X y_1Y y_2X y_2Y y_tm y_cells a_mtape a_flood a_going a_field a_from a_mcrowds a_steps a_queue a_letter a_lineX a_lineY a_triedAt a_cellAt a_besideIn a_apart a_drawer a_mkept a_listed a_mkin a_tried a_takenAt a_waysOf → cP D ct ad x_fed x_tk x_col x_line x_rcells x_rsize x_len x_cuts x_bare x_place x_lA x_lB x_lC x_fX x_fY x_sX x_sY x_made x_fsize x_psize x_over x_touch x_most x_mU x_mV x_area x_board a_tape a_letters a_oneSided a_free a_ends a_crowds a_wmade a_firsts a_widths a_heights a_places a_next a_pnear a_table a_overlaps a_drawers a_kept a_items a_numbers a_marks a_near a_figures a_covered a_pcells a_matrix H → mP D ct am y_km y_tp y_goes y_kin y_qd y_sides y_cuts y_flat y_cp y_cA y_cB y_1X y_1Y y_2X y_2Y y_tm y_cells a_mtape a_flood a_going a_field a_from a_mcrowds a_steps a_queue a_letter a_lineX a_lineY a_triedAt a_cellAt a_besideIn a_apart a_drawer a_mkept a_listed a_mkin a_tried a_takenAt a_waysOf H → va_S (fun q : Nat => s.heap.size ≤ q) s.heap H locs → W p l e room_1 s m #[Value.ref b] below meth c H locs 57 17144 (lw_Z below #[Value.ref b] s) (F0 m 1844 ls [])) : W p l e room_1 s m #[Value.ref b] below meth c H locs 57 17144 (lw_Z below #[Value.ref b] s) (F0 m 1778 ls []) := by
  refine lv_aload_n hx hb dL_law_1778 rfl (lv_at hl 2 rfl) ?_
  refine lv_aload_n hx hb dL_law_1779 rfl (lv_at hl 1 rfl) ?_
  refine lv_iload_n hx hb dL_law_1780 rfl (lv_at hl 0 rfl) ?_
  refine lv_iconst (v := 1) hx hb dL_law_1781 ki_1 ?_
  refine lv_iadd hx hb dL_law_1782 ?_
  refine va_sld hx hb hX hbl hbA hS hi1 dL_law_1783 ?_
  refine lv_aload_n hx hb dL_law_1784 rfl (lv_at hl 1 rfl) ?_
  refine lv_iload_n hx hb dL_law_1785 rfl (lv_at hl 0 rfl) ?_
  refine lv_iconst (v := 2) hx hb dL_law_1786 ki_2 ?_
  refine lv_iadd hx hb dL_law_1787 ?_
  refine va_sld hx hb hX hbl hbA hS hi2 dL_law_1788 ?_
  refine lv_aload_n hx hb dL_law_1789 rfl (lv_at hl 1 rfl) ?_
  refine lv_iload_n hx hb dL_law_1790 rfl (lv_at hl 0 rfl) ?_
  refine lv_iconst (v := 3) hx hb dL_law_1791 ki_3 ?_
  refine lv_iadd hx hb dL_law_1792 ?_
  refine va_sld hx hb hX hbl hbA hS hi3 dL_law_1793 ?_
  obtain ⟨r, zc_x_over, zc_x_touch, zc_x_most, zc_x_mU, zc_x_mV, zc_x_area, zc_a_overlaps, hc, hm, hinv⟩ := hop (xs (v3 + 1).toNatClampNeg) (xs (v3 + 2).toNatClampNeg) (xs (v3 + 3).toNatClampNeg) hinv
  refine hv_i hx hb hml hown hw cB_bl (cB_of hN hK hP) (cr_CF hK hP) (c_cf_touch l D ct ad hI (xs (v3 + 1).toNatClampNeg) (xs (v3 + 2).toNatClampNeg) (xs (v3 + 3).toNatClampNeg) r zc_x_over zc_x_touch zc_x_most zc_x_mU zc_x_mV zc_x_area zc_a_overlaps hc) g_RL_170 ⟨rfl, hd_X11_touch⟩ (rest := []) hl.1 hS hcA dL_law_1794 rfl rfl ⟨Nat.le_of_ble_eq_true rfl, Nat.le_of_ble_eq_true rfl⟩ rfl rfl (Nat.le_of_ble_eq_true rfl) ⟨Nat.le_of_ble_eq_true rfl, Nat.le_of_ble_eq_true rfl⟩ (fun H1 locs hP hk hS => ?_)
  replace hQ := mP_keptA hQ hk hap
  clear hk
  refine lv_aload_n hx hb dL_law_1797 rfl (lv_at hl 3 rfl) ?_
  refine lv_aload_n hx hb dL_law_1798 rfl (lv_at hl 1 rfl) ?_
  refine lv_iload_n hx hb dL_law_1799 rfl (lv_at hl 0 rfl) ?_
  refine lv_iconst (v := 1) hx hb dL_law_1800 ki_1 ?_
  refine lv_iadd hx hb dL_law_1801 ?_
  refine va_sld hx hb hX hbl hbA hS hi1 dL_law_1802 ?_
  refine lv_aload_n hx hb dL_law_1803 rfl (lv_at hl 1 rfl) ?_
  refine lv_iload_n hx hb dL_law_1804 rfl (lv_at hl 0 rfl) ?_
  refine lv_iconst (v := 2) hx hb dL_law_1805 ki_2 ?_
  refine lv_iadd hx hb dL_law_1806 ?_
  refine va_sld hx hb hX hbl hbA hS hi2 dL_law_1807 ?_
  refine lv_aload_n hx hb dL_law_1808 rfl (lv_at hl 1 rfl) ?_
  refine lv_iload_n hx hb dL_law_1809 rfl (lv_at hl 0 rfl) ?_
  refine lv_iconst (v := 3) hx hb dL_law_1810 ki_3 ?_
  refine lv_iadd hx hb dL_law_1811 ?_
  refine va_sld hx hb hX hbl hbA hS hi3 dL_law_1812 ?_
  refine hv_i hx hb hml hown hw mB_bl (mB_of hN hK hQ) (mr_MO hK hQ) (c_mo_touch l D ct am hJ (xs (v3 + 1).toNatClampNeg) (xs (v3 + 2).toNatClampNeg) (xs (v3 + 3).toNatClampNeg) r hm) g_RL_173 ⟨rfl, hd_X12_touch⟩ (rest := [.int r]) hl.1 hS hmA dL_law_1813 rfl rfl ⟨Nat.le_of_ble_eq_true rfl, Nat.le_of_ble_eq_true rfl⟩ rfl rfl (Nat.le_of_ble_eq_true rfl) ⟨Nat.le_of_ble_eq_true rfl, Nat.le_of_ble_eq_true rfl⟩ (fun H2 locs hQ hk hS => ?_)
  replace hP := cP_keptA hP hk hap2
  refine lv_icmp_eq hx hb dL_law_1816 (tgt := 1844) rfl (fun _ => ?_) (fun hc => absurd rfl hc)
  exact next _ _ _ hl hinv hP hQ hS
set_option maxHeartbeats 4000000 in
set_option maxRecDepth 100000 in
theorem lawc_count {INV : INVT} (hop : OP_count INV) {p : Program} {l : Launch} {e : Env} {s : State} {m : MethodId} {below : List Frame} {meth : Method} {c : Code} {H : Heap} {locs : List Loc} {ls : Array Slot} {b L : Nat} {xs : Nat → Int32} {v3 : Int32} {D : va_G} {ct : Nat → ClassId} {ad am : Nat → Nat} {x_fed x_tk x_col x_line x_rcells x_rsize x_len x_cuts x_bare x_place x_lA x_lB x_lC x_fX x_fY x_sX x_sY x_made x_fsize x_psize x_over x_touch x_most x_mU x_mV x_area : Int32} {x_board : Int64} {a_tape a_letters a_oneSided a_free a_ends a_crowds a_wmade a_firsts a_widths a_heights a_places a_next a_pnear a_table a_overlaps : Nat → Int32} {a_drawers a_kept a_items a_numbers a_marks a_near a_figures a_covered a_pcells a_matrix : Nat → Int64} {y_km y_tp y_goes y_kin y_qd y_sides y_cuts y_flat y_cp y_cA y_cB y_1X y_1Y y_2X y_2Y y_tm y_cells : Int32} {a_mtape a_flood a_going a_field a_from a_mcrowds a_steps a_queue a_letter a_lineX a_lineY a_triedAt a_cellAt a_besideIn a_apart : Nat → Int32} {a_drawer a_mkept a_listed a_mkin a_tried a_takenAt a_waysOf : Nat → Int64} (hx : p.tables.exec = Jvm.exec) (hb : c.code = code) (hml : c.maxLocals = 4) (hown : s.vm.findClass RL = some m.cls) (hw : ∀ w ∈ wsL_law, w.before #[Value.ref b] s = true) (hN : NW s) (hK : KK D ct s) (hX : va_X b L xs s s.heap) (hbl : b < s.heap.size) (hbA : ¬ s.heap.size ≤ b) (hI : cI ad) (hJ : mI am) (hcA : ∀ q, cA ad q → s.heap.size ≤ q) (hmA : ∀ q, mA am q → s.heap.size ≤ q) (hap : ∀ q, mA am q → ¬ cA ad q) (hap2 : ∀ q, cA ad q → ¬ mA am q) (hi1 : vp_in (v3 + 1) L) (hi2 : vp_in (v3 + 2) L) (hi3 : vp_in (v3 + 3) L) (hi4 : vp_in (v3 + 4) L) (hi5 : vp_in (v3 + 5) L) (hi6 : vp_in (v3 + 6) L) (hinv : INV x_fed x_tk x_col x_line x_rcells x_rsize x_len x_cuts x_bare x_place x_lA x_lB x_lC x_fX x_fY x_sX x_sY x_made x_fsize x_psize x_over x_touch x_most x_mU x_mV x_area x_board a_tape a_letters a_oneSided a_free a_ends a_crowds a_wmade a_firsts a_widths a_heights a_places a_next a_pnear a_table a_overlaps a_drawers a_kept a_items a_numbers a_marks a_near a_figures a_covered a_pcells a_matrix y_km y_tp y_goes y_kin y_qd y_sides y_cuts y_flat y_cp y_cA y_cB y_1X y_1Y y_2X y_2Y y_tm y_cells a_mtape a_flood a_going a_field a_from a_mcrowds a_steps a_queue a_letter a_lineX a_lineY a_triedAt a_cellAt a_besideIn a_apart a_drawer a_mkept a_listed a_mkin a_tried a_takenAt a_waysOf) (hP : cP D ct ad x_fed x_tk x_col x_line x_rcells x_rsize x_len x_cuts x_bare x_place x_lA x_lB x_lC x_fX x_fY x_sX x_sY x_made x_fsize x_psize x_over x_touch x_most x_mU x_mV x_area x_board a_tape a_letters a_oneSided a_free a_ends a_crowds a_wmade a_firsts a_widths a_heights a_places a_next a_pnear a_table a_overlaps a_drawers a_kept a_items a_numbers a_marks a_near a_figures a_covered a_pcells a_matrix H) (hQ : mP D ct am y_km y_tp y_goes y_kin y_qd y_sides y_cuts y_flat y_cp y_cA y_cB y_1X y_1Y y_2X y_2Y y_tm y_cells a_mtape a_flood a_going a_field a_from a_mcrowds a_steps a_queue a_letter a_lineX a_lineY a_triedAt a_cellAt a_besideIn a_apart a_drawer a_mkept a_listed a_mkin a_tried a_takenAt a_waysOf H) (hS : va_S (fun q : Nat => s.heap.size ≤ q) s.heap H locs) (hl : lv_has ls 4 [(3, .int v3), (0, .ref b), (1, .ref (ad 0)), (2, .ref (am 0))]) (next : ∀ (H : Heap) (locs : List Loc) (ls : Array Slot) {x_fed x_tk x_col x_line x_rcells x_rsize x_len x_cuts x_bare x_place x_lA x_lB x_lC x_fX x_fY x_sX x_sY x_made x_fsize x_psize x_over x_touch x_most x_mU x_mV x_area : Int32} {x_board : Int64} {a_tape a_letters a_oneSided a_free a_ends a_crowds a_wmade a_firsts a_widths a_heights a_places a_next a_pnear a_table a_overlaps : Nat → Int32} {a_drawers a_kept a_items a_numbers a_marks a_near a_figures a_covered a_pcells a_matrix : Nat → Int64} {y_km y_tp y_goes y_kin y_qd y_sides y_cuts y_flat y_cp y_cA y_cB y_1X y_1Y y_2X y_2Y y_tm y_cells : Int32} {a_mtape a_flood a_going a_field a_from a_mcrowds a_steps a_queue a_letter a_lineX a_lineY a_triedAt a_cellAt a_besideIn a_apart : Nat → Int32} {a_drawer a_mkept a_listed a_mkin a_tried a_takenAt a_waysOf : Nat → Int64}, lv_has ls 4 [(3, .int v3), (0, .ref b), (1, .ref (ad 0)), (2, .ref (am 0))] → INV x_fed x_tk x_col x_line x_rcells x_rsize x_len x_cuts x_bare x_place x_lA x_lB x_lC x_fX x_fY x_sX x_sY x_made x_fsize x_psize x_over x_touch x_most x_mU x_mV x_area x_board a_tape a_letters a_oneSided a_free a_ends a_crowds a_wmade a_firsts a_widths a_heights a_places a_next a_pnear a_table a_overlaps a_drawers a_kept a_items a_numbers a_marks a_near a_figures a_covered a_pcells a_matrix y_km y_tp y_goes y_kin y_qd y_sides y_cuts y_flat y_cp y_cA y_cB y_1X y_1Y y_2X y_2Y y_tm y_cells a_mtape a_flood a_going a_field a_from a_mcrowds a_steps a_queue a_letter a_lineX a_lineY a_triedAt a_cellAt a_besideIn a_apart a_drawer a_mkept a_listed a_mkin a_tried a_takenAt a_waysOf → cP D ct ad x_fed x_tk x_col x_line x_rcells x_rsize x_len x_cuts x_bare x_place x_lA x_lB x_lC x_fX x_fY x_sX x_sY x_made x_fsize x_psize x_over x_touch x_most x_mU x_mV x_area x_board a_tape a_letters a_oneSided a_free a_ends a_crowds a_wmade a_firsts a_widths a_heights a_places a_next a_pnear a_table a_overlaps a_drawers a_kept a_items a_numbers a_marks a_near a_figures a_covered a_pcells a_matrix H → mP D ct am y_km y_tp y_goes y_kin y_qd y_sides y_cuts y_flat y_cp y_cA y_cB y_1X y_1Y y_2X y_2Y y_tm y_cells a_mtape a_flood a_going a_field a_from a_mcrowds a_steps a_queue a_letter a_lineX a_lineY a_triedAt a_cellAt a_besideIn a_apart a_drawer a_mkept a_listed a_mkin a_tried a_takenAt a_waysOf H → va_S (fun q : Nat => s.heap.size ≤ q) s.heap H locs → W p l e room_1 s m #[Value.ref b] below meth c H locs 57 17144 (lw_Z below #[Value.ref b] s) (F0 m 1844 ls [])) : W p l e room_1 s m #[Value.ref b] below meth c H locs 57 17144 (lw_Z below #[Value.ref b] s) (F0 m 1821 ls []) := by
  refine lv_aload_n hx hb dL_law_1821 rfl (lv_at hl 2 rfl) ?_
  refine lv_aload_n hx hb dL_law_1822 rfl (lv_at hl 1 rfl) ?_
  refine lv_iload_n hx hb dL_law_1823 rfl (lv_at hl 0 rfl) ?_
  refine lv_iconst (v := 1) hx hb dL_law_1824 ki_1 ?_
  refine lv_iadd hx hb dL_law_1825 ?_
  refine va_sld hx hb hX hbl hbA hS hi1 dL_law_1826 ?_
  obtain ⟨r, hc, hm, hinv⟩ := hop (xs (v3 + 1).toNatClampNeg) hinv
  refine hv_i hx hb hml hown hw cB_bl (cB_of hN hK hP) (cr_CF hK hP) (c_cf_count l D ct ad hI (xs (v3 + 1).toNatClampNeg) r hc) g_RL_174 ⟨rfl, hd_X11_count⟩ (rest := []) hl.1 hS hcA dL_law_1827 rfl rfl ⟨Nat.le_of_ble_eq_true rfl, Nat.le_of_ble_eq_true rfl⟩ rfl rfl (Nat.le_of_ble_eq_true rfl) ⟨Nat.le_of_ble_eq_true rfl, Nat.le_of_ble_eq_true rfl⟩ (fun H1 locs hP hk hS => ?_)
  replace hQ := mP_keptA hQ hk hap
  clear hk
  refine lv_aload_n hx hb dL_law_1830 rfl (lv_at hl 3 rfl) ?_
  refine lv_aload_n hx hb dL_law_1831 rfl (lv_at hl 1 rfl) ?_
  refine lv_iload_n hx hb dL_law_1832 rfl (lv_at hl 0 rfl) ?_
  refine lv_iconst (v := 1) hx hb dL_law_1833 ki_1 ?_
  refine lv_iadd hx hb dL_law_1834 ?_
  refine va_sld hx hb hX hbl hbA hS hi1 dL_law_1835 ?_
  refine hv_i hx hb hml hown hw mB_bl (mB_of hN hK hQ) (mr_MO hK hQ) (c_mo_count l D ct am hJ (xs (v3 + 1).toNatClampNeg) r hm) g_RL_177 ⟨rfl, hd_X12_count⟩ (rest := [.int r]) hl.1 hS hmA dL_law_1836 rfl rfl ⟨Nat.le_of_ble_eq_true rfl, Nat.le_of_ble_eq_true rfl⟩ rfl rfl (Nat.le_of_ble_eq_true rfl) ⟨Nat.le_of_ble_eq_true rfl, Nat.le_of_ble_eq_true rfl⟩ (fun H2 locs hQ hk hS => ?_)
  replace hP := cP_keptA hP hk hap2
  refine lv_icmp_eq hx hb dL_law_1839 (tgt := 1844) rfl (fun _ => ?_) (fun hc => absurd rfl hc)
  exact next _ _ _ hl hinv hP hQ hS
