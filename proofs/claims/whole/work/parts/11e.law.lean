def OPS (INV : INVT) : Prop := OP_feed INV ∧ OP_figure INV ∧ OP_put INV ∧ OP_take INV ∧ OP_told INV ∧ OP_cell INV ∧ OP_number INV ∧ OP_turn INV ∧ OP_alike INV ∧ OP_change INV ∧ OP_list INV ∧ OP_listed INV ∧ OP_place INV ∧ OP_many INV ∧ OP_found INV ∧ OP_crowd INV ∧ OP_kin INV ∧ OP_kinAt INV ∧ OP_way INV ∧ OP_farthest INV ∧ OP_drawn INV ∧ OP_line INV ∧ OP_tiles INV ∧ OP_tilers INV ∧ OP_fill INV ∧ OP_vector INV ∧ OP_owner INV ∧ OP_part INV ∧ OP_inside INV ∧ OP_common INV ∧ OP_keep INV ∧ OP_back INV ∧ OP_join INV ∧ OP_swap INV ∧ OP_share INV ∧ OP_touch INV ∧ OP_count INV
def OP_init (INV : INVT) : Prop := ∃ (z_y_kin : Int32) (z_a_listed : Nat → Int64) (z_a_mkin : Nat → Int64) (z_a_from : Nat → Int32), mo_laysLists 0 ((fun _ => 0)) ((fun _ => 0)) ((fun _ => 0)) = some (z_y_kin, z_a_listed, z_a_mkin, z_a_from) ∧ INV 0 0 0 0 0 0 0 0 0 0 0 0 0 0 0 0 0 0 0 0 0 0 0 0 0 0 0 ((fun _ => 0)) ((fun _ => 0)) ((fun _ => 0)) ((fun _ => 0)) ((fun _ => 0)) ((fun _ => 0)) ((fun _ => 0)) ((fun _ => 0)) ((fun _ => 0)) ((fun _ => 0)) ((fun _ => 0)) ((fun _ => 0)) ((fun _ => 0)) ((fun _ => 0)) ((fun _ => 0)) ((fun _ => 0)) ((fun _ => 0)) ((fun _ => 0)) ((fun _ => 0)) ((fun _ => 0)) ((fun _ => 0)) ((fun _ => 0)) ((fun _ => 0)) ((fun _ => 0)) ((fun _ => 0)) 0 0 0 z_y_kin 0 0 0 0 0 0 0 0 0 0 0 0 0 ((fun _ => 0)) ((fun _ => 0)) ((fun _ => 0)) ((fun _ => 0)) z_a_from ((fun _ => 0)) ((fun _ => 0)) ((fun _ => 0)) ((fun _ => 0)) ((fun _ => 0)) ((fun _ => 0)) ((fun _ => 0)) ((fun _ => 0)) ((fun _ => 0)) ((fun _ => 0)) ((fun _ => 0)) ((fun _ => 0)) z_a_listed z_a_mkin ((fun _ => 0)) ((fun _ => 0)) ((fun _ => 0))
theorem vin_add {k j L : Nat} (hj : k + j < L) (hL : L ≤ 3584) : vp_in (nI k + nI j) L := by
  rw [nI_add]; exact vp_in_nI hj (by omega)
theorem lw_cond {L k : Nat} (hL : L ≤ 3584) (hk : k ≤ L) (h : ¬ (Int32.ofNat L - 7 < nI k)) : k + 7 ≤ L := by
  have h1 : (nI k).toInt = (k : Int) := nI_toInt (by omega)
  have h2 : (Int32.ofNat L - 7).toInt = (L : Int) - 7 := by
    show (nI L - nI 7).toInt = _
    exact pk_sub_toInt (by omega) (by omega)
  rw [Int32.lt_iff_toInt_lt, h1, h2] at h
  omega
theorem lw_cond2 {L k : Nat} (hL : L ≤ 3584) (hk : k ≤ L) (h : Int32.ofNat L - 7 < nI k) : L < k + 7 := by
  have h1 : (nI k).toInt = (k : Int) := nI_toInt (by omega)
  have h2 : (Int32.ofNat L - 7).toInt = (L : Int) - 7 := by
    show (nI L - nI 7).toInt = _
    exact pk_sub_toInt (by omega) (by omega)
  rw [Int32.lt_iff_toInt_lt, h1, h2] at h
  omega
set_option maxHeartbeats 8000000 in
set_option maxRecDepth 100000 in
theorem law_loop {INV : INVT} (hops : OPS INV) {p : Program} {l : Launch} {e : Env} {s : State} {m : MethodId} {below : List Frame} {meth : Method} {c : Code} {b L : Nat} {xs : Nat → Int32} {D : va_G} {ct : Nat → ClassId} {ad am : Nat → Nat} (hL : L ≤ 3584) (hx : p.tables.exec = Jvm.exec) (hb : c.code = code) (hr : meth.sig.returnType = ret) (hlocks : meth.locks = false) (hml : c.maxLocals = 4) (hown : s.vm.findClass RL = some m.cls) (hw : ∀ w ∈ wsL_law, w.before #[Value.ref b] s = true) (hN : NW s) (hK : KK D ct s) (hX : va_X b L xs s s.heap) (hbl : b < s.heap.size) (hbA : ¬ s.heap.size ≤ b) (hI : cI ad) (hJ : mI am) (hcA : ∀ q, cA ad q → s.heap.size ≤ q) (hmA : ∀ q, mA am q → s.heap.size ≤ q) (hap : ∀ q, mA am q → ¬ cA ad q) (hap2 : ∀ q, cA ad q → ¬ mA am q) : ∀ (n k : Nat), k ≤ L → L + 1 ≤ k + n → ∀ (H : Heap) (locs : List Loc) (ls : Array Slot) {x_fed x_tk x_col x_line x_rcells x_rsize x_len x_cuts x_bare x_place x_lA x_lB x_lC x_fX x_fY x_sX x_sY x_made x_fsize x_psize x_over x_touch x_most x_mU x_mV x_area : Int32} {x_board : Int64} {a_tape a_letters a_oneSided a_free a_ends a_crowds a_wmade a_firsts a_widths a_heights a_places a_next a_pnear a_table a_overlaps : Nat → Int32} {a_drawers a_kept a_items a_numbers a_marks a_near a_figures a_covered a_pcells a_matrix : Nat → Int64} {y_km y_tp y_goes y_kin y_qd y_sides y_cuts y_flat y_cp y_cA y_cB y_1X y_1Y y_2X y_2Y y_tm y_cells : Int32} {a_mtape a_flood a_going a_field a_from a_mcrowds a_steps a_queue a_letter a_lineX a_lineY a_triedAt a_cellAt a_besideIn a_apart : Nat → Int32} {a_drawer a_mkept a_listed a_mkin a_tried a_takenAt a_waysOf : Nat → Int64}, lv_has ls 4 [(3, .int (nI k)), (0, .ref b), (1, .ref (ad 0)), (2, .ref (am 0))] → INV x_fed x_tk x_col x_line x_rcells x_rsize x_len x_cuts x_bare x_place x_lA x_lB x_lC x_fX x_fY x_sX x_sY x_made x_fsize x_psize x_over x_touch x_most x_mU x_mV x_area x_board a_tape a_letters a_oneSided a_free a_ends a_crowds a_wmade a_firsts a_widths a_heights a_places a_next a_pnear a_table a_overlaps a_drawers a_kept a_items a_numbers a_marks a_near a_figures a_covered a_pcells a_matrix y_km y_tp y_goes y_kin y_qd y_sides y_cuts y_flat y_cp y_cA y_cB y_1X y_1Y y_2X y_2Y y_tm y_cells a_mtape a_flood a_going a_field a_from a_mcrowds a_steps a_queue a_letter a_lineX a_lineY a_triedAt a_cellAt a_besideIn a_apart a_drawer a_mkept a_listed a_mkin a_tried a_takenAt a_waysOf → cP D ct ad x_fed x_tk x_col x_line x_rcells x_rsize x_len x_cuts x_bare x_place x_lA x_lB x_lC x_fX x_fY x_sX x_sY x_made x_fsize x_psize x_over x_touch x_most x_mU x_mV x_area x_board a_tape a_letters a_oneSided a_free a_ends a_crowds a_wmade a_firsts a_widths a_heights a_places a_next a_pnear a_table a_overlaps a_drawers a_kept a_items a_numbers a_marks a_near a_figures a_covered a_pcells a_matrix H → mP D ct am y_km y_tp y_goes y_kin y_qd y_sides y_cuts y_flat y_cp y_cA y_cB y_1X y_1Y y_2X y_2Y y_tm y_cells a_mtape a_flood a_going a_field a_from a_mcrowds a_steps a_queue a_letter a_lineX a_lineY a_triedAt a_cellAt a_besideIn a_apart a_drawer a_mkept a_listed a_mkin a_tried a_takenAt a_waysOf H → va_S (fun q : Nat => s.heap.size ≤ q) s.heap H locs → W p l e room_1 s m #[Value.ref b] below meth c H locs 57 17144 (lw_Z below #[Value.ref b] s) (F0 m 18 ls []) := by
  obtain ⟨h_feed, h_figure, h_put, h_take, h_told, h_cell, h_number, h_turn, h_alike, h_change, h_list, h_listed, h_place, h_many, h_found, h_crowd, h_kin, h_kinAt, h_way, h_farthest, h_drawn, h_line, h_tiles, h_tilers, h_fill, h_vector, h_owner, h_part, h_inside, h_common, h_keep, h_back, h_join, h_swap, h_share, h_touch, h_count⟩ := hops
  intro n
  induction n with
  | zero => intro k hk hn; omega
  | succ n ih =>
    intro k hk hn H locs ls x_fed x_tk x_col x_line x_rcells x_rsize x_len x_cuts x_bare x_place x_lA x_lB x_lC x_fX x_fY x_sX x_sY x_made x_fsize x_psize x_over x_touch x_most x_mU x_mV x_area x_board a_tape a_letters a_oneSided a_free a_ends a_crowds a_wmade a_firsts a_widths a_heights a_places a_next a_pnear a_table a_overlaps a_drawers a_kept a_items a_numbers a_marks a_near a_figures a_covered a_pcells a_matrix y_km y_tp y_goes y_kin y_qd y_sides y_cuts y_flat y_cp y_cA y_cB y_1X y_1Y y_2X y_2Y y_tm y_cells a_mtape a_flood a_going a_field a_from a_mcrowds a_steps a_queue a_letter a_lineX a_lineY a_triedAt a_cellAt a_besideIn a_apart a_drawer a_mkept a_listed a_mkin a_tried a_takenAt a_waysOf hl hinv hP hQ hS
    refine lv_iload_n hx hb dL_law_18 rfl (lv_at hl 0 rfl) ?_
    refine lv_aload_n hx hb dL_law_19 rfl (lv_at hl 1 rfl) ?_
    refine va_slen hx hb hX hbl hbA hS dL_law_20 ?_
    refine lv_bipush (v := 7) hx hb dL_law_21 kb_7 ?_
    refine lv_isub hx hb dL_law_23 ?_
    refine lv_icmp_gt hx hb dL_law_24 (tgt := 1850) rfl (fun hc => ?_) (fun hc => ?_)
    · refine va_forget (fun q hq => hS.2.2 q hq) ?_
      refine lv_iconst (v := 1) hx hb dL_law_1850 ki_1 ?_
      exact lw_ret hx hb hr hlocks dL_law_1851
    · have hk7 := lw_cond hL hk hc
      have hi0 : vp_in (nI k) L := vp_in_nI (by omega) (by omega)
      have hi1 : vp_in (nI k + 1) L := vin_add (j := 1) (by omega) hL
      have hi2 : vp_in (nI k + 2) L := vin_add (j := 2) (by omega) hL
      have hi3 : vp_in (nI k + 3) L := vin_add (j := 3) (by omega) hL
      have hi4 : vp_in (nI k + 4) L := vin_add (j := 4) (by omega) hL
      have hi5 : vp_in (nI k + 5) L := vin_add (j := 5) (by omega) hL
      have hi6 : vp_in (nI k + 6) L := vin_add (j := 6) (by omega) hL
      have next : ∀ (H : Heap) (locs : List Loc) (ls : Array Slot) {x_fed x_tk x_col x_line x_rcells x_rsize x_len x_cuts x_bare x_place x_lA x_lB x_lC x_fX x_fY x_sX x_sY x_made x_fsize x_psize x_over x_touch x_most x_mU x_mV x_area : Int32} {x_board : Int64} {a_tape a_letters a_oneSided a_free a_ends a_crowds a_wmade a_firsts a_widths a_heights a_places a_next a_pnear a_table a_overlaps : Nat → Int32} {a_drawers a_kept a_items a_numbers a_marks a_near a_figures a_covered a_pcells a_matrix : Nat → Int64} {y_km y_tp y_goes y_kin y_qd y_sides y_cuts y_flat y_cp y_cA y_cB y_1X y_1Y y_2X y_2Y y_tm y_cells : Int32} {a_mtape a_flood a_going a_field a_from a_mcrowds a_steps a_queue a_letter a_lineX a_lineY a_triedAt a_cellAt a_besideIn a_apart : Nat → Int32} {a_drawer a_mkept a_listed a_mkin a_tried a_takenAt a_waysOf : Nat → Int64}, lv_has ls 4 [(3, .int (nI k)), (0, .ref b), (1, .ref (ad 0)), (2, .ref (am 0))] → INV x_fed x_tk x_col x_line x_rcells x_rsize x_len x_cuts x_bare x_place x_lA x_lB x_lC x_fX x_fY x_sX x_sY x_made x_fsize x_psize x_over x_touch x_most x_mU x_mV x_area x_board a_tape a_letters a_oneSided a_free a_ends a_crowds a_wmade a_firsts a_widths a_heights a_places a_next a_pnear a_table a_overlaps a_drawers a_kept a_items a_numbers a_marks a_near a_figures a_covered a_pcells a_matrix y_km y_tp y_goes y_kin y_qd y_sides y_cuts y_flat y_cp y_cA y_cB y_1X y_1Y y_2X y_2Y y_tm y_cells a_mtape a_flood a_going a_field a_from a_mcrowds a_steps a_queue a_letter a_lineX a_lineY a_triedAt a_cellAt a_besideIn a_apart a_drawer a_mkept a_listed a_mkin a_tried a_takenAt a_waysOf → cP D ct ad x_fed x_tk x_col x_line x_rcells x_rsize x_len x_cuts x_bare x_place x_lA x_lB x_lC x_fX x_fY x_sX x_sY x_made x_fsize x_psize x_over x_touch x_most x_mU x_mV x_area x_board a_tape a_letters a_oneSided a_free a_ends a_crowds a_wmade a_firsts a_widths a_heights a_places a_next a_pnear a_table a_overlaps a_drawers a_kept a_items a_numbers a_marks a_near a_figures a_covered a_pcells a_matrix H → mP D ct am y_km y_tp y_goes y_kin y_qd y_sides y_cuts y_flat y_cp y_cA y_cB y_1X y_1Y y_2X y_2Y y_tm y_cells a_mtape a_flood a_going a_field a_from a_mcrowds a_steps a_queue a_letter a_lineX a_lineY a_triedAt a_cellAt a_besideIn a_apart a_drawer a_mkept a_listed a_mkin a_tried a_takenAt a_waysOf H → va_S (fun q : Nat => s.heap.size ≤ q) s.heap H locs → W p l e room_1 s m #[Value.ref b] below meth c H locs 57 17144 (lw_Z below #[Value.ref b] s) (F0 m 1844 ls []) := by
        intro H locs ls x_fed x_tk x_col x_line x_rcells x_rsize x_len x_cuts x_bare x_place x_lA x_lB x_lC x_fX x_fY x_sX x_sY x_made x_fsize x_psize x_over x_touch x_most x_mU x_mV x_area x_board a_tape a_letters a_oneSided a_free a_ends a_crowds a_wmade a_firsts a_widths a_heights a_places a_next a_pnear a_table a_overlaps a_drawers a_kept a_items a_numbers a_marks a_near a_figures a_covered a_pcells a_matrix y_km y_tp y_goes y_kin y_qd y_sides y_cuts y_flat y_cp y_cA y_cB y_1X y_1Y y_2X y_2Y y_tm y_cells a_mtape a_flood a_going a_field a_from a_mcrowds a_steps a_queue a_letter a_lineX a_lineY a_triedAt a_cellAt a_besideIn a_apart a_drawer a_mkept a_listed a_mkin a_tried a_takenAt a_waysOf hl hinv hP hQ hS
        refine lv_iinc hx hb dL_law_1844 hl (k := 0) rfl (v := nI (k + 7)) (show nI k + nI 7 = nI (k + 7) from nI_add k 7) (Nat.le_of_ble_eq_true rfl) (lv' := [(3, .int (nI (k + 7))), (0, .ref b), (1, .ref (ad 0)), (2, .ref (am 0))]) rfl (fun ls hl => ?_)
        refine lv_goto hx hb dL_law_1847 (tgt := 18) rfl ?_
        exact ih (k + 7) hk7 (by omega) _ _ _ hl hinv hP hQ hS
      refine lv_aload_n hx hb dL_law_27 rfl (lv_at hl 1 rfl) ?_
      refine lv_iload_n hx hb dL_law_28 rfl (lv_at hl 0 rfl) ?_
      refine va_sld hx hb hX hbl hbA hS hi0 dL_law_29 ?_
      refine lv_bipush (v := 63) hx hb dL_law_30 kb_63 ?_
      refine lv_iand hx hb dL_law_32 ?_
      generalize xs (nI k).toNatClampNeg &&& 63 = tt
      by_cases hc0 : tt = 0
      · refine lv_tableIn hx hb dL_law_33 (by rw [hc0]; decide) (by rw [hc0]; decide) (by rw [hc0]; rfl) (tgt := 196) rfl ?_
        exact lawc_feed (INV := INV) h_feed hx hb hml hown hw hN hK hX hbl hbA hI hJ hcA hmA hap hap2 hi1 hi2 hi3 hi4 hi5 hi6 hinv hP hQ hS hl next
      by_cases hc1 : tt = 1
      · refine lv_tableIn hx hb dL_law_33 (by rw [hc1]; decide) (by rw [hc1]; decide) (by rw [hc1]; rfl) (tgt := 259) rfl ?_
        exact lawc_figure (INV := INV) h_figure hx hb hml hown hw hN hK hX hbl hbA hI hJ hcA hmA hap hap2 hi1 hi2 hi3 hi4 hi5 hi6 hinv hP hQ hS hl next
      by_cases hc2 : tt = 2
      · refine lv_tableIn hx hb dL_law_33 (by rw [hc2]; decide) (by rw [hc2]; decide) (by rw [hc2]; rfl) (tgt := 292) rfl ?_
        exact lawc_put (INV := INV) h_put hx hb hml hown hw hN hK hX hbl hbA hI hJ hcA hmA hap hap2 hi1 hi2 hi3 hi4 hi5 hi6 hinv hP hQ hS hl next
      by_cases hc3 : tt = 3
      · refine lv_tableIn hx hb dL_law_33 (by rw [hc3]; decide) (by rw [hc3]; decide) (by rw [hc3]; rfl) (tgt := 355) rfl ?_
        exact lawc_take (INV := INV) h_take hx hb hml hown hw hN hK hX hbl hbA hI hJ hcA hmA hap hap2 hi1 hi2 hi3 hi4 hi5 hi6 hinv hP hQ hS hl next
      by_cases hc4 : tt = 4
      · refine lv_tableIn hx hb dL_law_33 (by rw [hc4]; decide) (by rw [hc4]; decide) (by rw [hc4]; rfl) (tgt := 378) rfl ?_
        exact lawc_told (INV := INV) h_told hx hb hml hown hw hN hK hX hbl hbA hI hJ hcA hmA hap hap2 hi1 hi2 hi3 hi4 hi5 hi6 hinv hP hQ hS hl next
      by_cases hc5 : tt = 5
      · refine lv_tableIn hx hb dL_law_33 (by rw [hc5]; decide) (by rw [hc5]; decide) (by rw [hc5]; rfl) (tgt := 411) rfl ?_
        exact lawc_cell (INV := INV) h_cell hx hb hml hown hw hN hK hX hbl hbA hI hJ hcA hmA hap hap2 hi1 hi2 hi3 hi4 hi5 hi6 hinv hP hQ hS hl next
      by_cases hc6 : tt = 6
      · refine lv_tableIn hx hb dL_law_33 (by rw [hc6]; decide) (by rw [hc6]; decide) (by rw [hc6]; rfl) (tgt := 454) rfl ?_
        exact lawc_number (INV := INV) h_number hx hb hml hown hw hN hK hX hbl hbA hI hJ hcA hmA hap hap2 hi1 hi2 hi3 hi4 hi5 hi6 hinv hP hQ hS hl next
      by_cases hc7 : tt = 7
      · refine lv_tableIn hx hb dL_law_33 (by rw [hc7]; decide) (by rw [hc7]; decide) (by rw [hc7]; rfl) (tgt := 488) rfl ?_
        exact lawc_turn (INV := INV) h_turn hx hb hml hown hw hN hK hX hbl hbA hI hJ hcA hmA hap hap2 hi1 hi2 hi3 hi4 hi5 hi6 hinv hP hQ hS hl next
      by_cases hc8 : tt = 8
      · refine lv_tableIn hx hb dL_law_33 (by rw [hc8]; decide) (by rw [hc8]; decide) (by rw [hc8]; rfl) (tgt := 522) rfl ?_
        exact lawc_alike (INV := INV) h_alike hx hb hml hown hw hN hK hX hbl hbA hI hJ hcA hmA hap hap2 hi1 hi2 hi3 hi4 hi5 hi6 hinv hP hQ hS hl next
      by_cases hc9 : tt = 9
      · refine lv_tableIn hx hb dL_law_33 (by rw [hc9]; decide) (by rw [hc9]; decide) (by rw [hc9]; rfl) (tgt := 565) rfl ?_
        exact lawc_change (INV := INV) h_change hx hb hml hown hw hN hK hX hbl hbA hI hJ hcA hmA hap hap2 hi1 hi2 hi3 hi4 hi5 hi6 hinv hP hQ hS hl next
      by_cases hc10 : tt = 10
      · refine lv_tableIn hx hb dL_law_33 (by rw [hc10]; decide) (by rw [hc10]; decide) (by rw [hc10]; rfl) (tgt := 634) rfl ?_
        exact lawc_list (INV := INV) h_list hx hb hml hown hw hN hK hX hbl hbA hI hJ hcA hmA hap hap2 hi1 hi2 hi3 hi4 hi5 hi6 hinv hP hQ hS hl next
      by_cases hc11 : tt = 11
      · refine lv_tableIn hx hb dL_law_33 (by rw [hc11]; decide) (by rw [hc11]; decide) (by rw [hc11]; rfl) (tgt := 667) rfl ?_
        exact lawc_listed (INV := INV) h_listed hx hb hml hown hw hN hK hX hbl hbA hI hJ hcA hmA hap hap2 hi1 hi2 hi3 hi4 hi5 hi6 hinv hP hQ hS hl next
      by_cases hc12 : tt = 12
      · refine lv_tableIn hx hb dL_law_33 (by rw [hc12]; decide) (by rw [hc12]; decide) (by rw [hc12]; rfl) (tgt := 711) rfl ?_
        exact lawc_place (INV := INV) h_place hx hb hml hown hw hN hK hX hbl hbA hI hJ hcA hmA hap hap2 hi1 hi2 hi3 hi4 hi5 hi6 hinv hP hQ hS hl next
      by_cases hc13 : tt = 13
      · refine lv_tableIn hx hb dL_law_33 (by rw [hc13]; decide) (by rw [hc13]; decide) (by rw [hc13]; rfl) (tgt := 744) rfl ?_
        exact lawc_many (INV := INV) h_many hx hb hml hown hw hN hK hX hbl hbA hI hJ hcA hmA hap hap2 hi1 hi2 hi3 hi4 hi5 hi6 hinv hP hQ hS hl next
      by_cases hc14 : tt = 14
      · refine lv_tableIn hx hb dL_law_33 (by rw [hc14]; decide) (by rw [hc14]; decide) (by rw [hc14]; rfl) (tgt := 807) rfl ?_
        exact lawc_found (INV := INV) h_found hx hb hml hown hw hN hK hX hbl hbA hI hJ hcA hmA hap hap2 hi1 hi2 hi3 hi4 hi5 hi6 hinv hP hQ hS hl next
      by_cases hc15 : tt = 15
      · refine lv_tableIn hx hb dL_law_33 (by rw [hc15]; decide) (by rw [hc15]; decide) (by rw [hc15]; rfl) (tgt := 883) rfl ?_
        exact lawc_crowd (INV := INV) h_crowd hx hb hml hown hw hN hK hX hbl hbA hI hJ hcA hmA hap hap2 hi1 hi2 hi3 hi4 hi5 hi6 hinv hP hQ hS hl next
      by_cases hc16 : tt = 16
      · refine lv_tableIn hx hb dL_law_33 (by rw [hc16]; decide) (by rw [hc16]; decide) (by rw [hc16]; rfl) (tgt := 952) rfl ?_
        exact lawc_kin (INV := INV) h_kin hx hb hml hown hw hN hK hX hbl hbA hI hJ hcA hmA hap hap2 hi1 hi2 hi3 hi4 hi5 hi6 hinv hP hQ hS hl next
      by_cases hc17 : tt = 17
      · refine lv_tableIn hx hb dL_law_33 (by rw [hc17]; decide) (by rw [hc17]; decide) (by rw [hc17]; rfl) (tgt := 1011) rfl ?_
        exact lawc_kinAt (INV := INV) h_kinAt hx hb hml hown hw hN hK hX hbl hbA hI hJ hcA hmA hap hap2 hi1 hi2 hi3 hi4 hi5 hi6 hinv hP hQ hS hl next
      by_cases hc18 : tt = 18
      · refine lv_tableIn hx hb dL_law_33 (by rw [hc18]; decide) (by rw [hc18]; decide) (by rw [hc18]; rfl) (tgt := 1081) rfl ?_
        exact lawc_way (INV := INV) h_way hx hb hml hown hw hN hK hX hbl hbA hI hJ hcA hmA hap hap2 hi1 hi2 hi3 hi4 hi5 hi6 hinv hP hQ hS hl next
      by_cases hc19 : tt = 19
      · refine lv_tableIn hx hb dL_law_33 (by rw [hc19]; decide) (by rw [hc19]; decide) (by rw [hc19]; rfl) (tgt := 1114) rfl ?_
        exact lawc_farthest (INV := INV) h_farthest hx hb hml hown hw hN hK hX hbl hbA hI hJ hcA hmA hap hap2 hi1 hi2 hi3 hi4 hi5 hi6 hinv hP hQ hS hl next
      by_cases hc20 : tt = 20
      · refine lv_tableIn hx hb dL_law_33 (by rw [hc20]; decide) (by rw [hc20]; decide) (by rw [hc20]; rfl) (tgt := 1163) rfl ?_
        exact lawc_drawn (INV := INV) h_drawn hx hb hml hown hw hN hK hX hbl hbA hI hJ hcA hmA hap hap2 hi1 hi2 hi3 hi4 hi5 hi6 hinv hP hQ hS hl next
      by_cases hc21 : tt = 21
      · refine lv_tableIn hx hb dL_law_33 (by rw [hc21]; decide) (by rw [hc21]; decide) (by rw [hc21]; rfl) (tgt := 1207) rfl ?_
        exact lawc_line (INV := INV) h_line hx hb hml hown hw hN hK hX hbl hbA hI hJ hcA hmA hap hap2 hi1 hi2 hi3 hi4 hi5 hi6 hinv hP hQ hS hl next
      by_cases hc22 : tt = 22
      · refine lv_tableIn hx hb dL_law_33 (by rw [hc22]; decide) (by rw [hc22]; decide) (by rw [hc22]; rfl) (tgt := 1240) rfl ?_
        exact lawc_tiles (INV := INV) h_tiles hx hb hml hown hw hN hK hX hbl hbA hI hJ hcA hmA hap hap2 hi1 hi2 hi3 hi4 hi5 hi6 hinv hP hQ hS hl next
      by_cases hc23 : tt = 23
      · refine lv_tableIn hx hb dL_law_33 (by rw [hc23]; decide) (by rw [hc23]; decide) (by rw [hc23]; rfl) (tgt := 1273) rfl ?_
        exact lawc_tilers (INV := INV) h_tilers hx hb hml hown hw hN hK hX hbl hbA hI hJ hcA hmA hap hap2 hi1 hi2 hi3 hi4 hi5 hi6 hinv hP hQ hS hl next
      by_cases hc24 : tt = 24
      · refine lv_tableIn hx hb dL_law_33 (by rw [hc24]; decide) (by rw [hc24]; decide) (by rw [hc24]; rfl) (tgt := 1306) rfl ?_
        exact lawc_fill (INV := INV) h_fill hx hb hml hown hw hN hK hX hbl hbA hI hJ hcA hmA hap hap2 hi1 hi2 hi3 hi4 hi5 hi6 hinv hP hQ hS hl next
      by_cases hc25 : tt = 25
      · refine lv_tableIn hx hb dL_law_33 (by rw [hc25]; decide) (by rw [hc25]; decide) (by rw [hc25]; rfl) (tgt := 1375) rfl ?_
        exact lawc_vector (INV := INV) h_vector hx hb hml hown hw hN hK hX hbl hbA hI hJ hcA hmA hap hap2 hi1 hi2 hi3 hi4 hi5 hi6 hinv hP hQ hS hl next
      by_cases hc26 : tt = 26
      · refine lv_tableIn hx hb dL_law_33 (by rw [hc26]; decide) (by rw [hc26]; decide) (by rw [hc26]; rfl) (tgt := 1408) rfl ?_
        exact lawc_owner (INV := INV) h_owner hx hb hml hown hw hN hK hX hbl hbA hI hJ hcA hmA hap hap2 hi1 hi2 hi3 hi4 hi5 hi6 hinv hP hQ hS hl next
      by_cases hc27 : tt = 27
      · refine lv_tableIn hx hb dL_law_33 (by rw [hc27]; decide) (by rw [hc27]; decide) (by rw [hc27]; rfl) (tgt := 1461) rfl ?_
        exact lawc_part (INV := INV) h_part hx hb hml hown hw hN hK hX hbl hbA hI hJ hcA hmA hap hap2 hi1 hi2 hi3 hi4 hi5 hi6 hinv hP hQ hS hl next
      by_cases hc28 : tt = 28
      · refine lv_tableIn hx hb dL_law_33 (by rw [hc28]; decide) (by rw [hc28]; decide) (by rw [hc28]; rfl) (tgt := 1495) rfl ?_
        exact lawc_inside (INV := INV) h_inside hx hb hml hown hw hN hK hX hbl hbA hI hJ hcA hmA hap hap2 hi1 hi2 hi3 hi4 hi5 hi6 hinv hP hQ hS hl next
      by_cases hc29 : tt = 29
      · refine lv_tableIn hx hb dL_law_33 (by rw [hc29]; decide) (by rw [hc29]; decide) (by rw [hc29]; rfl) (tgt := 1554) rfl ?_
        exact lawc_common (INV := INV) h_common hx hb hml hown hw hN hK hX hbl hbA hI hJ hcA hmA hap hap2 hi1 hi2 hi3 hi4 hi5 hi6 hinv hP hQ hS hl next
      by_cases hc30 : tt = 30
      · refine lv_tableIn hx hb dL_law_33 (by rw [hc30]; decide) (by rw [hc30]; decide) (by rw [hc30]; rfl) (tgt := 1587) rfl ?_
        exact lawc_keep (INV := INV) h_keep hx hb hml hown hw hN hK hX hbl hbA hI hJ hcA hmA hap hap2 hi1 hi2 hi3 hi4 hi5 hi6 hinv hP hQ hS hl next
      by_cases hc31 : tt = 31
      · refine lv_tableIn hx hb dL_law_33 (by rw [hc31]; decide) (by rw [hc31]; decide) (by rw [hc31]; rfl) (tgt := 1600) rfl ?_
        exact lawc_back (INV := INV) h_back hx hb hml hown hw hN hK hX hbl hbA hI hJ hcA hmA hap hap2 hi1 hi2 hi3 hi4 hi5 hi6 hinv hP hQ hS hl next
      by_cases hc32 : tt = 32
      · refine lv_tableIn hx hb dL_law_33 (by rw [hc32]; decide) (by rw [hc32]; decide) (by rw [hc32]; rfl) (tgt := 1613) rfl ?_
        exact lawc_join (INV := INV) h_join hx hb hml hown hw hN hK hX hbl hbA hI hJ hcA hmA hap hap2 hi1 hi2 hi3 hi4 hi5 hi6 hinv hP hQ hS hl next
      by_cases hc33 : tt = 33
      · refine lv_tableIn hx hb dL_law_33 (by rw [hc33]; decide) (by rw [hc33]; decide) (by rw [hc33]; rfl) (tgt := 1692) rfl ?_
        exact lawc_swap (INV := INV) h_swap hx hb hml hown hw hN hK hX hbl hbA hI hJ hcA hmA hap hap2 hi1 hi2 hi3 hi4 hi5 hi6 hinv hP hQ hS hl next
      by_cases hc34 : tt = 34
      · refine lv_tableIn hx hb dL_law_33 (by rw [hc34]; decide) (by rw [hc34]; decide) (by rw [hc34]; rfl) (tgt := 1725) rfl ?_
        exact lawc_share (INV := INV) h_share hx hb hml hown hw hN hK hX hbl hbA hI hJ hcA hmA hap hap2 hi1 hi2 hi3 hi4 hi5 hi6 hinv hP hQ hS hl next
      by_cases hc35 : tt = 35
      · refine lv_tableIn hx hb dL_law_33 (by rw [hc35]; decide) (by rw [hc35]; decide) (by rw [hc35]; rfl) (tgt := 1778) rfl ?_
        exact lawc_touch (INV := INV) h_touch hx hb hml hown hw hN hK hX hbl hbA hI hJ hcA hmA hap hap2 hi1 hi2 hi3 hi4 hi5 hi6 hinv hP hQ hS hl next
      by_cases hc36 : tt = 36
      · refine lv_tableIn hx hb dL_law_33 (by rw [hc36]; decide) (by rw [hc36]; decide) (by rw [hc36]; rfl) (tgt := 1821) rfl ?_
        exact lawc_count (INV := INV) h_count hx hb hml hown hw hN hK hX hbl hbA hI hJ hcA hmA hap hap2 hi1 hi2 hi3 hi4 hi5 hi6 hinv hP hQ hS hl next
      have q0 := lv_neT (k := 0) hc0 (a := 0) (by decide)
      have q1 := lv_neT (k := 1) hc1 (a := 1) (by decide)
      have q2 := lv_neT (k := 2) hc2 (a := 2) (by decide)
      have q3 := lv_neT (k := 3) hc3 (a := 3) (by decide)
      have q4 := lv_neT (k := 4) hc4 (a := 4) (by decide)
      have q5 := lv_neT (k := 5) hc5 (a := 5) (by decide)
      have q6 := lv_neT (k := 6) hc6 (a := 6) (by decide)
      have q7 := lv_neT (k := 7) hc7 (a := 7) (by decide)
      have q8 := lv_neT (k := 8) hc8 (a := 8) (by decide)
      have q9 := lv_neT (k := 9) hc9 (a := 9) (by decide)
      have q10 := lv_neT (k := 10) hc10 (a := 10) (by decide)
      have q11 := lv_neT (k := 11) hc11 (a := 11) (by decide)
      have q12 := lv_neT (k := 12) hc12 (a := 12) (by decide)
      have q13 := lv_neT (k := 13) hc13 (a := 13) (by decide)
      have q14 := lv_neT (k := 14) hc14 (a := 14) (by decide)
      have q15 := lv_neT (k := 15) hc15 (a := 15) (by decide)
      have q16 := lv_neT (k := 16) hc16 (a := 16) (by decide)
      have q17 := lv_neT (k := 17) hc17 (a := 17) (by decide)
      have q18 := lv_neT (k := 18) hc18 (a := 18) (by decide)
      have q19 := lv_neT (k := 19) hc19 (a := 19) (by decide)
      have q20 := lv_neT (k := 20) hc20 (a := 20) (by decide)
      have q21 := lv_neT (k := 21) hc21 (a := 21) (by decide)
      have q22 := lv_neT (k := 22) hc22 (a := 22) (by decide)
      have q23 := lv_neT (k := 23) hc23 (a := 23) (by decide)
      have q24 := lv_neT (k := 24) hc24 (a := 24) (by decide)
      have q25 := lv_neT (k := 25) hc25 (a := 25) (by decide)
      have q26 := lv_neT (k := 26) hc26 (a := 26) (by decide)
      have q27 := lv_neT (k := 27) hc27 (a := 27) (by decide)
      have q28 := lv_neT (k := 28) hc28 (a := 28) (by decide)
      have q29 := lv_neT (k := 29) hc29 (a := 29) (by decide)
      have q30 := lv_neT (k := 30) hc30 (a := 30) (by decide)
      have q31 := lv_neT (k := 31) hc31 (a := 31) (by decide)
      have q32 := lv_neT (k := 32) hc32 (a := 32) (by decide)
      have q33 := lv_neT (k := 33) hc33 (a := 33) (by decide)
      have q34 := lv_neT (k := 34) hc34 (a := 34) (by decide)
      have q35 := lv_neT (k := 35) hc35 (a := 35) (by decide)
      have q36 := lv_neT (k := 36) hc36 (a := 36) (by decide)
      refine lv_tableOut hx hb dL_law_33 (by omega) (tgt := 1844) rfl ?_
      exact next _ _ _ hl hinv hP hQ hS
