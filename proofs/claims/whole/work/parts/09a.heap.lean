noncomputable def mo_typed4_B2 (v1 : Int32)  (k2 : Int32 → Int32 → (Nat → Int32) → Option (Int32 × (Nat → Int32))) (v2 : Int32) (y_tp : Int32) (a_mtape : Nat → Int32) : Option (Int32 × (Nat → Int32)) :=
  if v2 < 0 then (some (y_tp, a_mtape)) else
  nm (i8 (ir v1 (8 * v2)) : Int32) fun w_1 =>
  ck y_tp 120 <|
  nm (upd a_mtape y_tp.toNatClampNeg (vp_nar .byte w_1)) fun a_mtape_2 =>
  nm (y_tp + 1 : Int32) fun y_tp_3 =>
  nm (v2 + Int32.ofInt (-1)) fun v2_4 =>
  k2 v2_4 y_tp_3 a_mtape_2
noncomputable def mo_typed4 (v1 : Int32) (y_tp : Int32) (a_mtape : Nat → Int32) : Option (Int32 × (Nat → Int32)) :=
  fl3 (mo_typed4_B2 v1) FU 3 y_tp a_mtape
set_option maxHeartbeats 4000000 in
set_option maxRecDepth 100000 in
theorem c_mo_typed4 (l : Launch) (D : va_G) (ct : Nat → ClassId) (ad : Nat → Nat) (hI : mI ad) {y_km y_tp y_goes y_kin y_qd y_sides y_cuts y_flat y_cp y_cA y_cB y_1X y_1Y y_2X y_2Y y_tm y_cells : Int32} {a_mtape a_flood a_going a_field a_from a_mcrowds a_steps a_queue a_letter a_lineX a_lineY a_triedAt a_cellAt a_besideIn a_apart : Nat → Int32} {a_drawer a_mkept a_listed a_mkin a_tried a_takenAt a_waysOf : Nat → Int64} (v1 : Int32)  (z_y_tp : Int32) (z_a_mtape : Nat → Int32) (h : mo_typed4 v1 y_tp a_mtape = some (z_y_tp, z_a_mtape)) : Met l yX12_typed4 (wm yX12_typed4 cX12_typed4 3 none) (rmm 0 0) (va_Pc [.ref (ad 0), .int v1] (mB D ct ad y_km y_tp y_goes y_kin y_qd y_sides y_cuts y_flat y_cp y_cA y_cB y_1X y_1Y y_2X y_2Y y_tm y_cells a_mtape a_flood a_going a_field a_from a_mcrowds a_steps a_queue a_letter a_lineX a_lineY a_triedAt a_cellAt a_besideIn a_apart a_drawer a_mkept a_listed a_mkin a_tried a_takenAt a_waysOf)) (va_Qv (fun (_ : Unit) => True) (fun _ t => mP D ct ad y_km z_y_tp y_goes y_kin y_qd y_sides y_cuts y_flat y_cp y_cA y_cB y_1X y_1Y y_2X y_2Y y_tm y_cells z_a_mtape a_flood a_going a_field a_from a_mcrowds a_steps a_queue a_letter a_lineX a_lineY a_triedAt a_cellAt a_besideIn a_apart a_drawer a_mkept a_listed a_mkin a_tried a_takenAt a_waysOf t.heap) (mA ad)) 0 0 (mA ad) := by
  refine met_s (y := yX12_typed4) (rm := rmm 0 0) (by decide) (Nat.le_of_ble_eq_true rfl) ?_
  intro p e s m below meth c hx hb hr hw hown hlocks _ hml hB ls hl
  obtain ⟨hN, hK, hP⟩ := hB
  replace hl : lv_has ls 3 [(0, .ref (ad 0)), (1, .int v1)] := hl
  have hS : va_S (mA ad) s.heap s.heap [] := va_S.rf
  generalize (([.ref (ad 0), .int v1] : List Value).toArray) = av at hw ⊢
  rw [mo_typed4] at h
  have hL2 : ∀ (v1 : Int32), ∀ (n2 : Nat) (H : Heap) (locs : List Loc) (ls : Array Slot) (v2 : Int32) (y_tp : Int32) (a_mtape : Nat → Int32), lv_has ls 3 [(0, .ref (ad 0)), (1, .int v1), (2, .int v2)] → mP D ct ad y_km y_tp y_goes y_kin y_qd y_sides y_cuts y_flat y_cp y_cA y_cB y_1X y_1Y y_2X y_2Y y_tm y_cells a_mtape a_flood a_going a_field a_from a_mcrowds a_steps a_queue a_letter a_lineX a_lineY a_triedAt a_cellAt a_besideIn a_apart a_drawer a_mkept a_listed a_mkin a_tried a_takenAt a_waysOf H → va_S (mA ad) s.heap H locs → fl3 (mo_typed4_B2 v1) n2 v2 y_tp a_mtape = some (z_y_tp, z_a_mtape) → W p l e (rmm 0 0) s m av below meth c H locs 0 0 (MQ below (va_Qv (fun (_ : Unit) => True) (fun _ t => mP D ct ad y_km z_y_tp y_goes y_kin y_qd y_sides y_cuts y_flat y_cp y_cA y_cB y_1X y_1Y y_2X y_2Y y_tm y_cells z_a_mtape a_flood a_going a_field a_from a_mcrowds a_steps a_queue a_letter a_lineX a_lineY a_triedAt a_cellAt a_besideIn a_apart a_drawer a_mkept a_listed a_mkin a_tried a_takenAt a_waysOf t.heap) (mA ad)) av s 0 0 (mA ad)) (F0 m 2 ls []) := by
    intro v1 n2
    induction n2 with
    | zero => intro H locs ls v2 y_tp a_mtape hl hP hS h; cases h
    | succ n2 ih2 =>
      intro H locs ls v2 y_tp a_mtape hl hP hS h
      replace h : mo_typed4_B2 v1 (fl3 (mo_typed4_B2 v1) n2) v2 y_tp a_mtape = some (z_y_tp, z_a_mtape) := h
      generalize fl3 (mo_typed4_B2 v1) n2 = k2 at h ih2
      rw [mo_typed4_B2] at h
      refine lv_iload_n hx hb dX12_typed4_2 rfl (lv_at hl 2 rfl) ?_
      refine lv_if_lt hx hb dX12_typed4_3 (tgt := 38) rfl (fun hc => ?_) (fun hc => ?_)
      · replace h := ifp h hc
        simp only [Option.some.injEq, Prod.mk.injEq] at h
        obtain ⟨rfl, rfl⟩ := h
        exact rc_v hx hb hr hlocks hS dX12_typed4_38 hP
      · replace h := ifn h hc
        refine lv_aload_n hx hb dX12_typed4_6 rfl (lv_at hl 0 rfl) ?_
        refine mg_MO_3 hx hb hw hown hK hP dX12_typed4_7 ?_
        refine lv_aload_n hx hb dX12_typed4_10 rfl (lv_at hl 0 rfl) ?_
        refine mg_MO_4 hx hb hw hown hK hP dX12_typed4_11 ?_
        refine lv_iload_n hx hb dX12_typed4_14 rfl (lv_at hl 1 rfl) ?_
        refine lv_bipush (v := 8) hx hb dX12_typed4_15 kb_8 ?_
        refine lv_iload_n hx hb dX12_typed4_17 rfl (lv_at hl 2 rfl) ?_
        refine lv_imul hx hb dX12_typed4_18 ?_
        refine lv_ishr hx hb dX12_typed4_19 ?_
        refine nmI (v := ir v1 (8 * v2)) rfl ?_
        refine lv_i2b hx hb (v := i8 (ir v1 (8 * v2))) dX12_typed4_20 rfl ?_
        obtain ⟨w_5, ew_5, h⟩ := nm_s h
        refine nmI ew_5 ?_
        obtain ⟨hin, h⟩ := ck_s h
        obtain ⟨a_mtape_6, ea_mtape_6, h⟩ := nm_s h
        refine ms_mtape hx hb hK hP hI hS hin ea_mtape_6 dX12_typed4_21 (fun H locs hP hS => ?_)
        refine lv_aload_n hx hb dX12_typed4_22 rfl (lv_at hl 0 rfl) ?_
        refine lv_aload_n hx hb dX12_typed4_23 rfl (lv_at hl 0 rfl) ?_
        refine mg_MO_4 hx hb hw hown hK hP dX12_typed4_24 ?_
        refine lv_iconst (v := 1) hx hb dX12_typed4_27 ki_1 ?_
        refine lv_iadd hx hb dX12_typed4_28 ?_
        obtain ⟨y_tp_7, ey_tp_7, h⟩ := nm_s h
        refine nmI ey_tp_7 ?_
        refine mp_MO_4 hx hb hw hown hK hP hI hS dX12_typed4_29 (fun H locs hP hS => ?_)
        obtain ⟨v2_8, ev2_8, h⟩ := nm_s h
        refine lv_iinc hx hb dX12_typed4_32 hl (k := 2) rfl ev2_8.symm (Nat.le_of_ble_eq_true rfl) (lv' := [(2, .int v2_8), (0, .ref (ad 0)), (1, .int v1)]) rfl (fun ls hl => ?_)
        refine lv_goto hx hb dX12_typed4_35 (tgt := 2) rfl ?_
        exact ih2 _ _ _ v2_8 y_tp_7 a_mtape_6 (lv_sub hl [1, 2, 0] rfl) hP hS h
  refine lv_iconst (v := 3) hx hb dX12_typed4_0 ki_3 ?_
  refine lv_istore_n hx hb dX12_typed4_1 rfl hl (Nat.le_of_ble_eq_true rfl) (lv' := [(2, .int 3), (0, .ref (ad 0)), (1, .int v1)]) rfl (fun ls hl => ?_)
  exact hL2 v1 FU _ _ _ 3 y_tp a_mtape (lv_sub hl [1, 2, 0] rfl) hP hS h
noncomputable def mo_feed (v1 : Int32) (v2 : Int32) (v3 : Int32) (v4 : Int32) (v5 : Int32) (y_tp : Int32) (a_mtape : Nat → Int32) : Option (Int32 × Int32 × (Nat → Int32)) :=
  if (y_tp + 20) ≤ 120 then (bd2 (mo_typed4 v1 y_tp a_mtape) fun y_tp_1 a_mtape_2 =>
  bd2 (mo_typed4 v2 y_tp_1 a_mtape_2) fun y_tp_4 a_mtape_5 =>
  bd2 (mo_typed4 v3 y_tp_4 a_mtape_5) fun y_tp_7 a_mtape_8 =>
  bd2 (mo_typed4 v4 y_tp_7 a_mtape_8) fun y_tp_10 a_mtape_11 =>
  bd2 (mo_typed4 v5 y_tp_10 a_mtape_11) fun y_tp_13 a_mtape_14 =>
  some (y_tp_13, y_tp_13, a_mtape_14)) else
  some ((-1), y_tp, a_mtape)
set_option maxHeartbeats 4000000 in
set_option maxRecDepth 100000 in
theorem c_mo_feed (l : Launch) (D : va_G) (ct : Nat → ClassId) (ad : Nat → Nat) (hI : mI ad) {y_km y_tp y_goes y_kin y_qd y_sides y_cuts y_flat y_cp y_cA y_cB y_1X y_1Y y_2X y_2Y y_tm y_cells : Int32} {a_mtape a_flood a_going a_field a_from a_mcrowds a_steps a_queue a_letter a_lineX a_lineY a_triedAt a_cellAt a_besideIn a_apart : Nat → Int32} {a_drawer a_mkept a_listed a_mkin a_tried a_takenAt a_waysOf : Nat → Int64} (v1 : Int32) (v2 : Int32) (v3 : Int32) (v4 : Int32) (v5 : Int32) (r : Int32) (z_y_tp : Int32) (z_a_mtape : Nat → Int32) (h : mo_feed v1 v2 v3 v4 v5 y_tp a_mtape = some (r, z_y_tp, z_a_mtape)) : Met l yX12_feed (wm yX12_feed cX12_feed 6 (some .int)) (rmm 1 22) (va_Pc [.ref (ad 0), .int v1, .int v2, .int v3, .int v4, .int v5] (mB D ct ad y_km y_tp y_goes y_kin y_qd y_sides y_cuts y_flat y_cp y_cA y_cB y_1X y_1Y y_2X y_2Y y_tm y_cells a_mtape a_flood a_going a_field a_from a_mcrowds a_steps a_queue a_letter a_lineX a_lineY a_triedAt a_cellAt a_besideIn a_apart a_drawer a_mkept a_listed a_mkin a_tried a_takenAt a_waysOf)) (va_Qi (fun z (_ : Unit) => z = r) (fun _ t => mP D ct ad y_km z_y_tp y_goes y_kin y_qd y_sides y_cuts y_flat y_cp y_cA y_cB y_1X y_1Y y_2X y_2Y y_tm y_cells z_a_mtape a_flood a_going a_field a_from a_mcrowds a_steps a_queue a_letter a_lineX a_lineY a_triedAt a_cellAt a_besideIn a_apart a_drawer a_mkept a_listed a_mkin a_tried a_takenAt a_waysOf t.heap) (mA ad)) 0 0 (mA ad) := by
  refine met_s (y := yX12_feed) (rm := rmm 1 22) (by decide) (Nat.le_of_ble_eq_true rfl) ?_
  intro p e s m below meth c hx hb hr hw hown hlocks _ hml hB ls hl
  obtain ⟨hN, hK, hP⟩ := hB
  replace hl : lv_has ls 6 [(0, .ref (ad 0)), (1, .int v1), (2, .int v2), (3, .int v3), (4, .int v4), (5, .int v5)] := hl
  have hS : va_S (mA ad) s.heap s.heap [] := va_S.rf
  generalize (([.ref (ad 0), .int v1, .int v2, .int v3, .int v4, .int v5] : List Value).toArray) = av at hw ⊢
  rw [mo_feed] at h
  refine lv_aload_n hx hb dX12_feed_0 rfl (lv_at hl 0 rfl) ?_
  refine mg_MO_4 hx hb hw hown hK hP dX12_feed_1 ?_
  refine lv_bipush (v := 20) hx hb dX12_feed_4 kb_20 ?_
  refine lv_iadd hx hb dX12_feed_6 ?_
  refine lv_bipush (v := 120) hx hb dX12_feed_7 kb_120 ?_
  refine lv_icmp_le hx hb dX12_feed_9 (tgt := 14) rfl (fun hc => ?_) (fun hc => ?_)
  · replace h := ifp h hc
    refine lv_aload_n hx hb dX12_feed_14 rfl (lv_at hl 0 rfl) ?_
    refine lv_iload_n hx hb dX12_feed_15 rfl (lv_at hl 1 rfl) ?_
    obtain ⟨y_tp_16, a_mtape_17, hr_18, h⟩ := bd2_s h
    refine hv_v hx hb hml hown hw mB_bl (mB_of hN hK hP) (mr_MO hK hP) (c_mo_typed4 l D ct ad hI v1 y_tp_16 a_mtape_17 hr_18) g_RX12_131 ⟨rfl, hd_X12_typed4⟩ (rest := []) hl.1 hS (fun q h => h) dX12_feed_16 rfl rfl ⟨Nat.le_of_ble_eq_true rfl, Nat.le_of_ble_eq_true rfl⟩ rfl rfl (Nat.le_of_ble_eq_true rfl) ⟨Nat.zero_le _, Nat.zero_le _⟩ (fun H locs hP _ hS => ?_)
    refine lv_aload_n hx hb dX12_feed_19 rfl (lv_at hl 0 rfl) ?_
    refine lv_iload_n hx hb dX12_feed_20 rfl (lv_at hl 2 rfl) ?_
    obtain ⟨y_tp_19, a_mtape_20, hr_21, h⟩ := bd2_s h
    refine hv_v hx hb hml hown hw mB_bl (mB_of hN hK hP) (mr_MO hK hP) (c_mo_typed4 l D ct ad hI v2 y_tp_19 a_mtape_20 hr_21) g_RX12_131 ⟨rfl, hd_X12_typed4⟩ (rest := []) hl.1 hS (fun q h => h) dX12_feed_21 rfl rfl ⟨Nat.le_of_ble_eq_true rfl, Nat.le_of_ble_eq_true rfl⟩ rfl rfl (Nat.le_of_ble_eq_true rfl) ⟨Nat.zero_le _, Nat.zero_le _⟩ (fun H locs hP _ hS => ?_)
    refine lv_aload_n hx hb dX12_feed_24 rfl (lv_at hl 0 rfl) ?_
    refine lv_iload_n hx hb dX12_feed_25 rfl (lv_at hl 3 rfl) ?_
    obtain ⟨y_tp_22, a_mtape_23, hr_24, h⟩ := bd2_s h
    refine hv_v hx hb hml hown hw mB_bl (mB_of hN hK hP) (mr_MO hK hP) (c_mo_typed4 l D ct ad hI v3 y_tp_22 a_mtape_23 hr_24) g_RX12_131 ⟨rfl, hd_X12_typed4⟩ (rest := []) hl.1 hS (fun q h => h) dX12_feed_26 rfl rfl ⟨Nat.le_of_ble_eq_true rfl, Nat.le_of_ble_eq_true rfl⟩ rfl rfl (Nat.le_of_ble_eq_true rfl) ⟨Nat.zero_le _, Nat.zero_le _⟩ (fun H locs hP _ hS => ?_)
    refine lv_aload_n hx hb dX12_feed_29 rfl (lv_at hl 0 rfl) ?_
    refine lv_iload hx hb dX12_feed_30 (lv_at hl 4 rfl) ?_
    obtain ⟨y_tp_25, a_mtape_26, hr_27, h⟩ := bd2_s h
    refine hv_v hx hb hml hown hw mB_bl (mB_of hN hK hP) (mr_MO hK hP) (c_mo_typed4 l D ct ad hI v4 y_tp_25 a_mtape_26 hr_27) g_RX12_131 ⟨rfl, hd_X12_typed4⟩ (rest := []) hl.1 hS (fun q h => h) dX12_feed_32 rfl rfl ⟨Nat.le_of_ble_eq_true rfl, Nat.le_of_ble_eq_true rfl⟩ rfl rfl (Nat.le_of_ble_eq_true rfl) ⟨Nat.zero_le _, Nat.zero_le _⟩ (fun H locs hP _ hS => ?_)
    refine lv_aload_n hx hb dX12_feed_35 rfl (lv_at hl 0 rfl) ?_
    refine lv_iload hx hb dX12_feed_36 (lv_at hl 5 rfl) ?_
    obtain ⟨y_tp_28, a_mtape_29, hr_30, h⟩ := bd2_s h
    refine hv_v hx hb hml hown hw mB_bl (mB_of hN hK hP) (mr_MO hK hP) (c_mo_typed4 l D ct ad hI v5 y_tp_28 a_mtape_29 hr_30) g_RX12_131 ⟨rfl, hd_X12_typed4⟩ (rest := []) hl.1 hS (fun q h => h) dX12_feed_38 rfl rfl ⟨Nat.le_of_ble_eq_true rfl, Nat.le_of_ble_eq_true rfl⟩ rfl rfl (Nat.le_of_ble_eq_true rfl) ⟨Nat.zero_le _, Nat.zero_le _⟩ (fun H locs hP _ hS => ?_)
    refine lv_aload_n hx hb dX12_feed_41 rfl (lv_at hl 0 rfl) ?_
    refine mg_MO_4 hx hb hw hown hK hP dX12_feed_42 ?_
    simp only [Option.some.injEq, Prod.mk.injEq] at h
    obtain ⟨rfl, rfl, rfl⟩ := h
    exact rc_i hx hb hr hlocks hS dX12_feed_45 rfl hP
  · replace h := ifn h hc
    refine lv_iconst (v := (-1)) hx hb dX12_feed_12 ki_m1 ?_
    simp only [Option.some.injEq, Prod.mk.injEq] at h
    obtain ⟨rfl, rfl, rfl⟩ := h
    exact rc_i hx hb hr hlocks hS dX12_feed_13 rfl hP
noncomputable def mo_figure_J196 (k46 : Int64 → Int32 → Int32 → Int32 → Int32 → Option (Int32 × Int32 × (Nat → Int64))) (a_mtape : Nat → Int32) (v1 : Int32) (v2 : Int32) (v3 : Int64) (v5 : Int32) (v6 : Int32) (v7 : Int32) (v8 : Int32) (y_tp : Int32) (a_drawer : Nat → Int64)  : Option (Int32 × Int32 × (Nat → Int64)) :=
  nm (v8 + Int32.ofInt 1) fun v8_1 =>
  k46 v3 v5 v6 v7 v8_1
noncomputable def mo_figure_J190 (k46 : Int64 → Int32 → Int32 → Int32 → Int32 → Option (Int32 × Int32 × (Nat → Int64))) (a_mtape : Nat → Int32) (v1 : Int32) (v2 : Int32) (v3 : Int64) (v5 : Int32) (v6 : Int32) (v7 : Int32) (v8 : Int32) (y_tp : Int32) (a_drawer : Nat → Int64)  : Option (Int32 × Int32 × (Nat → Int64)) :=
  nm (v5 + 1 : Int32) fun v5_2 =>
  mo_figure_J196 k46 a_mtape v1 v2 v3 v5_2 v6 v7 v8 y_tp a_drawer
noncomputable def mo_figure_J96 (k46 : Int64 → Int32 → Int32 → Int32 → Int32 → Option (Int32 × Int32 × (Nat → Int64))) (a_mtape : Nat → Int32) (v1 : Int32) (v2 : Int32) (v3 : Int64) (v5 : Int32) (v6 : Int32) (v7 : Int32) (v8 : Int32) (v9 : Int32) (y_tp : Int32) (a_drawer : Nat → Int64)  : Option (Int32 × Int32 × (Nat → Int64)) :=
  if v9 = 32 then (mo_figure_J196 k46 a_mtape v1 v2 v3 v5 v6 v7 v8 y_tp a_drawer) else
  if v9 = 47 then (if v6 = 6 then (some ((-3000) - v8, y_tp, a_drawer)) else
  nm (v6 + 1 : Int32) fun v6_7 =>
  mo_figure_J196 k46 a_mtape v1 v2 v3 0 v6_7 v7 v8 y_tp a_drawer) else
  if v5 = 7 then (some ((-2000) - v8, y_tp, a_drawer)) else
  if v9 = 35 then (if v7 = 12 then (some ((-4000) - v8, y_tp, a_drawer)) else
  bd1 (mo_cellBit v5 v6) fun r_3 =>
  nm (v3 ||| r_3 : Int64) fun v3_5 =>
  nm (v7 + 1 : Int32) fun v7_6 =>
  mo_figure_J190 k46 a_mtape v1 v2 v3_5 v5 v6 v7_6 v8 y_tp a_drawer) else
  mo_figure_J190 k46 a_mtape v1 v2 v3 v5 v6 v7 v8 y_tp a_drawer
noncomputable def mo_figure_B46 (v1 : Int32) (v2 : Int32) (y_tp : Int32) (a_drawer : Nat → Int64) (a_mtape : Nat → Int32)  (k46 : Int64 → Int32 → Int32 → Int32 → Int32 → Option (Int32 × Int32 × (Nat → Int64))) (v3 : Int64) (v5 : Int32) (v6 : Int32) (v7 : Int32) (v8 : Int32) : Option (Int32 × Int32 × (Nat → Int64)) :=
  if v2 ≤ v8 then (bd1 (mo_hangs v3) fun r_8 =>
  if r_8 = 0 then (some ((-5000) - v2, y_tp, a_drawer)) else
  bd1 (mo_moved v3) fun r_10 =>
  ck v1 8 <|
  nm (vp_updL a_drawer v1.toNatClampNeg r_10) fun a_drawer_12 =>
  some (v7, y_tp, a_drawer_12)) else
  ck v8 120 <|
  nm (a_mtape v8.toNatClampNeg : Int32) fun v9_13 =>
  if v9_13 = 35 then (mo_figure_J96 k46 a_mtape v1 v2 v3 v5 v6 v7 v8 v9_13 y_tp a_drawer) else
  if v9_13 = 46 then (mo_figure_J96 k46 a_mtape v1 v2 v3 v5 v6 v7 v8 v9_13 y_tp a_drawer) else
  if v9_13 = 47 then (mo_figure_J96 k46 a_mtape v1 v2 v3 v5 v6 v7 v8 v9_13 y_tp a_drawer) else
  if v9_13 = 32 then (mo_figure_J96 k46 a_mtape v1 v2 v3 v5 v6 v7 v8 v9_13 y_tp a_drawer) else
  some ((-1000) - v8, y_tp, a_drawer)
noncomputable def mo_figure (v1 : Int32) (v2 : Int32) (y_tp : Int32) (a_drawer : Nat → Int64) (a_mtape : Nat → Int32) : Option (Int32 × Int32 × (Nat → Int64)) :=
  bd1 (mo_isDrawer v1) fun r_14 =>
  if r_14 = 0 then (some ((-1), y_tp, a_drawer)) else
  bd1 (mo_in v2 1 60) fun r_16 =>
  if r_16 = 0 then (some ((-1), y_tp, a_drawer)) else
  if v2 ≤ y_tp then (fl5 (mo_figure_B46 v1 v2 0 a_drawer a_mtape) FU 0 0 0 0 0) else
  some ((-1), y_tp, a_drawer)
set_option maxHeartbeats 4000000 in
set_option maxRecDepth 100000 in
theorem c_mo_figure (l : Launch) (D : va_G) (ct : Nat → ClassId) (ad : Nat → Nat) (hI : mI ad) {y_km y_tp y_goes y_kin y_qd y_sides y_cuts y_flat y_cp y_cA y_cB y_1X y_1Y y_2X y_2Y y_tm y_cells : Int32} {a_mtape a_flood a_going a_field a_from a_mcrowds a_steps a_queue a_letter a_lineX a_lineY a_triedAt a_cellAt a_besideIn a_apart : Nat → Int32} {a_drawer a_mkept a_listed a_mkin a_tried a_takenAt a_waysOf : Nat → Int64} (v1 : Int32) (v2 : Int32) (r : Int32) (z_y_tp : Int32) (z_a_drawer : Nat → Int64) (h : mo_figure v1 v2 y_tp a_drawer a_mtape = some (r, z_y_tp, z_a_drawer)) : Met l yX12_figure (wm yX12_figure cX12_figure 10 (some .int)) (rmm 2 50) (va_Pc [.ref (ad 0), .int v1, .int v2] (mB D ct ad y_km y_tp y_goes y_kin y_qd y_sides y_cuts y_flat y_cp y_cA y_cB y_1X y_1Y y_2X y_2Y y_tm y_cells a_mtape a_flood a_going a_field a_from a_mcrowds a_steps a_queue a_letter a_lineX a_lineY a_triedAt a_cellAt a_besideIn a_apart a_drawer a_mkept a_listed a_mkin a_tried a_takenAt a_waysOf)) (va_Qi (fun z (_ : Unit) => z = r) (fun _ t => mP D ct ad y_km z_y_tp y_goes y_kin y_qd y_sides y_cuts y_flat y_cp y_cA y_cB y_1X y_1Y y_2X y_2Y y_tm y_cells a_mtape a_flood a_going a_field a_from a_mcrowds a_steps a_queue a_letter a_lineX a_lineY a_triedAt a_cellAt a_besideIn a_apart z_a_drawer a_mkept a_listed a_mkin a_tried a_takenAt a_waysOf t.heap) (mA ad)) 0 0 (mA ad) := by
  refine met_s (y := yX12_figure) (rm := rmm 2 50) (by decide) (Nat.le_of_ble_eq_true rfl) ?_
  intro p e s m below meth c hx hb hr hw hown hlocks _ hml hB ls hl
  obtain ⟨hN, hK, hP⟩ := hB
  replace hl : lv_has ls 10 [(0, .ref (ad 0)), (1, .int v1), (2, .int v2)] := hl
  have hS : va_S (mA ad) s.heap s.heap [] := va_S.rf
  generalize (([.ref (ad 0), .int v1, .int v2] : List Value).toArray) = av at hw ⊢
  rw [mo_figure] at h
  have hL46 : ∀ (v1 : Int32), ∀ (v2 : Int32), ∀ (y_tp : Int32), ∀ (a_drawer : Nat → Int64), ∀ (a_mtape : Nat → Int32), ∀ (n46 : Nat) (H : Heap) (locs : List Loc) (ls : Array Slot) (v3 : Int64) (v5 : Int32) (v6 : Int32) (v7 : Int32) (v8 : Int32), lv_has ls 10 [(0, .ref (ad 0)), (1, .int v1), (2, .int v2), (3, .long v3), (5, .int v5), (6, .int v6), (7, .int v7), (8, .int v8)] → mP D ct ad y_km y_tp y_goes y_kin y_qd y_sides y_cuts y_flat y_cp y_cA y_cB y_1X y_1Y y_2X y_2Y y_tm y_cells a_mtape a_flood a_going a_field a_from a_mcrowds a_steps a_queue a_letter a_lineX a_lineY a_triedAt a_cellAt a_besideIn a_apart a_drawer a_mkept a_listed a_mkin a_tried a_takenAt a_waysOf H → va_S (mA ad) s.heap H locs → fl5 (mo_figure_B46 v1 v2 y_tp a_drawer a_mtape) n46 v3 v5 v6 v7 v8 = some (r, z_y_tp, z_a_drawer) → W p l e (rmm 2 50) s m av below meth c H locs 0 0 (MQ below (va_Qi (fun z (_ : Unit) => z = r) (fun _ t => mP D ct ad y_km z_y_tp y_goes y_kin y_qd y_sides y_cuts y_flat y_cp y_cA y_cB y_1X y_1Y y_2X y_2Y y_tm y_cells a_mtape a_flood a_going a_field a_from a_mcrowds a_steps a_queue a_letter a_lineX a_lineY a_triedAt a_cellAt a_besideIn a_apart z_a_drawer a_mkept a_listed a_mkin a_tried a_takenAt a_waysOf t.heap) (mA ad)) av s 0 0 (mA ad)) (F0 m 46 ls []) := by
    intro v1 v2 y_tp a_drawer a_mtape n46
    induction n46 with
    | zero => intro H locs ls v3 v5 v6 v7 v8 hl hP hS h; cases h
    | succ n46 ih46 =>
      intro H locs ls v3 v5 v6 v7 v8 hl hP hS h
      replace h : mo_figure_B46 v1 v2 y_tp a_drawer a_mtape (fl5 (mo_figure_B46 v1 v2 y_tp a_drawer a_mtape) n46) v3 v5 v6 v7 v8 = some (r, z_y_tp, z_a_drawer) := h
      generalize fl5 (mo_figure_B46 v1 v2 y_tp a_drawer a_mtape) n46 = k46 at h ih46
      have hJ196 : ∀ (H : Heap) (locs : List Loc) (ls : Array Slot) (v3 : Int64) (v5 : Int32) (v6 : Int32) (v7 : Int32) (v8 : Int32) , lv_has ls 10 [(0, .ref (ad 0)), (1, .int v1), (2, .int v2), (3, .long v3), (5, .int v5), (6, .int v6), (7, .int v7), (8, .int v8)] → mP D ct ad y_km y_tp y_goes y_kin y_qd y_sides y_cuts y_flat y_cp y_cA y_cB y_1X y_1Y y_2X y_2Y y_tm y_cells a_mtape a_flood a_going a_field a_from a_mcrowds a_steps a_queue a_letter a_lineX a_lineY a_triedAt a_cellAt a_besideIn a_apart a_drawer a_mkept a_listed a_mkin a_tried a_takenAt a_waysOf H → va_S (mA ad) s.heap H locs → mo_figure_J196 k46 a_mtape v1 v2 v3 v5 v6 v7 v8 y_tp a_drawer = some (r, z_y_tp, z_a_drawer) → W p l e (rmm 2 50) s m av below meth c H locs 0 0 (MQ below (va_Qi (fun z (_ : Unit) => z = r) (fun _ t => mP D ct ad y_km z_y_tp y_goes y_kin y_qd y_sides y_cuts y_flat y_cp y_cA y_cB y_1X y_1Y y_2X y_2Y y_tm y_cells a_mtape a_flood a_going a_field a_from a_mcrowds a_steps a_queue a_letter a_lineX a_lineY a_triedAt a_cellAt a_besideIn a_apart z_a_drawer a_mkept a_listed a_mkin a_tried a_takenAt a_waysOf t.heap) (mA ad)) av s 0 0 (mA ad)) (F0 m 196 ls []) := by
        intro H locs ls v3 v5 v6 v7 v8  hl hP hS h
        rw [mo_figure_J196] at h
        obtain ⟨v8_18, ev8_18, h⟩ := nm_s h
        refine lv_iinc hx hb dX12_figure_196 hl (k := 7) rfl ev8_18.symm (Nat.le_of_ble_eq_true rfl) (lv' := [(8, .int v8_18), (0, .ref (ad 0)), (1, .int v1), (2, .int v2), (3, .long v3), (5, .int v5), (6, .int v6), (7, .int v7)]) rfl (fun ls hl => ?_)
        refine lv_goto hx hb dX12_figure_199 (tgt := 46) rfl ?_
        exact ih46 _ _ _ v3 v5 v6 v7 v8_18 (lv_sub hl [1, 2, 3, 4, 5, 6, 7, 0] rfl) hP hS h
      have hJ190 : ∀ (H : Heap) (locs : List Loc) (ls : Array Slot) (v3 : Int64) (v5 : Int32) (v6 : Int32) (v7 : Int32) (v8 : Int32) , lv_has ls 10 [(0, .ref (ad 0)), (1, .int v1), (2, .int v2), (3, .long v3), (5, .int v5), (6, .int v6), (7, .int v7), (8, .int v8)] → mP D ct ad y_km y_tp y_goes y_kin y_qd y_sides y_cuts y_flat y_cp y_cA y_cB y_1X y_1Y y_2X y_2Y y_tm y_cells a_mtape a_flood a_going a_field a_from a_mcrowds a_steps a_queue a_letter a_lineX a_lineY a_triedAt a_cellAt a_besideIn a_apart a_drawer a_mkept a_listed a_mkin a_tried a_takenAt a_waysOf H → va_S (mA ad) s.heap H locs → mo_figure_J190 k46 a_mtape v1 v2 v3 v5 v6 v7 v8 y_tp a_drawer = some (r, z_y_tp, z_a_drawer) → W p l e (rmm 2 50) s m av below meth c H locs 0 0 (MQ below (va_Qi (fun z (_ : Unit) => z = r) (fun _ t => mP D ct ad y_km z_y_tp y_goes y_kin y_qd y_sides y_cuts y_flat y_cp y_cA y_cB y_1X y_1Y y_2X y_2Y y_tm y_cells a_mtape a_flood a_going a_field a_from a_mcrowds a_steps a_queue a_letter a_lineX a_lineY a_triedAt a_cellAt a_besideIn a_apart z_a_drawer a_mkept a_listed a_mkin a_tried a_takenAt a_waysOf t.heap) (mA ad)) av s 0 0 (mA ad)) (F0 m 190 ls []) := by
        intro H locs ls v3 v5 v6 v7 v8  hl hP hS h
        rw [mo_figure_J190] at h
        refine lv_iload hx hb dX12_figure_190 (lv_at hl 4 rfl) ?_
        refine lv_iconst (v := 1) hx hb dX12_figure_192 ki_1 ?_
        refine lv_iadd hx hb dX12_figure_193 ?_
        obtain ⟨v5_19, ev5_19, h⟩ := nm_s h
        refine nmI ev5_19 ?_
        refine lv_istore hx hb dX12_figure_194 hl (Nat.le_of_ble_eq_true rfl) (lv' := [(5, .int v5_19), (0, .ref (ad 0)), (1, .int v1), (2, .int v2), (3, .long v3), (6, .int v6), (7, .int v7), (8, .int v8)]) rfl (fun ls hl => ?_)
        exact hJ196 _ _ _ v3 v5_19 v6 v7 v8 (lv_sub hl [1, 2, 3, 4, 0, 5, 6, 7] rfl) hP hS h
      have hJ96 : ∀ (H : Heap) (locs : List Loc) (ls : Array Slot) (v3 : Int64) (v5 : Int32) (v6 : Int32) (v7 : Int32) (v8 : Int32) (v9 : Int32) , lv_has ls 10 [(0, .ref (ad 0)), (1, .int v1), (2, .int v2), (3, .long v3), (5, .int v5), (6, .int v6), (7, .int v7), (8, .int v8), (9, .int v9)] → mP D ct ad y_km y_tp y_goes y_kin y_qd y_sides y_cuts y_flat y_cp y_cA y_cB y_1X y_1Y y_2X y_2Y y_tm y_cells a_mtape a_flood a_going a_field a_from a_mcrowds a_steps a_queue a_letter a_lineX a_lineY a_triedAt a_cellAt a_besideIn a_apart a_drawer a_mkept a_listed a_mkin a_tried a_takenAt a_waysOf H → va_S (mA ad) s.heap H locs → mo_figure_J96 k46 a_mtape v1 v2 v3 v5 v6 v7 v8 v9 y_tp a_drawer = some (r, z_y_tp, z_a_drawer) → W p l e (rmm 2 50) s m av below meth c H locs 0 0 (MQ below (va_Qi (fun z (_ : Unit) => z = r) (fun _ t => mP D ct ad y_km z_y_tp y_goes y_kin y_qd y_sides y_cuts y_flat y_cp y_cA y_cB y_1X y_1Y y_2X y_2Y y_tm y_cells a_mtape a_flood a_going a_field a_from a_mcrowds a_steps a_queue a_letter a_lineX a_lineY a_triedAt a_cellAt a_besideIn a_apart z_a_drawer a_mkept a_listed a_mkin a_tried a_takenAt a_waysOf t.heap) (mA ad)) av s 0 0 (mA ad)) (F0 m 96 ls []) := by
        intro H locs ls v3 v5 v6 v7 v8 v9  hl hP hS h
        rw [mo_figure_J96] at h
        refine lv_iload hx hb dX12_figure_96 (lv_at hl 8 rfl) ?_
        refine lv_bipush (v := 32) hx hb dX12_figure_98 kb_32 ?_
        refine lv_icmp_ne hx hb dX12_figure_100 (tgt := 106) rfl (fun hc => ?_) (fun hc => ?_)
        · replace h := ifn h hc
          refine lv_iload hx hb dX12_figure_106 (lv_at hl 8 rfl) ?_
          refine lv_bipush (v := 47) hx hb dX12_figure_108 kb_47 ?_
          refine lv_icmp_ne hx hb dX12_figure_110 (tgt := 139) rfl (fun hc => ?_) (fun hc => ?_)
          · replace h := ifn h hc
            refine lv_iload hx hb dX12_figure_139 (lv_at hl 4 rfl) ?_
            refine lv_bipush (v := 7) hx hb dX12_figure_141 kb_7 ?_
            refine lv_icmp_ne hx hb dX12_figure_143 (tgt := 153) rfl (fun hc => ?_) (fun hc => ?_)
            · replace h := ifn h hc
              refine lv_iload hx hb dX12_figure_153 (lv_at hl 8 rfl) ?_
              refine lv_bipush (v := 35) hx hb dX12_figure_155 kb_35 ?_
              refine lv_icmp_ne hx hb dX12_figure_157 (tgt := 190) rfl (fun hc => ?_) (fun hc => ?_)
              · replace h := ifn h hc
                exact hJ190 _ _ _ v3 v5 v6 v7 v8 (lv_sub hl [0, 1, 2, 3, 4, 5, 6, 7] rfl) hP hS h
              · replace h := ifp h hc
                refine lv_iload hx hb dX12_figure_160 (lv_at hl 6 rfl) ?_
                refine lv_bipush (v := 12) hx hb dX12_figure_162 kb_12 ?_
                refine lv_icmp_ne hx hb dX12_figure_164 (tgt := 174) rfl (fun hc => ?_) (fun hc => ?_)
                · replace h := ifn h hc
                  refine lv_lload_n hx hb dX12_figure_174 rfl (lv_at hl 3 rfl) ?_
                  refine lv_iload hx hb dX12_figure_175 (lv_at hl 4 rfl) ?_
                  refine lv_iload hx hb dX12_figure_177 (lv_at hl 5 rfl) ?_
                  obtain ⟨r_20, hr_21, h⟩ := bd1_s h
                  refine sc_l hx hb hml hown hw hN (c_mo_cellBit l v5 v6 r_20 hr_21) g_RX12_117 hd_X12_cellBit (rest := [.long v3]) hl.1 hS dX12_figure_179 rfl rfl ⟨Nat.le_of_ble_eq_true rfl, Nat.le_of_ble_eq_true rfl⟩ rfl rfl (Nat.le_of_ble_eq_true rfl) ⟨Nat.zero_le _, Nat.zero_le _⟩ (fun H locs hk hS => ?_)
                  have hP := mP_kept hP hk
                  refine lv_lor hx hb dX12_figure_182 ?_
                  obtain ⟨v3_22, ev3_22, h⟩ := nm_s h
                  refine nmL ev3_22 ?_
                  refine lv_lstore_n hx hb dX12_figure_183 rfl hl (Nat.le_of_ble_eq_true rfl) (lv' := [(3, .long v3_22), (0, .ref (ad 0)), (1, .int v1), (2, .int v2), (5, .int v5), (6, .int v6), (7, .int v7), (8, .int v8), (9, .int v9)]) rfl (fun ls hl => ?_)
                  refine lv_iload hx hb dX12_figure_184 (lv_at hl 6 rfl) ?_
                  refine lv_iconst (v := 1) hx hb dX12_figure_186 ki_1 ?_
                  refine lv_iadd hx hb dX12_figure_187 ?_
                  obtain ⟨v7_23, ev7_23, h⟩ := nm_s h
                  refine nmI ev7_23 ?_
                  refine lv_istore hx hb dX12_figure_188 hl (Nat.le_of_ble_eq_true rfl) (lv' := [(7, .int v7_23), (3, .long v3_22), (0, .ref (ad 0)), (1, .int v1), (2, .int v2), (5, .int v5), (6, .int v6), (8, .int v8), (9, .int v9)]) rfl (fun ls hl => ?_)
                  exact hJ190 _ _ _ v3_22 v5 v6 v7_23 v8 (lv_sub hl [2, 3, 4, 1, 5, 6, 0, 7] rfl) hP hS h
                · replace h := ifp h hc
                  refine lv_sipush (v := (-4000)) hx hb dX12_figure_167 ks_m4000 ?_
                  refine lv_iload hx hb dX12_figure_170 (lv_at hl 7 rfl) ?_
                  refine lv_isub hx hb dX12_figure_172 ?_
                  simp only [Option.some.injEq, Prod.mk.injEq] at h
                  obtain ⟨rfl, rfl, rfl⟩ := h
                  exact rc_i hx hb hr hlocks hS dX12_figure_173 rfl hP
            · replace h := ifp h hc
              refine lv_sipush (v := (-2000)) hx hb dX12_figure_146 ks_m2000 ?_
              refine lv_iload hx hb dX12_figure_149 (lv_at hl 7 rfl) ?_
              refine lv_isub hx hb dX12_figure_151 ?_
              simp only [Option.some.injEq, Prod.mk.injEq] at h
              obtain ⟨rfl, rfl, rfl⟩ := h
              exact rc_i hx hb hr hlocks hS dX12_figure_152 rfl hP
          · replace h := ifp h hc
            refine lv_iload hx hb dX12_figure_113 (lv_at hl 5 rfl) ?_
            refine lv_bipush (v := 6) hx hb dX12_figure_115 kb_6 ?_
            refine lv_icmp_ne hx hb dX12_figure_117 (tgt := 127) rfl (fun hc => ?_) (fun hc => ?_)
            · replace h := ifn h hc
              refine lv_iload hx hb dX12_figure_127 (lv_at hl 5 rfl) ?_
              refine lv_iconst (v := 1) hx hb dX12_figure_129 ki_1 ?_
              refine lv_iadd hx hb dX12_figure_130 ?_
              obtain ⟨v6_24, ev6_24, h⟩ := nm_s h
              refine nmI ev6_24 ?_
              refine lv_istore hx hb dX12_figure_131 hl (Nat.le_of_ble_eq_true rfl) (lv' := [(6, .int v6_24), (0, .ref (ad 0)), (1, .int v1), (2, .int v2), (3, .long v3), (5, .int v5), (7, .int v7), (8, .int v8), (9, .int v9)]) rfl (fun ls hl => ?_)
              refine lv_iconst (v := 0) hx hb dX12_figure_133 ki_0 ?_
              refine lv_istore hx hb dX12_figure_134 hl (Nat.le_of_ble_eq_true rfl) (lv' := [(5, .int 0), (6, .int v6_24), (0, .ref (ad 0)), (1, .int v1), (2, .int v2), (3, .long v3), (7, .int v7), (8, .int v8), (9, .int v9)]) rfl (fun ls hl => ?_)
              refine lv_goto hx hb dX12_figure_136 (tgt := 196) rfl ?_
              exact hJ196 _ _ _ v3 0 v6_24 v7 v8 (lv_sub hl [2, 3, 4, 5, 0, 1, 6, 7] rfl) hP hS h
            · replace h := ifp h hc
              refine lv_sipush (v := (-3000)) hx hb dX12_figure_120 ks_m3000 ?_
              refine lv_iload hx hb dX12_figure_123 (lv_at hl 7 rfl) ?_
              refine lv_isub hx hb dX12_figure_125 ?_
              simp only [Option.some.injEq, Prod.mk.injEq] at h
              obtain ⟨rfl, rfl, rfl⟩ := h
              exact rc_i hx hb hr hlocks hS dX12_figure_126 rfl hP
        · replace h := ifp h hc
          refine lv_goto hx hb dX12_figure_103 (tgt := 196) rfl ?_
          exact hJ196 _ _ _ v3 v5 v6 v7 v8 (lv_sub hl [0, 1, 2, 3, 4, 5, 6, 7] rfl) hP hS h
      rw [mo_figure_B46] at h
      refine lv_iload hx hb dX12_figure_46 (lv_at hl 7 rfl) ?_
      refine lv_iload_n hx hb dX12_figure_48 rfl (lv_at hl 2 rfl) ?_
      refine lv_icmp_ge hx hb dX12_figure_49 (tgt := 202) rfl (fun hc => ?_) (fun hc => ?_)
      · replace h := ifp h hc
        refine lv_lload_n hx hb dX12_figure_202 rfl (lv_at hl 3 rfl) ?_
        obtain ⟨r_25, hr_26, h⟩ := bd1_s h
        refine sc_i hx hb hml hown hw hN (c_mo_hangs l v3 r_25 hr_26) g_RX12_110 hd_X12_hangs (rest := []) hl.1 hS dX12_figure_203 rfl rfl ⟨Nat.le_of_ble_eq_true rfl, Nat.le_of_ble_eq_true rfl⟩ rfl rfl (Nat.le_of_ble_eq_true rfl) ⟨Nat.zero_le _, Nat.zero_le _⟩ (fun H locs hk hS => ?_)
        have hP := mP_kept hP hk
        refine lv_if_ne hx hb dX12_figure_206 (tgt := 215) rfl (fun hc => ?_) (fun hc => ?_)
        · replace h := ifn h hc
          refine lv_aload_n hx hb dX12_figure_215 rfl (lv_at hl 0 rfl) ?_
          refine mg_MO_0 hx hb hw hown hK hP dX12_figure_216 ?_
          refine lv_iload_n hx hb dX12_figure_219 rfl (lv_at hl 1 rfl) ?_
          refine lv_lload_n hx hb dX12_figure_220 rfl (lv_at hl 3 rfl) ?_
          obtain ⟨r_27, hr_28, h⟩ := bd1_s h
          refine sc_l hx hb hml hown hw hN (c_mo_moved l v3 r_27 hr_28) g_RX12_114 hd_X12_moved (rest := [.int v1, .ref (ad 1)]) hl.1 hS dX12_figure_221 rfl rfl ⟨Nat.le_of_ble_eq_true rfl, Nat.le_of_ble_eq_true rfl⟩ rfl rfl (Nat.le_of_ble_eq_true rfl) ⟨Nat.zero_le _, Nat.zero_le _⟩ (fun H locs hk hS => ?_)
          have hP := mP_kept hP hk
          obtain ⟨hin, h⟩ := ck_s h
          obtain ⟨a_drawer_29, ea_drawer_29, h⟩ := nm_s h
          refine ms_drawer hx hb hK hP hI hS hin ea_drawer_29 dX12_figure_224 (fun H locs hP hS => ?_)
          refine lv_iload hx hb dX12_figure_225 (lv_at hl 6 rfl) ?_
          simp only [Option.some.injEq, Prod.mk.injEq] at h
          obtain ⟨rfl, rfl, rfl⟩ := h
          exact rc_i hx hb hr hlocks hS dX12_figure_227 rfl hP
        · replace h := ifp h hc
          refine lv_sipush (v := (-5000)) hx hb dX12_figure_209 ks_m5000 ?_
          refine lv_iload_n hx hb dX12_figure_212 rfl (lv_at hl 2 rfl) ?_
          refine lv_isub hx hb dX12_figure_213 ?_
          simp only [Option.some.injEq, Prod.mk.injEq] at h
          obtain ⟨rfl, rfl, rfl⟩ := h
          exact rc_i hx hb hr hlocks hS dX12_figure_214 rfl hP
      · replace h := ifn h hc
        refine lv_aload_n hx hb dX12_figure_52 rfl (lv_at hl 0 rfl) ?_
        refine mg_MO_3 hx hb hw hown hK hP dX12_figure_53 ?_
        refine lv_iload hx hb dX12_figure_56 (lv_at hl 7 rfl) ?_
        obtain ⟨hin, h⟩ := ck_s h
        refine md_mtape hx hb hK hP hin dX12_figure_58 ?_
        obtain ⟨v9_30, ev9_30, h⟩ := nm_s h
        refine nmI ev9_30 ?_
        refine lv_istore hx hb dX12_figure_59 hl (Nat.le_of_ble_eq_true rfl) (lv' := [(9, .int v9_30), (0, .ref (ad 0)), (1, .int v1), (2, .int v2), (3, .long v3), (5, .int v5), (6, .int v6), (7, .int v7), (8, .int v8)]) rfl (fun ls hl => ?_)
        refine lv_iload hx hb dX12_figure_61 (lv_at hl 0 rfl) ?_
        refine lv_bipush (v := 35) hx hb dX12_figure_63 kb_35 ?_
        refine lv_icmp_eq hx hb dX12_figure_65 (tgt := 96) rfl (fun hc => ?_) (fun hc => ?_)
        · replace h := ifp h hc
          exact hJ96 _ _ _ v3 v5 v6 v7 v8 v9_30 (lv_sub hl [1, 2, 3, 4, 5, 6, 7, 8, 0] rfl) hP hS h
        · replace h := ifn h hc
          refine lv_iload hx hb dX12_figure_68 (lv_at hl 0 rfl) ?_
          refine lv_bipush (v := 46) hx hb dX12_figure_70 kb_46 ?_
          refine lv_icmp_eq hx hb dX12_figure_72 (tgt := 96) rfl (fun hc => ?_) (fun hc => ?_)
          · replace h := ifp h hc
            exact hJ96 _ _ _ v3 v5 v6 v7 v8 v9_30 (lv_sub hl [1, 2, 3, 4, 5, 6, 7, 8, 0] rfl) hP hS h
          · replace h := ifn h hc
            refine lv_iload hx hb dX12_figure_75 (lv_at hl 0 rfl) ?_
            refine lv_bipush (v := 47) hx hb dX12_figure_77 kb_47 ?_
            refine lv_icmp_eq hx hb dX12_figure_79 (tgt := 96) rfl (fun hc => ?_) (fun hc => ?_)
            · replace h := ifp h hc
              exact hJ96 _ _ _ v3 v5 v6 v7 v8 v9_30 (lv_sub hl [1, 2, 3, 4, 5, 6, 7, 8, 0] rfl) hP hS h
            · replace h := ifn h hc
              refine lv_iload hx hb dX12_figure_82 (lv_at hl 0 rfl) ?_
              refine lv_bipush (v := 32) hx hb dX12_figure_84 kb_32 ?_
              refine lv_icmp_eq hx hb dX12_figure_86 (tgt := 96) rfl (fun hc => ?_) (fun hc => ?_)
              · replace h := ifp h hc
                exact hJ96 _ _ _ v3 v5 v6 v7 v8 v9_30 (lv_sub hl [1, 2, 3, 4, 5, 6, 7, 8, 0] rfl) hP hS h
              · replace h := ifn h hc
                refine lv_sipush (v := (-1000)) hx hb dX12_figure_89 ks_m1000 ?_
                refine lv_iload hx hb dX12_figure_92 (lv_at hl 8 rfl) ?_
                refine lv_isub hx hb dX12_figure_94 ?_
                simp only [Option.some.injEq, Prod.mk.injEq] at h
                obtain ⟨rfl, rfl, rfl⟩ := h
                exact rc_i hx hb hr hlocks hS dX12_figure_95 rfl hP
  refine lv_iload_n hx hb dX12_figure_0 rfl (lv_at hl 1 rfl) ?_
  obtain ⟨r_31, hr_32, h⟩ := bd1_s h
  refine sc_i hx hb hml hown hw hN (c_mo_isDrawer l v1 r_31 hr_32) g_RX12_135 hd_X12_isDrawer (rest := []) hl.1 hS dX12_figure_1 rfl rfl ⟨Nat.le_of_ble_eq_true rfl, Nat.le_of_ble_eq_true rfl⟩ rfl rfl (Nat.le_of_ble_eq_true rfl) ⟨Nat.zero_le _, Nat.zero_le _⟩ (fun H locs hk hS => ?_)
  have hP := mP_kept hP hk
  refine lv_if_eq hx hb dX12_figure_4 (tgt := 25) rfl (fun hc => ?_) (fun hc => ?_)
  · replace h := ifp h hc
    refine lv_iconst (v := (-1)) hx hb dX12_figure_25 ki_m1 ?_
    simp only [Option.some.injEq, Prod.mk.injEq] at h
    obtain ⟨rfl, rfl, rfl⟩ := h
    exact rc_i hx hb hr hlocks hS dX12_figure_26 rfl hP
  · replace h := ifn h hc
    refine lv_iload_n hx hb dX12_figure_7 rfl (lv_at hl 2 rfl) ?_
    refine lv_iconst (v := 1) hx hb dX12_figure_8 ki_1 ?_
    refine lv_bipush (v := 60) hx hb dX12_figure_9 kb_60 ?_
    obtain ⟨r_33, hr_34, h⟩ := bd1_s h
    refine sc_i hx hb hml hown hw hN (c_mo_in l v2 1 60 r_33 hr_34) g_RX12_82 hd_X12_in (rest := []) hl.1 hS dX12_figure_11 rfl rfl ⟨Nat.le_of_ble_eq_true rfl, Nat.le_of_ble_eq_true rfl⟩ rfl rfl (Nat.le_of_ble_eq_true rfl) ⟨Nat.zero_le _, Nat.zero_le _⟩ (fun H locs hk hS => ?_)
    have hP := mP_kept hP hk
    refine lv_if_eq hx hb dX12_figure_14 (tgt := 25) rfl (fun hc => ?_) (fun hc => ?_)
    · replace h := ifp h hc
      refine lv_iconst (v := (-1)) hx hb dX12_figure_25 ki_m1 ?_
      simp only [Option.some.injEq, Prod.mk.injEq] at h
      obtain ⟨rfl, rfl, rfl⟩ := h
      exact rc_i hx hb hr hlocks hS dX12_figure_26 rfl hP
    · replace h := ifn h hc
      refine lv_iload_n hx hb dX12_figure_17 rfl (lv_at hl 2 rfl) ?_
      refine lv_aload_n hx hb dX12_figure_18 rfl (lv_at hl 0 rfl) ?_
      refine mg_MO_4 hx hb hw hown hK hP dX12_figure_19 ?_
      refine lv_icmp_le hx hb dX12_figure_22 (tgt := 27) rfl (fun hc => ?_) (fun hc => ?_)
      · replace h := ifp h hc
        refine lv_aload_n hx hb dX12_figure_27 rfl (lv_at hl 0 rfl) ?_
        refine lv_iconst (v := 0) hx hb dX12_figure_28 ki_0 ?_
        refine mp_MO_4 hx hb hw hown hK hP hI hS dX12_figure_29 (fun H locs hP hS => ?_)
        refine lv_lconst (v := 0) hx hb dX12_figure_32 kl_0 ?_
        refine lv_lstore_n hx hb dX12_figure_33 rfl hl (Nat.le_of_ble_eq_true rfl) (lv' := [(3, .long 0), (0, .ref (ad 0)), (1, .int v1), (2, .int v2)]) rfl (fun ls hl => ?_)
        refine lv_iconst (v := 0) hx hb dX12_figure_34 ki_0 ?_
        refine lv_istore hx hb dX12_figure_35 hl (Nat.le_of_ble_eq_true rfl) (lv' := [(5, .int 0), (3, .long 0), (0, .ref (ad 0)), (1, .int v1), (2, .int v2)]) rfl (fun ls hl => ?_)
        refine lv_iconst (v := 0) hx hb dX12_figure_37 ki_0 ?_
        refine lv_istore hx hb dX12_figure_38 hl (Nat.le_of_ble_eq_true rfl) (lv' := [(6, .int 0), (5, .int 0), (3, .long 0), (0, .ref (ad 0)), (1, .int v1), (2, .int v2)]) rfl (fun ls hl => ?_)
        refine lv_iconst (v := 0) hx hb dX12_figure_40 ki_0 ?_
        refine lv_istore hx hb dX12_figure_41 hl (Nat.le_of_ble_eq_true rfl) (lv' := [(7, .int 0), (6, .int 0), (5, .int 0), (3, .long 0), (0, .ref (ad 0)), (1, .int v1), (2, .int v2)]) rfl (fun ls hl => ?_)
        refine lv_iconst (v := 0) hx hb dX12_figure_43 ki_0 ?_
        refine lv_istore hx hb dX12_figure_44 hl (Nat.le_of_ble_eq_true rfl) (lv' := [(8, .int 0), (7, .int 0), (6, .int 0), (5, .int 0), (3, .long 0), (0, .ref (ad 0)), (1, .int v1), (2, .int v2)]) rfl (fun ls hl => ?_)
        exact hL46 v1 v2 0 a_drawer a_mtape FU _ _ _ 0 0 0 0 0 (lv_sub hl [5, 6, 7, 4, 3, 2, 1, 0] rfl) hP hS h
      · replace h := ifn h hc
        refine lv_iconst (v := (-1)) hx hb dX12_figure_25 ki_m1 ?_
        simp only [Option.some.injEq, Prod.mk.injEq] at h
        obtain ⟨rfl, rfl, rfl⟩ := h
        exact rc_i hx hb hr hlocks hS dX12_figure_26 rfl hP
noncomputable def mo_put (v1 : Int32) (v2 : Int64) (a_drawer : Nat → Int64) : Option (Int32 × (Nat → Int64)) :=
  bd1 (mo_isDrawer v1) fun r_1 =>
  if r_1 = 0 then (zb 0 (some (0, a_drawer))) else
  bd1 (mo_isFigure v2) fun r_3 =>
  if r_3 = 0 then (zb 0 (some (0, a_drawer))) else
  ck v1 8 <|
  nm (vp_updL a_drawer v1.toNatClampNeg v2) fun a_drawer_5 =>
  zb 1 (some (1, a_drawer_5))
set_option maxHeartbeats 4000000 in
set_option maxRecDepth 100000 in
theorem c_mo_put (l : Launch) (D : va_G) (ct : Nat → ClassId) (ad : Nat → Nat) (hI : mI ad) {y_km y_tp y_goes y_kin y_qd y_sides y_cuts y_flat y_cp y_cA y_cB y_1X y_1Y y_2X y_2Y y_tm y_cells : Int32} {a_mtape a_flood a_going a_field a_from a_mcrowds a_steps a_queue a_letter a_lineX a_lineY a_triedAt a_cellAt a_besideIn a_apart : Nat → Int32} {a_drawer a_mkept a_listed a_mkin a_tried a_takenAt a_waysOf : Nat → Int64} (v1 : Int32) (v2 : Int64) (r : Int32) (z_a_drawer : Nat → Int64) (h : mo_put v1 v2 a_drawer = some (r, z_a_drawer)) : Met l yX12_put (wm yX12_put cX12_put 4 (some .boolean)) (rmm 3 71) (va_Pc [.ref (ad 0), .int v1, .long v2] (mB D ct ad y_km y_tp y_goes y_kin y_qd y_sides y_cuts y_flat y_cp y_cA y_cB y_1X y_1Y y_2X y_2Y y_tm y_cells a_mtape a_flood a_going a_field a_from a_mcrowds a_steps a_queue a_letter a_lineX a_lineY a_triedAt a_cellAt a_besideIn a_apart a_drawer a_mkept a_listed a_mkin a_tried a_takenAt a_waysOf)) (va_Qi (fun z (_ : Unit) => z = r) (fun _ t => mP D ct ad y_km y_tp y_goes y_kin y_qd y_sides y_cuts y_flat y_cp y_cA y_cB y_1X y_1Y y_2X y_2Y y_tm y_cells a_mtape a_flood a_going a_field a_from a_mcrowds a_steps a_queue a_letter a_lineX a_lineY a_triedAt a_cellAt a_besideIn a_apart z_a_drawer a_mkept a_listed a_mkin a_tried a_takenAt a_waysOf t.heap) (mA ad)) 0 0 (mA ad) := by
  refine met_s (y := yX12_put) (rm := rmm 3 71) (by decide) (Nat.le_of_ble_eq_true rfl) ?_
  intro p e s m below meth c hx hb hr hw hown hlocks _ hml hB ls hl
  obtain ⟨hN, hK, hP⟩ := hB
  replace hl : lv_has ls 4 [(0, .ref (ad 0)), (1, .int v1), (2, .long v2)] := hl
  have hS : va_S (mA ad) s.heap s.heap [] := va_S.rf
  generalize (([.ref (ad 0), .int v1, .long v2] : List Value).toArray) = av at hw ⊢
  rw [mo_put] at h
  refine lv_iload_n hx hb dX12_put_0 rfl (lv_at hl 1 rfl) ?_
  obtain ⟨r_6, hr_7, h⟩ := bd1_s h
  refine sc_i hx hb hml hown hw hN (c_mo_isDrawer l v1 r_6 hr_7) g_RX12_135 hd_X12_isDrawer (rest := []) hl.1 hS dX12_put_1 rfl rfl ⟨Nat.le_of_ble_eq_true rfl, Nat.le_of_ble_eq_true rfl⟩ rfl rfl (Nat.le_of_ble_eq_true rfl) ⟨Nat.zero_le _, Nat.zero_le _⟩ (fun H locs hk hS => ?_)
  have hP := mP_kept hP hk
  refine lv_if_eq hx hb dX12_put_4 (tgt := 14) rfl (fun hc => ?_) (fun hc => ?_)
  · replace h := ifp h hc
    refine lv_iconst (v := 0) hx hb dX12_put_14 ki_0 ?_
    obtain ⟨hz, h⟩ := zb_s h
    simp only [Option.some.injEq, Prod.mk.injEq] at h
    obtain ⟨rfl, rfl⟩ := h
    exact rc_z hx hb hr hlocks hS dX12_put_15 hz rfl hP
  · replace h := ifn h hc
    refine lv_lload_n hx hb dX12_put_7 rfl (lv_at hl 2 rfl) ?_
    obtain ⟨r_8, hr_9, h⟩ := bd1_s h
    refine sc_i hx hb hml hown hw hN (c_mo_isFigure l v2 r_8 hr_9) g_RX12_139 hd_X12_isFigure (rest := []) hl.1 hS dX12_put_8 rfl rfl ⟨Nat.le_of_ble_eq_true rfl, Nat.le_of_ble_eq_true rfl⟩ rfl rfl (Nat.le_of_ble_eq_true rfl) ⟨Nat.zero_le _, Nat.zero_le _⟩ (fun H locs hk hS => ?_)
    have hP := mP_kept hP hk
    refine lv_if_ne hx hb dX12_put_11 (tgt := 16) rfl (fun hc => ?_) (fun hc => ?_)
    · replace h := ifn h hc
      refine lv_aload_n hx hb dX12_put_16 rfl (lv_at hl 0 rfl) ?_
      refine mg_MO_0 hx hb hw hown hK hP dX12_put_17 ?_
      refine lv_iload_n hx hb dX12_put_20 rfl (lv_at hl 1 rfl) ?_
      refine lv_lload_n hx hb dX12_put_21 rfl (lv_at hl 2 rfl) ?_
      obtain ⟨hin, h⟩ := ck_s h
      obtain ⟨a_drawer_10, ea_drawer_10, h⟩ := nm_s h
      refine ms_drawer hx hb hK hP hI hS hin ea_drawer_10 dX12_put_22 (fun H locs hP hS => ?_)
      refine lv_iconst (v := 1) hx hb dX12_put_23 ki_1 ?_
      obtain ⟨hz, h⟩ := zb_s h
      simp only [Option.some.injEq, Prod.mk.injEq] at h
      obtain ⟨rfl, rfl⟩ := h
      exact rc_z hx hb hr hlocks hS dX12_put_24 hz rfl hP
    · replace h := ifp h hc
      refine lv_iconst (v := 0) hx hb dX12_put_14 ki_0 ?_
      obtain ⟨hz, h⟩ := zb_s h
      simp only [Option.some.injEq, Prod.mk.injEq] at h
      obtain ⟨rfl, rfl⟩ := h
      exact rc_z hx hb hr hlocks hS dX12_put_15 hz rfl hP
noncomputable def mo_take_J25  (v1 : Int32) (a_drawer : Nat → Int64) (t0 : Int32) : Option (Int32 × (Nat → Int64)) :=
  ck v1 8 <|
  nm (vp_updL a_drawer v1.toNatClampNeg 0) fun a_drawer_1 =>
  some (t0, a_drawer_1)
noncomputable def mo_take (v1 : Int32) (a_drawer : Nat → Int64) : Option (Int32 × (Nat → Int64)) :=
  bd1 (mo_isDrawer v1) fun r_2 =>
  if r_2 = 0 then (some ((-1), a_drawer)) else
  ck v1 8 <|
  if (a_drawer v1.toNatClampNeg) = 0 then (mo_take_J25 v1 a_drawer 0) else
  mo_take_J25 v1 a_drawer 1
set_option maxHeartbeats 4000000 in
set_option maxRecDepth 100000 in
theorem c_mo_take (l : Launch) (D : va_G) (ct : Nat → ClassId) (ad : Nat → Nat) (hI : mI ad) {y_km y_tp y_goes y_kin y_qd y_sides y_cuts y_flat y_cp y_cA y_cB y_1X y_1Y y_2X y_2Y y_tm y_cells : Int32} {a_mtape a_flood a_going a_field a_from a_mcrowds a_steps a_queue a_letter a_lineX a_lineY a_triedAt a_cellAt a_besideIn a_apart : Nat → Int32} {a_drawer a_mkept a_listed a_mkin a_tried a_takenAt a_waysOf : Nat → Int64} (v1 : Int32) (r : Int32) (z_a_drawer : Nat → Int64) (h : mo_take v1 a_drawer = some (r, z_a_drawer)) : Met l yX12_take (wm yX12_take cX12_take 3 (some .int)) (rmm 2 42) (va_Pc [.ref (ad 0), .int v1] (mB D ct ad y_km y_tp y_goes y_kin y_qd y_sides y_cuts y_flat y_cp y_cA y_cB y_1X y_1Y y_2X y_2Y y_tm y_cells a_mtape a_flood a_going a_field a_from a_mcrowds a_steps a_queue a_letter a_lineX a_lineY a_triedAt a_cellAt a_besideIn a_apart a_drawer a_mkept a_listed a_mkin a_tried a_takenAt a_waysOf)) (va_Qi (fun z (_ : Unit) => z = r) (fun _ t => mP D ct ad y_km y_tp y_goes y_kin y_qd y_sides y_cuts y_flat y_cp y_cA y_cB y_1X y_1Y y_2X y_2Y y_tm y_cells a_mtape a_flood a_going a_field a_from a_mcrowds a_steps a_queue a_letter a_lineX a_lineY a_triedAt a_cellAt a_besideIn a_apart z_a_drawer a_mkept a_listed a_mkin a_tried a_takenAt a_waysOf t.heap) (mA ad)) 0 0 (mA ad) := by
  refine met_s (y := yX12_take) (rm := rmm 2 42) (by decide) (Nat.le_of_ble_eq_true rfl) ?_
  intro p e s m below meth c hx hb hr hw hown hlocks _ hml hB ls hl
  obtain ⟨hN, hK, hP⟩ := hB
  replace hl : lv_has ls 3 [(0, .ref (ad 0)), (1, .int v1)] := hl
  have hS : va_S (mA ad) s.heap s.heap [] := va_S.rf
  generalize (([.ref (ad 0), .int v1] : List Value).toArray) = av at hw ⊢
  rw [mo_take] at h
  have hJ25 : ∀ (H : Heap) (locs : List Loc) (ls : Array Slot) (v1 : Int32) (a_drawer : Nat → Int64) (t0 : Int32), lv_has ls 3 [(0, .ref (ad 0)), (1, .int v1)] → mP D ct ad y_km y_tp y_goes y_kin y_qd y_sides y_cuts y_flat y_cp y_cA y_cB y_1X y_1Y y_2X y_2Y y_tm y_cells a_mtape a_flood a_going a_field a_from a_mcrowds a_steps a_queue a_letter a_lineX a_lineY a_triedAt a_cellAt a_besideIn a_apart a_drawer a_mkept a_listed a_mkin a_tried a_takenAt a_waysOf H → va_S (mA ad) s.heap H locs → mo_take_J25 v1 a_drawer t0 = some (r, z_a_drawer) → W p l e (rmm 2 42) s m av below meth c H locs 0 0 (MQ below (va_Qi (fun z (_ : Unit) => z = r) (fun _ t => mP D ct ad y_km y_tp y_goes y_kin y_qd y_sides y_cuts y_flat y_cp y_cA y_cB y_1X y_1Y y_2X y_2Y y_tm y_cells a_mtape a_flood a_going a_field a_from a_mcrowds a_steps a_queue a_letter a_lineX a_lineY a_triedAt a_cellAt a_besideIn a_apart z_a_drawer a_mkept a_listed a_mkin a_tried a_takenAt a_waysOf t.heap) (mA ad)) av s 0 0 (mA ad)) (F0 m 25 ls [.int t0]) := by
    intro H locs ls v1 a_drawer t0 hl hP hS h
    rw [mo_take_J25] at h
    refine lv_istore_n hx hb dX12_take_25 rfl hl (Nat.le_of_ble_eq_true rfl) (lv' := [(2, .int t0), (0, .ref (ad 0)), (1, .int v1)]) rfl (fun ls hl => ?_)
    refine lv_aload_n hx hb dX12_take_26 rfl (lv_at hl 1 rfl) ?_
    refine mg_MO_0 hx hb hw hown hK hP dX12_take_27 ?_
    refine lv_iload_n hx hb dX12_take_30 rfl (lv_at hl 2 rfl) ?_
    refine lv_lconst (v := 0) hx hb dX12_take_31 kl_0 ?_
    obtain ⟨hin, h⟩ := ck_s h
    obtain ⟨a_drawer_4, ea_drawer_4, h⟩ := nm_s h
    refine ms_drawer hx hb hK hP hI hS hin ea_drawer_4 dX12_take_32 (fun H locs hP hS => ?_)
    refine lv_iload_n hx hb dX12_take_33 rfl (lv_at hl 0 rfl) ?_
    simp only [Option.some.injEq, Prod.mk.injEq] at h
    obtain ⟨rfl, rfl⟩ := h
    exact rc_i hx hb hr hlocks hS dX12_take_34 rfl hP
  refine lv_iload_n hx hb dX12_take_0 rfl (lv_at hl 1 rfl) ?_
  obtain ⟨r_5, hr_6, h⟩ := bd1_s h
  refine sc_i hx hb hml hown hw hN (c_mo_isDrawer l v1 r_5 hr_6) g_RX12_135 hd_X12_isDrawer (rest := []) hl.1 hS dX12_take_1 rfl rfl ⟨Nat.le_of_ble_eq_true rfl, Nat.le_of_ble_eq_true rfl⟩ rfl rfl (Nat.le_of_ble_eq_true rfl) ⟨Nat.zero_le _, Nat.zero_le _⟩ (fun H locs hk hS => ?_)
  have hP := mP_kept hP hk
  refine lv_if_ne hx hb dX12_take_4 (tgt := 9) rfl (fun hc => ?_) (fun hc => ?_)
  · replace h := ifn h hc
    refine lv_aload_n hx hb dX12_take_9 rfl (lv_at hl 0 rfl) ?_
    refine mg_MO_0 hx hb hw hown hK hP dX12_take_10 ?_
    refine lv_iload_n hx hb dX12_take_13 rfl (lv_at hl 1 rfl) ?_
    obtain ⟨hin, h⟩ := ck_s h
    refine md_drawer hx hb hK hP hin dX12_take_14 ?_
    refine lv_lconst (v := 0) hx hb dX12_take_15 kl_0 ?_
    refine W.lcmp hx hb dX12_take_16 ?_
    refine lv_if_ne hx hb dX12_take_17 (tgt := 24) rfl (fun hc => ?_) (fun hc => ?_)
    · replace h := ifn h (fun q => hc ((lg_cmp_eq _ _).mpr q))
      refine lv_iconst (v := 1) hx hb dX12_take_24 ki_1 ?_
      exact hJ25 _ _ _ v1 a_drawer 1 (lv_sub hl [0, 1] rfl) hP hS h
    · replace h := ifp h ((lg_cmp_eq _ _).mp hc)
      refine lv_iconst (v := 0) hx hb dX12_take_20 ki_0 ?_
      refine lv_goto hx hb dX12_take_21 (tgt := 25) rfl ?_
      exact hJ25 _ _ _ v1 a_drawer 0 (lv_sub hl [0, 1] rfl) hP hS h
  · replace h := ifp h hc
    refine lv_iconst (v := (-1)) hx hb dX12_take_7 ki_m1 ?_
    simp only [Option.some.injEq, Prod.mk.injEq] at h
    obtain ⟨rfl, rfl⟩ := h
    exact rc_i hx hb hr hlocks hS dX12_take_8 rfl hP
noncomputable def mo_comes (v1 : Int64) (v3 : Int32) (v4 : Int32) (v5 : Int32) (y_goes : Int32) (a_flood : Nat → Int32) (a_going : Nat → Int32) : Option (Int32 × (Nat → Int32) × (Nat → Int32)) :=
  bd1 (mo_in v3 0 8) fun r_1 =>
  if r_1 = 0 then (some (y_goes, a_flood, a_going)) else
  bd1 (mo_in v4 0 8) fun r_3 =>
  if r_3 = 0 then (some (y_goes, a_flood, a_going)) else
  nm ((9 * v4) + v3 : Int32) fun i_5 =>
  ck i_5 81 <|
  if (a_flood i_5.toNatClampNeg) = (-1) then (bd1 (mo_isCell v1 (v3 - 1) (v4 - 1)) fun r_6 =>
  if r_6 = 0 then (nm ((9 * v4) + v3 : Int32) fun i_8 =>
  ck i_8 81 <|
  nm (upd a_flood i_8.toNatClampNeg v5) fun a_flood_9 =>
  nm ((9 * v4) + v3 : Int32) fun w_10 =>
  ck y_goes 81 <|
  nm (upd a_going y_goes.toNatClampNeg w_10) fun a_going_11 =>
  nm (y_goes + 1 : Int32) fun y_goes_12 =>
  some (y_goes_12, a_flood_9, a_going_11)) else
  some (y_goes, a_flood, a_going)) else
  some (y_goes, a_flood, a_going)
set_option maxHeartbeats 4000000 in
set_option maxRecDepth 100000 in
theorem c_mo_comes (l : Launch) (D : va_G) (ct : Nat → ClassId) (ad : Nat → Nat) (hI : mI ad) {y_km y_tp y_goes y_kin y_qd y_sides y_cuts y_flat y_cp y_cA y_cB y_1X y_1Y y_2X y_2Y y_tm y_cells : Int32} {a_mtape a_flood a_going a_field a_from a_mcrowds a_steps a_queue a_letter a_lineX a_lineY a_triedAt a_cellAt a_besideIn a_apart : Nat → Int32} {a_drawer a_mkept a_listed a_mkin a_tried a_takenAt a_waysOf : Nat → Int64} (v1 : Int64) (v3 : Int32) (v4 : Int32) (v5 : Int32)  (z_y_goes : Int32) (z_a_flood : Nat → Int32) (z_a_going : Nat → Int32) (h : mo_comes v1 v3 v4 v5 y_goes a_flood a_going = some (z_y_goes, z_a_flood, z_a_going)) : Met l yX12_comes (wm yX12_comes cX12_comes 6 none) (rmm 2 45) (va_Pc [.ref (ad 0), .long v1, .int v3, .int v4, .int v5] (mB D ct ad y_km y_tp y_goes y_kin y_qd y_sides y_cuts y_flat y_cp y_cA y_cB y_1X y_1Y y_2X y_2Y y_tm y_cells a_mtape a_flood a_going a_field a_from a_mcrowds a_steps a_queue a_letter a_lineX a_lineY a_triedAt a_cellAt a_besideIn a_apart a_drawer a_mkept a_listed a_mkin a_tried a_takenAt a_waysOf)) (va_Qv (fun (_ : Unit) => True) (fun _ t => mP D ct ad y_km y_tp z_y_goes y_kin y_qd y_sides y_cuts y_flat y_cp y_cA y_cB y_1X y_1Y y_2X y_2Y y_tm y_cells a_mtape z_a_flood z_a_going a_field a_from a_mcrowds a_steps a_queue a_letter a_lineX a_lineY a_triedAt a_cellAt a_besideIn a_apart a_drawer a_mkept a_listed a_mkin a_tried a_takenAt a_waysOf t.heap) (mA ad)) 0 0 (mA ad) := by
  refine met_s (y := yX12_comes) (rm := rmm 2 45) (by decide) (Nat.le_of_ble_eq_true rfl) ?_
  intro p e s m below meth c hx hb hr hw hown hlocks _ hml hB ls hl
  obtain ⟨hN, hK, hP⟩ := hB
  replace hl : lv_has ls 6 [(0, .ref (ad 0)), (1, .long v1), (3, .int v3), (4, .int v4), (5, .int v5)] := hl
  have hS : va_S (mA ad) s.heap s.heap [] := va_S.rf
  generalize (([.ref (ad 0), .long v1, .int v3, .int v4, .int v5] : List Value).toArray) = av at hw ⊢
  rw [mo_comes] at h
  refine lv_iload_n hx hb dX12_comes_0 rfl (lv_at hl 2 rfl) ?_
  refine lv_iconst (v := 0) hx hb dX12_comes_1 ki_0 ?_
  refine lv_bipush (v := 8) hx hb dX12_comes_2 kb_8 ?_
  obtain ⟨r_13, hr_14, h⟩ := bd1_s h
  refine sc_i hx hb hml hown hw hN (c_mo_in l v3 0 8 r_13 hr_14) g_RX12_82 hd_X12_in (rest := []) hl.1 hS dX12_comes_4 rfl rfl ⟨Nat.le_of_ble_eq_true rfl, Nat.le_of_ble_eq_true rfl⟩ rfl rfl (Nat.le_of_ble_eq_true rfl) ⟨Nat.zero_le _, Nat.zero_le _⟩ (fun H locs hk hS => ?_)
  have hP := mP_kept hP hk
  refine lv_if_eq hx hb dX12_comes_7 (tgt := 51) rfl (fun hc => ?_) (fun hc => ?_)
  · replace h := ifp h hc
    simp only [Option.some.injEq, Prod.mk.injEq] at h
    obtain ⟨rfl, rfl, rfl⟩ := h
    exact rc_v hx hb hr hlocks hS dX12_comes_51 hP
  · replace h := ifn h hc
    refine lv_iload hx hb dX12_comes_10 (lv_at hl 3 rfl) ?_
    refine lv_iconst (v := 0) hx hb dX12_comes_12 ki_0 ?_
    refine lv_bipush (v := 8) hx hb dX12_comes_13 kb_8 ?_
    obtain ⟨r_15, hr_16, h⟩ := bd1_s h
    refine sc_i hx hb hml hown hw hN (c_mo_in l v4 0 8 r_15 hr_16) g_RX12_82 hd_X12_in (rest := []) hl.1 hS dX12_comes_15 rfl rfl ⟨Nat.le_of_ble_eq_true rfl, Nat.le_of_ble_eq_true rfl⟩ rfl rfl (Nat.le_of_ble_eq_true rfl) ⟨Nat.zero_le _, Nat.zero_le _⟩ (fun H locs hk hS => ?_)
    have hP := mP_kept hP hk
    refine lv_if_eq hx hb dX12_comes_18 (tgt := 51) rfl (fun hc => ?_) (fun hc => ?_)
    · replace h := ifp h hc
      simp only [Option.some.injEq, Prod.mk.injEq] at h
      obtain ⟨rfl, rfl, rfl⟩ := h
      exact rc_v hx hb hr hlocks hS dX12_comes_51 hP
    · replace h := ifn h hc
      refine lv_aload_n hx hb dX12_comes_21 rfl (lv_at hl 0 rfl) ?_
      refine mg_MO_5 hx hb hw hown hK hP dX12_comes_22 ?_
      refine lv_bipush (v := 9) hx hb dX12_comes_25 kb_9 ?_
      refine lv_iload hx hb dX12_comes_27 (lv_at hl 3 rfl) ?_
      refine lv_imul hx hb dX12_comes_29 ?_
      refine lv_iload_n hx hb dX12_comes_30 rfl (lv_at hl 2 rfl) ?_
      refine lv_iadd hx hb dX12_comes_31 ?_
      obtain ⟨i_17, ei_17, h⟩ := nm_s h
      refine nmI ei_17 ?_
      obtain ⟨hin, h⟩ := ck_s h
      refine md_flood hx hb hK hP hin dX12_comes_32 ?_
      refine lv_iconst (v := (-1)) hx hb dX12_comes_33 ki_m1 ?_
      refine lv_icmp_ne hx hb dX12_comes_34 (tgt := 51) rfl (fun hc => ?_) (fun hc => ?_)
      · replace h := ifn h hc
        simp only [Option.some.injEq, Prod.mk.injEq] at h
        obtain ⟨rfl, rfl, rfl⟩ := h
        exact rc_v hx hb hr hlocks hS dX12_comes_51 hP
      · replace h := ifp h hc
        refine lv_lload_n hx hb dX12_comes_37 rfl (lv_at hl 1 rfl) ?_
        refine lv_iload_n hx hb dX12_comes_38 rfl (lv_at hl 2 rfl) ?_
        refine lv_iconst (v := 1) hx hb dX12_comes_39 ki_1 ?_
        refine lv_isub hx hb dX12_comes_40 ?_
        refine lv_iload hx hb dX12_comes_41 (lv_at hl 3 rfl) ?_
        refine lv_iconst (v := 1) hx hb dX12_comes_43 ki_1 ?_
        refine lv_isub hx hb dX12_comes_44 ?_
        obtain ⟨r_18, hr_19, h⟩ := bd1_s h
        refine sc_i hx hb hml hown hw hN (c_mo_isCell l v1 (v3 - 1) (v4 - 1) r_18 hr_19) g_RX12_142 hd_X12_isCell (rest := []) hl.1 hS dX12_comes_45 rfl rfl ⟨Nat.le_of_ble_eq_true rfl, Nat.le_of_ble_eq_true rfl⟩ rfl rfl (Nat.le_of_ble_eq_true rfl) ⟨Nat.zero_le _, Nat.zero_le _⟩ (fun H locs hk hS => ?_)
        have hP := mP_kept hP hk
        refine lv_if_eq hx hb dX12_comes_48 (tgt := 52) rfl (fun hc => ?_) (fun hc => ?_)
        · replace h := ifp h hc
          refine lv_aload_n hx hb dX12_comes_52 rfl (lv_at hl 0 rfl) ?_
          refine mg_MO_5 hx hb hw hown hK hP dX12_comes_53 ?_
          refine lv_bipush (v := 9) hx hb dX12_comes_56 kb_9 ?_
          refine lv_iload hx hb dX12_comes_58 (lv_at hl 3 rfl) ?_
          refine lv_imul hx hb dX12_comes_60 ?_
          refine lv_iload_n hx hb dX12_comes_61 rfl (lv_at hl 2 rfl) ?_
          refine lv_iadd hx hb dX12_comes_62 ?_
          refine lv_iload hx hb dX12_comes_63 (lv_at hl 4 rfl) ?_
          obtain ⟨i_20, ei_20, h⟩ := nm_s h
          refine nmI2 ei_20 ?_
          obtain ⟨hin, h⟩ := ck_s h
          obtain ⟨a_flood_21, ea_flood_21, h⟩ := nm_s h
          refine ms_flood hx hb hK hP hI hS hin ea_flood_21 dX12_comes_65 (fun H locs hP hS => ?_)
          refine lv_aload_n hx hb dX12_comes_66 rfl (lv_at hl 0 rfl) ?_
          refine mg_MO_6 hx hb hw hown hK hP dX12_comes_67 ?_
          refine lv_aload_n hx hb dX12_comes_70 rfl (lv_at hl 0 rfl) ?_
          refine mg_MO_7 hx hb hw hown hK hP dX12_comes_71 ?_
          refine lv_bipush (v := 9) hx hb dX12_comes_74 kb_9 ?_
          refine lv_iload hx hb dX12_comes_76 (lv_at hl 3 rfl) ?_
          refine lv_imul hx hb dX12_comes_78 ?_
          refine lv_iload_n hx hb dX12_comes_79 rfl (lv_at hl 2 rfl) ?_
          refine lv_iadd hx hb dX12_comes_80 ?_
          obtain ⟨w_22, ew_22, h⟩ := nm_s h
          refine nmI ew_22 ?_
          obtain ⟨hin, h⟩ := ck_s h
          obtain ⟨a_going_23, ea_going_23, h⟩ := nm_s h
          refine ms_going hx hb hK hP hI hS hin ea_going_23 dX12_comes_81 (fun H locs hP hS => ?_)
          refine lv_aload_n hx hb dX12_comes_82 rfl (lv_at hl 0 rfl) ?_
          refine lv_aload_n hx hb dX12_comes_83 rfl (lv_at hl 0 rfl) ?_
          refine mg_MO_7 hx hb hw hown hK hP dX12_comes_84 ?_
          refine lv_iconst (v := 1) hx hb dX12_comes_87 ki_1 ?_
          refine lv_iadd hx hb dX12_comes_88 ?_
          obtain ⟨y_goes_24, ey_goes_24, h⟩ := nm_s h
          refine nmI ey_goes_24 ?_
          refine mp_MO_7 hx hb hw hown hK hP hI hS dX12_comes_89 (fun H locs hP hS => ?_)
          simp only [Option.some.injEq, Prod.mk.injEq] at h
          obtain ⟨rfl, rfl, rfl⟩ := h
          exact rc_v hx hb hr hlocks hS dX12_comes_92 hP
        · replace h := ifn h hc
          simp only [Option.some.injEq, Prod.mk.injEq] at h
          obtain ⟨rfl, rfl, rfl⟩ := h
          exact rc_v hx hb hr hlocks hS dX12_comes_51 hP
noncomputable def mo_laysHoles_J158 (k26 : Int32 → Int32 → Int32 → (Nat → Int32) → (Nat → Int32) → Option (Int32 × Int32 × (Nat → Int32) × (Nat → Int32))) (v1 : Int64) (v3 : Int32) (v4 : Int32) (y_goes : Int32) (a_flood : Nat → Int32) (a_going : Nat → Int32)  : Option (Int32 × Int32 × (Nat → Int32) × (Nat → Int32)) :=
  nm (v4 + Int32.ofInt 1) fun v4_1 =>
  k26 v3 v4_1 y_goes a_flood a_going
noncomputable def mo_laysHoles_B67 (v1 : Int64) (v3 : Int32) (v4 : Int32) (k26 : Int32 → Int32 → Int32 → (Nat → Int32) → (Nat → Int32) → Option (Int32 × Int32 × (Nat → Int32) × (Nat → Int32))) (k67 : Int32 → Int32 → (Nat → Int32) → (Nat → Int32) → Option (Int32 × Int32 × (Nat → Int32) × (Nat → Int32))) (v5 : Int32) (y_goes : Int32) (a_flood : Nat → Int32) (a_going : Nat → Int32) : Option (Int32 × Int32 × (Nat → Int32) × (Nat → Int32)) :=
  if y_goes ≤ v5 then (nm (v3 + 1 : Int32) fun v3_2 =>
  mo_laysHoles_J158 k26 v1 v3_2 v4 y_goes a_flood a_going) else
  ck v5 81 <|
  dzI 9 <|
  nm (remI (a_going v5.toNatClampNeg) 9 : Int32) fun v6_3 =>
  ck v5 81 <|
  dzI 9 <|
  nm ((a_going v5.toNatClampNeg) / 9 : Int32) fun v7_4 =>
  bd3 (mo_comes v1 (v6_3 + 1) v7_4 v3 y_goes a_flood a_going) fun y_goes_5 a_flood_6 a_going_7 =>
  bd3 (mo_comes v1 (v6_3 - 1) v7_4 v3 y_goes_5 a_flood_6 a_going_7) fun y_goes_9 a_flood_10 a_going_11 =>
  bd3 (mo_comes v1 v6_3 (v7_4 + 1) v3 y_goes_9 a_flood_10 a_going_11) fun y_goes_13 a_flood_14 a_going_15 =>
  bd3 (mo_comes v1 v6_3 (v7_4 - 1) v3 y_goes_13 a_flood_14 a_going_15) fun y_goes_17 a_flood_18 a_going_19 =>
  nm (v5 + Int32.ofInt 1) fun v5_21 =>
  k67 v5_21 y_goes_17 a_flood_18 a_going_19
noncomputable def mo_laysHoles_B26 (v1 : Int64)  (k26 : Int32 → Int32 → Int32 → (Nat → Int32) → (Nat → Int32) → Option (Int32 × Int32 × (Nat → Int32) × (Nat → Int32))) (v3 : Int32) (v4 : Int32) (y_goes : Int32) (a_flood : Nat → Int32) (a_going : Nat → Int32) : Option (Int32 × Int32 × (Nat → Int32) × (Nat → Int32)) :=
  if 81 ≤ v4 then (some (v3 - 1, y_goes, a_flood, a_going)) else
  dzI 9 <|
  dzI 9 <|
  bd3 (mo_comes v1 (remI v4 9) (v4 / 9) v3 0 a_flood a_going) fun y_goes_22 a_flood_23 a_going_24 =>
  if y_goes_22 = 0 then (mo_laysHoles_J158 k26 v1 v3 v4 y_goes_22 a_flood_23 a_going_24) else
  fl4 (mo_laysHoles_B67 v1 v3 v4 k26) FU 0 y_goes_22 a_flood_23 a_going_24
noncomputable def mo_laysHoles_B2 (v1 : Int64) (y_goes : Int32) (a_going : Nat → Int32)  (k2 : Int32 → (Nat → Int32) → Option (Int32 × Int32 × (Nat → Int32) × (Nat → Int32))) (v3 : Int32) (a_flood : Nat → Int32) : Option (Int32 × Int32 × (Nat → Int32) × (Nat → Int32)) :=
  if 81 ≤ v3 then (fl5 (mo_laysHoles_B26 v1) FU 0 0 y_goes a_flood a_going) else
  ck v3 81 <|
  nm (upd a_flood v3.toNatClampNeg (-1)) fun a_flood_26 =>
  nm (v3 + Int32.ofInt 1) fun v3_27 =>
  k2 v3_27 a_flood_26
noncomputable def mo_laysHoles (v1 : Int64) (y_goes : Int32) (a_flood : Nat → Int32) (a_going : Nat → Int32) : Option (Int32 × Int32 × (Nat → Int32) × (Nat → Int32)) :=
  fl2 (mo_laysHoles_B2 v1 y_goes a_going) FU 0 a_flood
set_option maxHeartbeats 4000000 in
set_option maxRecDepth 100000 in
theorem c_mo_laysHoles (l : Launch) (D : va_G) (ct : Nat → ClassId) (ad : Nat → Nat) (hI : mI ad) {y_km y_tp y_goes y_kin y_qd y_sides y_cuts y_flat y_cp y_cA y_cB y_1X y_1Y y_2X y_2Y y_tm y_cells : Int32} {a_mtape a_flood a_going a_field a_from a_mcrowds a_steps a_queue a_letter a_lineX a_lineY a_triedAt a_cellAt a_besideIn a_apart : Nat → Int32} {a_drawer a_mkept a_listed a_mkin a_tried a_takenAt a_waysOf : Nat → Int64} (v1 : Int64) (r : Int32) (z_y_goes : Int32) (z_a_flood : Nat → Int32) (z_a_going : Nat → Int32) (h : mo_laysHoles v1 y_goes a_flood a_going = some (r, z_y_goes, z_a_flood, z_a_going)) : Met l yX12_laysHoles (wm yX12_laysHoles cX12_laysHoles 8 (some .int)) (rmm 3 70) (va_Pc [.ref (ad 0), .long v1] (mB D ct ad y_km y_tp y_goes y_kin y_qd y_sides y_cuts y_flat y_cp y_cA y_cB y_1X y_1Y y_2X y_2Y y_tm y_cells a_mtape a_flood a_going a_field a_from a_mcrowds a_steps a_queue a_letter a_lineX a_lineY a_triedAt a_cellAt a_besideIn a_apart a_drawer a_mkept a_listed a_mkin a_tried a_takenAt a_waysOf)) (va_Qi (fun z (_ : Unit) => z = r) (fun _ t => mP D ct ad y_km y_tp z_y_goes y_kin y_qd y_sides y_cuts y_flat y_cp y_cA y_cB y_1X y_1Y y_2X y_2Y y_tm y_cells a_mtape z_a_flood z_a_going a_field a_from a_mcrowds a_steps a_queue a_letter a_lineX a_lineY a_triedAt a_cellAt a_besideIn a_apart a_drawer a_mkept a_listed a_mkin a_tried a_takenAt a_waysOf t.heap) (mA ad)) 0 0 (mA ad) := by
  refine met_s (y := yX12_laysHoles) (rm := rmm 3 70) (by decide) (Nat.le_of_ble_eq_true rfl) ?_
  intro p e s m below meth c hx hb hr hw hown hlocks _ hml hB ls hl
  obtain ⟨hN, hK, hP⟩ := hB
  replace hl : lv_has ls 8 [(0, .ref (ad 0)), (1, .long v1)] := hl
  have hS : va_S (mA ad) s.heap s.heap [] := va_S.rf
  generalize (([.ref (ad 0), .long v1] : List Value).toArray) = av at hw ⊢
  rw [mo_laysHoles] at h
  have hL26 : ∀ (v1 : Int64), ∀ (n26 : Nat) (H : Heap) (locs : List Loc) (ls : Array Slot) (v3 : Int32) (v4 : Int32) (y_goes : Int32) (a_flood : Nat → Int32) (a_going : Nat → Int32), lv_has ls 8 [(0, .ref (ad 0)), (1, .long v1), (3, .int v3), (4, .int v4)] → mP D ct ad y_km y_tp y_goes y_kin y_qd y_sides y_cuts y_flat y_cp y_cA y_cB y_1X y_1Y y_2X y_2Y y_tm y_cells a_mtape a_flood a_going a_field a_from a_mcrowds a_steps a_queue a_letter a_lineX a_lineY a_triedAt a_cellAt a_besideIn a_apart a_drawer a_mkept a_listed a_mkin a_tried a_takenAt a_waysOf H → va_S (mA ad) s.heap H locs → fl5 (mo_laysHoles_B26 v1) n26 v3 v4 y_goes a_flood a_going = some (r, z_y_goes, z_a_flood, z_a_going) → W p l e (rmm 3 70) s m av below meth c H locs 0 0 (MQ below (va_Qi (fun z (_ : Unit) => z = r) (fun _ t => mP D ct ad y_km y_tp z_y_goes y_kin y_qd y_sides y_cuts y_flat y_cp y_cA y_cB y_1X y_1Y y_2X y_2Y y_tm y_cells a_mtape z_a_flood z_a_going a_field a_from a_mcrowds a_steps a_queue a_letter a_lineX a_lineY a_triedAt a_cellAt a_besideIn a_apart a_drawer a_mkept a_listed a_mkin a_tried a_takenAt a_waysOf t.heap) (mA ad)) av s 0 0 (mA ad)) (F0 m 26 ls []) := by
    intro v1 n26
    induction n26 with
    | zero => intro H locs ls v3 v4 y_goes a_flood a_going hl hP hS h; cases h
    | succ n26 ih26 =>
      intro H locs ls v3 v4 y_goes a_flood a_going hl hP hS h
      replace h : mo_laysHoles_B26 v1 (fl5 (mo_laysHoles_B26 v1) n26) v3 v4 y_goes a_flood a_going = some (r, z_y_goes, z_a_flood, z_a_going) := h
      generalize fl5 (mo_laysHoles_B26 v1) n26 = k26 at h ih26
      have hJ158 : ∀ (H : Heap) (locs : List Loc) (ls : Array Slot) (v3 : Int32) (v4 : Int32) (y_goes : Int32) (a_flood : Nat → Int32) (a_going : Nat → Int32) , lv_has ls 8 [(0, .ref (ad 0)), (1, .long v1), (3, .int v3), (4, .int v4)] → mP D ct ad y_km y_tp y_goes y_kin y_qd y_sides y_cuts y_flat y_cp y_cA y_cB y_1X y_1Y y_2X y_2Y y_tm y_cells a_mtape a_flood a_going a_field a_from a_mcrowds a_steps a_queue a_letter a_lineX a_lineY a_triedAt a_cellAt a_besideIn a_apart a_drawer a_mkept a_listed a_mkin a_tried a_takenAt a_waysOf H → va_S (mA ad) s.heap H locs → mo_laysHoles_J158 k26 v1 v3 v4 y_goes a_flood a_going = some (r, z_y_goes, z_a_flood, z_a_going) → W p l e (rmm 3 70) s m av below meth c H locs 0 0 (MQ below (va_Qi (fun z (_ : Unit) => z = r) (fun _ t => mP D ct ad y_km y_tp z_y_goes y_kin y_qd y_sides y_cuts y_flat y_cp y_cA y_cB y_1X y_1Y y_2X y_2Y y_tm y_cells a_mtape z_a_flood z_a_going a_field a_from a_mcrowds a_steps a_queue a_letter a_lineX a_lineY a_triedAt a_cellAt a_besideIn a_apart a_drawer a_mkept a_listed a_mkin a_tried a_takenAt a_waysOf t.heap) (mA ad)) av s 0 0 (mA ad)) (F0 m 158 ls []) := by
        intro H locs ls v3 v4 y_goes a_flood a_going  hl hP hS h
        rw [mo_laysHoles_J158] at h
        obtain ⟨v4_28, ev4_28, h⟩ := nm_s h
        refine lv_iinc hx hb dX12_laysHoles_158 hl (k := 3) rfl ev4_28.symm (Nat.le_of_ble_eq_true rfl) (lv' := [(4, .int v4_28), (0, .ref (ad 0)), (1, .long v1), (3, .int v3)]) rfl (fun ls hl => ?_)
        refine lv_goto hx hb dX12_laysHoles_161 (tgt := 26) rfl ?_
        exact ih26 _ _ _ v3 v4_28 y_goes a_flood a_going (lv_sub hl [1, 2, 3, 0] rfl) hP hS h
      have hL67 : ∀ (v3 : Int32), ∀ (v4 : Int32), ∀ (n67 : Nat) (H : Heap) (locs : List Loc) (ls : Array Slot) (v5 : Int32) (y_goes : Int32) (a_flood : Nat → Int32) (a_going : Nat → Int32), lv_has ls 8 [(0, .ref (ad 0)), (1, .long v1), (3, .int v3), (4, .int v4), (5, .int v5)] → mP D ct ad y_km y_tp y_goes y_kin y_qd y_sides y_cuts y_flat y_cp y_cA y_cB y_1X y_1Y y_2X y_2Y y_tm y_cells a_mtape a_flood a_going a_field a_from a_mcrowds a_steps a_queue a_letter a_lineX a_lineY a_triedAt a_cellAt a_besideIn a_apart a_drawer a_mkept a_listed a_mkin a_tried a_takenAt a_waysOf H → va_S (mA ad) s.heap H locs → fl4 (mo_laysHoles_B67 v1 v3 v4 k26) n67 v5 y_goes a_flood a_going = some (r, z_y_goes, z_a_flood, z_a_going) → W p l e (rmm 3 70) s m av below meth c H locs 0 0 (MQ below (va_Qi (fun z (_ : Unit) => z = r) (fun _ t => mP D ct ad y_km y_tp z_y_goes y_kin y_qd y_sides y_cuts y_flat y_cp y_cA y_cB y_1X y_1Y y_2X y_2Y y_tm y_cells a_mtape z_a_flood z_a_going a_field a_from a_mcrowds a_steps a_queue a_letter a_lineX a_lineY a_triedAt a_cellAt a_besideIn a_apart a_drawer a_mkept a_listed a_mkin a_tried a_takenAt a_waysOf t.heap) (mA ad)) av s 0 0 (mA ad)) (F0 m 67 ls []) := by
        intro v3 v4 n67
        induction n67 with
        | zero => intro H locs ls v5 y_goes a_flood a_going hl hP hS h; cases h
        | succ n67 ih67 =>
          intro H locs ls v5 y_goes a_flood a_going hl hP hS h
          replace h : mo_laysHoles_B67 v1 v3 v4 k26 (fl4 (mo_laysHoles_B67 v1 v3 v4 k26) n67) v5 y_goes a_flood a_going = some (r, z_y_goes, z_a_flood, z_a_going) := h
          generalize fl4 (mo_laysHoles_B67 v1 v3 v4 k26) n67 = k67 at h ih67
          rw [mo_laysHoles_B67] at h
          refine lv_iload hx hb dX12_laysHoles_67 (lv_at hl 4 rfl) ?_
          refine lv_aload_n hx hb dX12_laysHoles_69 rfl (lv_at hl 0 rfl) ?_
          refine mg_MO_7 hx hb hw hown hK hP dX12_laysHoles_70 ?_
          refine lv_icmp_ge hx hb dX12_laysHoles_73 (tgt := 154) rfl (fun hc => ?_) (fun hc => ?_)
          · replace h := ifp h hc
            refine lv_iload_n hx hb dX12_laysHoles_154 rfl (lv_at hl 2 rfl) ?_
            refine lv_iconst (v := 1) hx hb dX12_laysHoles_155 ki_1 ?_
            refine lv_iadd hx hb dX12_laysHoles_156 ?_
            obtain ⟨v3_29, ev3_29, h⟩ := nm_s h
            refine nmI ev3_29 ?_
            refine lv_istore_n hx hb dX12_laysHoles_157 rfl hl (Nat.le_of_ble_eq_true rfl) (lv' := [(3, .int v3_29), (0, .ref (ad 0)), (1, .long v1), (4, .int v4), (5, .int v5)]) rfl (fun ls hl => ?_)
            exact hJ158 _ _ _ v3_29 v4 y_goes a_flood a_going (lv_sub hl [1, 2, 0, 3] rfl) hP hS h
          · replace h := ifn h hc
            refine lv_aload_n hx hb dX12_laysHoles_76 rfl (lv_at hl 0 rfl) ?_
            refine mg_MO_6 hx hb hw hown hK hP dX12_laysHoles_77 ?_
            refine lv_iload hx hb dX12_laysHoles_80 (lv_at hl 4 rfl) ?_
            obtain ⟨hin, h⟩ := ck_s h
            refine md_going hx hb hK hP hin dX12_laysHoles_82 ?_
            refine lv_bipush (v := 9) hx hb dX12_laysHoles_83 kb_9 ?_
            obtain ⟨hne, h⟩ := dzI_s h
            refine lv_irem hx hb dX12_laysHoles_85 hne ?_
            refine nmI (v := remI (a_going v5.toNatClampNeg) 9) rfl ?_
            obtain ⟨v6_30, ev6_30, h⟩ := nm_s h
            refine nmI ev6_30 ?_
            refine lv_istore hx hb dX12_laysHoles_86 hl (Nat.le_of_ble_eq_true rfl) (lv' := [(6, .int v6_30), (0, .ref (ad 0)), (1, .long v1), (3, .int v3), (4, .int v4), (5, .int v5)]) rfl (fun ls hl => ?_)
            refine lv_aload_n hx hb dX12_laysHoles_88 rfl (lv_at hl 1 rfl) ?_
            refine mg_MO_6 hx hb hw hown hK hP dX12_laysHoles_89 ?_
            refine lv_iload hx hb dX12_laysHoles_92 (lv_at hl 5 rfl) ?_
            obtain ⟨hin, h⟩ := ck_s h
            refine md_going hx hb hK hP hin dX12_laysHoles_94 ?_
            refine lv_bipush (v := 9) hx hb dX12_laysHoles_95 kb_9 ?_
            obtain ⟨hne, h⟩ := dzI_s h
            refine lv_idiv hx hb dX12_laysHoles_97 hne ?_
            obtain ⟨v7_31, ev7_31, h⟩ := nm_s h
            refine nmI ev7_31 ?_
            refine lv_istore hx hb dX12_laysHoles_98 hl (Nat.le_of_ble_eq_true rfl) (lv' := [(7, .int v7_31), (6, .int v6_30), (0, .ref (ad 0)), (1, .long v1), (3, .int v3), (4, .int v4), (5, .int v5)]) rfl (fun ls hl => ?_)
            refine lv_aload_n hx hb dX12_laysHoles_100 rfl (lv_at hl 2 rfl) ?_
            refine lv_lload_n hx hb dX12_laysHoles_101 rfl (lv_at hl 3 rfl) ?_
            refine lv_iload hx hb dX12_laysHoles_102 (lv_at hl 1 rfl) ?_
            refine lv_iconst (v := 1) hx hb dX12_laysHoles_104 ki_1 ?_
            refine lv_iadd hx hb dX12_laysHoles_105 ?_
            refine lv_iload hx hb dX12_laysHoles_106 (lv_at hl 0 rfl) ?_
            refine lv_iload_n hx hb dX12_laysHoles_108 rfl (lv_at hl 4 rfl) ?_
            obtain ⟨y_goes_32, a_flood_33, a_going_34, hr_35, h⟩ := bd3_s h
            refine hv_v hx hb hml hown hw mB_bl (mB_of hN hK hP) (mr_MO hK hP) (c_mo_comes l D ct ad hI v1 (v6_30 + 1) v7_31 v3 y_goes_32 a_flood_33 a_going_34 hr_35) g_RX12_149 ⟨rfl, hd_X12_comes⟩ (rest := []) hl.1 hS (fun q h => h) dX12_laysHoles_109 rfl rfl ⟨Nat.le_of_ble_eq_true rfl, Nat.le_of_ble_eq_true rfl⟩ rfl rfl (Nat.le_of_ble_eq_true rfl) ⟨Nat.zero_le _, Nat.zero_le _⟩ (fun H locs hP _ hS => ?_)
            refine lv_aload_n hx hb dX12_laysHoles_112 rfl (lv_at hl 2 rfl) ?_
            refine lv_lload_n hx hb dX12_laysHoles_113 rfl (lv_at hl 3 rfl) ?_
            refine lv_iload hx hb dX12_laysHoles_114 (lv_at hl 1 rfl) ?_
            refine lv_iconst (v := 1) hx hb dX12_laysHoles_116 ki_1 ?_
            refine lv_isub hx hb dX12_laysHoles_117 ?_
            refine lv_iload hx hb dX12_laysHoles_118 (lv_at hl 0 rfl) ?_
            refine lv_iload_n hx hb dX12_laysHoles_120 rfl (lv_at hl 4 rfl) ?_
            obtain ⟨y_goes_36, a_flood_37, a_going_38, hr_39, h⟩ := bd3_s h
            refine hv_v hx hb hml hown hw mB_bl (mB_of hN hK hP) (mr_MO hK hP) (c_mo_comes l D ct ad hI v1 (v6_30 - 1) v7_31 v3 y_goes_36 a_flood_37 a_going_38 hr_39) g_RX12_149 ⟨rfl, hd_X12_comes⟩ (rest := []) hl.1 hS (fun q h => h) dX12_laysHoles_121 rfl rfl ⟨Nat.le_of_ble_eq_true rfl, Nat.le_of_ble_eq_true rfl⟩ rfl rfl (Nat.le_of_ble_eq_true rfl) ⟨Nat.zero_le _, Nat.zero_le _⟩ (fun H locs hP _ hS => ?_)
            refine lv_aload_n hx hb dX12_laysHoles_124 rfl (lv_at hl 2 rfl) ?_
            refine lv_lload_n hx hb dX12_laysHoles_125 rfl (lv_at hl 3 rfl) ?_
            refine lv_iload hx hb dX12_laysHoles_126 (lv_at hl 1 rfl) ?_
            refine lv_iload hx hb dX12_laysHoles_128 (lv_at hl 0 rfl) ?_
            refine lv_iconst (v := 1) hx hb dX12_laysHoles_130 ki_1 ?_
            refine lv_iadd hx hb dX12_laysHoles_131 ?_
            refine lv_iload_n hx hb dX12_laysHoles_132 rfl (lv_at hl 4 rfl) ?_
            obtain ⟨y_goes_40, a_flood_41, a_going_42, hr_43, h⟩ := bd3_s h
            refine hv_v hx hb hml hown hw mB_bl (mB_of hN hK hP) (mr_MO hK hP) (c_mo_comes l D ct ad hI v1 v6_30 (v7_31 + 1) v3 y_goes_40 a_flood_41 a_going_42 hr_43) g_RX12_149 ⟨rfl, hd_X12_comes⟩ (rest := []) hl.1 hS (fun q h => h) dX12_laysHoles_133 rfl rfl ⟨Nat.le_of_ble_eq_true rfl, Nat.le_of_ble_eq_true rfl⟩ rfl rfl (Nat.le_of_ble_eq_true rfl) ⟨Nat.zero_le _, Nat.zero_le _⟩ (fun H locs hP _ hS => ?_)
            refine lv_aload_n hx hb dX12_laysHoles_136 rfl (lv_at hl 2 rfl) ?_
            refine lv_lload_n hx hb dX12_laysHoles_137 rfl (lv_at hl 3 rfl) ?_
            refine lv_iload hx hb dX12_laysHoles_138 (lv_at hl 1 rfl) ?_
            refine lv_iload hx hb dX12_laysHoles_140 (lv_at hl 0 rfl) ?_
            refine lv_iconst (v := 1) hx hb dX12_laysHoles_142 ki_1 ?_
            refine lv_isub hx hb dX12_laysHoles_143 ?_
            refine lv_iload_n hx hb dX12_laysHoles_144 rfl (lv_at hl 4 rfl) ?_
            obtain ⟨y_goes_44, a_flood_45, a_going_46, hr_47, h⟩ := bd3_s h
            refine hv_v hx hb hml hown hw mB_bl (mB_of hN hK hP) (mr_MO hK hP) (c_mo_comes l D ct ad hI v1 v6_30 (v7_31 - 1) v3 y_goes_44 a_flood_45 a_going_46 hr_47) g_RX12_149 ⟨rfl, hd_X12_comes⟩ (rest := []) hl.1 hS (fun q h => h) dX12_laysHoles_145 rfl rfl ⟨Nat.le_of_ble_eq_true rfl, Nat.le_of_ble_eq_true rfl⟩ rfl rfl (Nat.le_of_ble_eq_true rfl) ⟨Nat.zero_le _, Nat.zero_le _⟩ (fun H locs hP _ hS => ?_)
            obtain ⟨v5_48, ev5_48, h⟩ := nm_s h
            refine lv_iinc hx hb dX12_laysHoles_148 hl (k := 6) rfl ev5_48.symm (Nat.le_of_ble_eq_true rfl) (lv' := [(5, .int v5_48), (7, .int v7_31), (6, .int v6_30), (0, .ref (ad 0)), (1, .long v1), (3, .int v3), (4, .int v4)]) rfl (fun ls hl => ?_)
            refine lv_goto hx hb dX12_laysHoles_151 (tgt := 67) rfl ?_
            exact ih67 _ _ _ v5_48 y_goes_44 a_flood_45 a_going_46 (lv_sub hl [3, 4, 5, 6, 0] rfl) hP hS h
      rw [mo_laysHoles_B26] at h
      refine lv_iload hx hb dX12_laysHoles_26 (lv_at hl 3 rfl) ?_
      refine lv_bipush (v := 81) hx hb dX12_laysHoles_28 kb_81 ?_
      refine lv_icmp_ge hx hb dX12_laysHoles_30 (tgt := 164) rfl (fun hc => ?_) (fun hc => ?_)
      · replace h := ifp h hc
        refine lv_iload_n hx hb dX12_laysHoles_164 rfl (lv_at hl 2 rfl) ?_
        refine lv_iconst (v := 1) hx hb dX12_laysHoles_165 ki_1 ?_
        refine lv_isub hx hb dX12_laysHoles_166 ?_
        simp only [Option.some.injEq, Prod.mk.injEq] at h
        obtain ⟨rfl, rfl, rfl, rfl⟩ := h
        exact rc_i hx hb hr hlocks hS dX12_laysHoles_167 rfl hP
      · replace h := ifn h hc
        refine lv_aload_n hx hb dX12_laysHoles_33 rfl (lv_at hl 0 rfl) ?_
        refine lv_iconst (v := 0) hx hb dX12_laysHoles_34 ki_0 ?_
        refine mp_MO_7 hx hb hw hown hK hP hI hS dX12_laysHoles_35 (fun H locs hP hS => ?_)
        refine lv_aload_n hx hb dX12_laysHoles_38 rfl (lv_at hl 0 rfl) ?_
        refine lv_lload_n hx hb dX12_laysHoles_39 rfl (lv_at hl 1 rfl) ?_
        refine lv_iload hx hb dX12_laysHoles_40 (lv_at hl 3 rfl) ?_
        refine lv_bipush (v := 9) hx hb dX12_laysHoles_42 kb_9 ?_
        obtain ⟨hne, h⟩ := dzI_s h
        refine lv_irem hx hb dX12_laysHoles_44 hne ?_
        refine nmI (v := remI v4 9) rfl ?_
        refine lv_iload hx hb dX12_laysHoles_45 (lv_at hl 3 rfl) ?_
        refine lv_bipush (v := 9) hx hb dX12_laysHoles_47 kb_9 ?_
        obtain ⟨hne, h⟩ := dzI_s h
        refine lv_idiv hx hb dX12_laysHoles_49 hne ?_
        refine lv_iload_n hx hb dX12_laysHoles_50 rfl (lv_at hl 2 rfl) ?_
        obtain ⟨y_goes_49, a_flood_50, a_going_51, hr_52, h⟩ := bd3_s h
        refine hv_v hx hb hml hown hw mB_bl (mB_of hN hK hP) (mr_MO hK hP) (c_mo_comes l D ct ad hI v1 (remI v4 9) (v4 / 9) v3 y_goes_49 a_flood_50 a_going_51 hr_52) g_RX12_149 ⟨rfl, hd_X12_comes⟩ (rest := []) hl.1 hS (fun q h => h) dX12_laysHoles_51 rfl rfl ⟨Nat.le_of_ble_eq_true rfl, Nat.le_of_ble_eq_true rfl⟩ rfl rfl (Nat.le_of_ble_eq_true rfl) ⟨Nat.zero_le _, Nat.zero_le _⟩ (fun H locs hP _ hS => ?_)
        refine lv_aload_n hx hb dX12_laysHoles_54 rfl (lv_at hl 0 rfl) ?_
        refine mg_MO_7 hx hb hw hown hK hP dX12_laysHoles_55 ?_
        refine lv_if_ne hx hb dX12_laysHoles_58 (tgt := 64) rfl (fun hc => ?_) (fun hc => ?_)
        · replace h := ifn h hc
          refine lv_iconst (v := 0) hx hb dX12_laysHoles_64 ki_0 ?_
          refine lv_istore hx hb dX12_laysHoles_65 hl (Nat.le_of_ble_eq_true rfl) (lv' := [(5, .int 0), (0, .ref (ad 0)), (1, .long v1), (3, .int v3), (4, .int v4)]) rfl (fun ls hl => ?_)
          exact hL67 v3 v4 FU _ _ _ 0 y_goes_49 a_flood_50 a_going_51 (lv_sub hl [1, 2, 3, 4, 0] rfl) hP hS h
        · replace h := ifp h hc
          refine lv_goto hx hb dX12_laysHoles_61 (tgt := 158) rfl ?_
          exact hJ158 _ _ _ v3 v4 y_goes_49 a_flood_50 a_going_51 (lv_sub hl [0, 1, 2, 3] rfl) hP hS h
  have hL2 : ∀ (v1 : Int64), ∀ (y_goes : Int32), ∀ (a_going : Nat → Int32), ∀ (n2 : Nat) (H : Heap) (locs : List Loc) (ls : Array Slot) (v3 : Int32) (a_flood : Nat → Int32), lv_has ls 8 [(0, .ref (ad 0)), (1, .long v1), (3, .int v3)] → mP D ct ad y_km y_tp y_goes y_kin y_qd y_sides y_cuts y_flat y_cp y_cA y_cB y_1X y_1Y y_2X y_2Y y_tm y_cells a_mtape a_flood a_going a_field a_from a_mcrowds a_steps a_queue a_letter a_lineX a_lineY a_triedAt a_cellAt a_besideIn a_apart a_drawer a_mkept a_listed a_mkin a_tried a_takenAt a_waysOf H → va_S (mA ad) s.heap H locs → fl2 (mo_laysHoles_B2 v1 y_goes a_going) n2 v3 a_flood = some (r, z_y_goes, z_a_flood, z_a_going) → W p l e (rmm 3 70) s m av below meth c H locs 0 0 (MQ below (va_Qi (fun z (_ : Unit) => z = r) (fun _ t => mP D ct ad y_km y_tp z_y_goes y_kin y_qd y_sides y_cuts y_flat y_cp y_cA y_cB y_1X y_1Y y_2X y_2Y y_tm y_cells a_mtape z_a_flood z_a_going a_field a_from a_mcrowds a_steps a_queue a_letter a_lineX a_lineY a_triedAt a_cellAt a_besideIn a_apart a_drawer a_mkept a_listed a_mkin a_tried a_takenAt a_waysOf t.heap) (mA ad)) av s 0 0 (mA ad)) (F0 m 2 ls []) := by
    intro v1 y_goes a_going n2
    induction n2 with
    | zero => intro H locs ls v3 a_flood hl hP hS h; cases h
    | succ n2 ih2 =>
      intro H locs ls v3 a_flood hl hP hS h
      replace h : mo_laysHoles_B2 v1 y_goes a_going (fl2 (mo_laysHoles_B2 v1 y_goes a_going) n2) v3 a_flood = some (r, z_y_goes, z_a_flood, z_a_going) := h
      generalize fl2 (mo_laysHoles_B2 v1 y_goes a_going) n2 = k2 at h ih2
      rw [mo_laysHoles_B2] at h
      refine lv_iload_n hx hb dX12_laysHoles_2 rfl (lv_at hl 2 rfl) ?_
      refine lv_bipush (v := 81) hx hb dX12_laysHoles_3 kb_81 ?_
      refine lv_icmp_ge hx hb dX12_laysHoles_5 (tgt := 21) rfl (fun hc => ?_) (fun hc => ?_)
      · replace h := ifp h hc
        refine lv_iconst (v := 0) hx hb dX12_laysHoles_21 ki_0 ?_
        refine lv_istore_n hx hb dX12_laysHoles_22 rfl hl (Nat.le_of_ble_eq_true rfl) (lv' := [(3, .int 0), (0, .ref (ad 0)), (1, .long v1)]) rfl (fun ls hl => ?_)
        refine lv_iconst (v := 0) hx hb dX12_laysHoles_23 ki_0 ?_
        refine lv_istore hx hb dX12_laysHoles_24 hl (Nat.le_of_ble_eq_true rfl) (lv' := [(4, .int 0), (3, .int 0), (0, .ref (ad 0)), (1, .long v1)]) rfl (fun ls hl => ?_)
        exact hL26 v1 FU _ _ _ 0 0 y_goes a_flood a_going (lv_sub hl [2, 3, 1, 0] rfl) hP hS h
      · replace h := ifn h hc
        refine lv_aload_n hx hb dX12_laysHoles_8 rfl (lv_at hl 0 rfl) ?_
        refine mg_MO_5 hx hb hw hown hK hP dX12_laysHoles_9 ?_
        refine lv_iload_n hx hb dX12_laysHoles_12 rfl (lv_at hl 2 rfl) ?_
        refine lv_iconst (v := (-1)) hx hb dX12_laysHoles_13 ki_m1 ?_
        obtain ⟨hin, h⟩ := ck_s h
        obtain ⟨a_flood_53, ea_flood_53, h⟩ := nm_s h
        refine ms_flood hx hb hK hP hI hS hin ea_flood_53 dX12_laysHoles_14 (fun H locs hP hS => ?_)
        obtain ⟨v3_54, ev3_54, h⟩ := nm_s h
        refine lv_iinc hx hb dX12_laysHoles_15 hl (k := 2) rfl ev3_54.symm (Nat.le_of_ble_eq_true rfl) (lv' := [(3, .int v3_54), (0, .ref (ad 0)), (1, .long v1)]) rfl (fun ls hl => ?_)
        refine lv_goto hx hb dX12_laysHoles_18 (tgt := 2) rfl ?_
        exact ih2 _ _ _ v3_54 a_flood_53 (lv_sub hl [1, 2, 0] rfl) hP hS h
  refine lv_iconst (v := 0) hx hb dX12_laysHoles_0 ki_0 ?_
  refine lv_istore_n hx hb dX12_laysHoles_1 rfl hl (Nat.le_of_ble_eq_true rfl) (lv' := [(3, .int 0), (0, .ref (ad 0)), (1, .long v1)]) rfl (fun ls hl => ?_)
  exact hL2 v1 y_goes a_going FU _ _ _ 0 a_flood (lv_sub hl [1, 2, 0] rfl) hP hS h
noncomputable def mo_inHoles_J34 (k11 : Int32 → Int32 → Option (Int32 × Int32 × (Nat → Int32) × (Nat → Int32))) (v4 : Int32) (y_goes : Int32) (a_flood : Nat → Int32) (a_going : Nat → Int32) (t0 : Int32) (t1 : Int32) : Option (Int32 × Int32 × (Nat → Int32) × (Nat → Int32)) :=
  nm (t0 + t1 : Int32) fun v3_1 =>
  nm (v4 + Int32.ofInt 1) fun v4_2 =>
  k11 v3_1 v4_2
noncomputable def mo_inHoles_B11 (y_goes : Int32) (a_flood : Nat → Int32) (a_going : Nat → Int32)  (k11 : Int32 → Int32 → Option (Int32 × Int32 × (Nat → Int32) × (Nat → Int32))) (v3 : Int32) (v4 : Int32) : Option (Int32 × Int32 × (Nat → Int32) × (Nat → Int32)) :=
  if 81 ≤ v4 then (some (v3, y_goes, a_flood, a_going)) else
  ck v4 81 <|
  if (a_flood v4.toNatClampNeg) ≤ 0 then (mo_inHoles_J34 k11 v4 y_goes a_flood a_going v3 0) else
  mo_inHoles_J34 k11 v4 y_goes a_flood a_going v3 1
noncomputable def mo_inHoles (v1 : Int64) (y_goes : Int32) (a_flood : Nat → Int32) (a_going : Nat → Int32) : Option (Int32 × Int32 × (Nat → Int32) × (Nat → Int32)) :=
  bd4 (mo_laysHoles v1 y_goes a_flood a_going) fun r_3 y_goes_4 a_flood_5 a_going_6 =>
  fl2 (mo_inHoles_B11 y_goes_4 a_flood_5 a_going_6) FU 0 0
set_option maxHeartbeats 4000000 in
set_option maxRecDepth 100000 in
theorem c_mo_inHoles (l : Launch) (D : va_G) (ct : Nat → ClassId) (ad : Nat → Nat) (hI : mI ad) {y_km y_tp y_goes y_kin y_qd y_sides y_cuts y_flat y_cp y_cA y_cB y_1X y_1Y y_2X y_2Y y_tm y_cells : Int32} {a_mtape a_flood a_going a_field a_from a_mcrowds a_steps a_queue a_letter a_lineX a_lineY a_triedAt a_cellAt a_besideIn a_apart : Nat → Int32} {a_drawer a_mkept a_listed a_mkin a_tried a_takenAt a_waysOf : Nat → Int64} (v1 : Int64) (r : Int32) (z_y_goes : Int32) (z_a_flood : Nat → Int32) (z_a_going : Nat → Int32) (h : mo_inHoles v1 y_goes a_flood a_going = some (r, z_y_goes, z_a_flood, z_a_going)) : Met l yX12_inHoles (wm yX12_inHoles cX12_inHoles 5 (some .int)) (rmm 4 97) (va_Pc [.ref (ad 0), .long v1] (mB D ct ad y_km y_tp y_goes y_kin y_qd y_sides y_cuts y_flat y_cp y_cA y_cB y_1X y_1Y y_2X y_2Y y_tm y_cells a_mtape a_flood a_going a_field a_from a_mcrowds a_steps a_queue a_letter a_lineX a_lineY a_triedAt a_cellAt a_besideIn a_apart a_drawer a_mkept a_listed a_mkin a_tried a_takenAt a_waysOf)) (va_Qi (fun z (_ : Unit) => z = r) (fun _ t => mP D ct ad y_km y_tp z_y_goes y_kin y_qd y_sides y_cuts y_flat y_cp y_cA y_cB y_1X y_1Y y_2X y_2Y y_tm y_cells a_mtape z_a_flood z_a_going a_field a_from a_mcrowds a_steps a_queue a_letter a_lineX a_lineY a_triedAt a_cellAt a_besideIn a_apart a_drawer a_mkept a_listed a_mkin a_tried a_takenAt a_waysOf t.heap) (mA ad)) 0 0 (mA ad) := by
  refine met_s (y := yX12_inHoles) (rm := rmm 4 97) (by decide) (Nat.le_of_ble_eq_true rfl) ?_
  intro p e s m below meth c hx hb hr hw hown hlocks _ hml hB ls hl
  obtain ⟨hN, hK, hP⟩ := hB
  replace hl : lv_has ls 5 [(0, .ref (ad 0)), (1, .long v1)] := hl
  have hS : va_S (mA ad) s.heap s.heap [] := va_S.rf
  generalize (([.ref (ad 0), .long v1] : List Value).toArray) = av at hw ⊢
  rw [mo_inHoles] at h
  have hL11 : ∀ (y_goes : Int32), ∀ (a_flood : Nat → Int32), ∀ (a_going : Nat → Int32), ∀ (n11 : Nat) (H : Heap) (locs : List Loc) (ls : Array Slot) (v3 : Int32) (v4 : Int32), lv_has ls 5 [(0, .ref (ad 0)), (3, .int v3), (4, .int v4)] → mP D ct ad y_km y_tp y_goes y_kin y_qd y_sides y_cuts y_flat y_cp y_cA y_cB y_1X y_1Y y_2X y_2Y y_tm y_cells a_mtape a_flood a_going a_field a_from a_mcrowds a_steps a_queue a_letter a_lineX a_lineY a_triedAt a_cellAt a_besideIn a_apart a_drawer a_mkept a_listed a_mkin a_tried a_takenAt a_waysOf H → va_S (mA ad) s.heap H locs → fl2 (mo_inHoles_B11 y_goes a_flood a_going) n11 v3 v4 = some (r, z_y_goes, z_a_flood, z_a_going) → W p l e (rmm 4 97) s m av below meth c H locs 0 0 (MQ below (va_Qi (fun z (_ : Unit) => z = r) (fun _ t => mP D ct ad y_km y_tp z_y_goes y_kin y_qd y_sides y_cuts y_flat y_cp y_cA y_cB y_1X y_1Y y_2X y_2Y y_tm y_cells a_mtape z_a_flood z_a_going a_field a_from a_mcrowds a_steps a_queue a_letter a_lineX a_lineY a_triedAt a_cellAt a_besideIn a_apart a_drawer a_mkept a_listed a_mkin a_tried a_takenAt a_waysOf t.heap) (mA ad)) av s 0 0 (mA ad)) (F0 m 11 ls []) := by
    intro y_goes a_flood a_going n11
    induction n11 with
    | zero => intro H locs ls v3 v4 hl hP hS h; cases h
    | succ n11 ih11 =>
      intro H locs ls v3 v4 hl hP hS h
      replace h : mo_inHoles_B11 y_goes a_flood a_going (fl2 (mo_inHoles_B11 y_goes a_flood a_going) n11) v3 v4 = some (r, z_y_goes, z_a_flood, z_a_going) := h
      generalize fl2 (mo_inHoles_B11 y_goes a_flood a_going) n11 = k11 at h ih11
      have hJ34 : ∀ (H : Heap) (locs : List Loc) (ls : Array Slot) (v4 : Int32) (t0 : Int32) (t1 : Int32), lv_has ls 5 [(0, .ref (ad 0)), (4, .int v4)] → mP D ct ad y_km y_tp y_goes y_kin y_qd y_sides y_cuts y_flat y_cp y_cA y_cB y_1X y_1Y y_2X y_2Y y_tm y_cells a_mtape a_flood a_going a_field a_from a_mcrowds a_steps a_queue a_letter a_lineX a_lineY a_triedAt a_cellAt a_besideIn a_apart a_drawer a_mkept a_listed a_mkin a_tried a_takenAt a_waysOf H → va_S (mA ad) s.heap H locs → mo_inHoles_J34 k11 v4 y_goes a_flood a_going t0 t1 = some (r, z_y_goes, z_a_flood, z_a_going) → W p l e (rmm 4 97) s m av below meth c H locs 0 0 (MQ below (va_Qi (fun z (_ : Unit) => z = r) (fun _ t => mP D ct ad y_km y_tp z_y_goes y_kin y_qd y_sides y_cuts y_flat y_cp y_cA y_cB y_1X y_1Y y_2X y_2Y y_tm y_cells a_mtape z_a_flood z_a_going a_field a_from a_mcrowds a_steps a_queue a_letter a_lineX a_lineY a_triedAt a_cellAt a_besideIn a_apart a_drawer a_mkept a_listed a_mkin a_tried a_takenAt a_waysOf t.heap) (mA ad)) av s 0 0 (mA ad)) (F0 m 34 ls [.int t1, .int t0]) := by
        intro H locs ls v4 t0 t1 hl hP hS h
        rw [mo_inHoles_J34] at h
        refine lv_iadd hx hb dX12_inHoles_34 ?_
        obtain ⟨v3_8, ev3_8, h⟩ := nm_s h
        refine nmI ev3_8 ?_
        refine lv_istore_n hx hb dX12_inHoles_35 rfl hl (Nat.le_of_ble_eq_true rfl) (lv' := [(3, .int v3_8), (0, .ref (ad 0)), (4, .int v4)]) rfl (fun ls hl => ?_)
        obtain ⟨v4_9, ev4_9, h⟩ := nm_s h
        refine lv_iinc hx hb dX12_inHoles_36 hl (k := 2) rfl ev4_9.symm (Nat.le_of_ble_eq_true rfl) (lv' := [(4, .int v4_9), (3, .int v3_8), (0, .ref (ad 0))]) rfl (fun ls hl => ?_)
        refine lv_goto hx hb dX12_inHoles_39 (tgt := 11) rfl ?_
        exact ih11 _ _ _ v3_8 v4_9 (lv_sub hl [2, 1, 0] rfl) hP hS h
      rw [mo_inHoles_B11] at h
      refine lv_iload hx hb dX12_inHoles_11 (lv_at hl 2 rfl) ?_
      refine lv_bipush (v := 81) hx hb dX12_inHoles_13 kb_81 ?_
      refine lv_icmp_ge hx hb dX12_inHoles_15 (tgt := 42) rfl (fun hc => ?_) (fun hc => ?_)
      · replace h := ifp h hc
        refine lv_iload_n hx hb dX12_inHoles_42 rfl (lv_at hl 1 rfl) ?_
        simp only [Option.some.injEq, Prod.mk.injEq] at h
        obtain ⟨rfl, rfl, rfl, rfl⟩ := h
        exact rc_i hx hb hr hlocks hS dX12_inHoles_43 rfl hP
      · replace h := ifn h hc
        refine lv_iload_n hx hb dX12_inHoles_18 rfl (lv_at hl 1 rfl) ?_
        refine lv_aload_n hx hb dX12_inHoles_19 rfl (lv_at hl 0 rfl) ?_
        refine mg_MO_5 hx hb hw hown hK hP dX12_inHoles_20 ?_
        refine lv_iload hx hb dX12_inHoles_23 (lv_at hl 2 rfl) ?_
        obtain ⟨hin, h⟩ := ck_s h
        refine md_flood hx hb hK hP hin dX12_inHoles_25 ?_
        refine lv_if_le hx hb dX12_inHoles_26 (tgt := 33) rfl (fun hc => ?_) (fun hc => ?_)
        · replace h := ifp h hc
          refine lv_iconst (v := 0) hx hb dX12_inHoles_33 ki_0 ?_
          exact hJ34 _ _ _ v4 v3 0 (lv_sub hl [0, 2] rfl) hP hS h
        · replace h := ifn h hc
          refine lv_iconst (v := 1) hx hb dX12_inHoles_29 ki_1 ?_
          refine lv_goto hx hb dX12_inHoles_30 (tgt := 34) rfl ?_
          exact hJ34 _ _ _ v4 v3 1 (lv_sub hl [0, 2] rfl) hP hS h
  refine lv_aload_n hx hb dX12_inHoles_0 rfl (lv_at hl 0 rfl) ?_
  refine lv_lload_n hx hb dX12_inHoles_1 rfl (lv_at hl 1 rfl) ?_
  obtain ⟨r_10, y_goes_11, a_flood_12, a_going_13, hr_14, h⟩ := bd4_s h
  refine hv_i hx hb hml hown hw mB_bl (mB_of hN hK hP) (mr_MO hK hP) (c_mo_laysHoles l D ct ad hI v1 r_10 y_goes_11 a_flood_12 a_going_13 hr_14) g_RX12_153 ⟨rfl, hd_X12_laysHoles⟩ (rest := []) hl.1 hS (fun q h => h) dX12_inHoles_2 rfl rfl ⟨Nat.le_of_ble_eq_true rfl, Nat.le_of_ble_eq_true rfl⟩ rfl rfl (Nat.le_of_ble_eq_true rfl) ⟨Nat.zero_le _, Nat.zero_le _⟩ (fun H locs hP _ hS => ?_)
  refine lv_pop hx hb dX12_inHoles_5 rfl ?_
  refine lv_iconst (v := 0) hx hb dX12_inHoles_6 ki_0 ?_
  refine lv_istore_n hx hb dX12_inHoles_7 rfl hl (Nat.le_of_ble_eq_true rfl) (lv' := [(3, .int 0), (0, .ref (ad 0)), (1, .long v1)]) rfl (fun ls hl => ?_)
  refine lv_iconst (v := 0) hx hb dX12_inHoles_8 ki_0 ?_
  refine lv_istore hx hb dX12_inHoles_9 hl (Nat.le_of_ble_eq_true rfl) (lv' := [(4, .int 0), (3, .int 0), (0, .ref (ad 0)), (1, .long v1)]) rfl (fun ls hl => ?_)
  exact hL11 y_goes_11 a_flood_12 a_going_13 FU _ _ _ 0 0 (lv_sub hl [2, 1, 0] rfl) hP hS h
noncomputable def mo_toldOf (v1 : Int64) (v3 : Int32) (y_goes : Int32) (a_flood : Nat → Int32) (a_going : Nat → Int32) : Option (Int32 × Int32 × (Nat → Int32) × (Nat → Int32)) :=
  if v3 = 0 then (bd1 (mo_bits v1) fun r_1 =>
  some (r_1, y_goes, a_flood, a_going)) else
  if v3 = 1 then (bd1 (mo_wide v1) fun r_3 =>
  some (r_3, y_goes, a_flood, a_going)) else
  if v3 = 2 then (bd1 (mo_high v1) fun r_5 =>
  some (r_5, y_goes, a_flood, a_going)) else
  if v3 = 3 then (bd1 (mo_bits v1) fun r_7 =>
  bd1 (mo_twos v1) fun r_9 =>
  some ((4 * r_7) - (2 * r_9), y_goes, a_flood, a_going)) else
  if v3 = 4 then (bd4 (mo_laysHoles v1 y_goes a_flood a_going) fun r_11 y_goes_12 a_flood_13 a_going_14 =>
  some (r_11, y_goes_12, a_flood_13, a_going_14)) else
  if v3 = 5 then (bd4 (mo_inHoles v1 y_goes a_flood a_going) fun r_16 y_goes_17 a_flood_18 a_going_19 =>
  some (r_16, y_goes_17, a_flood_18, a_going_19)) else
  if v3 = 6 then (bd1 (mo_cutCells v1) fun r_21 =>
  some (r_21, y_goes, a_flood, a_going)) else
  if v3 = 7 then (bd1 (mo_besideOf v1) fun r_23 =>
  some (r_23, y_goes, a_flood, a_going)) else
  if v3 = 8 then (bd1 (mo_pointsOf v1 0) fun r_25 =>
  some (r_25, y_goes, a_flood, a_going)) else
  if v3 = 9 then (bd1 (mo_pointsOf v1 1) fun r_27 =>
  some (r_27, y_goes, a_flood, a_going)) else
  if v3 = 10 then (bd1 (mo_pointsOf v1 3) fun r_29 =>
  some (r_29, y_goes, a_flood, a_going)) else
  if v3 = 11 then (bd1 (mo_rowWhole v1) fun r_31 =>
  some (r_31, y_goes, a_flood, a_going)) else
  if v3 = 12 then (bd1 (mo_quarter v1) fun r_33 =>
  bd1 (mo_rowWhole r_33) fun r_35 =>
  some (r_35, y_goes, a_flood, a_going)) else
  if v3 = 13 then (bd1 (mo_sameOf v1) fun r_37 =>
  some (r_37, y_goes, a_flood, a_going)) else
  bd1 (mo_twos v1) fun r_39 =>
  some (r_39, y_goes, a_flood, a_going)
set_option maxHeartbeats 4000000 in
set_option maxRecDepth 100000 in
theorem c_mo_toldOf (l : Launch) (D : va_G) (ct : Nat → ClassId) (ad : Nat → Nat) (hI : mI ad) {y_km y_tp y_goes y_kin y_qd y_sides y_cuts y_flat y_cp y_cA y_cB y_1X y_1Y y_2X y_2Y y_tm y_cells : Int32} {a_mtape a_flood a_going a_field a_from a_mcrowds a_steps a_queue a_letter a_lineX a_lineY a_triedAt a_cellAt a_besideIn a_apart : Nat → Int32} {a_drawer a_mkept a_listed a_mkin a_tried a_takenAt a_waysOf : Nat → Int64} (v1 : Int64) (v3 : Int32) (r : Int32) (z_y_goes : Int32) (z_a_flood : Nat → Int32) (z_a_going : Nat → Int32) (h : mo_toldOf v1 v3 y_goes a_flood a_going = some (r, z_y_goes, z_a_flood, z_a_going)) : Met l yX12_toldOf (wm yX12_toldOf cX12_toldOf 4 (some .int)) (rmm 5 121) (va_Pc [.ref (ad 0), .long v1, .int v3] (mB D ct ad y_km y_tp y_goes y_kin y_qd y_sides y_cuts y_flat y_cp y_cA y_cB y_1X y_1Y y_2X y_2Y y_tm y_cells a_mtape a_flood a_going a_field a_from a_mcrowds a_steps a_queue a_letter a_lineX a_lineY a_triedAt a_cellAt a_besideIn a_apart a_drawer a_mkept a_listed a_mkin a_tried a_takenAt a_waysOf)) (va_Qi (fun z (_ : Unit) => z = r) (fun _ t => mP D ct ad y_km y_tp z_y_goes y_kin y_qd y_sides y_cuts y_flat y_cp y_cA y_cB y_1X y_1Y y_2X y_2Y y_tm y_cells a_mtape z_a_flood z_a_going a_field a_from a_mcrowds a_steps a_queue a_letter a_lineX a_lineY a_triedAt a_cellAt a_besideIn a_apart a_drawer a_mkept a_listed a_mkin a_tried a_takenAt a_waysOf t.heap) (mA ad)) 0 0 (mA ad) := by
  refine met_s (y := yX12_toldOf) (rm := rmm 5 121) (by decide) (Nat.le_of_ble_eq_true rfl) ?_
  intro p e s m below meth c hx hb hr hw hown hlocks _ hml hB ls hl
  obtain ⟨hN, hK, hP⟩ := hB
  replace hl : lv_has ls 4 [(0, .ref (ad 0)), (1, .long v1), (3, .int v3)] := hl
  have hS : va_S (mA ad) s.heap s.heap [] := va_S.rf
  generalize (([.ref (ad 0), .long v1, .int v3] : List Value).toArray) = av at hw ⊢
  rw [mo_toldOf] at h
  refine lv_iload_n hx hb dX12_toldOf_0 rfl (lv_at hl 2 rfl) ?_
  by_cases hc0 : v3 = 0
  · replace h := ifp h hc0
    refine lv_tableIn hx hb dX12_toldOf_1 (by rw [hc0]; decide) (by rw [hc0]; decide) (by rw [hc0]; rfl) (tgt := 72) rfl ?_
    refine lv_lload_n hx hb dX12_toldOf_72 rfl (lv_at hl 1 rfl) ?_
    obtain ⟨r_41, hr_42, h⟩ := bd1_s h
    refine sc_i hx hb hml hown hw hN (c_mo_bits l v1 r_41 hr_42) g_RX12_106 hd_X12_bits (rest := []) hl.1 hS dX12_toldOf_73 rfl rfl ⟨Nat.le_of_ble_eq_true rfl, Nat.le_of_ble_eq_true rfl⟩ rfl rfl (Nat.le_of_ble_eq_true rfl) ⟨Nat.zero_le _, Nat.zero_le _⟩ (fun H locs hk hS => ?_)
    have hP := mP_kept hP hk
    simp only [Option.some.injEq, Prod.mk.injEq] at h
    obtain ⟨rfl, rfl, rfl, rfl⟩ := h
    exact rc_i hx hb hr hlocks hS dX12_toldOf_76 rfl hP
  replace h := ifn h hc0
  by_cases hc1 : v3 = 1
  · replace h := ifp h hc1
    refine lv_tableIn hx hb dX12_toldOf_1 (by rw [hc1]; decide) (by rw [hc1]; decide) (by rw [hc1]; rfl) (tgt := 77) rfl ?_
    refine lv_lload_n hx hb dX12_toldOf_77 rfl (lv_at hl 1 rfl) ?_
    obtain ⟨r_43, hr_44, h⟩ := bd1_s h
    refine sc_i hx hb hml hown hw hN (c_mo_wide l v1 r_43 hr_44) g_RX12_163 hd_X12_wide (rest := []) hl.1 hS dX12_toldOf_78 rfl rfl ⟨Nat.le_of_ble_eq_true rfl, Nat.le_of_ble_eq_true rfl⟩ rfl rfl (Nat.le_of_ble_eq_true rfl) ⟨Nat.zero_le _, Nat.zero_le _⟩ (fun H locs hk hS => ?_)
    have hP := mP_kept hP hk
    simp only [Option.some.injEq, Prod.mk.injEq] at h
    obtain ⟨rfl, rfl, rfl, rfl⟩ := h
    exact rc_i hx hb hr hlocks hS dX12_toldOf_81 rfl hP
  replace h := ifn h hc1
  by_cases hc2 : v3 = 2
  · replace h := ifp h hc2
    refine lv_tableIn hx hb dX12_toldOf_1 (by rw [hc2]; decide) (by rw [hc2]; decide) (by rw [hc2]; rfl) (tgt := 82) rfl ?_
    refine lv_lload_n hx hb dX12_toldOf_82 rfl (lv_at hl 1 rfl) ?_
    obtain ⟨r_45, hr_46, h⟩ := bd1_s h
    refine sc_i hx hb hml hown hw hN (c_mo_high l v1 r_45 hr_46) g_RX12_166 hd_X12_high (rest := []) hl.1 hS dX12_toldOf_83 rfl rfl ⟨Nat.le_of_ble_eq_true rfl, Nat.le_of_ble_eq_true rfl⟩ rfl rfl (Nat.le_of_ble_eq_true rfl) ⟨Nat.zero_le _, Nat.zero_le _⟩ (fun H locs hk hS => ?_)
    have hP := mP_kept hP hk
    simp only [Option.some.injEq, Prod.mk.injEq] at h
    obtain ⟨rfl, rfl, rfl, rfl⟩ := h
    exact rc_i hx hb hr hlocks hS dX12_toldOf_86 rfl hP
  replace h := ifn h hc2
  by_cases hc3 : v3 = 3
  · replace h := ifp h hc3
    refine lv_tableIn hx hb dX12_toldOf_1 (by rw [hc3]; decide) (by rw [hc3]; decide) (by rw [hc3]; rfl) (tgt := 87) rfl ?_
    refine lv_iconst (v := 4) hx hb dX12_toldOf_87 ki_4 ?_
    refine lv_lload_n hx hb dX12_toldOf_88 rfl (lv_at hl 1 rfl) ?_
    obtain ⟨r_47, hr_48, h⟩ := bd1_s h
    refine sc_i hx hb hml hown hw hN (c_mo_bits l v1 r_47 hr_48) g_RX12_106 hd_X12_bits (rest := [.int 4]) hl.1 hS dX12_toldOf_89 rfl rfl ⟨Nat.le_of_ble_eq_true rfl, Nat.le_of_ble_eq_true rfl⟩ rfl rfl (Nat.le_of_ble_eq_true rfl) ⟨Nat.zero_le _, Nat.zero_le _⟩ (fun H locs hk hS => ?_)
    have hP := mP_kept hP hk
    refine lv_imul hx hb dX12_toldOf_92 ?_
    refine lv_iconst (v := 2) hx hb dX12_toldOf_93 ki_2 ?_
    refine lv_lload_n hx hb dX12_toldOf_94 rfl (lv_at hl 1 rfl) ?_
    obtain ⟨r_49, hr_50, h⟩ := bd1_s h
    refine sc_i hx hb hml hown hw hN (c_mo_twos l v1 r_49 hr_50) g_RX12_169 hd_X12_twos (rest := [.int 2, .int (4 * r_47)]) hl.1 hS dX12_toldOf_95 rfl rfl ⟨Nat.le_of_ble_eq_true rfl, Nat.le_of_ble_eq_true rfl⟩ rfl rfl (Nat.le_of_ble_eq_true rfl) ⟨Nat.zero_le _, Nat.zero_le _⟩ (fun H locs hk hS => ?_)
    have hP := mP_kept hP hk
    refine lv_imul hx hb dX12_toldOf_98 ?_
    refine lv_isub hx hb dX12_toldOf_99 ?_
    simp only [Option.some.injEq, Prod.mk.injEq] at h
    obtain ⟨rfl, rfl, rfl, rfl⟩ := h
    exact rc_i hx hb hr hlocks hS dX12_toldOf_100 rfl hP
  replace h := ifn h hc3
  by_cases hc4 : v3 = 4
  · replace h := ifp h hc4
    refine lv_tableIn hx hb dX12_toldOf_1 (by rw [hc4]; decide) (by rw [hc4]; decide) (by rw [hc4]; rfl) (tgt := 101) rfl ?_
    refine lv_aload_n hx hb dX12_toldOf_101 rfl (lv_at hl 0 rfl) ?_
    refine lv_lload_n hx hb dX12_toldOf_102 rfl (lv_at hl 1 rfl) ?_
    obtain ⟨r_51, y_goes_52, a_flood_53, a_going_54, hr_55, h⟩ := bd4_s h
    refine hv_i hx hb hml hown hw mB_bl (mB_of hN hK hP) (mr_MO hK hP) (c_mo_laysHoles l D ct ad hI v1 r_51 y_goes_52 a_flood_53 a_going_54 hr_55) g_RX12_153 ⟨rfl, hd_X12_laysHoles⟩ (rest := []) hl.1 hS (fun q h => h) dX12_toldOf_103 rfl rfl ⟨Nat.le_of_ble_eq_true rfl, Nat.le_of_ble_eq_true rfl⟩ rfl rfl (Nat.le_of_ble_eq_true rfl) ⟨Nat.zero_le _, Nat.zero_le _⟩ (fun H locs hP _ hS => ?_)
    simp only [Option.some.injEq, Prod.mk.injEq] at h
    obtain ⟨rfl, rfl, rfl, rfl⟩ := h
    exact rc_i hx hb hr hlocks hS dX12_toldOf_106 rfl hP
  replace h := ifn h hc4
  by_cases hc5 : v3 = 5
  · replace h := ifp h hc5
    refine lv_tableIn hx hb dX12_toldOf_1 (by rw [hc5]; decide) (by rw [hc5]; decide) (by rw [hc5]; rfl) (tgt := 107) rfl ?_
    refine lv_aload_n hx hb dX12_toldOf_107 rfl (lv_at hl 0 rfl) ?_
    refine lv_lload_n hx hb dX12_toldOf_108 rfl (lv_at hl 1 rfl) ?_
    obtain ⟨r_56, y_goes_57, a_flood_58, a_going_59, hr_60, h⟩ := bd4_s h
    refine hv_i hx hb hml hown hw mB_bl (mB_of hN hK hP) (mr_MO hK hP) (c_mo_inHoles l D ct ad hI v1 r_56 y_goes_57 a_flood_58 a_going_59 hr_60) g_RX12_172 ⟨rfl, hd_X12_inHoles⟩ (rest := []) hl.1 hS (fun q h => h) dX12_toldOf_109 rfl rfl ⟨Nat.le_of_ble_eq_true rfl, Nat.le_of_ble_eq_true rfl⟩ rfl rfl (Nat.le_of_ble_eq_true rfl) ⟨Nat.zero_le _, Nat.zero_le _⟩ (fun H locs hP _ hS => ?_)
    simp only [Option.some.injEq, Prod.mk.injEq] at h
    obtain ⟨rfl, rfl, rfl, rfl⟩ := h
    exact rc_i hx hb hr hlocks hS dX12_toldOf_112 rfl hP
  replace h := ifn h hc5
  by_cases hc6 : v3 = 6
  · replace h := ifp h hc6
    refine lv_tableIn hx hb dX12_toldOf_1 (by rw [hc6]; decide) (by rw [hc6]; decide) (by rw [hc6]; rfl) (tgt := 113) rfl ?_
    refine lv_lload_n hx hb dX12_toldOf_113 rfl (lv_at hl 1 rfl) ?_
    obtain ⟨r_61, hr_62, h⟩ := bd1_s h
    refine sc_i hx hb hml hown hw hN (c_mo_cutCells l v1 r_61 hr_62) g_RX12_175 hd_X12_cutCells (rest := []) hl.1 hS dX12_toldOf_114 rfl rfl ⟨Nat.le_of_ble_eq_true rfl, Nat.le_of_ble_eq_true rfl⟩ rfl rfl (Nat.le_of_ble_eq_true rfl) ⟨Nat.zero_le _, Nat.zero_le _⟩ (fun H locs hk hS => ?_)
    have hP := mP_kept hP hk
    simp only [Option.some.injEq, Prod.mk.injEq] at h
    obtain ⟨rfl, rfl, rfl, rfl⟩ := h
    exact rc_i hx hb hr hlocks hS dX12_toldOf_117 rfl hP
  replace h := ifn h hc6
  by_cases hc7 : v3 = 7
  · replace h := ifp h hc7
    refine lv_tableIn hx hb dX12_toldOf_1 (by rw [hc7]; decide) (by rw [hc7]; decide) (by rw [hc7]; rfl) (tgt := 118) rfl ?_
    refine lv_lload_n hx hb dX12_toldOf_118 rfl (lv_at hl 1 rfl) ?_
    obtain ⟨r_63, hr_64, h⟩ := bd1_s h
    refine sc_i hx hb hml hown hw hN (c_mo_besideOf l v1 r_63 hr_64) g_RX12_178 hd_X12_besideOf (rest := []) hl.1 hS dX12_toldOf_119 rfl rfl ⟨Nat.le_of_ble_eq_true rfl, Nat.le_of_ble_eq_true rfl⟩ rfl rfl (Nat.le_of_ble_eq_true rfl) ⟨Nat.zero_le _, Nat.zero_le _⟩ (fun H locs hk hS => ?_)
    have hP := mP_kept hP hk
    simp only [Option.some.injEq, Prod.mk.injEq] at h
    obtain ⟨rfl, rfl, rfl, rfl⟩ := h
    exact rc_i hx hb hr hlocks hS dX12_toldOf_122 rfl hP
  replace h := ifn h hc7
  by_cases hc8 : v3 = 8
  · replace h := ifp h hc8
    refine lv_tableIn hx hb dX12_toldOf_1 (by rw [hc8]; decide) (by rw [hc8]; decide) (by rw [hc8]; rfl) (tgt := 123) rfl ?_
    refine lv_lload_n hx hb dX12_toldOf_123 rfl (lv_at hl 1 rfl) ?_
    refine lv_iconst (v := 0) hx hb dX12_toldOf_124 ki_0 ?_
    obtain ⟨r_65, hr_66, h⟩ := bd1_s h
    refine sc_i hx hb hml hown hw hN (c_mo_pointsOf l v1 0 r_65 hr_66) g_RX12_181 hd_X12_pointsOf (rest := []) hl.1 hS dX12_toldOf_125 rfl rfl ⟨Nat.le_of_ble_eq_true rfl, Nat.le_of_ble_eq_true rfl⟩ rfl rfl (Nat.le_of_ble_eq_true rfl) ⟨Nat.zero_le _, Nat.zero_le _⟩ (fun H locs hk hS => ?_)
    have hP := mP_kept hP hk
    simp only [Option.some.injEq, Prod.mk.injEq] at h
    obtain ⟨rfl, rfl, rfl, rfl⟩ := h
    exact rc_i hx hb hr hlocks hS dX12_toldOf_128 rfl hP
  replace h := ifn h hc8
  by_cases hc9 : v3 = 9
  · replace h := ifp h hc9
    refine lv_tableIn hx hb dX12_toldOf_1 (by rw [hc9]; decide) (by rw [hc9]; decide) (by rw [hc9]; rfl) (tgt := 129) rfl ?_
    refine lv_lload_n hx hb dX12_toldOf_129 rfl (lv_at hl 1 rfl) ?_
    refine lv_iconst (v := 1) hx hb dX12_toldOf_130 ki_1 ?_
    obtain ⟨r_67, hr_68, h⟩ := bd1_s h
    refine sc_i hx hb hml hown hw hN (c_mo_pointsOf l v1 1 r_67 hr_68) g_RX12_181 hd_X12_pointsOf (rest := []) hl.1 hS dX12_toldOf_131 rfl rfl ⟨Nat.le_of_ble_eq_true rfl, Nat.le_of_ble_eq_true rfl⟩ rfl rfl (Nat.le_of_ble_eq_true rfl) ⟨Nat.zero_le _, Nat.zero_le _⟩ (fun H locs hk hS => ?_)
    have hP := mP_kept hP hk
    simp only [Option.some.injEq, Prod.mk.injEq] at h
    obtain ⟨rfl, rfl, rfl, rfl⟩ := h
    exact rc_i hx hb hr hlocks hS dX12_toldOf_134 rfl hP
  replace h := ifn h hc9
  by_cases hc10 : v3 = 10
  · replace h := ifp h hc10
    refine lv_tableIn hx hb dX12_toldOf_1 (by rw [hc10]; decide) (by rw [hc10]; decide) (by rw [hc10]; rfl) (tgt := 135) rfl ?_
    refine lv_lload_n hx hb dX12_toldOf_135 rfl (lv_at hl 1 rfl) ?_
    refine lv_iconst (v := 3) hx hb dX12_toldOf_136 ki_3 ?_
    obtain ⟨r_69, hr_70, h⟩ := bd1_s h
    refine sc_i hx hb hml hown hw hN (c_mo_pointsOf l v1 3 r_69 hr_70) g_RX12_181 hd_X12_pointsOf (rest := []) hl.1 hS dX12_toldOf_137 rfl rfl ⟨Nat.le_of_ble_eq_true rfl, Nat.le_of_ble_eq_true rfl⟩ rfl rfl (Nat.le_of_ble_eq_true rfl) ⟨Nat.zero_le _, Nat.zero_le _⟩ (fun H locs hk hS => ?_)
    have hP := mP_kept hP hk
    simp only [Option.some.injEq, Prod.mk.injEq] at h
    obtain ⟨rfl, rfl, rfl, rfl⟩ := h
    exact rc_i hx hb hr hlocks hS dX12_toldOf_140 rfl hP
  replace h := ifn h hc10
  by_cases hc11 : v3 = 11
  · replace h := ifp h hc11
    refine lv_tableIn hx hb dX12_toldOf_1 (by rw [hc11]; decide) (by rw [hc11]; decide) (by rw [hc11]; rfl) (tgt := 141) rfl ?_
    refine lv_lload_n hx hb dX12_toldOf_141 rfl (lv_at hl 1 rfl) ?_
    obtain ⟨r_71, hr_72, h⟩ := bd1_s h
    refine sc_i hx hb hml hown hw hN (c_mo_rowWhole l v1 r_71 hr_72) g_RX12_185 hd_X12_rowWhole (rest := []) hl.1 hS dX12_toldOf_142 rfl rfl ⟨Nat.le_of_ble_eq_true rfl, Nat.le_of_ble_eq_true rfl⟩ rfl rfl (Nat.le_of_ble_eq_true rfl) ⟨Nat.zero_le _, Nat.zero_le _⟩ (fun H locs hk hS => ?_)
    have hP := mP_kept hP hk
    simp only [Option.some.injEq, Prod.mk.injEq] at h
    obtain ⟨rfl, rfl, rfl, rfl⟩ := h
    exact rc_i hx hb hr hlocks hS dX12_toldOf_145 rfl hP
  replace h := ifn h hc11
  by_cases hc12 : v3 = 12
  · replace h := ifp h hc12
    refine lv_tableIn hx hb dX12_toldOf_1 (by rw [hc12]; decide) (by rw [hc12]; decide) (by rw [hc12]; rfl) (tgt := 146) rfl ?_
    refine lv_lload_n hx hb dX12_toldOf_146 rfl (lv_at hl 1 rfl) ?_
    obtain ⟨r_73, hr_74, h⟩ := bd1_s h
    refine sc_l hx hb hml hown hw hN (c_mo_quarter l v1 r_73 hr_74) g_RX12_124 hd_X12_quarter (rest := []) hl.1 hS dX12_toldOf_147 rfl rfl ⟨Nat.le_of_ble_eq_true rfl, Nat.le_of_ble_eq_true rfl⟩ rfl rfl (Nat.le_of_ble_eq_true rfl) ⟨Nat.zero_le _, Nat.zero_le _⟩ (fun H locs hk hS => ?_)
    have hP := mP_kept hP hk
    obtain ⟨r_75, hr_76, h⟩ := bd1_s h
    refine sc_i hx hb hml hown hw hN (c_mo_rowWhole l r_73 r_75 hr_76) g_RX12_185 hd_X12_rowWhole (rest := []) hl.1 hS dX12_toldOf_150 rfl rfl ⟨Nat.le_of_ble_eq_true rfl, Nat.le_of_ble_eq_true rfl⟩ rfl rfl (Nat.le_of_ble_eq_true rfl) ⟨Nat.zero_le _, Nat.zero_le _⟩ (fun H locs hk hS => ?_)
    have hP := mP_kept hP hk
    simp only [Option.some.injEq, Prod.mk.injEq] at h
    obtain ⟨rfl, rfl, rfl, rfl⟩ := h
    exact rc_i hx hb hr hlocks hS dX12_toldOf_153 rfl hP
  replace h := ifn h hc12
  by_cases hc13 : v3 = 13
  · replace h := ifp h hc13
    refine lv_tableIn hx hb dX12_toldOf_1 (by rw [hc13]; decide) (by rw [hc13]; decide) (by rw [hc13]; rfl) (tgt := 154) rfl ?_
    refine lv_lload_n hx hb dX12_toldOf_154 rfl (lv_at hl 1 rfl) ?_
    obtain ⟨r_77, hr_78, h⟩ := bd1_s h
    refine sc_i hx hb hml hown hw hN (c_mo_sameOf l v1 r_77 hr_78) g_RX12_188 hd_X12_sameOf (rest := []) hl.1 hS dX12_toldOf_155 rfl rfl ⟨Nat.le_of_ble_eq_true rfl, Nat.le_of_ble_eq_true rfl⟩ rfl rfl (Nat.le_of_ble_eq_true rfl) ⟨Nat.zero_le _, Nat.zero_le _⟩ (fun H locs hk hS => ?_)
    have hP := mP_kept hP hk
    simp only [Option.some.injEq, Prod.mk.injEq] at h
    obtain ⟨rfl, rfl, rfl, rfl⟩ := h
    exact rc_i hx hb hr hlocks hS dX12_toldOf_158 rfl hP
  replace h := ifn h hc13
  have q0 := lv_neT (k := 0) hc0 (a := 0) (by decide)
  have q1 := lv_neT (k := 1) hc1 (a := 1) (by decide)
  have q2 := lv_neT (k := 2) hc2 (a := 2) (by decide)
  have q3 := lv_neT (k := 3) hc3 (a := 3) (by decide)
  have q4 := lv_neT (k := 4) hc4 (a := 4) (by decide)
  have q5 := lv_neT (k := 5) hc5 (a := 5) (by decide)
  have q6 := lv_neT (k := 6) hc6 (a := 6) (by decide)
  have q7 := lv_neT (k := 7) hc7 (a := 7) (by decide)
  have q8 := lv_neT (k := 8) hc8 (a := 8) (by decide)
  have q9 := lv_neT (k := 9) hc9 (a := 9) (by decide)
  have q10 := lv_neT (k := 10) hc10 (a := 10) (by decide)
  have q11 := lv_neT (k := 11) hc11 (a := 11) (by decide)
  have q12 := lv_neT (k := 12) hc12 (a := 12) (by decide)
  have q13 := lv_neT (k := 13) hc13 (a := 13) (by decide)
  refine lv_tableOut hx hb dX12_toldOf_1 (by omega) (tgt := 159) rfl ?_
  refine lv_lload_n hx hb dX12_toldOf_159 rfl (lv_at hl 1 rfl) ?_
  obtain ⟨r_79, hr_80, h⟩ := bd1_s h
  refine sc_i hx hb hml hown hw hN (c_mo_twos l v1 r_79 hr_80) g_RX12_169 hd_X12_twos (rest := []) hl.1 hS dX12_toldOf_160 rfl rfl ⟨Nat.le_of_ble_eq_true rfl, Nat.le_of_ble_eq_true rfl⟩ rfl rfl (Nat.le_of_ble_eq_true rfl) ⟨Nat.zero_le _, Nat.zero_le _⟩ (fun H locs hk hS => ?_)
  have hP := mP_kept hP hk
  simp only [Option.some.injEq, Prod.mk.injEq] at h
  obtain ⟨rfl, rfl, rfl, rfl⟩ := h
  exact rc_i hx hb hr hlocks hS dX12_toldOf_163 rfl hP
noncomputable def mo_told (v1 : Int32) (v2 : Int32) (y_goes : Int32) (a_drawer : Nat → Int64) (a_flood : Nat → Int32) (a_going : Nat → Int32) : Option (Int32 × Int32 × (Nat → Int32) × (Nat → Int32)) :=
  bd1 (mo_isDrawer v1) fun r_1 =>
  if r_1 = 0 then (some ((-1), y_goes, a_flood, a_going)) else
  bd1 (mo_in v2 0 14) fun r_3 =>
  if r_3 = 0 then (some ((-1), y_goes, a_flood, a_going)) else
  ck v1 8 <|
  if (a_drawer v1.toNatClampNeg) = 0 then (some ((-2), y_goes, a_flood, a_going)) else
  ck v1 8 <|
  bd4 (mo_toldOf (a_drawer v1.toNatClampNeg) v2 y_goes a_flood a_going) fun r_5 y_goes_6 a_flood_7 a_going_8 =>
  some (r_5, y_goes_6, a_flood_7, a_going_8)
set_option maxHeartbeats 4000000 in
set_option maxRecDepth 100000 in
theorem c_mo_told (l : Launch) (D : va_G) (ct : Nat → ClassId) (ad : Nat → Nat) (hI : mI ad) {y_km y_tp y_goes y_kin y_qd y_sides y_cuts y_flat y_cp y_cA y_cB y_1X y_1Y y_2X y_2Y y_tm y_cells : Int32} {a_mtape a_flood a_going a_field a_from a_mcrowds a_steps a_queue a_letter a_lineX a_lineY a_triedAt a_cellAt a_besideIn a_apart : Nat → Int32} {a_drawer a_mkept a_listed a_mkin a_tried a_takenAt a_waysOf : Nat → Int64} (v1 : Int32) (v2 : Int32) (r : Int32) (z_y_goes : Int32) (z_a_flood : Nat → Int32) (z_a_going : Nat → Int32) (h : mo_told v1 v2 y_goes a_drawer a_flood a_going = some (r, z_y_goes, z_a_flood, z_a_going)) : Met l yX12_told (wm yX12_told cX12_told 3 (some .int)) (rmm 6 144) (va_Pc [.ref (ad 0), .int v1, .int v2] (mB D ct ad y_km y_tp y_goes y_kin y_qd y_sides y_cuts y_flat y_cp y_cA y_cB y_1X y_1Y y_2X y_2Y y_tm y_cells a_mtape a_flood a_going a_field a_from a_mcrowds a_steps a_queue a_letter a_lineX a_lineY a_triedAt a_cellAt a_besideIn a_apart a_drawer a_mkept a_listed a_mkin a_tried a_takenAt a_waysOf)) (va_Qi (fun z (_ : Unit) => z = r) (fun _ t => mP D ct ad y_km y_tp z_y_goes y_kin y_qd y_sides y_cuts y_flat y_cp y_cA y_cB y_1X y_1Y y_2X y_2Y y_tm y_cells a_mtape z_a_flood z_a_going a_field a_from a_mcrowds a_steps a_queue a_letter a_lineX a_lineY a_triedAt a_cellAt a_besideIn a_apart a_drawer a_mkept a_listed a_mkin a_tried a_takenAt a_waysOf t.heap) (mA ad)) 0 0 (mA ad) := by
  refine met_s (y := yX12_told) (rm := rmm 6 144) (by decide) (Nat.le_of_ble_eq_true rfl) ?_
  intro p e s m below meth c hx hb hr hw hown hlocks _ hml hB ls hl
  obtain ⟨hN, hK, hP⟩ := hB
  replace hl : lv_has ls 3 [(0, .ref (ad 0)), (1, .int v1), (2, .int v2)] := hl
  have hS : va_S (mA ad) s.heap s.heap [] := va_S.rf
  generalize (([.ref (ad 0), .int v1, .int v2] : List Value).toArray) = av at hw ⊢
  rw [mo_told] at h
  refine lv_iload_n hx hb dX12_told_0 rfl (lv_at hl 1 rfl) ?_
  obtain ⟨r_10, hr_11, h⟩ := bd1_s h
  refine sc_i hx hb hml hown hw hN (c_mo_isDrawer l v1 r_10 hr_11) g_RX12_135 hd_X12_isDrawer (rest := []) hl.1 hS dX12_told_1 rfl rfl ⟨Nat.le_of_ble_eq_true rfl, Nat.le_of_ble_eq_true rfl⟩ rfl rfl (Nat.le_of_ble_eq_true rfl) ⟨Nat.zero_le _, Nat.zero_le _⟩ (fun H locs hk hS => ?_)
  have hP := mP_kept hP hk
  refine lv_if_eq hx hb dX12_told_4 (tgt := 17) rfl (fun hc => ?_) (fun hc => ?_)
  · replace h := ifp h hc
    refine lv_iconst (v := (-1)) hx hb dX12_told_17 ki_m1 ?_
    simp only [Option.some.injEq, Prod.mk.injEq] at h
    obtain ⟨rfl, rfl, rfl, rfl⟩ := h
    exact rc_i hx hb hr hlocks hS dX12_told_18 rfl hP
  · replace h := ifn h hc
    refine lv_iload_n hx hb dX12_told_7 rfl (lv_at hl 2 rfl) ?_
    refine lv_iconst (v := 0) hx hb dX12_told_8 ki_0 ?_
    refine lv_bipush (v := 14) hx hb dX12_told_9 kb_14 ?_
    obtain ⟨r_12, hr_13, h⟩ := bd1_s h
    refine sc_i hx hb hml hown hw hN (c_mo_in l v2 0 14 r_12 hr_13) g_RX12_82 hd_X12_in (rest := []) hl.1 hS dX12_told_11 rfl rfl ⟨Nat.le_of_ble_eq_true rfl, Nat.le_of_ble_eq_true rfl⟩ rfl rfl (Nat.le_of_ble_eq_true rfl) ⟨Nat.zero_le _, Nat.zero_le _⟩ (fun H locs hk hS => ?_)
    have hP := mP_kept hP hk
    refine lv_if_ne hx hb dX12_told_14 (tgt := 19) rfl (fun hc => ?_) (fun hc => ?_)
    · replace h := ifn h hc
      refine lv_aload_n hx hb dX12_told_19 rfl (lv_at hl 0 rfl) ?_
      refine mg_MO_0 hx hb hw hown hK hP dX12_told_20 ?_
      refine lv_iload_n hx hb dX12_told_23 rfl (lv_at hl 1 rfl) ?_
      obtain ⟨hin, h⟩ := ck_s h
      refine md_drawer hx hb hK hP hin dX12_told_24 ?_
      refine lv_lconst (v := 0) hx hb dX12_told_25 kl_0 ?_
      refine W.lcmp hx hb dX12_told_26 ?_
      refine lv_if_ne hx hb dX12_told_27 (tgt := 35) rfl (fun hc => ?_) (fun hc => ?_)
      · replace h := ifn h (fun q => hc ((lg_cmp_eq _ _).mpr q))
        refine lv_aload_n hx hb dX12_told_35 rfl (lv_at hl 0 rfl) ?_
        refine lv_aload_n hx hb dX12_told_36 rfl (lv_at hl 0 rfl) ?_
        refine mg_MO_0 hx hb hw hown hK hP dX12_told_37 ?_
        refine lv_iload_n hx hb dX12_told_40 rfl (lv_at hl 1 rfl) ?_
        obtain ⟨hin, h⟩ := ck_s h
        refine md_drawer hx hb hK hP hin dX12_told_41 ?_
        refine lv_iload_n hx hb dX12_told_42 rfl (lv_at hl 2 rfl) ?_
        obtain ⟨r_14, y_goes_15, a_flood_16, a_going_17, hr_18, h⟩ := bd4_s h
        refine hv_i hx hb hml hown hw mB_bl (mB_of hN hK hP) (mr_MO hK hP) (c_mo_toldOf l D ct ad hI (a_drawer v1.toNatClampNeg) v2 r_14 y_goes_15 a_flood_16 a_going_17 hr_18) g_RX12_191 ⟨rfl, hd_X12_toldOf⟩ (rest := []) hl.1 hS (fun q h => h) dX12_told_43 rfl rfl ⟨Nat.le_of_ble_eq_true rfl, Nat.le_of_ble_eq_true rfl⟩ rfl rfl (Nat.le_of_ble_eq_true rfl) ⟨Nat.zero_le _, Nat.zero_le _⟩ (fun H locs hP _ hS => ?_)
        simp only [Option.some.injEq, Prod.mk.injEq] at h
        obtain ⟨rfl, rfl, rfl, rfl⟩ := h
        exact rc_i hx hb hr hlocks hS dX12_told_46 rfl hP
      · replace h := ifp h ((lg_cmp_eq _ _).mp hc)
        refine lv_bipush (v := (-2)) hx hb dX12_told_30 kb_m2 ?_
        refine lv_goto hx hb dX12_told_32 (tgt := 46) rfl ?_
        simp only [Option.some.injEq, Prod.mk.injEq] at h
        obtain ⟨rfl, rfl, rfl, rfl⟩ := h
        exact rc_i hx hb hr hlocks hS dX12_told_46 rfl hP
    · replace h := ifp h hc
      refine lv_iconst (v := (-1)) hx hb dX12_told_17 ki_m1 ?_
      simp only [Option.some.injEq, Prod.mk.injEq] at h
      obtain ⟨rfl, rfl, rfl, rfl⟩ := h
      exact rc_i hx hb hr hlocks hS dX12_told_18 rfl hP
noncomputable def mo_cell (v1 : Int32) (v2 : Int32) (v3 : Int32) (a_drawer : Nat → Int64) : Option (Int32) :=
  bd1 (mo_isDrawer v1) fun r_1 =>
  if r_1 = 0 then (some ((-1))) else
  bd1 (mo_in v2 0 6) fun r_3 =>
  if r_3 = 0 then (some ((-1))) else
  bd1 (mo_in v3 0 6) fun r_5 =>
  if r_5 = 0 then (some ((-1))) else
  ck v1 8 <|
  if (a_drawer v1.toNatClampNeg) = 0 then (some ((-2))) else
  ck v1 8 <|
  bd1 (mo_isCell (a_drawer v1.toNatClampNeg) v2 v3) fun r_7 =>
  if r_7 = 0 then (some (0)) else
  some (1)
set_option maxHeartbeats 4000000 in
set_option maxRecDepth 100000 in
theorem c_mo_cell (l : Launch) (D : va_G) (ct : Nat → ClassId) (ad : Nat → Nat) (hI : mI ad) {y_km y_tp y_goes y_kin y_qd y_sides y_cuts y_flat y_cp y_cA y_cB y_1X y_1Y y_2X y_2Y y_tm y_cells : Int32} {a_mtape a_flood a_going a_field a_from a_mcrowds a_steps a_queue a_letter a_lineX a_lineY a_triedAt a_cellAt a_besideIn a_apart : Nat → Int32} {a_drawer a_mkept a_listed a_mkin a_tried a_takenAt a_waysOf : Nat → Int64} (v1 : Int32) (v2 : Int32) (v3 : Int32) (r : Int32)  (h : mo_cell v1 v2 v3 a_drawer = some (r)) : Met l yX12_cell (wm yX12_cell cX12_cell 4 (some .int)) (rmm 2 45) (va_Pc [.ref (ad 0), .int v1, .int v2, .int v3] (mB D ct ad y_km y_tp y_goes y_kin y_qd y_sides y_cuts y_flat y_cp y_cA y_cB y_1X y_1Y y_2X y_2Y y_tm y_cells a_mtape a_flood a_going a_field a_from a_mcrowds a_steps a_queue a_letter a_lineX a_lineY a_triedAt a_cellAt a_besideIn a_apart a_drawer a_mkept a_listed a_mkin a_tried a_takenAt a_waysOf)) (va_Qi (fun z (_ : Unit) => z = r) (fun _ t => mP D ct ad y_km y_tp y_goes y_kin y_qd y_sides y_cuts y_flat y_cp y_cA y_cB y_1X y_1Y y_2X y_2Y y_tm y_cells a_mtape a_flood a_going a_field a_from a_mcrowds a_steps a_queue a_letter a_lineX a_lineY a_triedAt a_cellAt a_besideIn a_apart a_drawer a_mkept a_listed a_mkin a_tried a_takenAt a_waysOf t.heap) (mA ad)) 0 0 (mA ad) := by
  refine met_s (y := yX12_cell) (rm := rmm 2 45) (by decide) (Nat.le_of_ble_eq_true rfl) ?_
  intro p e s m below meth c hx hb hr hw hown hlocks _ hml hB ls hl
  obtain ⟨hN, hK, hP⟩ := hB
  replace hl : lv_has ls 4 [(0, .ref (ad 0)), (1, .int v1), (2, .int v2), (3, .int v3)] := hl
  have hS : va_S (mA ad) s.heap s.heap [] := va_S.rf
  generalize (([.ref (ad 0), .int v1, .int v2, .int v3] : List Value).toArray) = av at hw ⊢
  rw [mo_cell] at h
  refine lv_iload_n hx hb dX12_cell_0 rfl (lv_at hl 1 rfl) ?_
  obtain ⟨r_9, hr_10, h⟩ := bd1_s h
  refine sc_i hx hb hml hown hw hN (c_mo_isDrawer l v1 r_9 hr_10) g_RX12_135 hd_X12_isDrawer (rest := []) hl.1 hS dX12_cell_1 rfl rfl ⟨Nat.le_of_ble_eq_true rfl, Nat.le_of_ble_eq_true rfl⟩ rfl rfl (Nat.le_of_ble_eq_true rfl) ⟨Nat.zero_le _, Nat.zero_le _⟩ (fun H locs hk hS => ?_)
  have hP := mP_kept hP hk
  refine lv_if_eq hx hb dX12_cell_4 (tgt := 27) rfl (fun hc => ?_) (fun hc => ?_)
  · replace h := ifp h hc
    refine lv_iconst (v := (-1)) hx hb dX12_cell_27 ki_m1 ?_
    replace h := Option.some.inj h
    subst h
    exact rc_i hx hb hr hlocks hS dX12_cell_28 rfl hP
  · replace h := ifn h hc
    refine lv_iload_n hx hb dX12_cell_7 rfl (lv_at hl 2 rfl) ?_
    refine lv_iconst (v := 0) hx hb dX12_cell_8 ki_0 ?_
    refine lv_bipush (v := 6) hx hb dX12_cell_9 kb_6 ?_
    obtain ⟨r_11, hr_12, h⟩ := bd1_s h
    refine sc_i hx hb hml hown hw hN (c_mo_in l v2 0 6 r_11 hr_12) g_RX12_82 hd_X12_in (rest := []) hl.1 hS dX12_cell_11 rfl rfl ⟨Nat.le_of_ble_eq_true rfl, Nat.le_of_ble_eq_true rfl⟩ rfl rfl (Nat.le_of_ble_eq_true rfl) ⟨Nat.zero_le _, Nat.zero_le _⟩ (fun H locs hk hS => ?_)
    have hP := mP_kept hP hk
    refine lv_if_eq hx hb dX12_cell_14 (tgt := 27) rfl (fun hc => ?_) (fun hc => ?_)
    · replace h := ifp h hc
      refine lv_iconst (v := (-1)) hx hb dX12_cell_27 ki_m1 ?_
      replace h := Option.some.inj h
      subst h
      exact rc_i hx hb hr hlocks hS dX12_cell_28 rfl hP
    · replace h := ifn h hc
      refine lv_iload_n hx hb dX12_cell_17 rfl (lv_at hl 3 rfl) ?_
      refine lv_iconst (v := 0) hx hb dX12_cell_18 ki_0 ?_
      refine lv_bipush (v := 6) hx hb dX12_cell_19 kb_6 ?_
      obtain ⟨r_13, hr_14, h⟩ := bd1_s h
      refine sc_i hx hb hml hown hw hN (c_mo_in l v3 0 6 r_13 hr_14) g_RX12_82 hd_X12_in (rest := []) hl.1 hS dX12_cell_21 rfl rfl ⟨Nat.le_of_ble_eq_true rfl, Nat.le_of_ble_eq_true rfl⟩ rfl rfl (Nat.le_of_ble_eq_true rfl) ⟨Nat.zero_le _, Nat.zero_le _⟩ (fun H locs hk hS => ?_)
      have hP := mP_kept hP hk
      refine lv_if_ne hx hb dX12_cell_24 (tgt := 29) rfl (fun hc => ?_) (fun hc => ?_)
      · replace h := ifn h hc
        refine lv_aload_n hx hb dX12_cell_29 rfl (lv_at hl 0 rfl) ?_
        refine mg_MO_0 hx hb hw hown hK hP dX12_cell_30 ?_
        refine lv_iload_n hx hb dX12_cell_33 rfl (lv_at hl 1 rfl) ?_
        obtain ⟨hin, h⟩ := ck_s h
        refine md_drawer hx hb hK hP hin dX12_cell_34 ?_
        refine lv_lconst (v := 0) hx hb dX12_cell_35 kl_0 ?_
        refine W.lcmp hx hb dX12_cell_36 ?_
        refine lv_if_ne hx hb dX12_cell_37 (tgt := 45) rfl (fun hc => ?_) (fun hc => ?_)
        · replace h := ifn h (fun q => hc ((lg_cmp_eq _ _).mpr q))
          refine lv_aload_n hx hb dX12_cell_45 rfl (lv_at hl 0 rfl) ?_
          refine mg_MO_0 hx hb hw hown hK hP dX12_cell_46 ?_
          refine lv_iload_n hx hb dX12_cell_49 rfl (lv_at hl 1 rfl) ?_
          obtain ⟨hin, h⟩ := ck_s h
          refine md_drawer hx hb hK hP hin dX12_cell_50 ?_
          refine lv_iload_n hx hb dX12_cell_51 rfl (lv_at hl 2 rfl) ?_
          refine lv_iload_n hx hb dX12_cell_52 rfl (lv_at hl 3 rfl) ?_
          obtain ⟨r_15, hr_16, h⟩ := bd1_s h
          refine sc_i hx hb hml hown hw hN (c_mo_isCell l (a_drawer v1.toNatClampNeg) v2 v3 r_15 hr_16) g_RX12_142 hd_X12_isCell (rest := []) hl.1 hS dX12_cell_53 rfl rfl ⟨Nat.le_of_ble_eq_true rfl, Nat.le_of_ble_eq_true rfl⟩ rfl rfl (Nat.le_of_ble_eq_true rfl) ⟨Nat.zero_le _, Nat.zero_le _⟩ (fun H locs hk hS => ?_)
          have hP := mP_kept hP hk
          refine lv_if_eq hx hb dX12_cell_56 (tgt := 63) rfl (fun hc => ?_) (fun hc => ?_)
          · replace h := ifp h hc
            refine lv_iconst (v := 0) hx hb dX12_cell_63 ki_0 ?_
            replace h := Option.some.inj h
            subst h
            exact rc_i hx hb hr hlocks hS dX12_cell_64 rfl hP
          · replace h := ifn h hc
            refine lv_iconst (v := 1) hx hb dX12_cell_59 ki_1 ?_
            refine lv_goto hx hb dX12_cell_60 (tgt := 64) rfl ?_
            replace h := Option.some.inj h
            subst h
            exact rc_i hx hb hr hlocks hS dX12_cell_64 rfl hP
        · replace h := ifp h ((lg_cmp_eq _ _).mp hc)
          refine lv_bipush (v := (-2)) hx hb dX12_cell_40 kb_m2 ?_
          refine lv_goto hx hb dX12_cell_42 (tgt := 64) rfl ?_
          replace h := Option.some.inj h
          subst h
          exact rc_i hx hb hr hlocks hS dX12_cell_64 rfl hP
      · replace h := ifp h hc
        refine lv_iconst (v := (-1)) hx hb dX12_cell_27 ki_m1 ?_
        replace h := Option.some.inj h
        subst h
        exact rc_i hx hb hr hlocks hS dX12_cell_28 rfl hP
noncomputable def mo_number (v1 : Int32) (v2 : Int32) (a_drawer : Nat → Int64) : Option (Int64) :=
  bd1 (mo_isDrawer v1) fun r_1 =>
  if r_1 = 0 then (some (((-1) : Int64))) else
  bd1 (mo_isKind v2) fun r_3 =>
  if r_3 = 0 then (some (((-1) : Int64))) else
  ck v1 8 <|
  if (a_drawer v1.toNatClampNeg) = 0 then (some (((-2) : Int64))) else
  ck v1 8 <|
  bd1 (mo_ownOf (a_drawer v1.toNatClampNeg) v2) fun r_5 =>
  some (r_5)
set_option maxHeartbeats 4000000 in
set_option maxRecDepth 100000 in
theorem c_mo_number (l : Launch) (D : va_G) (ct : Nat → ClassId) (ad : Nat → Nat) (hI : mI ad) {y_km y_tp y_goes y_kin y_qd y_sides y_cuts y_flat y_cp y_cA y_cB y_1X y_1Y y_2X y_2Y y_tm y_cells : Int32} {a_mtape a_flood a_going a_field a_from a_mcrowds a_steps a_queue a_letter a_lineX a_lineY a_triedAt a_cellAt a_besideIn a_apart : Nat → Int32} {a_drawer a_mkept a_listed a_mkin a_tried a_takenAt a_waysOf : Nat → Int64} (v1 : Int32) (v2 : Int32) (r : Int64)  (h : mo_number v1 v2 a_drawer = some (r)) : Met l yX12_number (wm yX12_number cX12_number 3 (some .long)) (rmm 3 75) (va_Pc [.ref (ad 0), .int v1, .int v2] (mB D ct ad y_km y_tp y_goes y_kin y_qd y_sides y_cuts y_flat y_cp y_cA y_cB y_1X y_1Y y_2X y_2Y y_tm y_cells a_mtape a_flood a_going a_field a_from a_mcrowds a_steps a_queue a_letter a_lineX a_lineY a_triedAt a_cellAt a_besideIn a_apart a_drawer a_mkept a_listed a_mkin a_tried a_takenAt a_waysOf)) (va_Ql (fun z (_ : Unit) => z = r) (fun _ t => mP D ct ad y_km y_tp y_goes y_kin y_qd y_sides y_cuts y_flat y_cp y_cA y_cB y_1X y_1Y y_2X y_2Y y_tm y_cells a_mtape a_flood a_going a_field a_from a_mcrowds a_steps a_queue a_letter a_lineX a_lineY a_triedAt a_cellAt a_besideIn a_apart a_drawer a_mkept a_listed a_mkin a_tried a_takenAt a_waysOf t.heap) (mA ad)) 0 0 (mA ad) := by
  refine met_s (y := yX12_number) (rm := rmm 3 75) (by decide) (Nat.le_of_ble_eq_true rfl) ?_
  intro p e s m below meth c hx hb hr hw hown hlocks _ hml hB ls hl
  obtain ⟨hN, hK, hP⟩ := hB
  replace hl : lv_has ls 3 [(0, .ref (ad 0)), (1, .int v1), (2, .int v2)] := hl
  have hS : va_S (mA ad) s.heap s.heap [] := va_S.rf
  generalize (([.ref (ad 0), .int v1, .int v2] : List Value).toArray) = av at hw ⊢
  rw [mo_number] at h
  refine lv_iload_n hx hb dX12_number_0 rfl (lv_at hl 1 rfl) ?_
  obtain ⟨r_7, hr_8, h⟩ := bd1_s h
  refine sc_i hx hb hml hown hw hN (c_mo_isDrawer l v1 r_7 hr_8) g_RX12_135 hd_X12_isDrawer (rest := []) hl.1 hS dX12_number_1 rfl rfl ⟨Nat.le_of_ble_eq_true rfl, Nat.le_of_ble_eq_true rfl⟩ rfl rfl (Nat.le_of_ble_eq_true rfl) ⟨Nat.zero_le _, Nat.zero_le _⟩ (fun H locs hk hS => ?_)
  have hP := mP_kept hP hk
  refine lv_if_eq hx hb dX12_number_4 (tgt := 14) rfl (fun hc => ?_) (fun hc => ?_)
  · replace h := ifp h hc
    refine lv_ldc2 hx hb hown (hw _ tw_12_20) dX12_number_14 ?_
    replace h := Option.some.inj h
    subst h
    exact rc_l hx hb hr hlocks hS dX12_number_17 rfl hP
  · replace h := ifn h hc
    refine lv_iload_n hx hb dX12_number_7 rfl (lv_at hl 2 rfl) ?_
    obtain ⟨r_9, hr_10, h⟩ := bd1_s h
    refine sc_i hx hb hml hown hw hN (c_mo_isKind l v2 r_9 hr_10) g_RX12_194 hd_X12_isKind (rest := []) hl.1 hS dX12_number_8 rfl rfl ⟨Nat.le_of_ble_eq_true rfl, Nat.le_of_ble_eq_true rfl⟩ rfl rfl (Nat.le_of_ble_eq_true rfl) ⟨Nat.zero_le _, Nat.zero_le _⟩ (fun H locs hk hS => ?_)
    have hP := mP_kept hP hk
    refine lv_if_ne hx hb dX12_number_11 (tgt := 18) rfl (fun hc => ?_) (fun hc => ?_)
    · replace h := ifn h hc
      refine lv_aload_n hx hb dX12_number_18 rfl (lv_at hl 0 rfl) ?_
      refine mg_MO_0 hx hb hw hown hK hP dX12_number_19 ?_
      refine lv_iload_n hx hb dX12_number_22 rfl (lv_at hl 1 rfl) ?_
      obtain ⟨hin, h⟩ := ck_s h
      refine md_drawer hx hb hK hP hin dX12_number_23 ?_
      refine lv_lconst (v := 0) hx hb dX12_number_24 kl_0 ?_
      refine W.lcmp hx hb dX12_number_25 ?_
      refine lv_if_ne hx hb dX12_number_26 (tgt := 35) rfl (fun hc => ?_) (fun hc => ?_)
      · replace h := ifn h (fun q => hc ((lg_cmp_eq _ _).mpr q))
        refine lv_aload_n hx hb dX12_number_35 rfl (lv_at hl 0 rfl) ?_
        refine mg_MO_0 hx hb hw hown hK hP dX12_number_36 ?_
        refine lv_iload_n hx hb dX12_number_39 rfl (lv_at hl 1 rfl) ?_
        obtain ⟨hin, h⟩ := ck_s h
        refine md_drawer hx hb hK hP hin dX12_number_40 ?_
        refine lv_iload_n hx hb dX12_number_41 rfl (lv_at hl 2 rfl) ?_
        obtain ⟨r_11, hr_12, h⟩ := bd1_s h
        refine sc_l hx hb hml hown hw hN (c_mo_ownOf l (a_drawer v1.toNatClampNeg) v2 r_11 hr_12) g_RX12_199 hd_X12_ownOf (rest := []) hl.1 hS dX12_number_42 rfl rfl ⟨Nat.le_of_ble_eq_true rfl, Nat.le_of_ble_eq_true rfl⟩ rfl rfl (Nat.le_of_ble_eq_true rfl) ⟨Nat.zero_le _, Nat.zero_le _⟩ (fun H locs hk hS => ?_)
        have hP := mP_kept hP hk
        replace h := Option.some.inj h
        subst h
        exact rc_l hx hb hr hlocks hS dX12_number_45 rfl hP
      · replace h := ifp h ((lg_cmp_eq _ _).mp hc)
        refine lv_ldc2 hx hb hown (hw _ tw_20_10) dX12_number_29 ?_
        refine lv_goto hx hb dX12_number_32 (tgt := 45) rfl ?_
        replace h := Option.some.inj h
        subst h
        exact rc_l hx hb hr hlocks hS dX12_number_45 rfl hP
    · replace h := ifp h hc
      refine lv_ldc2 hx hb hown (hw _ tw_12_20) dX12_number_14 ?_
      replace h := Option.some.inj h
      subst h
      exact rc_l hx hb hr hlocks hS dX12_number_17 rfl hP
noncomputable def mo_turn (v1 : Int32) (v2 : Int32) (a_drawer : Nat → Int64) : Option (Int64 × (Nat → Int64)) :=
  bd1 (mo_isDrawer v1) fun r_1 =>
  if r_1 = 0 then (some (((-1) : Int64), a_drawer)) else
  bd1 (mo_in v2 0 7) fun r_3 =>
  if r_3 = 0 then (some (((-1) : Int64), a_drawer)) else
  ck v1 8 <|
  if (a_drawer v1.toNatClampNeg) = 0 then (some (((-2) : Int64), a_drawer)) else
  ck v1 8 <|
  bd1 (mo_turned (a_drawer v1.toNatClampNeg) v2) fun r_5 =>
  ck v1 8 <|
  nm (vp_updL a_drawer v1.toNatClampNeg r_5) fun a_drawer_7 =>
  ck v1 8 <|
  some (a_drawer_7 v1.toNatClampNeg, a_drawer_7)
set_option maxHeartbeats 4000000 in
set_option maxRecDepth 100000 in
theorem c_mo_turn (l : Launch) (D : va_G) (ct : Nat → ClassId) (ad : Nat → Nat) (hI : mI ad) {y_km y_tp y_goes y_kin y_qd y_sides y_cuts y_flat y_cp y_cA y_cB y_1X y_1Y y_2X y_2Y y_tm y_cells : Int32} {a_mtape a_flood a_going a_field a_from a_mcrowds a_steps a_queue a_letter a_lineX a_lineY a_triedAt a_cellAt a_besideIn a_apart : Nat → Int32} {a_drawer a_mkept a_listed a_mkin a_tried a_takenAt a_waysOf : Nat → Int64} (v1 : Int32) (v2 : Int32) (r : Int64) (z_a_drawer : Nat → Int64) (h : mo_turn v1 v2 a_drawer = some (r, z_a_drawer)) : Met l yX12_turn (wm yX12_turn cX12_turn 3 (some .long)) (rmm 3 73) (va_Pc [.ref (ad 0), .int v1, .int v2] (mB D ct ad y_km y_tp y_goes y_kin y_qd y_sides y_cuts y_flat y_cp y_cA y_cB y_1X y_1Y y_2X y_2Y y_tm y_cells a_mtape a_flood a_going a_field a_from a_mcrowds a_steps a_queue a_letter a_lineX a_lineY a_triedAt a_cellAt a_besideIn a_apart a_drawer a_mkept a_listed a_mkin a_tried a_takenAt a_waysOf)) (va_Ql (fun z (_ : Unit) => z = r) (fun _ t => mP D ct ad y_km y_tp y_goes y_kin y_qd y_sides y_cuts y_flat y_cp y_cA y_cB y_1X y_1Y y_2X y_2Y y_tm y_cells a_mtape a_flood a_going a_field a_from a_mcrowds a_steps a_queue a_letter a_lineX a_lineY a_triedAt a_cellAt a_besideIn a_apart z_a_drawer a_mkept a_listed a_mkin a_tried a_takenAt a_waysOf t.heap) (mA ad)) 0 0 (mA ad) := by
  refine met_s (y := yX12_turn) (rm := rmm 3 73) (by decide) (Nat.le_of_ble_eq_true rfl) ?_
  intro p e s m below meth c hx hb hr hw hown hlocks _ hml hB ls hl
  obtain ⟨hN, hK, hP⟩ := hB
  replace hl : lv_has ls 3 [(0, .ref (ad 0)), (1, .int v1), (2, .int v2)] := hl
  have hS : va_S (mA ad) s.heap s.heap [] := va_S.rf
  generalize (([.ref (ad 0), .int v1, .int v2] : List Value).toArray) = av at hw ⊢
  rw [mo_turn] at h
  refine lv_iload_n hx hb dX12_turn_0 rfl (lv_at hl 1 rfl) ?_
  obtain ⟨r_8, hr_9, h⟩ := bd1_s h
  refine sc_i hx hb hml hown hw hN (c_mo_isDrawer l v1 r_8 hr_9) g_RX12_135 hd_X12_isDrawer (rest := []) hl.1 hS dX12_turn_1 rfl rfl ⟨Nat.le_of_ble_eq_true rfl, Nat.le_of_ble_eq_true rfl⟩ rfl rfl (Nat.le_of_ble_eq_true rfl) ⟨Nat.zero_le _, Nat.zero_le _⟩ (fun H locs hk hS => ?_)
  have hP := mP_kept hP hk
  refine lv_if_eq hx hb dX12_turn_4 (tgt := 17) rfl (fun hc => ?_) (fun hc => ?_)
  · replace h := ifp h hc
    refine lv_ldc2 hx hb hown (hw _ tw_12_20) dX12_turn_17 ?_
    simp only [Option.some.injEq, Prod.mk.injEq] at h
    obtain ⟨rfl, rfl⟩ := h
    exact rc_l hx hb hr hlocks hS dX12_turn_20 rfl hP
  · replace h := ifn h hc
    refine lv_iload_n hx hb dX12_turn_7 rfl (lv_at hl 2 rfl) ?_
    refine lv_iconst (v := 0) hx hb dX12_turn_8 ki_0 ?_
    refine lv_bipush (v := 7) hx hb dX12_turn_9 kb_7 ?_
    obtain ⟨r_10, hr_11, h⟩ := bd1_s h
    refine sc_i hx hb hml hown hw hN (c_mo_in l v2 0 7 r_10 hr_11) g_RX12_82 hd_X12_in (rest := []) hl.1 hS dX12_turn_11 rfl rfl ⟨Nat.le_of_ble_eq_true rfl, Nat.le_of_ble_eq_true rfl⟩ rfl rfl (Nat.le_of_ble_eq_true rfl) ⟨Nat.zero_le _, Nat.zero_le _⟩ (fun H locs hk hS => ?_)
    have hP := mP_kept hP hk
    refine lv_if_ne hx hb dX12_turn_14 (tgt := 21) rfl (fun hc => ?_) (fun hc => ?_)
    · replace h := ifn h hc
      refine lv_aload_n hx hb dX12_turn_21 rfl (lv_at hl 0 rfl) ?_
      refine mg_MO_0 hx hb hw hown hK hP dX12_turn_22 ?_
      refine lv_iload_n hx hb dX12_turn_25 rfl (lv_at hl 1 rfl) ?_
      obtain ⟨hin, h⟩ := ck_s h
      refine md_drawer hx hb hK hP hin dX12_turn_26 ?_
      refine lv_lconst (v := 0) hx hb dX12_turn_27 kl_0 ?_
      refine W.lcmp hx hb dX12_turn_28 ?_
      refine lv_if_ne hx hb dX12_turn_29 (tgt := 36) rfl (fun hc => ?_) (fun hc => ?_)
      · replace h := ifn h (fun q => hc ((lg_cmp_eq _ _).mpr q))
        refine lv_aload_n hx hb dX12_turn_36 rfl (lv_at hl 0 rfl) ?_
        refine mg_MO_0 hx hb hw hown hK hP dX12_turn_37 ?_
        refine lv_iload_n hx hb dX12_turn_40 rfl (lv_at hl 1 rfl) ?_
        refine lv_aload_n hx hb dX12_turn_41 rfl (lv_at hl 0 rfl) ?_
        refine mg_MO_0 hx hb hw hown hK hP dX12_turn_42 ?_
        refine lv_iload_n hx hb dX12_turn_45 rfl (lv_at hl 1 rfl) ?_
        obtain ⟨hin, h⟩ := ck_s h
        refine md_drawer hx hb hK hP hin dX12_turn_46 ?_
        refine lv_iload_n hx hb dX12_turn_47 rfl (lv_at hl 2 rfl) ?_
        obtain ⟨r_12, hr_13, h⟩ := bd1_s h
        refine sc_l hx hb hml hown hw hN (c_mo_turned l (a_drawer v1.toNatClampNeg) v2 r_12 hr_13) g_RX12_159 hd_X12_turned (rest := [.int v1, .ref (ad 1)]) hl.1 hS dX12_turn_48 rfl rfl ⟨Nat.le_of_ble_eq_true rfl, Nat.le_of_ble_eq_true rfl⟩ rfl rfl (Nat.le_of_ble_eq_true rfl) ⟨Nat.zero_le _, Nat.zero_le _⟩ (fun H locs hk hS => ?_)
        have hP := mP_kept hP hk
        obtain ⟨hin, h⟩ := ck_s h
        obtain ⟨a_drawer_14, ea_drawer_14, h⟩ := nm_s h
        refine ms_drawer hx hb hK hP hI hS hin ea_drawer_14 dX12_turn_51 (fun H locs hP hS => ?_)
        refine lv_aload_n hx hb dX12_turn_52 rfl (lv_at hl 0 rfl) ?_
        refine mg_MO_0 hx hb hw hown hK hP dX12_turn_53 ?_
        refine lv_iload_n hx hb dX12_turn_56 rfl (lv_at hl 1 rfl) ?_
        obtain ⟨hin, h⟩ := ck_s h
        refine md_drawer hx hb hK hP hin dX12_turn_57 ?_
        simp only [Option.some.injEq, Prod.mk.injEq] at h
        obtain ⟨rfl, rfl⟩ := h
        exact rc_l hx hb hr hlocks hS dX12_turn_58 rfl hP
      · replace h := ifp h ((lg_cmp_eq _ _).mp hc)
        refine lv_ldc2 hx hb hown (hw _ tw_20_10) dX12_turn_32 ?_
        simp only [Option.some.injEq, Prod.mk.injEq] at h
        obtain ⟨rfl, rfl⟩ := h
        exact rc_l hx hb hr hlocks hS dX12_turn_35 rfl hP
    · replace h := ifp h hc
      refine lv_ldc2 hx hb hown (hw _ tw_12_20) dX12_turn_17 ?_
      simp only [Option.some.injEq, Prod.mk.injEq] at h
      obtain ⟨rfl, rfl⟩ := h
      exact rc_l hx hb hr hlocks hS dX12_turn_20 rfl hP
noncomputable def mo_alike (v1 : Int32) (v2 : Int32) (v3 : Int32) (a_drawer : Nat → Int64) : Option (Int32) :=
  bd1 (mo_isDrawer v1) fun r_1 =>
  if r_1 = 0 then (some ((-1))) else
  bd1 (mo_isDrawer v2) fun r_3 =>
  if r_3 = 0 then (some ((-1))) else
  bd1 (mo_isKind v3) fun r_5 =>
  if r_5 = 0 then (some ((-1))) else
  ck v1 8 <|
  if (a_drawer v1.toNatClampNeg) = 0 then (some ((-2))) else
  ck v2 8 <|
  if (a_drawer v2.toNatClampNeg) = 0 then (some ((-2))) else
  ck v1 8 <|
  bd1 (mo_ownOf (a_drawer v1.toNatClampNeg) v3) fun r_7 =>
  ck v2 8 <|
  bd1 (mo_ownOf (a_drawer v2.toNatClampNeg) v3) fun r_9 =>
  if r_7 = r_9 then (some (1)) else
  some (0)
set_option maxHeartbeats 4000000 in
set_option maxRecDepth 100000 in
theorem c_mo_alike (l : Launch) (D : va_G) (ct : Nat → ClassId) (ad : Nat → Nat) (hI : mI ad) {y_km y_tp y_goes y_kin y_qd y_sides y_cuts y_flat y_cp y_cA y_cB y_1X y_1Y y_2X y_2Y y_tm y_cells : Int32} {a_mtape a_flood a_going a_field a_from a_mcrowds a_steps a_queue a_letter a_lineX a_lineY a_triedAt a_cellAt a_besideIn a_apart : Nat → Int32} {a_drawer a_mkept a_listed a_mkin a_tried a_takenAt a_waysOf : Nat → Int64} (v1 : Int32) (v2 : Int32) (v3 : Int32) (r : Int32)  (h : mo_alike v1 v2 v3 a_drawer = some (r)) : Met l yX12_alike (wm yX12_alike cX12_alike 4 (some .int)) (rmm 3 75) (va_Pc [.ref (ad 0), .int v1, .int v2, .int v3] (mB D ct ad y_km y_tp y_goes y_kin y_qd y_sides y_cuts y_flat y_cp y_cA y_cB y_1X y_1Y y_2X y_2Y y_tm y_cells a_mtape a_flood a_going a_field a_from a_mcrowds a_steps a_queue a_letter a_lineX a_lineY a_triedAt a_cellAt a_besideIn a_apart a_drawer a_mkept a_listed a_mkin a_tried a_takenAt a_waysOf)) (va_Qi (fun z (_ : Unit) => z = r) (fun _ t => mP D ct ad y_km y_tp y_goes y_kin y_qd y_sides y_cuts y_flat y_cp y_cA y_cB y_1X y_1Y y_2X y_2Y y_tm y_cells a_mtape a_flood a_going a_field a_from a_mcrowds a_steps a_queue a_letter a_lineX a_lineY a_triedAt a_cellAt a_besideIn a_apart a_drawer a_mkept a_listed a_mkin a_tried a_takenAt a_waysOf t.heap) (mA ad)) 0 0 (mA ad) := by
  refine met_s (y := yX12_alike) (rm := rmm 3 75) (by decide) (Nat.le_of_ble_eq_true rfl) ?_
  intro p e s m below meth c hx hb hr hw hown hlocks _ hml hB ls hl
  obtain ⟨hN, hK, hP⟩ := hB
  replace hl : lv_has ls 4 [(0, .ref (ad 0)), (1, .int v1), (2, .int v2), (3, .int v3)] := hl
  have hS : va_S (mA ad) s.heap s.heap [] := va_S.rf
  generalize (([.ref (ad 0), .int v1, .int v2, .int v3] : List Value).toArray) = av at hw ⊢
  rw [mo_alike] at h
  refine lv_iload_n hx hb dX12_alike_0 rfl (lv_at hl 1 rfl) ?_
  obtain ⟨r_11, hr_12, h⟩ := bd1_s h
  refine sc_i hx hb hml hown hw hN (c_mo_isDrawer l v1 r_11 hr_12) g_RX12_135 hd_X12_isDrawer (rest := []) hl.1 hS dX12_alike_1 rfl rfl ⟨Nat.le_of_ble_eq_true rfl, Nat.le_of_ble_eq_true rfl⟩ rfl rfl (Nat.le_of_ble_eq_true rfl) ⟨Nat.zero_le _, Nat.zero_le _⟩ (fun H locs hk hS => ?_)
  have hP := mP_kept hP hk
  refine lv_if_eq hx hb dX12_alike_4 (tgt := 21) rfl (fun hc => ?_) (fun hc => ?_)
  · replace h := ifp h hc
    refine lv_iconst (v := (-1)) hx hb dX12_alike_21 ki_m1 ?_
    replace h := Option.some.inj h
    subst h
    exact rc_i hx hb hr hlocks hS dX12_alike_22 rfl hP
  · replace h := ifn h hc
    refine lv_iload_n hx hb dX12_alike_7 rfl (lv_at hl 2 rfl) ?_
    obtain ⟨r_13, hr_14, h⟩ := bd1_s h
    refine sc_i hx hb hml hown hw hN (c_mo_isDrawer l v2 r_13 hr_14) g_RX12_135 hd_X12_isDrawer (rest := []) hl.1 hS dX12_alike_8 rfl rfl ⟨Nat.le_of_ble_eq_true rfl, Nat.le_of_ble_eq_true rfl⟩ rfl rfl (Nat.le_of_ble_eq_true rfl) ⟨Nat.zero_le _, Nat.zero_le _⟩ (fun H locs hk hS => ?_)
    have hP := mP_kept hP hk
    refine lv_if_eq hx hb dX12_alike_11 (tgt := 21) rfl (fun hc => ?_) (fun hc => ?_)
    · replace h := ifp h hc
      refine lv_iconst (v := (-1)) hx hb dX12_alike_21 ki_m1 ?_
      replace h := Option.some.inj h
      subst h
      exact rc_i hx hb hr hlocks hS dX12_alike_22 rfl hP
    · replace h := ifn h hc
      refine lv_iload_n hx hb dX12_alike_14 rfl (lv_at hl 3 rfl) ?_
      obtain ⟨r_15, hr_16, h⟩ := bd1_s h
      refine sc_i hx hb hml hown hw hN (c_mo_isKind l v3 r_15 hr_16) g_RX12_194 hd_X12_isKind (rest := []) hl.1 hS dX12_alike_15 rfl rfl ⟨Nat.le_of_ble_eq_true rfl, Nat.le_of_ble_eq_true rfl⟩ rfl rfl (Nat.le_of_ble_eq_true rfl) ⟨Nat.zero_le _, Nat.zero_le _⟩ (fun H locs hk hS => ?_)
      have hP := mP_kept hP hk
      refine lv_if_ne hx hb dX12_alike_18 (tgt := 23) rfl (fun hc => ?_) (fun hc => ?_)
      · replace h := ifn h hc
        refine lv_aload_n hx hb dX12_alike_23 rfl (lv_at hl 0 rfl) ?_
        refine mg_MO_0 hx hb hw hown hK hP dX12_alike_24 ?_
        refine lv_iload_n hx hb dX12_alike_27 rfl (lv_at hl 1 rfl) ?_
        obtain ⟨hin, h⟩ := ck_s h
        refine md_drawer hx hb hK hP hin dX12_alike_28 ?_
        refine lv_lconst (v := 0) hx hb dX12_alike_29 kl_0 ?_
        refine W.lcmp hx hb dX12_alike_30 ?_
        refine lv_if_eq hx hb dX12_alike_31 (tgt := 45) rfl (fun hc => ?_) (fun hc => ?_)
        · replace h := ifp h ((lg_cmp_eq _ _).mp hc)
          refine lv_bipush (v := (-2)) hx hb dX12_alike_45 kb_m2 ?_
          replace h := Option.some.inj h
          subst h
          exact rc_i hx hb hr hlocks hS dX12_alike_47 rfl hP
        · replace h := ifn h (fun q => hc ((lg_cmp_eq _ _).mpr q))
          refine lv_aload_n hx hb dX12_alike_34 rfl (lv_at hl 0 rfl) ?_
          refine mg_MO_0 hx hb hw hown hK hP dX12_alike_35 ?_
          refine lv_iload_n hx hb dX12_alike_38 rfl (lv_at hl 2 rfl) ?_
          obtain ⟨hin, h⟩ := ck_s h
          refine md_drawer hx hb hK hP hin dX12_alike_39 ?_
          refine lv_lconst (v := 0) hx hb dX12_alike_40 kl_0 ?_
          refine W.lcmp hx hb dX12_alike_41 ?_
          refine lv_if_ne hx hb dX12_alike_42 (tgt := 48) rfl (fun hc => ?_) (fun hc => ?_)
          · replace h := ifn h (fun q => hc ((lg_cmp_eq _ _).mpr q))
            refine lv_aload_n hx hb dX12_alike_48 rfl (lv_at hl 0 rfl) ?_
            refine mg_MO_0 hx hb hw hown hK hP dX12_alike_49 ?_
            refine lv_iload_n hx hb dX12_alike_52 rfl (lv_at hl 1 rfl) ?_
            obtain ⟨hin, h⟩ := ck_s h
            refine md_drawer hx hb hK hP hin dX12_alike_53 ?_
            refine lv_iload_n hx hb dX12_alike_54 rfl (lv_at hl 3 rfl) ?_
            obtain ⟨r_17, hr_18, h⟩ := bd1_s h
            refine sc_l hx hb hml hown hw hN (c_mo_ownOf l (a_drawer v1.toNatClampNeg) v3 r_17 hr_18) g_RX12_199 hd_X12_ownOf (rest := []) hl.1 hS dX12_alike_55 rfl rfl ⟨Nat.le_of_ble_eq_true rfl, Nat.le_of_ble_eq_true rfl⟩ rfl rfl (Nat.le_of_ble_eq_true rfl) ⟨Nat.zero_le _, Nat.zero_le _⟩ (fun H locs hk hS => ?_)
            have hP := mP_kept hP hk
            refine lv_aload_n hx hb dX12_alike_58 rfl (lv_at hl 0 rfl) ?_
            refine mg_MO_0 hx hb hw hown hK hP dX12_alike_59 ?_
            refine lv_iload_n hx hb dX12_alike_62 rfl (lv_at hl 2 rfl) ?_
            obtain ⟨hin, h⟩ := ck_s h
            refine md_drawer hx hb hK hP hin dX12_alike_63 ?_
            refine lv_iload_n hx hb dX12_alike_64 rfl (lv_at hl 3 rfl) ?_
            obtain ⟨r_19, hr_20, h⟩ := bd1_s h
            refine sc_l hx hb hml hown hw hN (c_mo_ownOf l (a_drawer v2.toNatClampNeg) v3 r_19 hr_20) g_RX12_199 hd_X12_ownOf (rest := [.long r_17]) hl.1 hS dX12_alike_65 rfl rfl ⟨Nat.le_of_ble_eq_true rfl, Nat.le_of_ble_eq_true rfl⟩ rfl rfl (Nat.le_of_ble_eq_true rfl) ⟨Nat.zero_le _, Nat.zero_le _⟩ (fun H locs hk hS => ?_)
            have hP := mP_kept hP hk
            refine W.lcmp hx hb dX12_alike_68 ?_
            refine lv_if_ne hx hb dX12_alike_69 (tgt := 76) rfl (fun hc => ?_) (fun hc => ?_)
            · replace h := ifn h (fun q => hc ((lg_cmp_eq _ _).mpr q))
              refine lv_iconst (v := 0) hx hb dX12_alike_76 ki_0 ?_
              replace h := Option.some.inj h
              subst h
              exact rc_i hx hb hr hlocks hS dX12_alike_77 rfl hP
            · replace h := ifp h ((lg_cmp_eq _ _).mp hc)
              refine lv_iconst (v := 1) hx hb dX12_alike_72 ki_1 ?_
              refine lv_goto hx hb dX12_alike_73 (tgt := 77) rfl ?_
              replace h := Option.some.inj h
              subst h
              exact rc_i hx hb hr hlocks hS dX12_alike_77 rfl hP
          · replace h := ifp h ((lg_cmp_eq _ _).mp hc)
            refine lv_bipush (v := (-2)) hx hb dX12_alike_45 kb_m2 ?_
            replace h := Option.some.inj h
            subst h
            exact rc_i hx hb hr hlocks hS dX12_alike_47 rfl hP
      · replace h := ifp h hc
        refine lv_iconst (v := (-1)) hx hb dX12_alike_21 ki_m1 ?_
        replace h := Option.some.inj h
        subst h
        exact rc_i hx hb hr hlocks hS dX12_alike_22 rfl hP
noncomputable def mo_clears_B2   (k2 : Int32 → (Nat → Int32) → Option ((Nat → Int32))) (v1 : Int32) (a_field : Nat → Int32) : Option ((Nat → Int32)) :=
  if 576 ≤ v1 then (some (a_field)) else
  ck v1 576 <|
  nm (upd a_field v1.toNatClampNeg (vp_nar .boolean 0)) fun a_field_1 =>
  nm (v1 + Int32.ofInt 1) fun v1_2 =>
  k2 v1_2 a_field_1
noncomputable def mo_clears (a_field : Nat → Int32) : Option ((Nat → Int32)) :=
  fl2 (mo_clears_B2 ) FU 0 a_field
set_option maxHeartbeats 4000000 in
set_option maxRecDepth 100000 in
theorem c_mo_clears (l : Launch) (D : va_G) (ct : Nat → ClassId) (ad : Nat → Nat) (hI : mI ad) {y_km y_tp y_goes y_kin y_qd y_sides y_cuts y_flat y_cp y_cA y_cB y_1X y_1Y y_2X y_2Y y_tm y_cells : Int32} {a_mtape a_flood a_going a_field a_from a_mcrowds a_steps a_queue a_letter a_lineX a_lineY a_triedAt a_cellAt a_besideIn a_apart : Nat → Int32} {a_drawer a_mkept a_listed a_mkin a_tried a_takenAt a_waysOf : Nat → Int64}   (z_a_field : Nat → Int32) (h : mo_clears a_field = some (z_a_field)) : Met l yX12_clears (wm yX12_clears cX12_clears 2 none) (rmm 0 0) (va_Pc [.ref (ad 0)] (mB D ct ad y_km y_tp y_goes y_kin y_qd y_sides y_cuts y_flat y_cp y_cA y_cB y_1X y_1Y y_2X y_2Y y_tm y_cells a_mtape a_flood a_going a_field a_from a_mcrowds a_steps a_queue a_letter a_lineX a_lineY a_triedAt a_cellAt a_besideIn a_apart a_drawer a_mkept a_listed a_mkin a_tried a_takenAt a_waysOf)) (va_Qv (fun (_ : Unit) => True) (fun _ t => mP D ct ad y_km y_tp y_goes y_kin y_qd y_sides y_cuts y_flat y_cp y_cA y_cB y_1X y_1Y y_2X y_2Y y_tm y_cells a_mtape a_flood a_going z_a_field a_from a_mcrowds a_steps a_queue a_letter a_lineX a_lineY a_triedAt a_cellAt a_besideIn a_apart a_drawer a_mkept a_listed a_mkin a_tried a_takenAt a_waysOf t.heap) (mA ad)) 0 0 (mA ad) := by
  refine met_s (y := yX12_clears) (rm := rmm 0 0) (by decide) (Nat.le_of_ble_eq_true rfl) ?_
  intro p e s m below meth c hx hb hr hw hown hlocks _ hml hB ls hl
  obtain ⟨hN, hK, hP⟩ := hB
  replace hl : lv_has ls 2 [(0, .ref (ad 0))] := hl
  have hS : va_S (mA ad) s.heap s.heap [] := va_S.rf
  generalize (([.ref (ad 0)] : List Value).toArray) = av at hw ⊢
  rw [mo_clears] at h
  have hL2 : ∀ (n2 : Nat) (H : Heap) (locs : List Loc) (ls : Array Slot) (v1 : Int32) (a_field : Nat → Int32), lv_has ls 2 [(0, .ref (ad 0)), (1, .int v1)] → mP D ct ad y_km y_tp y_goes y_kin y_qd y_sides y_cuts y_flat y_cp y_cA y_cB y_1X y_1Y y_2X y_2Y y_tm y_cells a_mtape a_flood a_going a_field a_from a_mcrowds a_steps a_queue a_letter a_lineX a_lineY a_triedAt a_cellAt a_besideIn a_apart a_drawer a_mkept a_listed a_mkin a_tried a_takenAt a_waysOf H → va_S (mA ad) s.heap H locs → fl2 (mo_clears_B2 ) n2 v1 a_field = some (z_a_field) → W p l e (rmm 0 0) s m av below meth c H locs 0 0 (MQ below (va_Qv (fun (_ : Unit) => True) (fun _ t => mP D ct ad y_km y_tp y_goes y_kin y_qd y_sides y_cuts y_flat y_cp y_cA y_cB y_1X y_1Y y_2X y_2Y y_tm y_cells a_mtape a_flood a_going z_a_field a_from a_mcrowds a_steps a_queue a_letter a_lineX a_lineY a_triedAt a_cellAt a_besideIn a_apart a_drawer a_mkept a_listed a_mkin a_tried a_takenAt a_waysOf t.heap) (mA ad)) av s 0 0 (mA ad)) (F0 m 2 ls []) := by
    intro  n2
    induction n2 with
    | zero => intro H locs ls v1 a_field hl hP hS h; cases h
    | succ n2 ih2 =>
      intro H locs ls v1 a_field hl hP hS h
      replace h : mo_clears_B2  (fl2 (mo_clears_B2 ) n2) v1 a_field = some (z_a_field) := h
      generalize fl2 (mo_clears_B2 ) n2 = k2 at h ih2
      rw [mo_clears_B2] at h
      refine lv_iload_n hx hb dX12_clears_2 rfl (lv_at hl 1 rfl) ?_
      refine lv_sipush (v := 576) hx hb dX12_clears_3 ks_576 ?_
      refine lv_icmp_ge hx hb dX12_clears_6 (tgt := 22) rfl (fun hc => ?_) (fun hc => ?_)
      · replace h := ifp h hc
        replace h := Option.some.inj h
        subst h
        exact rc_v hx hb hr hlocks hS dX12_clears_22 hP
      · replace h := ifn h hc
        refine lv_aload_n hx hb dX12_clears_9 rfl (lv_at hl 0 rfl) ?_
        refine mg_MO_8 hx hb hw hown hK hP dX12_clears_10 ?_
        refine lv_iload_n hx hb dX12_clears_13 rfl (lv_at hl 1 rfl) ?_
        refine lv_iconst (v := 0) hx hb dX12_clears_14 ki_0 ?_
        obtain ⟨hin, h⟩ := ck_s h
        obtain ⟨a_field_3, ea_field_3, h⟩ := nm_s h
        refine ms_field hx hb hK hP hI hS hin ea_field_3 dX12_clears_15 (fun H locs hP hS => ?_)
        obtain ⟨v1_4, ev1_4, h⟩ := nm_s h
        refine lv_iinc hx hb dX12_clears_16 hl (k := 1) rfl ev1_4.symm (Nat.le_of_ble_eq_true rfl) (lv' := [(1, .int v1_4), (0, .ref (ad 0))]) rfl (fun ls hl => ?_)
        refine lv_goto hx hb dX12_clears_19 (tgt := 2) rfl ?_
        exact ih2 _ _ _ v1_4 a_field_3 (lv_sub hl [1, 0] rfl) hP hS h
  refine lv_iconst (v := 0) hx hb dX12_clears_0 ki_0 ?_
  refine lv_istore_n hx hb dX12_clears_1 rfl hl (Nat.le_of_ble_eq_true rfl) (lv' := [(1, .int 0), (0, .ref (ad 0))]) rfl (fun ls hl => ?_)
  exact hL2  FU _ _ _ 0 a_field (lv_sub hl [1, 0] rfl) hP hS h
noncomputable def mo_lays_J57 (k3 : Int32 → (Nat → Int32) → Option ((Nat → Int32))) (k13 : Int32 → (Nat → Int32) → Option ((Nat → Int32))) (v1 : Int64) (v3 : Int32) (v4 : Int32) (v5 : Int32) (v6 : Int32) (v7 : Int32) (a_field : Nat → Int32)  : Option ((Nat → Int32)) :=
  nm (v7 + Int32.ofInt 1) fun v7_1 =>
  k13 v7_1 a_field
noncomputable def mo_lays_B13 (v1 : Int64) (v3 : Int32) (v4 : Int32) (v5 : Int32) (v6 : Int32) (k3 : Int32 → (Nat → Int32) → Option ((Nat → Int32))) (k13 : Int32 → (Nat → Int32) → Option ((Nat → Int32))) (v7 : Int32) (a_field : Nat → Int32) : Option ((Nat → Int32)) :=
  if 7 ≤ v7 then (nm (v6 + Int32.ofInt 1) fun v6_2 =>
  k3 v6_2 a_field) else
  bd1 (mo_isCell v1 v7 v6) fun r_3 =>
  if r_3 = 0 then (mo_lays_J57 k3 k13 v1 v3 v4 v5 v6 v7 a_field) else
  nm ((((24 * ((v6 + v4) + 8)) + v7) + v3) + 8 : Int32) fun i_5 =>
  ck i_5 576 <|
  nm (upd a_field i_5.toNatClampNeg (vp_nar .boolean v5)) fun a_field_6 =>
  mo_lays_J57 k3 k13 v1 v3 v4 v5 v6 v7 a_field_6
noncomputable def mo_lays_B3 (v1 : Int64) (v3 : Int32) (v4 : Int32) (v5 : Int32)  (k3 : Int32 → (Nat → Int32) → Option ((Nat → Int32))) (v6 : Int32) (a_field : Nat → Int32) : Option ((Nat → Int32)) :=
  if 7 ≤ v6 then (some (a_field)) else
  fl2 (mo_lays_B13 v1 v3 v4 v5 v6 k3) FU 0 a_field
noncomputable def mo_lays (v1 : Int64) (v3 : Int32) (v4 : Int32) (v5 : Int32) (a_field : Nat → Int32) : Option ((Nat → Int32)) :=
  fl2 (mo_lays_B3 v1 v3 v4 v5) FU 0 a_field
set_option maxHeartbeats 4000000 in
set_option maxRecDepth 100000 in
theorem c_mo_lays (l : Launch) (D : va_G) (ct : Nat → ClassId) (ad : Nat → Nat) (hI : mI ad) {y_km y_tp y_goes y_kin y_qd y_sides y_cuts y_flat y_cp y_cA y_cB y_1X y_1Y y_2X y_2Y y_tm y_cells : Int32} {a_mtape a_flood a_going a_field a_from a_mcrowds a_steps a_queue a_letter a_lineX a_lineY a_triedAt a_cellAt a_besideIn a_apart : Nat → Int32} {a_drawer a_mkept a_listed a_mkin a_tried a_takenAt a_waysOf : Nat → Int64} (v1 : Int64) (v3 : Int32) (v4 : Int32) (v5 : Int32)  (z_a_field : Nat → Int32) (h : mo_lays v1 v3 v4 v5 a_field = some (z_a_field)) : Met l yX12_lays (wm yX12_lays cX12_lays 8 none) (rmm 2 45) (va_Pc [.ref (ad 0), .long v1, .int v3, .int v4, .int v5] (mB D ct ad y_km y_tp y_goes y_kin y_qd y_sides y_cuts y_flat y_cp y_cA y_cB y_1X y_1Y y_2X y_2Y y_tm y_cells a_mtape a_flood a_going a_field a_from a_mcrowds a_steps a_queue a_letter a_lineX a_lineY a_triedAt a_cellAt a_besideIn a_apart a_drawer a_mkept a_listed a_mkin a_tried a_takenAt a_waysOf)) (va_Qv (fun (_ : Unit) => True) (fun _ t => mP D ct ad y_km y_tp y_goes y_kin y_qd y_sides y_cuts y_flat y_cp y_cA y_cB y_1X y_1Y y_2X y_2Y y_tm y_cells a_mtape a_flood a_going z_a_field a_from a_mcrowds a_steps a_queue a_letter a_lineX a_lineY a_triedAt a_cellAt a_besideIn a_apart a_drawer a_mkept a_listed a_mkin a_tried a_takenAt a_waysOf t.heap) (mA ad)) 0 0 (mA ad) := by
  refine met_s (y := yX12_lays) (rm := rmm 2 45) (by decide) (Nat.le_of_ble_eq_true rfl) ?_
  intro p e s m below meth c hx hb hr hw hown hlocks _ hml hB ls hl
  obtain ⟨hN, hK, hP⟩ := hB
  replace hl : lv_has ls 8 [(0, .ref (ad 0)), (1, .long v1), (3, .int v3), (4, .int v4), (5, .int v5)] := hl
  have hS : va_S (mA ad) s.heap s.heap [] := va_S.rf
  generalize (([.ref (ad 0), .long v1, .int v3, .int v4, .int v5] : List Value).toArray) = av at hw ⊢
  rw [mo_lays] at h
  have hL3 : ∀ (v1 : Int64), ∀ (v3 : Int32), ∀ (v4 : Int32), ∀ (v5 : Int32), ∀ (n3 : Nat) (H : Heap) (locs : List Loc) (ls : Array Slot) (v6 : Int32) (a_field : Nat → Int32), lv_has ls 8 [(0, .ref (ad 0)), (1, .long v1), (3, .int v3), (4, .int v4), (5, .int v5), (6, .int v6)] → mP D ct ad y_km y_tp y_goes y_kin y_qd y_sides y_cuts y_flat y_cp y_cA y_cB y_1X y_1Y y_2X y_2Y y_tm y_cells a_mtape a_flood a_going a_field a_from a_mcrowds a_steps a_queue a_letter a_lineX a_lineY a_triedAt a_cellAt a_besideIn a_apart a_drawer a_mkept a_listed a_mkin a_tried a_takenAt a_waysOf H → va_S (mA ad) s.heap H locs → fl2 (mo_lays_B3 v1 v3 v4 v5) n3 v6 a_field = some (z_a_field) → W p l e (rmm 2 45) s m av below meth c H locs 0 0 (MQ below (va_Qv (fun (_ : Unit) => True) (fun _ t => mP D ct ad y_km y_tp y_goes y_kin y_qd y_sides y_cuts y_flat y_cp y_cA y_cB y_1X y_1Y y_2X y_2Y y_tm y_cells a_mtape a_flood a_going z_a_field a_from a_mcrowds a_steps a_queue a_letter a_lineX a_lineY a_triedAt a_cellAt a_besideIn a_apart a_drawer a_mkept a_listed a_mkin a_tried a_takenAt a_waysOf t.heap) (mA ad)) av s 0 0 (mA ad)) (F0 m 3 ls []) := by
    intro v1 v3 v4 v5 n3
    induction n3 with
    | zero => intro H locs ls v6 a_field hl hP hS h; cases h
    | succ n3 ih3 =>
      intro H locs ls v6 a_field hl hP hS h
      replace h : mo_lays_B3 v1 v3 v4 v5 (fl2 (mo_lays_B3 v1 v3 v4 v5) n3) v6 a_field = some (z_a_field) := h
      generalize fl2 (mo_lays_B3 v1 v3 v4 v5) n3 = k3 at h ih3
      have hL13 : ∀ (v6 : Int32), ∀ (n13 : Nat) (H : Heap) (locs : List Loc) (ls : Array Slot) (v7 : Int32) (a_field : Nat → Int32), lv_has ls 8 [(0, .ref (ad 0)), (1, .long v1), (3, .int v3), (4, .int v4), (5, .int v5), (6, .int v6), (7, .int v7)] → mP D ct ad y_km y_tp y_goes y_kin y_qd y_sides y_cuts y_flat y_cp y_cA y_cB y_1X y_1Y y_2X y_2Y y_tm y_cells a_mtape a_flood a_going a_field a_from a_mcrowds a_steps a_queue a_letter a_lineX a_lineY a_triedAt a_cellAt a_besideIn a_apart a_drawer a_mkept a_listed a_mkin a_tried a_takenAt a_waysOf H → va_S (mA ad) s.heap H locs → fl2 (mo_lays_B13 v1 v3 v4 v5 v6 k3) n13 v7 a_field = some (z_a_field) → W p l e (rmm 2 45) s m av below meth c H locs 0 0 (MQ below (va_Qv (fun (_ : Unit) => True) (fun _ t => mP D ct ad y_km y_tp y_goes y_kin y_qd y_sides y_cuts y_flat y_cp y_cA y_cB y_1X y_1Y y_2X y_2Y y_tm y_cells a_mtape a_flood a_going z_a_field a_from a_mcrowds a_steps a_queue a_letter a_lineX a_lineY a_triedAt a_cellAt a_besideIn a_apart a_drawer a_mkept a_listed a_mkin a_tried a_takenAt a_waysOf t.heap) (mA ad)) av s 0 0 (mA ad)) (F0 m 13 ls []) := by
        intro v6 n13
        induction n13 with
        | zero => intro H locs ls v7 a_field hl hP hS h; cases h
        | succ n13 ih13 =>
          intro H locs ls v7 a_field hl hP hS h
          replace h : mo_lays_B13 v1 v3 v4 v5 v6 k3 (fl2 (mo_lays_B13 v1 v3 v4 v5 v6 k3) n13) v7 a_field = some (z_a_field) := h
          generalize fl2 (mo_lays_B13 v1 v3 v4 v5 v6 k3) n13 = k13 at h ih13
          have hJ57 : ∀ (H : Heap) (locs : List Loc) (ls : Array Slot) (v7 : Int32) (a_field : Nat → Int32) , lv_has ls 8 [(0, .ref (ad 0)), (1, .long v1), (3, .int v3), (4, .int v4), (5, .int v5), (6, .int v6), (7, .int v7)] → mP D ct ad y_km y_tp y_goes y_kin y_qd y_sides y_cuts y_flat y_cp y_cA y_cB y_1X y_1Y y_2X y_2Y y_tm y_cells a_mtape a_flood a_going a_field a_from a_mcrowds a_steps a_queue a_letter a_lineX a_lineY a_triedAt a_cellAt a_besideIn a_apart a_drawer a_mkept a_listed a_mkin a_tried a_takenAt a_waysOf H → va_S (mA ad) s.heap H locs → mo_lays_J57 k3 k13 v1 v3 v4 v5 v6 v7 a_field = some (z_a_field) → W p l e (rmm 2 45) s m av below meth c H locs 0 0 (MQ below (va_Qv (fun (_ : Unit) => True) (fun _ t => mP D ct ad y_km y_tp y_goes y_kin y_qd y_sides y_cuts y_flat y_cp y_cA y_cB y_1X y_1Y y_2X y_2Y y_tm y_cells a_mtape a_flood a_going z_a_field a_from a_mcrowds a_steps a_queue a_letter a_lineX a_lineY a_triedAt a_cellAt a_besideIn a_apart a_drawer a_mkept a_listed a_mkin a_tried a_takenAt a_waysOf t.heap) (mA ad)) av s 0 0 (mA ad)) (F0 m 57 ls []) := by
            intro H locs ls v7 a_field  hl hP hS h
            rw [mo_lays_J57] at h
            obtain ⟨v7_7, ev7_7, h⟩ := nm_s h
            refine lv_iinc hx hb dX12_lays_57 hl (k := 6) rfl ev7_7.symm (Nat.le_of_ble_eq_true rfl) (lv' := [(7, .int v7_7), (0, .ref (ad 0)), (1, .long v1), (3, .int v3), (4, .int v4), (5, .int v5), (6, .int v6)]) rfl (fun ls hl => ?_)
            refine lv_goto hx hb dX12_lays_60 (tgt := 13) rfl ?_
            exact ih13 _ _ _ v7_7 a_field (lv_sub hl [1, 2, 3, 4, 5, 6, 0] rfl) hP hS h
          rw [mo_lays_B13] at h
          refine lv_iload hx hb dX12_lays_13 (lv_at hl 6 rfl) ?_
          refine lv_bipush (v := 7) hx hb dX12_lays_15 kb_7 ?_
          refine lv_icmp_ge hx hb dX12_lays_17 (tgt := 63) rfl (fun hc => ?_) (fun hc => ?_)
          · replace h := ifp h hc
            obtain ⟨v6_8, ev6_8, h⟩ := nm_s h
            refine lv_iinc hx hb dX12_lays_63 hl (k := 5) rfl ev6_8.symm (Nat.le_of_ble_eq_true rfl) (lv' := [(6, .int v6_8), (0, .ref (ad 0)), (1, .long v1), (3, .int v3), (4, .int v4), (5, .int v5), (7, .int v7)]) rfl (fun ls hl => ?_)
            refine lv_goto hx hb dX12_lays_66 (tgt := 3) rfl ?_
            exact ih3 _ _ _ v6_8 a_field (lv_sub hl [1, 2, 3, 4, 5, 0] rfl) hP hS h
          · replace h := ifn h hc
            refine lv_lload_n hx hb dX12_lays_20 rfl (lv_at hl 1 rfl) ?_
            refine lv_iload hx hb dX12_lays_21 (lv_at hl 6 rfl) ?_
            refine lv_iload hx hb dX12_lays_23 (lv_at hl 5 rfl) ?_
            obtain ⟨r_9, hr_10, h⟩ := bd1_s h
            refine sc_i hx hb hml hown hw hN (c_mo_isCell l v1 v7 v6 r_9 hr_10) g_RX12_142 hd_X12_isCell (rest := []) hl.1 hS dX12_lays_25 rfl rfl ⟨Nat.le_of_ble_eq_true rfl, Nat.le_of_ble_eq_true rfl⟩ rfl rfl (Nat.le_of_ble_eq_true rfl) ⟨Nat.zero_le _, Nat.zero_le _⟩ (fun H locs hk hS => ?_)
            have hP := mP_kept hP hk
            refine lv_if_eq hx hb dX12_lays_28 (tgt := 57) rfl (fun hc => ?_) (fun hc => ?_)
            · replace h := ifp h hc
              exact hJ57 _ _ _ v7 a_field (lv_sub hl [0, 1, 2, 3, 4, 5, 6] rfl) hP hS h
            · replace h := ifn h hc
              refine lv_aload_n hx hb dX12_lays_31 rfl (lv_at hl 0 rfl) ?_
              refine mg_MO_8 hx hb hw hown hK hP dX12_lays_32 ?_
              refine lv_bipush (v := 24) hx hb dX12_lays_35 kb_24 ?_
              refine lv_iload hx hb dX12_lays_37 (lv_at hl 5 rfl) ?_
              refine lv_iload hx hb dX12_lays_39 (lv_at hl 3 rfl) ?_
              refine lv_iadd hx hb dX12_lays_41 ?_
              refine lv_bipush (v := 8) hx hb dX12_lays_42 kb_8 ?_
              refine lv_iadd hx hb dX12_lays_44 ?_
              refine lv_imul hx hb dX12_lays_45 ?_
              refine lv_iload hx hb dX12_lays_46 (lv_at hl 6 rfl) ?_
              refine lv_iadd hx hb dX12_lays_48 ?_
              refine lv_iload_n hx hb dX12_lays_49 rfl (lv_at hl 2 rfl) ?_
              refine lv_iadd hx hb dX12_lays_50 ?_
              refine lv_bipush (v := 8) hx hb dX12_lays_51 kb_8 ?_
              refine lv_iadd hx hb dX12_lays_53 ?_
              refine lv_iload hx hb dX12_lays_54 (lv_at hl 4 rfl) ?_
              obtain ⟨i_11, ei_11, h⟩ := nm_s h
              refine nmI2 ei_11 ?_
              obtain ⟨hin, h⟩ := ck_s h
              obtain ⟨a_field_12, ea_field_12, h⟩ := nm_s h
              refine ms_field hx hb hK hP hI hS hin ea_field_12 dX12_lays_56 (fun H locs hP hS => ?_)
              exact hJ57 _ _ _ v7 a_field_12 (lv_sub hl [0, 1, 2, 3, 4, 5, 6] rfl) hP hS h
      rw [mo_lays_B3] at h
      refine lv_iload hx hb dX12_lays_3 (lv_at hl 5 rfl) ?_
      refine lv_bipush (v := 7) hx hb dX12_lays_5 kb_7 ?_
      refine lv_icmp_ge hx hb dX12_lays_7 (tgt := 69) rfl (fun hc => ?_) (fun hc => ?_)
      · replace h := ifp h hc
        replace h := Option.some.inj h
        subst h
        exact rc_v hx hb hr hlocks hS dX12_lays_69 hP
      · replace h := ifn h hc
        refine lv_iconst (v := 0) hx hb dX12_lays_10 ki_0 ?_
        refine lv_istore hx hb dX12_lays_11 hl (Nat.le_of_ble_eq_true rfl) (lv' := [(7, .int 0), (0, .ref (ad 0)), (1, .long v1), (3, .int v3), (4, .int v4), (5, .int v5), (6, .int v6)]) rfl (fun ls hl => ?_)
        exact hL13 v6 FU _ _ _ 0 a_field (lv_sub hl [1, 2, 3, 4, 5, 6, 0] rfl) hP hS h
  refine lv_iconst (v := 0) hx hb dX12_lays_0 ki_0 ?_
  refine lv_istore hx hb dX12_lays_1 hl (Nat.le_of_ble_eq_true rfl) (lv' := [(6, .int 0), (0, .ref (ad 0)), (1, .long v1), (3, .int v3), (4, .int v4), (5, .int v5)]) rfl (fun ls hl => ?_)
  exact hL3 v1 v3 v4 v5 FU _ _ _ 0 a_field (lv_sub hl [1, 2, 3, 4, 5, 0] rfl) hP hS h
noncomputable def mo_taken_J124 (k59 : Int64 → Int32 → Option (Int64)) (a_field : Nat → Int32) (v1 : Int32) (v2 : Int32) (v3 : Int64) (v5 : Int32)  : Option (Int64) :=
  nm (v5 + Int32.ofInt 1) fun v5_1 =>
  k59 v3 v5_1
noncomputable def mo_taken_B59 (v1 : Int32) (v2 : Int32) (a_field : Nat → Int32)  (k59 : Int64 → Int32 → Option (Int64)) (v3 : Int64) (v5 : Int32) : Option (Int64) :=
  if 576 ≤ v5 then (if v3 = 0 then (some (0)) else
  bd1 (mo_isFigure v3) fun r_2 =>
  if r_2 = 0 then (some (0)) else
  some (v3)) else
  ck v5 576 <|
  if (a_field v5.toNatClampNeg) = 0 then (mo_taken_J124 k59 a_field v1 v2 v3 v5) else
  dzI 24 <|
  nm ((remI v5 24) - v1 : Int32) fun v6_4 =>
  dzI 24 <|
  nm ((v5 / 24) - v2 : Int32) fun v7_5 =>
  if 6 < v6_4 then (some (0)) else
  if v7_5 ≤ 6 then (bd1 (mo_cellBit v6_4 v7_5) fun r_6 =>
  nm (v3 ||| r_6 : Int64) fun v3_8 =>
  mo_taken_J124 k59 a_field v1 v2 v3_8 v5) else
  some (0)
noncomputable def mo_taken_J48 (k10 : Int32 → Int32 → Int32 → Option (Int64)) (a_field : Nat → Int32) (v1 : Int32) (v2 : Int32) (v3 : Int32)  : Option (Int64) :=
  nm (v3 + Int32.ofInt (-1)) fun v3_9 =>
  k10 v1 v2 v3_9
noncomputable def mo_taken_J42 (k10 : Int32 → Int32 → Int32 → Option (Int64)) (a_field : Nat → Int32) (v3 : Int32) (t0 : Int32) : Option (Int64) :=
  dzI 24 <|
  nm (v3 / 24 : Int32) fun v2_10 =>
  mo_taken_J48 k10 a_field t0 v2_10 v3
noncomputable def mo_taken_B10 (a_field : Nat → Int32)  (k10 : Int32 → Int32 → Int32 → Option (Int64)) (v1 : Int32) (v2 : Int32) (v3 : Int32) : Option (Int64) :=
  if v3 < 0 then (fl2 (mo_taken_B59 v1 v2 a_field) FU 0 0) else
  ck v3 576 <|
  if (a_field v3.toNatClampNeg) = 0 then (mo_taken_J48 k10 a_field v1 v2 v3) else
  dzI 24 <|
  if v1 ≤ (remI v3 24) then (mo_taken_J42 k10 a_field v3 v1) else
  dzI 24 <|
  mo_taken_J42 k10 a_field v3 (remI v3 24)
noncomputable def mo_taken (a_field : Nat → Int32) : Option (Int64) :=
  fl3 (mo_taken_B10 a_field) FU 24 24 575
set_option maxHeartbeats 4000000 in
set_option maxRecDepth 100000 in
theorem c_mo_taken (l : Launch) (D : va_G) (ct : Nat → ClassId) (ad : Nat → Nat) (hI : mI ad) {y_km y_tp y_goes y_kin y_qd y_sides y_cuts y_flat y_cp y_cA y_cB y_1X y_1Y y_2X y_2Y y_tm y_cells : Int32} {a_mtape a_flood a_going a_field a_from a_mcrowds a_steps a_queue a_letter a_lineX a_lineY a_triedAt a_cellAt a_besideIn a_apart : Nat → Int32} {a_drawer a_mkept a_listed a_mkin a_tried a_takenAt a_waysOf : Nat → Int64}  (r : Int64)  (h : mo_taken a_field = some (r)) : Met l yX12_taken (wm yX12_taken cX12_taken 8 (some .long)) (rmm 3 71) (va_Pc [.ref (ad 0)] (mB D ct ad y_km y_tp y_goes y_kin y_qd y_sides y_cuts y_flat y_cp y_cA y_cB y_1X y_1Y y_2X y_2Y y_tm y_cells a_mtape a_flood a_going a_field a_from a_mcrowds a_steps a_queue a_letter a_lineX a_lineY a_triedAt a_cellAt a_besideIn a_apart a_drawer a_mkept a_listed a_mkin a_tried a_takenAt a_waysOf)) (va_Ql (fun z (_ : Unit) => z = r) (fun _ t => mP D ct ad y_km y_tp y_goes y_kin y_qd y_sides y_cuts y_flat y_cp y_cA y_cB y_1X y_1Y y_2X y_2Y y_tm y_cells a_mtape a_flood a_going a_field a_from a_mcrowds a_steps a_queue a_letter a_lineX a_lineY a_triedAt a_cellAt a_besideIn a_apart a_drawer a_mkept a_listed a_mkin a_tried a_takenAt a_waysOf t.heap) (mA ad)) 0 0 (mA ad) := by
  refine met_s (y := yX12_taken) (rm := rmm 3 71) (by decide) (Nat.le_of_ble_eq_true rfl) ?_
  intro p e s m below meth c hx hb hr hw hown hlocks _ hml hB ls hl
  obtain ⟨hN, hK, hP⟩ := hB
  replace hl : lv_has ls 8 [(0, .ref (ad 0))] := hl
  have hS : va_S (mA ad) s.heap s.heap [] := va_S.rf
  generalize (([.ref (ad 0)] : List Value).toArray) = av at hw ⊢
  rw [mo_taken] at h
  have hL59 : ∀ (v1 : Int32), ∀ (v2 : Int32), ∀ (a_field : Nat → Int32), ∀ (n59 : Nat) (H : Heap) (locs : List Loc) (ls : Array Slot) (v3 : Int64) (v5 : Int32), lv_has ls 8 [(0, .ref (ad 0)), (1, .int v1), (2, .int v2), (3, .long v3), (5, .int v5)] → mP D ct ad y_km y_tp y_goes y_kin y_qd y_sides y_cuts y_flat y_cp y_cA y_cB y_1X y_1Y y_2X y_2Y y_tm y_cells a_mtape a_flood a_going a_field a_from a_mcrowds a_steps a_queue a_letter a_lineX a_lineY a_triedAt a_cellAt a_besideIn a_apart a_drawer a_mkept a_listed a_mkin a_tried a_takenAt a_waysOf H → va_S (mA ad) s.heap H locs → fl2 (mo_taken_B59 v1 v2 a_field) n59 v3 v5 = some (r) → W p l e (rmm 3 71) s m av below meth c H locs 0 0 (MQ below (va_Ql (fun z (_ : Unit) => z = r) (fun _ t => mP D ct ad y_km y_tp y_goes y_kin y_qd y_sides y_cuts y_flat y_cp y_cA y_cB y_1X y_1Y y_2X y_2Y y_tm y_cells a_mtape a_flood a_going a_field a_from a_mcrowds a_steps a_queue a_letter a_lineX a_lineY a_triedAt a_cellAt a_besideIn a_apart a_drawer a_mkept a_listed a_mkin a_tried a_takenAt a_waysOf t.heap) (mA ad)) av s 0 0 (mA ad)) (F0 m 59 ls []) := by
    intro v1 v2 a_field n59
    induction n59 with
    | zero => intro H locs ls v3 v5 hl hP hS h; cases h
    | succ n59 ih59 =>
      intro H locs ls v3 v5 hl hP hS h
      replace h : mo_taken_B59 v1 v2 a_field (fl2 (mo_taken_B59 v1 v2 a_field) n59) v3 v5 = some (r) := h
      generalize fl2 (mo_taken_B59 v1 v2 a_field) n59 = k59 at h ih59
      have hJ124 : ∀ (H : Heap) (locs : List Loc) (ls : Array Slot) (v3 : Int64) (v5 : Int32) , lv_has ls 8 [(0, .ref (ad 0)), (1, .int v1), (2, .int v2), (3, .long v3), (5, .int v5)] → mP D ct ad y_km y_tp y_goes y_kin y_qd y_sides y_cuts y_flat y_cp y_cA y_cB y_1X y_1Y y_2X y_2Y y_tm y_cells a_mtape a_flood a_going a_field a_from a_mcrowds a_steps a_queue a_letter a_lineX a_lineY a_triedAt a_cellAt a_besideIn a_apart a_drawer a_mkept a_listed a_mkin a_tried a_takenAt a_waysOf H → va_S (mA ad) s.heap H locs → mo_taken_J124 k59 a_field v1 v2 v3 v5 = some (r) → W p l e (rmm 3 71) s m av below meth c H locs 0 0 (MQ below (va_Ql (fun z (_ : Unit) => z = r) (fun _ t => mP D ct ad y_km y_tp y_goes y_kin y_qd y_sides y_cuts y_flat y_cp y_cA y_cB y_1X y_1Y y_2X y_2Y y_tm y_cells a_mtape a_flood a_going a_field a_from a_mcrowds a_steps a_queue a_letter a_lineX a_lineY a_triedAt a_cellAt a_besideIn a_apart a_drawer a_mkept a_listed a_mkin a_tried a_takenAt a_waysOf t.heap) (mA ad)) av s 0 0 (mA ad)) (F0 m 124 ls []) := by
        intro H locs ls v3 v5  hl hP hS h
        rw [mo_taken_J124] at h
        obtain ⟨v5_11, ev5_11, h⟩ := nm_s h
        refine lv_iinc hx hb dX12_taken_124 hl (k := 4) rfl ev5_11.symm (Nat.le_of_ble_eq_true rfl) (lv' := [(5, .int v5_11), (0, .ref (ad 0)), (1, .int v1), (2, .int v2), (3, .long v3)]) rfl (fun ls hl => ?_)
        refine lv_goto hx hb dX12_taken_127 (tgt := 59) rfl ?_
        exact ih59 _ _ _ v3 v5_11 (lv_sub hl [1, 2, 3, 4, 0] rfl) hP hS h
      rw [mo_taken_B59] at h
      refine lv_iload hx hb dX12_taken_59 (lv_at hl 4 rfl) ?_
      refine lv_sipush (v := 576) hx hb dX12_taken_61 ks_576 ?_
      refine lv_icmp_ge hx hb dX12_taken_64 (tgt := 130) rfl (fun hc => ?_) (fun hc => ?_)
      · replace h := ifp h hc
        refine lv_lload_n hx hb dX12_taken_130 rfl (lv_at hl 3 rfl) ?_
        refine lv_lconst (v := 0) hx hb dX12_taken_131 kl_0 ?_
        refine W.lcmp hx hb dX12_taken_132 ?_
        refine lv_if_eq hx hb dX12_taken_133 (tgt := 147) rfl (fun hc => ?_) (fun hc => ?_)
        · replace h := ifp h ((lg_cmp_eq _ _).mp hc)
          refine lv_lconst (v := 0) hx hb dX12_taken_147 kl_0 ?_
          replace h := Option.some.inj h
          subst h
          exact rc_l hx hb hr hlocks hS dX12_taken_148 rfl hP
        · replace h := ifn h (fun q => hc ((lg_cmp_eq _ _).mpr q))
          refine lv_lload_n hx hb dX12_taken_136 rfl (lv_at hl 3 rfl) ?_
          obtain ⟨r_12, hr_13, h⟩ := bd1_s h
          refine sc_i hx hb hml hown hw hN (c_mo_isFigure l v3 r_12 hr_13) g_RX12_139 hd_X12_isFigure (rest := []) hl.1 hS dX12_taken_137 rfl rfl ⟨Nat.le_of_ble_eq_true rfl, Nat.le_of_ble_eq_true rfl⟩ rfl rfl (Nat.le_of_ble_eq_true rfl) ⟨Nat.zero_le _, Nat.zero_le _⟩ (fun H locs hk hS => ?_)
          have hP := mP_kept hP hk
          refine lv_if_eq hx hb dX12_taken_140 (tgt := 147) rfl (fun hc => ?_) (fun hc => ?_)
          · replace h := ifp h hc
            refine lv_lconst (v := 0) hx hb dX12_taken_147 kl_0 ?_
            replace h := Option.some.inj h
            subst h
            exact rc_l hx hb hr hlocks hS dX12_taken_148 rfl hP
          · replace h := ifn h hc
            refine lv_lload_n hx hb dX12_taken_143 rfl (lv_at hl 3 rfl) ?_
            refine lv_goto hx hb dX12_taken_144 (tgt := 148) rfl ?_
            replace h := Option.some.inj h
            subst h
            exact rc_l hx hb hr hlocks hS dX12_taken_148 rfl hP
      · replace h := ifn h hc
        refine lv_aload_n hx hb dX12_taken_67 rfl (lv_at hl 0 rfl) ?_
        refine mg_MO_8 hx hb hw hown hK hP dX12_taken_68 ?_
        refine lv_iload hx hb dX12_taken_71 (lv_at hl 4 rfl) ?_
        obtain ⟨hin, h⟩ := ck_s h
        refine md_field hx hb hK hP hin dX12_taken_73 ?_
        refine lv_if_ne hx hb dX12_taken_74 (tgt := 80) rfl (fun hc => ?_) (fun hc => ?_)
        · replace h := ifn h hc
          refine lv_iload hx hb dX12_taken_80 (lv_at hl 4 rfl) ?_
          refine lv_bipush (v := 24) hx hb dX12_taken_82 kb_24 ?_
          obtain ⟨hne, h⟩ := dzI_s h
          refine lv_irem hx hb dX12_taken_84 hne ?_
          refine nmI (v := remI v5 24) rfl ?_
          refine lv_iload_n hx hb dX12_taken_85 rfl (lv_at hl 1 rfl) ?_
          refine lv_isub hx hb dX12_taken_86 ?_
          obtain ⟨v6_14, ev6_14, h⟩ := nm_s h
          refine nmI ev6_14 ?_
          refine lv_istore hx hb dX12_taken_87 hl (Nat.le_of_ble_eq_true rfl) (lv' := [(6, .int v6_14), (0, .ref (ad 0)), (1, .int v1), (2, .int v2), (3, .long v3), (5, .int v5)]) rfl (fun ls hl => ?_)
          refine lv_iload hx hb dX12_taken_89 (lv_at hl 5 rfl) ?_
          refine lv_bipush (v := 24) hx hb dX12_taken_91 kb_24 ?_
          obtain ⟨hne, h⟩ := dzI_s h
          refine lv_idiv hx hb dX12_taken_93 hne ?_
          refine lv_iload_n hx hb dX12_taken_94 rfl (lv_at hl 3 rfl) ?_
          refine lv_isub hx hb dX12_taken_95 ?_
          obtain ⟨v7_15, ev7_15, h⟩ := nm_s h
          refine nmI ev7_15 ?_
          refine lv_istore hx hb dX12_taken_96 hl (Nat.le_of_ble_eq_true rfl) (lv' := [(7, .int v7_15), (6, .int v6_14), (0, .ref (ad 0)), (1, .int v1), (2, .int v2), (3, .long v3), (5, .int v5)]) rfl (fun ls hl => ?_)
          refine lv_iload hx hb dX12_taken_98 (lv_at hl 1 rfl) ?_
          refine lv_bipush (v := 6) hx hb dX12_taken_100 kb_6 ?_
          refine lv_icmp_gt hx hb dX12_taken_102 (tgt := 112) rfl (fun hc => ?_) (fun hc => ?_)
          · replace h := ifp h hc
            refine lv_lconst (v := 0) hx hb dX12_taken_112 kl_0 ?_
            replace h := Option.some.inj h
            subst h
            exact rc_l hx hb hr hlocks hS dX12_taken_113 rfl hP
          · replace h := ifn h hc
            refine lv_iload hx hb dX12_taken_105 (lv_at hl 0 rfl) ?_
            refine lv_bipush (v := 6) hx hb dX12_taken_107 kb_6 ?_
            refine lv_icmp_le hx hb dX12_taken_109 (tgt := 114) rfl (fun hc => ?_) (fun hc => ?_)
            · replace h := ifp h hc
              refine lv_lload_n hx hb dX12_taken_114 rfl (lv_at hl 5 rfl) ?_
              refine lv_iload hx hb dX12_taken_115 (lv_at hl 1 rfl) ?_
              refine lv_iload hx hb dX12_taken_117 (lv_at hl 0 rfl) ?_
              obtain ⟨r_16, hr_17, h⟩ := bd1_s h
              refine sc_l hx hb hml hown hw hN (c_mo_cellBit l v6_14 v7_15 r_16 hr_17) g_RX12_117 hd_X12_cellBit (rest := [.long v3]) hl.1 hS dX12_taken_119 rfl rfl ⟨Nat.le_of_ble_eq_true rfl, Nat.le_of_ble_eq_true rfl⟩ rfl rfl (Nat.le_of_ble_eq_true rfl) ⟨Nat.zero_le _, Nat.zero_le _⟩ (fun H locs hk hS => ?_)
              have hP := mP_kept hP hk
              refine lv_lor hx hb dX12_taken_122 ?_
              obtain ⟨v3_18, ev3_18, h⟩ := nm_s h
              refine nmL ev3_18 ?_
              refine lv_lstore_n hx hb dX12_taken_123 rfl hl (Nat.le_of_ble_eq_true rfl) (lv' := [(3, .long v3_18), (7, .int v7_15), (6, .int v6_14), (0, .ref (ad 0)), (1, .int v1), (2, .int v2), (5, .int v5)]) rfl (fun ls hl => ?_)
              exact hJ124 _ _ _ v3_18 v5 (lv_sub hl [3, 4, 5, 0, 6] rfl) hP hS h
            · replace h := ifn h hc
              refine lv_lconst (v := 0) hx hb dX12_taken_112 kl_0 ?_
              replace h := Option.some.inj h
              subst h
              exact rc_l hx hb hr hlocks hS dX12_taken_113 rfl hP
        · replace h := ifp h hc
          refine lv_goto hx hb dX12_taken_77 (tgt := 124) rfl ?_
          exact hJ124 _ _ _ v3 v5 (lv_sub hl [0, 1, 2, 3, 4] rfl) hP hS h
  have hL10 : ∀ (a_field : Nat → Int32), ∀ (n10 : Nat) (H : Heap) (locs : List Loc) (ls : Array Slot) (v1 : Int32) (v2 : Int32) (v3 : Int32), lv_has ls 8 [(0, .ref (ad 0)), (1, .int v1), (2, .int v2), (3, .int v3)] → mP D ct ad y_km y_tp y_goes y_kin y_qd y_sides y_cuts y_flat y_cp y_cA y_cB y_1X y_1Y y_2X y_2Y y_tm y_cells a_mtape a_flood a_going a_field a_from a_mcrowds a_steps a_queue a_letter a_lineX a_lineY a_triedAt a_cellAt a_besideIn a_apart a_drawer a_mkept a_listed a_mkin a_tried a_takenAt a_waysOf H → va_S (mA ad) s.heap H locs → fl3 (mo_taken_B10 a_field) n10 v1 v2 v3 = some (r) → W p l e (rmm 3 71) s m av below meth c H locs 0 0 (MQ below (va_Ql (fun z (_ : Unit) => z = r) (fun _ t => mP D ct ad y_km y_tp y_goes y_kin y_qd y_sides y_cuts y_flat y_cp y_cA y_cB y_1X y_1Y y_2X y_2Y y_tm y_cells a_mtape a_flood a_going a_field a_from a_mcrowds a_steps a_queue a_letter a_lineX a_lineY a_triedAt a_cellAt a_besideIn a_apart a_drawer a_mkept a_listed a_mkin a_tried a_takenAt a_waysOf t.heap) (mA ad)) av s 0 0 (mA ad)) (F0 m 10 ls []) := by
    intro a_field n10
    induction n10 with
    | zero => intro H locs ls v1 v2 v3 hl hP hS h; cases h
    | succ n10 ih10 =>
      intro H locs ls v1 v2 v3 hl hP hS h
      replace h : mo_taken_B10 a_field (fl3 (mo_taken_B10 a_field) n10) v1 v2 v3 = some (r) := h
      generalize fl3 (mo_taken_B10 a_field) n10 = k10 at h ih10
      have hJ48 : ∀ (H : Heap) (locs : List Loc) (ls : Array Slot) (v1 : Int32) (v2 : Int32) (v3 : Int32) , lv_has ls 8 [(0, .ref (ad 0)), (1, .int v1), (2, .int v2), (3, .int v3)] → mP D ct ad y_km y_tp y_goes y_kin y_qd y_sides y_cuts y_flat y_cp y_cA y_cB y_1X y_1Y y_2X y_2Y y_tm y_cells a_mtape a_flood a_going a_field a_from a_mcrowds a_steps a_queue a_letter a_lineX a_lineY a_triedAt a_cellAt a_besideIn a_apart a_drawer a_mkept a_listed a_mkin a_tried a_takenAt a_waysOf H → va_S (mA ad) s.heap H locs → mo_taken_J48 k10 a_field v1 v2 v3 = some (r) → W p l e (rmm 3 71) s m av below meth c H locs 0 0 (MQ below (va_Ql (fun z (_ : Unit) => z = r) (fun _ t => mP D ct ad y_km y_tp y_goes y_kin y_qd y_sides y_cuts y_flat y_cp y_cA y_cB y_1X y_1Y y_2X y_2Y y_tm y_cells a_mtape a_flood a_going a_field a_from a_mcrowds a_steps a_queue a_letter a_lineX a_lineY a_triedAt a_cellAt a_besideIn a_apart a_drawer a_mkept a_listed a_mkin a_tried a_takenAt a_waysOf t.heap) (mA ad)) av s 0 0 (mA ad)) (F0 m 48 ls []) := by
        intro H locs ls v1 v2 v3  hl hP hS h
        rw [mo_taken_J48] at h
        obtain ⟨v3_19, ev3_19, h⟩ := nm_s h
        refine lv_iinc hx hb dX12_taken_48 hl (k := 3) rfl ev3_19.symm (Nat.le_of_ble_eq_true rfl) (lv' := [(3, .int v3_19), (0, .ref (ad 0)), (1, .int v1), (2, .int v2)]) rfl (fun ls hl => ?_)
        refine lv_goto hx hb dX12_taken_51 (tgt := 10) rfl ?_
        exact ih10 _ _ _ v1 v2 v3_19 (lv_sub hl [1, 2, 3, 0] rfl) hP hS h
      have hJ42 : ∀ (H : Heap) (locs : List Loc) (ls : Array Slot) (v3 : Int32) (t0 : Int32), lv_has ls 8 [(0, .ref (ad 0)), (3, .int v3)] → mP D ct ad y_km y_tp y_goes y_kin y_qd y_sides y_cuts y_flat y_cp y_cA y_cB y_1X y_1Y y_2X y_2Y y_tm y_cells a_mtape a_flood a_going a_field a_from a_mcrowds a_steps a_queue a_letter a_lineX a_lineY a_triedAt a_cellAt a_besideIn a_apart a_drawer a_mkept a_listed a_mkin a_tried a_takenAt a_waysOf H → va_S (mA ad) s.heap H locs → mo_taken_J42 k10 a_field v3 t0 = some (r) → W p l e (rmm 3 71) s m av below meth c H locs 0 0 (MQ below (va_Ql (fun z (_ : Unit) => z = r) (fun _ t => mP D ct ad y_km y_tp y_goes y_kin y_qd y_sides y_cuts y_flat y_cp y_cA y_cB y_1X y_1Y y_2X y_2Y y_tm y_cells a_mtape a_flood a_going a_field a_from a_mcrowds a_steps a_queue a_letter a_lineX a_lineY a_triedAt a_cellAt a_besideIn a_apart a_drawer a_mkept a_listed a_mkin a_tried a_takenAt a_waysOf t.heap) (mA ad)) av s 0 0 (mA ad)) (F0 m 42 ls [.int t0]) := by
        intro H locs ls v3 t0 hl hP hS h
        rw [mo_taken_J42] at h
        refine lv_istore_n hx hb dX12_taken_42 rfl hl (Nat.le_of_ble_eq_true rfl) (lv' := [(1, .int t0), (0, .ref (ad 0)), (3, .int v3)]) rfl (fun ls hl => ?_)
        refine lv_iload_n hx hb dX12_taken_43 rfl (lv_at hl 2 rfl) ?_
        refine lv_bipush (v := 24) hx hb dX12_taken_44 kb_24 ?_
        obtain ⟨hne, h⟩ := dzI_s h
        refine lv_idiv hx hb dX12_taken_46 hne ?_
        obtain ⟨v2_20, ev2_20, h⟩ := nm_s h
        refine nmI ev2_20 ?_
        refine lv_istore_n hx hb dX12_taken_47 rfl hl (Nat.le_of_ble_eq_true rfl) (lv' := [(2, .int v2_20), (1, .int t0), (0, .ref (ad 0)), (3, .int v3)]) rfl (fun ls hl => ?_)
        exact hJ48 _ _ _ t0 v2_20 v3 (lv_sub hl [2, 1, 0, 3] rfl) hP hS h
      rw [mo_taken_B10] at h
      refine lv_iload_n hx hb dX12_taken_10 rfl (lv_at hl 3 rfl) ?_
      refine lv_if_lt hx hb dX12_taken_11 (tgt := 54) rfl (fun hc => ?_) (fun hc => ?_)
      · replace h := ifp h hc
        refine lv_lconst (v := 0) hx hb dX12_taken_54 kl_0 ?_
        refine lv_lstore_n hx hb dX12_taken_55 rfl hl (Nat.le_of_ble_eq_true rfl) (lv' := [(3, .long 0), (0, .ref (ad 0)), (1, .int v1), (2, .int v2)]) rfl (fun ls hl => ?_)
        refine lv_iconst (v := 0) hx hb dX12_taken_56 ki_0 ?_
        refine lv_istore hx hb dX12_taken_57 hl (Nat.le_of_ble_eq_true rfl) (lv' := [(5, .int 0), (3, .long 0), (0, .ref (ad 0)), (1, .int v1), (2, .int v2)]) rfl (fun ls hl => ?_)
        exact hL59 v1 v2 a_field FU _ _ _ 0 0 (lv_sub hl [2, 3, 4, 1, 0] rfl) hP hS h
      · replace h := ifn h hc
        refine lv_aload_n hx hb dX12_taken_14 rfl (lv_at hl 0 rfl) ?_
        refine mg_MO_8 hx hb hw hown hK hP dX12_taken_15 ?_
        refine lv_iload_n hx hb dX12_taken_18 rfl (lv_at hl 3 rfl) ?_
        obtain ⟨hin, h⟩ := ck_s h
        refine md_field hx hb hK hP hin dX12_taken_19 ?_
        refine lv_if_ne hx hb dX12_taken_20 (tgt := 26) rfl (fun hc => ?_) (fun hc => ?_)
        · replace h := ifn h hc
          refine lv_iload_n hx hb dX12_taken_26 rfl (lv_at hl 3 rfl) ?_
          refine lv_bipush (v := 24) hx hb dX12_taken_27 kb_24 ?_
          obtain ⟨hne, h⟩ := dzI_s h
          refine lv_irem hx hb dX12_taken_29 hne ?_
          refine nmI (v := remI v3 24) rfl ?_
          refine lv_iload_n hx hb dX12_taken_30 rfl (lv_at hl 1 rfl) ?_
          refine lv_icmp_ge hx hb dX12_taken_31 (tgt := 41) rfl (fun hc => ?_) (fun hc => ?_)
          · replace h := ifp h hc
            refine lv_iload_n hx hb dX12_taken_41 rfl (lv_at hl 1 rfl) ?_
            exact hJ42 _ _ _ v3 v1 (lv_sub hl [0, 3] rfl) hP hS h
          · replace h := ifn h hc
            refine lv_iload_n hx hb dX12_taken_34 rfl (lv_at hl 3 rfl) ?_
            refine lv_bipush (v := 24) hx hb dX12_taken_35 kb_24 ?_
            obtain ⟨hne, h⟩ := dzI_s h
            refine lv_irem hx hb dX12_taken_37 hne ?_
            refine nmI (v := remI v3 24) rfl ?_
            refine lv_goto hx hb dX12_taken_38 (tgt := 42) rfl ?_
            exact hJ42 _ _ _ v3 (remI v3 24) (lv_sub hl [0, 3] rfl) hP hS h
        · replace h := ifp h hc
          refine lv_goto hx hb dX12_taken_23 (tgt := 48) rfl ?_
          exact hJ48 _ _ _ v1 v2 v3 (lv_sub hl [0, 1, 2, 3] rfl) hP hS h
  refine lv_bipush (v := 24) hx hb dX12_taken_0 kb_24 ?_
  refine lv_istore_n hx hb dX12_taken_2 rfl hl (Nat.le_of_ble_eq_true rfl) (lv' := [(1, .int 24), (0, .ref (ad 0))]) rfl (fun ls hl => ?_)
  refine lv_bipush (v := 24) hx hb dX12_taken_3 kb_24 ?_
  refine lv_istore_n hx hb dX12_taken_5 rfl hl (Nat.le_of_ble_eq_true rfl) (lv' := [(2, .int 24), (1, .int 24), (0, .ref (ad 0))]) rfl (fun ls hl => ?_)
  refine lv_sipush (v := 575) hx hb dX12_taken_6 ks_575 ?_
  refine lv_istore_n hx hb dX12_taken_9 rfl hl (Nat.le_of_ble_eq_true rfl) (lv' := [(3, .int 575), (2, .int 24), (1, .int 24), (0, .ref (ad 0))]) rfl (fun ls hl => ?_)
  exact hL10 a_field FU _ _ _ 24 24 575 (lv_sub hl [3, 2, 1, 0] rfl) hP hS h
