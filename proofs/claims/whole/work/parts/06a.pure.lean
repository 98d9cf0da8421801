noncomputable def gr_columns (v0 : Int64) : Option (Int64) :=
  nm (v0 ||| (su v0 32) : Int64) fun v2_1 =>
  nm (v2_1 ||| (su v2_1 16) : Int64) fun v2_2 =>
  nm (v2_2 ||| (su v2_2 8) : Int64) fun v2_3 =>
  some (v2_3 &&& (255 : Int64))
set_option maxHeartbeats 4000000 in
set_option maxRecDepth 100000 in
theorem c_gr_columns (l : Launch) (v0 : Int64) (r : Int64) (h : gr_columns v0 = some r) : Met l yX2_columns (wm yX2_columns cX2_columns 4 (some .long)) (rmm 0 0) (va_Pc [.long v0] NW) (Ql r) 0 0 NoA := by
  refine met_s (y := yX2_columns) (rm := rmm 0 0) (by decide) (Nat.le_of_ble_eq_true rfl) ?_
  intro p e s m below meth c hx hb hr hw hown hlocks _ hml hN ls hl
  replace hl : lv_has ls 4 [(0, .long v0)] := hl
  have hS : va_S NoA s.heap s.heap [] := va_S.rf
  generalize (([.long v0] : List Value).toArray) = av at hw ⊢
  rw [gr_columns] at h
  refine lv_lload_n hx hb dX2_columns_0 rfl (lv_at hl 0 rfl) ?_
  refine lv_lload_n hx hb dX2_columns_1 rfl (lv_at hl 0 rfl) ?_
  refine lv_bipush (v := 32) hx hb dX2_columns_2 kb_32 ?_
  refine lv_lushr hx hb (v := su v0 32) dX2_columns_4 rfl ?_
  refine lv_lor hx hb dX2_columns_5 ?_
  obtain ⟨v2_4, ev2_4, h⟩ := nm_s h
  refine nmL ev2_4 ?_
  refine lv_lstore_n hx hb dX2_columns_6 rfl hl (Nat.le_of_ble_eq_true rfl) (lv' := [(2, .long v2_4), (0, .long v0)]) rfl (fun ls hl => ?_)
  refine lv_lload_n hx hb dX2_columns_7 rfl (lv_at hl 0 rfl) ?_
  refine lv_lload_n hx hb dX2_columns_8 rfl (lv_at hl 0 rfl) ?_
  refine lv_bipush (v := 16) hx hb dX2_columns_9 kb_16 ?_
  refine lv_lushr hx hb (v := su v2_4 16) dX2_columns_11 rfl ?_
  refine lv_lor hx hb dX2_columns_12 ?_
  obtain ⟨v2_5, ev2_5, h⟩ := nm_s h
  refine nmL ev2_5 ?_
  refine lv_lstore_n hx hb dX2_columns_13 rfl hl (Nat.le_of_ble_eq_true rfl) (lv' := [(2, .long v2_5), (0, .long v0)]) rfl (fun ls hl => ?_)
  refine lv_lload_n hx hb dX2_columns_14 rfl (lv_at hl 0 rfl) ?_
  refine lv_lload_n hx hb dX2_columns_15 rfl (lv_at hl 0 rfl) ?_
  refine lv_bipush (v := 8) hx hb dX2_columns_16 kb_8 ?_
  refine lv_lushr hx hb (v := su v2_5 8) dX2_columns_18 rfl ?_
  refine lv_lor hx hb dX2_columns_19 ?_
  obtain ⟨v2_6, ev2_6, h⟩ := nm_s h
  refine nmL ev2_6 ?_
  refine lv_lstore_n hx hb dX2_columns_20 rfl hl (Nat.le_of_ble_eq_true rfl) (lv' := [(2, .long v2_6), (0, .long v0)]) rfl (fun ls hl => ?_)
  refine lv_lload_n hx hb dX2_columns_21 rfl (lv_at hl 0 rfl) ?_
  refine lv_ldc2 hx hb hown (hw _ tw_11_21) dX2_columns_22 ?_
  refine lv_land hx hb dX2_columns_25 ?_
  exact rt_l hx hb hr hlocks hS dX2_columns_26 h
noncomputable def jl_bitCount (v0 : Int64) : Option (Int32) :=
  nm (v0 - ((su v0 1) &&& (6148914691236517205 : Int64)) : Int64) fun v0_1 =>
  nm ((v0_1 &&& (3689348814741910323 : Int64)) + ((su v0_1 2) &&& (3689348814741910323 : Int64)) : Int64) fun v0_2 =>
  nm ((v0_2 + (su v0_2 4)) &&& (1085102592571150095 : Int64) : Int64) fun v0_3 =>
  nm (v0_3 + (su v0_3 8) : Int64) fun v0_4 =>
  nm (v0_4 + (su v0_4 16) : Int64) fun v0_5 =>
  nm (v0_5 + (su v0_5 32) : Int64) fun v0_6 =>
  some ((v0_6.toInt32) &&& 127)
set_option maxHeartbeats 4000000 in
set_option maxRecDepth 100000 in
theorem c_jl_bitCount (l : Launch) (v0 : Int64) (r : Int32) (h : jl_bitCount v0 = some r) : Met l yJ13_bitCount_95d88 (wm yJ13_bitCount_95d88 cJ13_bitCount_95d88 2 (some .int)) (rmm 0 0) (va_Pc [.long v0] NW) (Qi r) 0 0 NoA := by
  refine met_s (y := yJ13_bitCount_95d88) (rm := rmm 0 0) (by decide) (Nat.le_of_ble_eq_true rfl) ?_
  intro p e s m below meth c hx hb hr hw hown hlocks _ hml hN ls hl
  replace hl : lv_has ls 2 [(0, .long v0)] := hl
  have hS : va_S NoA s.heap s.heap [] := va_S.rf
  generalize (([.long v0] : List Value).toArray) = av at hw ⊢
  rw [jl_bitCount] at h
  refine lv_lload_n hx hb dJ13_bitCount_95d88_0 rfl (lv_at hl 0 rfl) ?_
  refine lv_lload_n hx hb dJ13_bitCount_95d88_1 rfl (lv_at hl 0 rfl) ?_
  refine lv_iconst (v := 1) hx hb dJ13_bitCount_95d88_2 ki_1 ?_
  refine lv_lushr hx hb (v := su v0 1) dJ13_bitCount_95d88_3 rfl ?_
  refine lv_ldc2 hx hb hown (hw _ tw_11_15) dJ13_bitCount_95d88_4 ?_
  refine lv_land hx hb dJ13_bitCount_95d88_7 ?_
  refine lv_lsub hx hb dJ13_bitCount_95d88_8 ?_
  obtain ⟨v0_7, ev0_7, h⟩ := nm_s h
  refine nmL ev0_7 ?_
  refine lv_lstore_n hx hb dJ13_bitCount_95d88_9 rfl hl (Nat.le_of_ble_eq_true rfl) (lv' := [(0, .long v0_7)]) rfl (fun ls hl => ?_)
  refine lv_lload_n hx hb dJ13_bitCount_95d88_10 rfl (lv_at hl 0 rfl) ?_
  refine lv_ldc2 hx hb hown (hw _ tw_11_16) dJ13_bitCount_95d88_11 ?_
  refine lv_land hx hb dJ13_bitCount_95d88_14 ?_
  refine lv_lload_n hx hb dJ13_bitCount_95d88_15 rfl (lv_at hl 0 rfl) ?_
  refine lv_iconst (v := 2) hx hb dJ13_bitCount_95d88_16 ki_2 ?_
  refine lv_lushr hx hb (v := su v0_7 2) dJ13_bitCount_95d88_17 rfl ?_
  refine lv_ldc2 hx hb hown (hw _ tw_11_16) dJ13_bitCount_95d88_18 ?_
  refine lv_land hx hb dJ13_bitCount_95d88_21 ?_
  refine lv_ladd hx hb dJ13_bitCount_95d88_22 ?_
  obtain ⟨v0_8, ev0_8, h⟩ := nm_s h
  refine nmL ev0_8 ?_
  refine lv_lstore_n hx hb dJ13_bitCount_95d88_23 rfl hl (Nat.le_of_ble_eq_true rfl) (lv' := [(0, .long v0_8)]) rfl (fun ls hl => ?_)
  refine lv_lload_n hx hb dJ13_bitCount_95d88_24 rfl (lv_at hl 0 rfl) ?_
  refine lv_lload_n hx hb dJ13_bitCount_95d88_25 rfl (lv_at hl 0 rfl) ?_
  refine lv_iconst (v := 4) hx hb dJ13_bitCount_95d88_26 ki_4 ?_
  refine lv_lushr hx hb (v := su v0_8 4) dJ13_bitCount_95d88_27 rfl ?_
  refine lv_ladd hx hb dJ13_bitCount_95d88_28 ?_
  refine lv_ldc2 hx hb hown (hw _ tw_11_17) dJ13_bitCount_95d88_29 ?_
  refine lv_land hx hb dJ13_bitCount_95d88_32 ?_
  obtain ⟨v0_9, ev0_9, h⟩ := nm_s h
  refine nmL ev0_9 ?_
  refine lv_lstore_n hx hb dJ13_bitCount_95d88_33 rfl hl (Nat.le_of_ble_eq_true rfl) (lv' := [(0, .long v0_9)]) rfl (fun ls hl => ?_)
  refine lv_lload_n hx hb dJ13_bitCount_95d88_34 rfl (lv_at hl 0 rfl) ?_
  refine lv_lload_n hx hb dJ13_bitCount_95d88_35 rfl (lv_at hl 0 rfl) ?_
  refine lv_bipush (v := 8) hx hb dJ13_bitCount_95d88_36 kb_8 ?_
  refine lv_lushr hx hb (v := su v0_9 8) dJ13_bitCount_95d88_38 rfl ?_
  refine lv_ladd hx hb dJ13_bitCount_95d88_39 ?_
  obtain ⟨v0_10, ev0_10, h⟩ := nm_s h
  refine nmL ev0_10 ?_
  refine lv_lstore_n hx hb dJ13_bitCount_95d88_40 rfl hl (Nat.le_of_ble_eq_true rfl) (lv' := [(0, .long v0_10)]) rfl (fun ls hl => ?_)
  refine lv_lload_n hx hb dJ13_bitCount_95d88_41 rfl (lv_at hl 0 rfl) ?_
  refine lv_lload_n hx hb dJ13_bitCount_95d88_42 rfl (lv_at hl 0 rfl) ?_
  refine lv_bipush (v := 16) hx hb dJ13_bitCount_95d88_43 kb_16 ?_
  refine lv_lushr hx hb (v := su v0_10 16) dJ13_bitCount_95d88_45 rfl ?_
  refine lv_ladd hx hb dJ13_bitCount_95d88_46 ?_
  obtain ⟨v0_11, ev0_11, h⟩ := nm_s h
  refine nmL ev0_11 ?_
  refine lv_lstore_n hx hb dJ13_bitCount_95d88_47 rfl hl (Nat.le_of_ble_eq_true rfl) (lv' := [(0, .long v0_11)]) rfl (fun ls hl => ?_)
  refine lv_lload_n hx hb dJ13_bitCount_95d88_48 rfl (lv_at hl 0 rfl) ?_
  refine lv_lload_n hx hb dJ13_bitCount_95d88_49 rfl (lv_at hl 0 rfl) ?_
  refine lv_bipush (v := 32) hx hb dJ13_bitCount_95d88_50 kb_32 ?_
  refine lv_lushr hx hb (v := su v0_11 32) dJ13_bitCount_95d88_52 rfl ?_
  refine lv_ladd hx hb dJ13_bitCount_95d88_53 ?_
  obtain ⟨v0_12, ev0_12, h⟩ := nm_s h
  refine nmL ev0_12 ?_
  refine lv_lstore_n hx hb dJ13_bitCount_95d88_54 rfl hl (Nat.le_of_ble_eq_true rfl) (lv' := [(0, .long v0_12)]) rfl (fun ls hl => ?_)
  refine lv_lload_n hx hb dJ13_bitCount_95d88_55 rfl (lv_at hl 0 rfl) ?_
  refine lv_l2i hx hb (v := v0_12.toInt32) dJ13_bitCount_95d88_56 rfl ?_
  refine lv_bipush (v := 127) hx hb dJ13_bitCount_95d88_57 kb_127 ?_
  refine lv_iand hx hb dJ13_bitCount_95d88_59 ?_
  exact rt_i hx hb hr hlocks hS dJ13_bitCount_95d88_60 h
noncomputable def gr_width (v0 : Int64) : Option (Int32) :=
  bd1 (gr_columns v0) fun r_1 =>
  bd1 (jl_bitCount r_1) fun r_3 =>
  some r_3
set_option maxHeartbeats 4000000 in
set_option maxRecDepth 100000 in
theorem c_gr_width (l : Launch) (v0 : Int64) (r : Int32) (h : gr_width v0 = some r) : Met l yX2_width (wm yX2_width cX2_width 2 (some .int)) (rmm 1 23) (va_Pc [.long v0] NW) (Qi r) 0 0 NoA := by
  refine met_s (y := yX2_width) (rm := rmm 1 23) (by decide) (Nat.le_of_ble_eq_true rfl) ?_
  intro p e s m below meth c hx hb hr hw hown hlocks _ hml hN ls hl
  replace hl : lv_has ls 2 [(0, .long v0)] := hl
  have hS : va_S NoA s.heap s.heap [] := va_S.rf
  generalize (([.long v0] : List Value).toArray) = av at hw ⊢
  rw [gr_width] at h
  refine lv_lload_n hx hb dX2_width_0 rfl (lv_at hl 0 rfl) ?_
  obtain ⟨r_5, hr_6, h⟩ := bd1_s h
  refine sc_l hx hb hml hown hw hN (c_gr_columns l v0 r_5 hr_6) g_RX2_23 hd_X2_columns (rest := []) hl.1 hS dX2_width_1 rfl rfl ⟨Nat.le_of_ble_eq_true rfl, Nat.le_of_ble_eq_true rfl⟩ rfl rfl (Nat.le_of_ble_eq_true rfl) ⟨Nat.zero_le _, Nat.zero_le _⟩ (fun H locs hk hS => ?_)
  obtain ⟨r_7, hr_8, h⟩ := bd1_s h
  refine sc_i hx hb hml hown hw hN (c_jl_bitCount l r_5 r_7 hr_8) g_RX2_11 hd_J13_bitCount_95d88 (rest := []) hl.1 hS dX2_width_4 rfl rfl ⟨Nat.le_of_ble_eq_true rfl, Nat.le_of_ble_eq_true rfl⟩ rfl rfl (Nat.le_of_ble_eq_true rfl) ⟨Nat.zero_le _, Nat.zero_le _⟩ (fun H locs hk hS => ?_)
  exact rt_i hx hb hr hlocks hS dX2_width_7 h
noncomputable def gr_height (v0 : Int64) : Option (Int32) :=
  nm (v0 ||| (su v0 4) : Int64) fun v2_1 =>
  nm (v2_1 ||| (su v2_1 2) : Int64) fun v2_2 =>
  nm (v2_2 ||| (su v2_2 1) : Int64) fun v2_3 =>
  bd1 (jl_bitCount (v2_3 &&& (72340172838076673 : Int64))) fun r_4 =>
  some r_4
set_option maxHeartbeats 4000000 in
set_option maxRecDepth 100000 in
theorem c_gr_height (l : Launch) (v0 : Int64) (r : Int32) (h : gr_height v0 = some r) : Met l yX2_height (wm yX2_height cX2_height 4 (some .int)) (rmm 1 21) (va_Pc [.long v0] NW) (Qi r) 0 0 NoA := by
  refine met_s (y := yX2_height) (rm := rmm 1 21) (by decide) (Nat.le_of_ble_eq_true rfl) ?_
  intro p e s m below meth c hx hb hr hw hown hlocks _ hml hN ls hl
  replace hl : lv_has ls 4 [(0, .long v0)] := hl
  have hS : va_S NoA s.heap s.heap [] := va_S.rf
  generalize (([.long v0] : List Value).toArray) = av at hw ⊢
  rw [gr_height] at h
  refine lv_lload_n hx hb dX2_height_0 rfl (lv_at hl 0 rfl) ?_
  refine lv_lload_n hx hb dX2_height_1 rfl (lv_at hl 0 rfl) ?_
  refine lv_iconst (v := 4) hx hb dX2_height_2 ki_4 ?_
  refine lv_lushr hx hb (v := su v0 4) dX2_height_3 rfl ?_
  refine lv_lor hx hb dX2_height_4 ?_
  obtain ⟨v2_6, ev2_6, h⟩ := nm_s h
  refine nmL ev2_6 ?_
  refine lv_lstore_n hx hb dX2_height_5 rfl hl (Nat.le_of_ble_eq_true rfl) (lv' := [(2, .long v2_6), (0, .long v0)]) rfl (fun ls hl => ?_)
  refine lv_lload_n hx hb dX2_height_6 rfl (lv_at hl 0 rfl) ?_
  refine lv_lload_n hx hb dX2_height_7 rfl (lv_at hl 0 rfl) ?_
  refine lv_iconst (v := 2) hx hb dX2_height_8 ki_2 ?_
  refine lv_lushr hx hb (v := su v2_6 2) dX2_height_9 rfl ?_
  refine lv_lor hx hb dX2_height_10 ?_
  obtain ⟨v2_7, ev2_7, h⟩ := nm_s h
  refine nmL ev2_7 ?_
  refine lv_lstore_n hx hb dX2_height_11 rfl hl (Nat.le_of_ble_eq_true rfl) (lv' := [(2, .long v2_7), (0, .long v0)]) rfl (fun ls hl => ?_)
  refine lv_lload_n hx hb dX2_height_12 rfl (lv_at hl 0 rfl) ?_
  refine lv_lload_n hx hb dX2_height_13 rfl (lv_at hl 0 rfl) ?_
  refine lv_iconst (v := 1) hx hb dX2_height_14 ki_1 ?_
  refine lv_lushr hx hb (v := su v2_7 1) dX2_height_15 rfl ?_
  refine lv_lor hx hb dX2_height_16 ?_
  obtain ⟨v2_8, ev2_8, h⟩ := nm_s h
  refine nmL ev2_8 ?_
  refine lv_lstore_n hx hb dX2_height_17 rfl hl (Nat.le_of_ble_eq_true rfl) (lv' := [(2, .long v2_8), (0, .long v0)]) rfl (fun ls hl => ?_)
  refine lv_lload_n hx hb dX2_height_18 rfl (lv_at hl 0 rfl) ?_
  refine lv_ldc2 hx hb hown (hw _ tw_12_2) dX2_height_19 ?_
  refine lv_land hx hb dX2_height_22 ?_
  obtain ⟨r_9, hr_10, h⟩ := bd1_s h
  refine sc_i hx hb hml hown hw hN (c_jl_bitCount l (v2_8 &&& (72340172838076673 : Int64)) r_9 hr_10) g_RX2_11 hd_J13_bitCount_95d88 (rest := []) hl.1 hS dX2_height_23 rfl rfl ⟨Nat.le_of_ble_eq_true rfl, Nat.le_of_ble_eq_true rfl⟩ rfl rfl (Nat.le_of_ble_eq_true rfl) ⟨Nat.zero_le _, Nat.zero_le _⟩ (fun H locs hk hS => ?_)
  exact rt_i hx hb hr hlocks hS dX2_height_26 h
noncomputable def gr_roomed_J16  (v0 : Int64) (t0 : Int64) : Option (Int64) :=
  bd1 (gr_height v0) fun r_1 =>
  if 7 ≤ r_1 then (some t0) else
  some (sl t0 8)
noncomputable def gr_roomed (v0 : Int64) : Option (Int64) :=
  bd1 (gr_width v0) fun r_3 =>
  if 7 ≤ r_3 then (gr_roomed_J16 v0 v0) else
  gr_roomed_J16 v0 (sl v0 1)
set_option maxHeartbeats 4000000 in
set_option maxRecDepth 100000 in
theorem c_gr_roomed (l : Launch) (v0 : Int64) (r : Int64) (h : gr_roomed v0 = some r) : Met l yX2_roomed (wm yX2_roomed cX2_roomed 4 (some .long)) (rmm 2 44) (va_Pc [.long v0] NW) (Ql r) 0 0 NoA := by
  refine met_s (y := yX2_roomed) (rm := rmm 2 44) (by decide) (Nat.le_of_ble_eq_true rfl) ?_
  intro p e s m below meth c hx hb hr hw hown hlocks _ hml hN ls hl
  replace hl : lv_has ls 4 [(0, .long v0)] := hl
  have hS : va_S NoA s.heap s.heap [] := va_S.rf
  generalize (([.long v0] : List Value).toArray) = av at hw ⊢
  rw [gr_roomed] at h
  have hJ16 : ∀ (H : Heap) (locs : List Loc) (ls : Array Slot) (v0 : Int64) (t0 : Int64), lv_has ls 4 [(0, .long v0)] → va_S NoA s.heap H locs → gr_roomed_J16 v0 t0 = some r → W p l e (rmm 2 44) s m av below meth c H locs 0 0 (MQ below (Ql r) av s 0 0 NoA) (F0 m 16 ls [.long t0]) := by
    intro H locs ls v0 t0 hl hS h
    rw [gr_roomed_J16] at h
    refine lv_lstore_n hx hb dX2_roomed_16 rfl hl (Nat.le_of_ble_eq_true rfl) (lv' := [(2, .long t0), (0, .long v0)]) rfl (fun ls hl => ?_)
    refine lv_lload_n hx hb dX2_roomed_17 rfl (lv_at hl 1 rfl) ?_
    obtain ⟨r_5, hr_6, h⟩ := bd1_s h
    refine sc_i hx hb hml hown hw hN (c_gr_height l v0 r_5 hr_6) g_RX2_38 hd_X2_height (rest := []) hl.1 hS dX2_roomed_18 rfl rfl ⟨Nat.le_of_ble_eq_true rfl, Nat.le_of_ble_eq_true rfl⟩ rfl rfl (Nat.le_of_ble_eq_true rfl) ⟨Nat.zero_le _, Nat.zero_le _⟩ (fun H locs hk hS => ?_)
    refine lv_bipush (v := 7) hx hb dX2_roomed_21 kb_7 ?_
    refine lv_icmp_ge hx hb dX2_roomed_23 (tgt := 33) rfl (fun hc => ?_) (fun hc => ?_)
    · replace h := ifp h hc
      refine lv_lload_n hx hb dX2_roomed_33 rfl (lv_at hl 0 rfl) ?_
      exact rt_l hx hb hr hlocks hS dX2_roomed_34 h
    · replace h := ifn h hc
      refine lv_lload_n hx hb dX2_roomed_26 rfl (lv_at hl 0 rfl) ?_
      refine lv_bipush (v := 8) hx hb dX2_roomed_27 kb_8 ?_
      refine lv_lshl hx hb (v := sl t0 8) dX2_roomed_29 rfl ?_
      refine lv_goto hx hb dX2_roomed_30 (tgt := 34) rfl ?_
      exact rt_l hx hb hr hlocks hS dX2_roomed_34 h
  refine lv_lload_n hx hb dX2_roomed_0 rfl (lv_at hl 0 rfl) ?_
  obtain ⟨r_7, hr_8, h⟩ := bd1_s h
  refine sc_i hx hb hml hown hw hN (c_gr_width l v0 r_7 hr_8) g_RX2_35 hd_X2_width (rest := []) hl.1 hS dX2_roomed_1 rfl rfl ⟨Nat.le_of_ble_eq_true rfl, Nat.le_of_ble_eq_true rfl⟩ rfl rfl (Nat.le_of_ble_eq_true rfl) ⟨Nat.zero_le _, Nat.zero_le _⟩ (fun H locs hk hS => ?_)
  refine lv_bipush (v := 7) hx hb dX2_roomed_4 kb_7 ?_
  refine lv_icmp_ge hx hb dX2_roomed_6 (tgt := 15) rfl (fun hc => ?_) (fun hc => ?_)
  · replace h := ifp h hc
    refine lv_lload_n hx hb dX2_roomed_15 rfl (lv_at hl 0 rfl) ?_
    exact hJ16 _ _ _ v0 v0 (lv_sub hl [0] rfl) hS h
  · replace h := ifn h hc
    refine lv_lload_n hx hb dX2_roomed_9 rfl (lv_at hl 0 rfl) ?_
    refine lv_iconst (v := 1) hx hb dX2_roomed_10 ki_1 ?_
    refine lv_lshl hx hb (v := sl v0 1) dX2_roomed_11 rfl ?_
    refine lv_goto hx hb dX2_roomed_12 (tgt := 16) rfl ?_
    exact hJ16 _ _ _ v0 (sl v0 1) (lv_sub hl [0] rfl) hS h
noncomputable def gr_around (v0 : Int64) : Option (Int64) :=
  some ((((sl v0 1) ||| (su v0 1)) ||| (sl v0 8)) ||| (su v0 8))
set_option maxHeartbeats 4000000 in
set_option maxRecDepth 100000 in
theorem c_gr_around (l : Launch) (v0 : Int64) (r : Int64) (h : gr_around v0 = some r) : Met l yX2_around (wm yX2_around cX2_around 2 (some .long)) (rmm 0 0) (va_Pc [.long v0] NW) (Ql r) 0 0 NoA := by
  refine met_s (y := yX2_around) (rm := rmm 0 0) (by decide) (Nat.le_of_ble_eq_true rfl) ?_
  intro p e s m below meth c hx hb hr hw hown hlocks _ hml hN ls hl
  replace hl : lv_has ls 2 [(0, .long v0)] := hl
  have hS : va_S NoA s.heap s.heap [] := va_S.rf
  generalize (([.long v0] : List Value).toArray) = av at hw ⊢
  rw [gr_around] at h
  refine lv_lload_n hx hb dX2_around_0 rfl (lv_at hl 0 rfl) ?_
  refine lv_iconst (v := 1) hx hb dX2_around_1 ki_1 ?_
  refine lv_lshl hx hb (v := sl v0 1) dX2_around_2 rfl ?_
  refine lv_lload_n hx hb dX2_around_3 rfl (lv_at hl 0 rfl) ?_
  refine lv_iconst (v := 1) hx hb dX2_around_4 ki_1 ?_
  refine lv_lushr hx hb (v := su v0 1) dX2_around_5 rfl ?_
  refine lv_lor hx hb dX2_around_6 ?_
  refine lv_lload_n hx hb dX2_around_7 rfl (lv_at hl 0 rfl) ?_
  refine lv_bipush (v := 8) hx hb dX2_around_8 kb_8 ?_
  refine lv_lshl hx hb (v := sl v0 8) dX2_around_10 rfl ?_
  refine lv_lor hx hb dX2_around_11 ?_
  refine lv_lload_n hx hb dX2_around_12 rfl (lv_at hl 0 rfl) ?_
  refine lv_bipush (v := 8) hx hb dX2_around_13 kb_8 ?_
  refine lv_lushr hx hb (v := su v0 8) dX2_around_15 rfl ?_
  refine lv_lor hx hb dX2_around_16 ?_
  exact rt_l hx hb hr hlocks hS dX2_around_17 h
noncomputable def gr_sites_J41  (v2 : Int64) (v4 : Int64)  : Option (Int64) :=
  bd1 (gr_around v2) fun r_1 =>
  some (r_1 &&& v4)
noncomputable def gr_sites_J24  (v0 : Int64) (v2 : Int64) (v4 : Int64)  : Option (Int64) :=
  bd1 (gr_height v0) fun r_3 =>
  if r_3 < 7 then (gr_sites_J41 v2 v4) else
  nm (v4 &&& (72057594037927935 : Int64) : Int64) fun v4_5 =>
  gr_sites_J41 v2 v4_5
noncomputable def gr_sites (v0 : Int64) (v2 : Int64) : Option (Int64) :=
  nm (v2 ^^^ (((-1) : Int64)) : Int64) fun v4_6 =>
  bd1 (gr_width v0) fun r_7 =>
  if r_7 < 7 then (gr_sites_J24 v0 v2 v4_6) else
  nm (v4_6 &&& (9187201950435737471 : Int64) : Int64) fun v4_9 =>
  gr_sites_J24 v0 v2 v4_9
set_option maxHeartbeats 4000000 in
set_option maxRecDepth 100000 in
theorem c_gr_sites (l : Launch) (v0 : Int64) (v2 : Int64) (r : Int64) (h : gr_sites v0 v2 = some r) : Met l yX2_sites (wm yX2_sites cX2_sites 6 (some .long)) (rmm 2 44) (va_Pc [.long v0, .long v2] NW) (Ql r) 0 0 NoA := by
  refine met_s (y := yX2_sites) (rm := rmm 2 44) (by decide) (Nat.le_of_ble_eq_true rfl) ?_
  intro p e s m below meth c hx hb hr hw hown hlocks _ hml hN ls hl
  replace hl : lv_has ls 6 [(0, .long v0), (2, .long v2)] := hl
  have hS : va_S NoA s.heap s.heap [] := va_S.rf
  generalize (([.long v0, .long v2] : List Value).toArray) = av at hw ⊢
  rw [gr_sites] at h
  have hJ41 : ∀ (H : Heap) (locs : List Loc) (ls : Array Slot) (v2 : Int64) (v4 : Int64) , lv_has ls 6 [(2, .long v2), (4, .long v4)] → va_S NoA s.heap H locs → gr_sites_J41 v2 v4 = some r → W p l e (rmm 2 44) s m av below meth c H locs 0 0 (MQ below (Ql r) av s 0 0 NoA) (F0 m 41 ls []) := by
    intro H locs ls v2 v4  hl hS h
    rw [gr_sites_J41] at h
    refine lv_lload_n hx hb dX2_sites_41 rfl (lv_at hl 0 rfl) ?_
    obtain ⟨r_10, hr_11, h⟩ := bd1_s h
    refine sc_l hx hb hml hown hw hN (c_gr_around l v2 r_10 hr_11) g_RX2_45 hd_X2_around (rest := []) hl.1 hS dX2_sites_42 rfl rfl ⟨Nat.le_of_ble_eq_true rfl, Nat.le_of_ble_eq_true rfl⟩ rfl rfl (Nat.le_of_ble_eq_true rfl) ⟨Nat.zero_le _, Nat.zero_le _⟩ (fun H locs hk hS => ?_)
    refine lv_lload hx hb dX2_sites_45 (lv_at hl 1 rfl) ?_
    refine lv_land hx hb dX2_sites_47 ?_
    exact rt_l hx hb hr hlocks hS dX2_sites_48 h
  have hJ24 : ∀ (H : Heap) (locs : List Loc) (ls : Array Slot) (v0 : Int64) (v2 : Int64) (v4 : Int64) , lv_has ls 6 [(0, .long v0), (2, .long v2), (4, .long v4)] → va_S NoA s.heap H locs → gr_sites_J24 v0 v2 v4 = some r → W p l e (rmm 2 44) s m av below meth c H locs 0 0 (MQ below (Ql r) av s 0 0 NoA) (F0 m 24 ls []) := by
    intro H locs ls v0 v2 v4  hl hS h
    rw [gr_sites_J24] at h
    refine lv_lload_n hx hb dX2_sites_24 rfl (lv_at hl 0 rfl) ?_
    obtain ⟨r_12, hr_13, h⟩ := bd1_s h
    refine sc_i hx hb hml hown hw hN (c_gr_height l v0 r_12 hr_13) g_RX2_38 hd_X2_height (rest := []) hl.1 hS dX2_sites_25 rfl rfl ⟨Nat.le_of_ble_eq_true rfl, Nat.le_of_ble_eq_true rfl⟩ rfl rfl (Nat.le_of_ble_eq_true rfl) ⟨Nat.zero_le _, Nat.zero_le _⟩ (fun H locs hk hS => ?_)
    refine lv_bipush (v := 7) hx hb dX2_sites_28 kb_7 ?_
    refine lv_icmp_lt hx hb dX2_sites_30 (tgt := 41) rfl (fun hc => ?_) (fun hc => ?_)
    · replace h := ifp h hc
      exact hJ41 _ _ _ v2 v4 (lv_sub hl [1, 2] rfl) hS h
    · replace h := ifn h hc
      refine lv_lload hx hb dX2_sites_33 (lv_at hl 2 rfl) ?_
      refine lv_ldc2 hx hb hown (hw _ tw_24_4) dX2_sites_35 ?_
      refine lv_land hx hb dX2_sites_38 ?_
      obtain ⟨v4_14, ev4_14, h⟩ := nm_s h
      refine nmL ev4_14 ?_
      refine lv_lstore hx hb dX2_sites_39 hl (Nat.le_of_ble_eq_true rfl) (lv' := [(4, .long v4_14), (0, .long v0), (2, .long v2)]) rfl (fun ls hl => ?_)
      exact hJ41 _ _ _ v2 v4_14 (lv_sub hl [2, 0] rfl) hS h
  refine lv_lload_n hx hb dX2_sites_0 rfl (lv_at hl 1 rfl) ?_
  refine lv_ldc2 hx hb hown (hw _ tw_24_2) dX2_sites_1 ?_
  refine lv_lxor hx hb dX2_sites_4 ?_
  obtain ⟨v4_15, ev4_15, h⟩ := nm_s h
  refine nmL ev4_15 ?_
  refine lv_lstore hx hb dX2_sites_5 hl (Nat.le_of_ble_eq_true rfl) (lv' := [(4, .long v4_15), (0, .long v0), (2, .long v2)]) rfl (fun ls hl => ?_)
  refine lv_lload_n hx hb dX2_sites_7 rfl (lv_at hl 1 rfl) ?_
  obtain ⟨r_16, hr_17, h⟩ := bd1_s h
  refine sc_i hx hb hml hown hw hN (c_gr_width l v0 r_16 hr_17) g_RX2_35 hd_X2_width (rest := []) hl.1 hS dX2_sites_8 rfl rfl ⟨Nat.le_of_ble_eq_true rfl, Nat.le_of_ble_eq_true rfl⟩ rfl rfl (Nat.le_of_ble_eq_true rfl) ⟨Nat.zero_le _, Nat.zero_le _⟩ (fun H locs hk hS => ?_)
  refine lv_bipush (v := 7) hx hb dX2_sites_11 kb_7 ?_
  refine lv_icmp_lt hx hb dX2_sites_13 (tgt := 24) rfl (fun hc => ?_) (fun hc => ?_)
  · replace h := ifp h hc
    exact hJ24 _ _ _ v0 v2 v4_15 (lv_sub hl [1, 2, 0] rfl) hS h
  · replace h := ifn h hc
    refine lv_lload hx hb dX2_sites_16 (lv_at hl 0 rfl) ?_
    refine lv_ldc2 hx hb hown (hw _ tw_24_3) dX2_sites_18 ?_
    refine lv_land hx hb dX2_sites_21 ?_
    obtain ⟨v4_18, ev4_18, h⟩ := nm_s h
    refine nmL ev4_18 ?_
    refine lv_lstore hx hb dX2_sites_22 hl (Nat.le_of_ble_eq_true rfl) (lv' := [(4, .long v4_18), (0, .long v0), (2, .long v2)]) rfl (fun ls hl => ?_)
    exact hJ24 _ _ _ v0 v2 v4_18 (lv_sub hl [1, 2, 0] rfl) hS h
noncomputable def gr_settled (v0 : Int64) : Option (Int64) :=
  if v0 = 0 then (some 0) else
  bd1 (jl_bitCount ((v0 &&& (-v0)) - 1)) fun r_1 =>
  nm (su v0 (r_1 &&& 56) : Int64) fun v2_3 =>
  bd1 (gr_columns v2_3) fun r_4 =>
  bd1 (jl_bitCount ((r_4 &&& (-r_4)) - 1)) fun r_6 =>
  some (su v2_3 r_6)
set_option maxHeartbeats 4000000 in
set_option maxRecDepth 100000 in
theorem c_gr_settled (l : Launch) (v0 : Int64) (r : Int64) (h : gr_settled v0 = some r) : Met l yX2_settled (wm yX2_settled cX2_settled 6 (some .long)) (rmm 1 23) (va_Pc [.long v0] NW) (Ql r) 0 0 NoA := by
  refine met_s (y := yX2_settled) (rm := rmm 1 23) (by decide) (Nat.le_of_ble_eq_true rfl) ?_
  intro p e s m below meth c hx hb hr hw hown hlocks _ hml hN ls hl
  replace hl : lv_has ls 6 [(0, .long v0)] := hl
  have hS : va_S NoA s.heap s.heap [] := va_S.rf
  generalize (([.long v0] : List Value).toArray) = av at hw ⊢
  rw [gr_settled] at h
  refine lv_lload_n hx hb dX2_settled_0 rfl (lv_at hl 0 rfl) ?_
  refine lv_lconst (v := 0) hx hb dX2_settled_1 kl_0 ?_
  refine W.lcmp hx hb dX2_settled_2 ?_
  refine lv_if_ne hx hb dX2_settled_3 (tgt := 8) rfl (fun hc => ?_) (fun hc => ?_)
  · replace h := ifn h (fun q => hc ((lg_cmp_eq _ _).mpr q))
    refine lv_lload_n hx hb dX2_settled_8 rfl (lv_at hl 0 rfl) ?_
    refine lv_lload_n hx hb dX2_settled_9 rfl (lv_at hl 0 rfl) ?_
    refine lv_lload_n hx hb dX2_settled_10 rfl (lv_at hl 0 rfl) ?_
    refine lv_lneg hx hb dX2_settled_11 ?_
    refine lv_land hx hb dX2_settled_12 ?_
    refine lv_lconst (v := 1) hx hb dX2_settled_13 kl_1 ?_
    refine lv_lsub hx hb dX2_settled_14 ?_
    obtain ⟨r_8, hr_9, h⟩ := bd1_s h
    refine sc_i hx hb hml hown hw hN (c_jl_bitCount l ((v0 &&& (-v0)) - 1) r_8 hr_9) g_RX2_11 hd_J13_bitCount_95d88 (rest := [.long v0]) hl.1 hS dX2_settled_15 rfl rfl ⟨Nat.le_of_ble_eq_true rfl, Nat.le_of_ble_eq_true rfl⟩ rfl rfl (Nat.le_of_ble_eq_true rfl) ⟨Nat.zero_le _, Nat.zero_le _⟩ (fun H locs hk hS => ?_)
    refine lv_bipush (v := 56) hx hb dX2_settled_18 kb_56 ?_
    refine lv_iand hx hb dX2_settled_20 ?_
    refine lv_lushr hx hb (v := su v0 (r_8 &&& 56)) dX2_settled_21 rfl ?_
    obtain ⟨v2_10, ev2_10, h⟩ := nm_s h
    refine nmL ev2_10 ?_
    refine lv_lstore_n hx hb dX2_settled_22 rfl hl (Nat.le_of_ble_eq_true rfl) (lv' := [(2, .long v2_10), (0, .long v0)]) rfl (fun ls hl => ?_)
    refine lv_lload_n hx hb dX2_settled_23 rfl (lv_at hl 0 rfl) ?_
    obtain ⟨r_11, hr_12, h⟩ := bd1_s h
    refine sc_l hx hb hml hown hw hN (c_gr_columns l v2_10 r_11 hr_12) g_RX2_23 hd_X2_columns (rest := []) hl.1 hS dX2_settled_24 rfl rfl ⟨Nat.le_of_ble_eq_true rfl, Nat.le_of_ble_eq_true rfl⟩ rfl rfl (Nat.le_of_ble_eq_true rfl) ⟨Nat.zero_le _, Nat.zero_le _⟩ (fun H locs hk hS => ?_)
    refine lv_lstore hx hb dX2_settled_27 hl (Nat.le_of_ble_eq_true rfl) (lv' := [(4, .long r_11), (2, .long v2_10), (0, .long v0)]) rfl (fun ls hl => ?_)
    refine lv_lload_n hx hb dX2_settled_29 rfl (lv_at hl 1 rfl) ?_
    refine lv_lload hx hb dX2_settled_30 (lv_at hl 0 rfl) ?_
    refine lv_lload hx hb dX2_settled_32 (lv_at hl 0 rfl) ?_
    refine lv_lneg hx hb dX2_settled_34 ?_
    refine lv_land hx hb dX2_settled_35 ?_
    refine lv_lconst (v := 1) hx hb dX2_settled_36 kl_1 ?_
    refine lv_lsub hx hb dX2_settled_37 ?_
    obtain ⟨r_13, hr_14, h⟩ := bd1_s h
    refine sc_i hx hb hml hown hw hN (c_jl_bitCount l ((r_11 &&& (-r_11)) - 1) r_13 hr_14) g_RX2_11 hd_J13_bitCount_95d88 (rest := [.long v2_10]) hl.1 hS dX2_settled_38 rfl rfl ⟨Nat.le_of_ble_eq_true rfl, Nat.le_of_ble_eq_true rfl⟩ rfl rfl (Nat.le_of_ble_eq_true rfl) ⟨Nat.zero_le _, Nat.zero_le _⟩ (fun H locs hk hS => ?_)
    refine lv_lushr hx hb (v := su v2_10 r_13) dX2_settled_41 rfl ?_
    exact rt_l hx hb hr hlocks hS dX2_settled_42 h
  · replace h := ifp h ((lg_cmp_eq _ _).mp hc)
    refine lv_lconst (v := 0) hx hb dX2_settled_6 kl_0 ?_
    exact rt_l hx hb hr hlocks hS dX2_settled_7 h
noncomputable def cf_within (v0 : Int32) (v1 : Int32) (v2 : Int32) : Option (Int32) :=
  if v0 < v1 then (zb 0 (some 0)) else
  if v2 < v0 then (zb 0 (some 0)) else
  zb 1 (some 1)
set_option maxHeartbeats 4000000 in
set_option maxRecDepth 100000 in
theorem c_cf_within (l : Launch) (v0 : Int32) (v1 : Int32) (v2 : Int32) (r : Int32) (h : cf_within v0 v1 v2 = some r) : Met l yX11_within (wm yX11_within cX11_within 3 (some .boolean)) (rmm 0 0) (va_Pc [.int v0, .int v1, .int v2] NW) (Qi r) 0 0 NoA := by
  refine met_s (y := yX11_within) (rm := rmm 0 0) (by decide) (Nat.le_of_ble_eq_true rfl) ?_
  intro p e s m below meth c hx hb hr hw hown hlocks _ hml hN ls hl
  replace hl : lv_has ls 3 [(0, .int v0), (1, .int v1), (2, .int v2)] := hl
  have hS : va_S NoA s.heap s.heap [] := va_S.rf
  generalize (([.int v0, .int v1, .int v2] : List Value).toArray) = av at hw ⊢
  rw [cf_within] at h
  refine lv_iload_n hx hb dX11_within_0 rfl (lv_at hl 1 rfl) ?_
  refine lv_iload_n hx hb dX11_within_1 rfl (lv_at hl 0 rfl) ?_
  refine lv_icmp_gt hx hb dX11_within_2 (tgt := 14) rfl (fun hc => ?_) (fun hc => ?_)
  · replace h := ifp h hc
    refine lv_iconst (v := 0) hx hb dX11_within_14 ki_0 ?_
    exact rt_z hx hb hr hlocks hS dX11_within_15 h
  · replace h := ifn h hc
    refine lv_iload_n hx hb dX11_within_5 rfl (lv_at hl 0 rfl) ?_
    refine lv_iload_n hx hb dX11_within_6 rfl (lv_at hl 2 rfl) ?_
    refine lv_icmp_gt hx hb dX11_within_7 (tgt := 14) rfl (fun hc => ?_) (fun hc => ?_)
    · replace h := ifp h hc
      refine lv_iconst (v := 0) hx hb dX11_within_14 ki_0 ?_
      exact rt_z hx hb hr hlocks hS dX11_within_15 h
    · replace h := ifn h hc
      refine lv_iconst (v := 1) hx hb dX11_within_10 ki_1 ?_
      refine lv_goto hx hb dX11_within_11 (tgt := 15) rfl ?_
      exact rt_z hx hb hr hlocks hS dX11_within_15 h
noncomputable def gr_turnsOf (v0 : Int32) : Option (Int32) :=
  if v0 = 0 then (some 1) else
  if v0 = 1 then (some 4) else
  some 8
set_option maxHeartbeats 4000000 in
set_option maxRecDepth 100000 in
theorem c_gr_turnsOf (l : Launch) (v0 : Int32) (r : Int32) (h : gr_turnsOf v0 = some r) : Met l yX2_turnsOf (wm yX2_turnsOf cX2_turnsOf 1 (some .int)) (rmm 0 0) (va_Pc [.int v0] NW) (Qi r) 0 0 NoA := by
  refine met_s (y := yX2_turnsOf) (rm := rmm 0 0) (by decide) (Nat.le_of_ble_eq_true rfl) ?_
  intro p e s m below meth c hx hb hr hw hown hlocks _ hml hN ls hl
  replace hl : lv_has ls 1 [(0, .int v0)] := hl
  have hS : va_S NoA s.heap s.heap [] := va_S.rf
  generalize (([.int v0] : List Value).toArray) = av at hw ⊢
  rw [gr_turnsOf] at h
  refine lv_iload_n hx hb dX2_turnsOf_0 rfl (lv_at hl 0 rfl) ?_
  refine lv_if_ne hx hb dX2_turnsOf_1 (tgt := 8) rfl (fun hc => ?_) (fun hc => ?_)
  · replace h := ifn h hc
    refine lv_iload_n hx hb dX2_turnsOf_8 rfl (lv_at hl 0 rfl) ?_
    refine lv_iconst (v := 1) hx hb dX2_turnsOf_9 ki_1 ?_
    refine lv_icmp_ne hx hb dX2_turnsOf_10 (tgt := 17) rfl (fun hc => ?_) (fun hc => ?_)
    · replace h := ifn h hc
      refine lv_bipush (v := 8) hx hb dX2_turnsOf_17 kb_8 ?_
      exact rt_i hx hb hr hlocks hS dX2_turnsOf_19 h
    · replace h := ifp h hc
      refine lv_iconst (v := 4) hx hb dX2_turnsOf_13 ki_4 ?_
      refine lv_goto hx hb dX2_turnsOf_14 (tgt := 19) rfl ?_
      exact rt_i hx hb hr hlocks hS dX2_turnsOf_19 h
  · replace h := ifp h hc
    refine lv_iconst (v := 1) hx hb dX2_turnsOf_4 ki_1 ?_
    refine lv_goto hx hb dX2_turnsOf_5 (tgt := 19) rfl ?_
    exact rt_i hx hb hr hlocks hS dX2_turnsOf_19 h
noncomputable def gr_transposed (v0 : Int64) : Option (Int64) :=
  nm ((v0 ^^^ (su v0 7)) &&& (47851476196393130 : Int64) : Int64) fun v2_1 =>
  nm ((v0 ^^^ v2_1) ^^^ (sl v2_1 7) : Int64) fun v4_2 =>
  nm ((v4_2 ^^^ (su v4_2 14)) &&& (225176545447116 : Int64) : Int64) fun v2_3 =>
  nm ((v4_2 ^^^ v2_3) ^^^ (sl v2_3 14) : Int64) fun v4_4 =>
  nm ((v4_4 ^^^ (su v4_4 28)) &&& (4042322160 : Int64) : Int64) fun v2_5 =>
  some ((v4_4 ^^^ v2_5) ^^^ (sl v2_5 28))
set_option maxHeartbeats 4000000 in
set_option maxRecDepth 100000 in
theorem c_gr_transposed (l : Launch) (v0 : Int64) (r : Int64) (h : gr_transposed v0 = some r) : Met l yX2_transposed (wm yX2_transposed cX2_transposed 6 (some .long)) (rmm 0 0) (va_Pc [.long v0] NW) (Ql r) 0 0 NoA := by
  refine met_s (y := yX2_transposed) (rm := rmm 0 0) (by decide) (Nat.le_of_ble_eq_true rfl) ?_
  intro p e s m below meth c hx hb hr hw hown hlocks _ hml hN ls hl
  replace hl : lv_has ls 6 [(0, .long v0)] := hl
  have hS : va_S NoA s.heap s.heap [] := va_S.rf
  generalize (([.long v0] : List Value).toArray) = av at hw ⊢
  rw [gr_transposed] at h
  refine lv_lload_n hx hb dX2_transposed_0 rfl (lv_at hl 0 rfl) ?_
  refine lv_lload_n hx hb dX2_transposed_1 rfl (lv_at hl 0 rfl) ?_
  refine lv_bipush (v := 7) hx hb dX2_transposed_2 kb_7 ?_
  refine lv_lushr hx hb (v := su v0 7) dX2_transposed_4 rfl ?_
  refine lv_lxor hx hb dX2_transposed_5 ?_
  refine lv_ldc2 hx hb hown (hw _ tw_17_1) dX2_transposed_6 ?_
  refine lv_land hx hb dX2_transposed_9 ?_
  obtain ⟨v2_6, ev2_6, h⟩ := nm_s h
  refine nmL ev2_6 ?_
  refine lv_lstore_n hx hb dX2_transposed_10 rfl hl (Nat.le_of_ble_eq_true rfl) (lv' := [(2, .long v2_6), (0, .long v0)]) rfl (fun ls hl => ?_)
  refine lv_lload_n hx hb dX2_transposed_11 rfl (lv_at hl 1 rfl) ?_
  refine lv_lload_n hx hb dX2_transposed_12 rfl (lv_at hl 0 rfl) ?_
  refine lv_lxor hx hb dX2_transposed_13 ?_
  refine lv_lload_n hx hb dX2_transposed_14 rfl (lv_at hl 0 rfl) ?_
  refine lv_bipush (v := 7) hx hb dX2_transposed_15 kb_7 ?_
  refine lv_lshl hx hb (v := sl v2_6 7) dX2_transposed_17 rfl ?_
  refine lv_lxor hx hb dX2_transposed_18 ?_
  obtain ⟨v4_7, ev4_7, h⟩ := nm_s h
  refine nmL ev4_7 ?_
  refine lv_lstore hx hb dX2_transposed_19 hl (Nat.le_of_ble_eq_true rfl) (lv' := [(4, .long v4_7), (2, .long v2_6), (0, .long v0)]) rfl (fun ls hl => ?_)
  refine lv_lload hx hb dX2_transposed_21 (lv_at hl 0 rfl) ?_
  refine lv_lload hx hb dX2_transposed_23 (lv_at hl 0 rfl) ?_
  refine lv_bipush (v := 14) hx hb dX2_transposed_25 kb_14 ?_
  refine lv_lushr hx hb (v := su v4_7 14) dX2_transposed_27 rfl ?_
  refine lv_lxor hx hb dX2_transposed_28 ?_
  refine lv_ldc2 hx hb hown (hw _ tw_17_2) dX2_transposed_29 ?_
  refine lv_land hx hb dX2_transposed_32 ?_
  obtain ⟨v2_8, ev2_8, h⟩ := nm_s h
  refine nmL ev2_8 ?_
  refine lv_lstore_n hx hb dX2_transposed_33 rfl hl (Nat.le_of_ble_eq_true rfl) (lv' := [(2, .long v2_8), (4, .long v4_7), (0, .long v0)]) rfl (fun ls hl => ?_)
  refine lv_lload hx hb dX2_transposed_34 (lv_at hl 1 rfl) ?_
  refine lv_lload_n hx hb dX2_transposed_36 rfl (lv_at hl 0 rfl) ?_
  refine lv_lxor hx hb dX2_transposed_37 ?_
  refine lv_lload_n hx hb dX2_transposed_38 rfl (lv_at hl 0 rfl) ?_
  refine lv_bipush (v := 14) hx hb dX2_transposed_39 kb_14 ?_
  refine lv_lshl hx hb (v := sl v2_8 14) dX2_transposed_41 rfl ?_
  refine lv_lxor hx hb dX2_transposed_42 ?_
  obtain ⟨v4_9, ev4_9, h⟩ := nm_s h
  refine nmL ev4_9 ?_
  refine lv_lstore hx hb dX2_transposed_43 hl (Nat.le_of_ble_eq_true rfl) (lv' := [(4, .long v4_9), (2, .long v2_8), (0, .long v0)]) rfl (fun ls hl => ?_)
  refine lv_lload hx hb dX2_transposed_45 (lv_at hl 0 rfl) ?_
  refine lv_lload hx hb dX2_transposed_47 (lv_at hl 0 rfl) ?_
  refine lv_bipush (v := 28) hx hb dX2_transposed_49 kb_28 ?_
  refine lv_lushr hx hb (v := su v4_9 28) dX2_transposed_51 rfl ?_
  refine lv_lxor hx hb dX2_transposed_52 ?_
  refine lv_ldc2 hx hb hown (hw _ tw_17_3) dX2_transposed_53 ?_
  refine lv_land hx hb dX2_transposed_56 ?_
  obtain ⟨v2_10, ev2_10, h⟩ := nm_s h
  refine nmL ev2_10 ?_
  refine lv_lstore_n hx hb dX2_transposed_57 rfl hl (Nat.le_of_ble_eq_true rfl) (lv' := [(2, .long v2_10), (4, .long v4_9), (0, .long v0)]) rfl (fun ls hl => ?_)
  refine lv_lload hx hb dX2_transposed_58 (lv_at hl 1 rfl) ?_
  refine lv_lload_n hx hb dX2_transposed_60 rfl (lv_at hl 0 rfl) ?_
  refine lv_lxor hx hb dX2_transposed_61 ?_
  refine lv_lload_n hx hb dX2_transposed_62 rfl (lv_at hl 0 rfl) ?_
  refine lv_bipush (v := 28) hx hb dX2_transposed_63 kb_28 ?_
  refine lv_lshl hx hb (v := sl v2_10 28) dX2_transposed_65 rfl ?_
  refine lv_lxor hx hb dX2_transposed_66 ?_
  exact rt_l hx hb hr hlocks hS dX2_transposed_67 h
noncomputable def gr_flipped (v0 : Int64) : Option (Int64) :=
  nm (((su v0 1) &&& (6148914691236517205 : Int64)) ||| (sl (v0 &&& (6148914691236517205 : Int64)) 1) : Int64) fun v2_1 =>
  nm (((su v2_1 2) &&& (3689348814741910323 : Int64)) ||| (sl (v2_1 &&& (3689348814741910323 : Int64)) 2) : Int64) fun v2_2 =>
  some (((su v2_2 4) &&& (1085102592571150095 : Int64)) ||| (sl (v2_2 &&& (1085102592571150095 : Int64)) 4))
set_option maxHeartbeats 4000000 in
set_option maxRecDepth 100000 in
theorem c_gr_flipped (l : Launch) (v0 : Int64) (r : Int64) (h : gr_flipped v0 = some r) : Met l yX2_flipped (wm yX2_flipped cX2_flipped 4 (some .long)) (rmm 0 0) (va_Pc [.long v0] NW) (Ql r) 0 0 NoA := by
  refine met_s (y := yX2_flipped) (rm := rmm 0 0) (by decide) (Nat.le_of_ble_eq_true rfl) ?_
  intro p e s m below meth c hx hb hr hw hown hlocks _ hml hN ls hl
  replace hl : lv_has ls 4 [(0, .long v0)] := hl
  have hS : va_S NoA s.heap s.heap [] := va_S.rf
  generalize (([.long v0] : List Value).toArray) = av at hw ⊢
  rw [gr_flipped] at h
  refine lv_lload_n hx hb dX2_flipped_0 rfl (lv_at hl 0 rfl) ?_
  refine lv_iconst (v := 1) hx hb dX2_flipped_1 ki_1 ?_
  refine lv_lushr hx hb (v := su v0 1) dX2_flipped_2 rfl ?_
  refine lv_ldc2 hx hb hown (hw _ tw_16_15) dX2_flipped_3 ?_
  refine lv_land hx hb dX2_flipped_6 ?_
  refine lv_lload_n hx hb dX2_flipped_7 rfl (lv_at hl 0 rfl) ?_
  refine lv_ldc2 hx hb hown (hw _ tw_16_15) dX2_flipped_8 ?_
  refine lv_land hx hb dX2_flipped_11 ?_
  refine lv_iconst (v := 1) hx hb dX2_flipped_12 ki_1 ?_
  refine lv_lshl hx hb (v := sl (v0 &&& (6148914691236517205 : Int64)) 1) dX2_flipped_13 rfl ?_
  refine lv_lor hx hb dX2_flipped_14 ?_
  obtain ⟨v2_3, ev2_3, h⟩ := nm_s h
  refine nmL ev2_3 ?_
  refine lv_lstore_n hx hb dX2_flipped_15 rfl hl (Nat.le_of_ble_eq_true rfl) (lv' := [(2, .long v2_3), (0, .long v0)]) rfl (fun ls hl => ?_)
  refine lv_lload_n hx hb dX2_flipped_16 rfl (lv_at hl 0 rfl) ?_
  refine lv_iconst (v := 2) hx hb dX2_flipped_17 ki_2 ?_
  refine lv_lushr hx hb (v := su v2_3 2) dX2_flipped_18 rfl ?_
  refine lv_ldc2 hx hb hown (hw _ tw_16_16) dX2_flipped_19 ?_
  refine lv_land hx hb dX2_flipped_22 ?_
  refine lv_lload_n hx hb dX2_flipped_23 rfl (lv_at hl 0 rfl) ?_
  refine lv_ldc2 hx hb hown (hw _ tw_16_16) dX2_flipped_24 ?_
  refine lv_land hx hb dX2_flipped_27 ?_
  refine lv_iconst (v := 2) hx hb dX2_flipped_28 ki_2 ?_
  refine lv_lshl hx hb (v := sl (v2_3 &&& (3689348814741910323 : Int64)) 2) dX2_flipped_29 rfl ?_
  refine lv_lor hx hb dX2_flipped_30 ?_
  obtain ⟨v2_4, ev2_4, h⟩ := nm_s h
  refine nmL ev2_4 ?_
  refine lv_lstore_n hx hb dX2_flipped_31 rfl hl (Nat.le_of_ble_eq_true rfl) (lv' := [(2, .long v2_4), (0, .long v0)]) rfl (fun ls hl => ?_)
  refine lv_lload_n hx hb dX2_flipped_32 rfl (lv_at hl 0 rfl) ?_
  refine lv_iconst (v := 4) hx hb dX2_flipped_33 ki_4 ?_
  refine lv_lushr hx hb (v := su v2_4 4) dX2_flipped_34 rfl ?_
  refine lv_ldc2 hx hb hown (hw _ tw_16_17) dX2_flipped_35 ?_
  refine lv_land hx hb dX2_flipped_38 ?_
  refine lv_lload_n hx hb dX2_flipped_39 rfl (lv_at hl 0 rfl) ?_
  refine lv_ldc2 hx hb hown (hw _ tw_16_17) dX2_flipped_40 ?_
  refine lv_land hx hb dX2_flipped_43 ?_
  refine lv_iconst (v := 4) hx hb dX2_flipped_44 ki_4 ?_
  refine lv_lshl hx hb (v := sl (v2_4 &&& (1085102592571150095 : Int64)) 4) dX2_flipped_45 rfl ?_
  refine lv_lor hx hb dX2_flipped_46 ?_
  exact rt_l hx hb hr hlocks hS dX2_flipped_47 h
noncomputable def gr_quarter (v0 : Int64) : Option (Int64) :=
  bd1 (gr_transposed v0) fun r_1 =>
  bd1 (gr_flipped r_1) fun r_3 =>
  bd1 (gr_settled r_3) fun r_5 =>
  some r_5
set_option maxHeartbeats 4000000 in
set_option maxRecDepth 100000 in
theorem c_gr_quarter (l : Launch) (v0 : Int64) (r : Int64) (h : gr_quarter v0 = some r) : Met l yX2_quarter (wm yX2_quarter cX2_quarter 2 (some .long)) (rmm 2 48) (va_Pc [.long v0] NW) (Ql r) 0 0 NoA := by
  refine met_s (y := yX2_quarter) (rm := rmm 2 48) (by decide) (Nat.le_of_ble_eq_true rfl) ?_
  intro p e s m below meth c hx hb hr hw hown hlocks _ hml hN ls hl
  replace hl : lv_has ls 2 [(0, .long v0)] := hl
  have hS : va_S NoA s.heap s.heap [] := va_S.rf
  generalize (([.long v0] : List Value).toArray) = av at hw ⊢
  rw [gr_quarter] at h
  refine lv_lload_n hx hb dX2_quarter_0 rfl (lv_at hl 0 rfl) ?_
  obtain ⟨r_7, hr_8, h⟩ := bd1_s h
  refine sc_l hx hb hml hown hw hN (c_gr_transposed l v0 r_7 hr_8) g_RX2_76 hd_X2_transposed (rest := []) hl.1 hS dX2_quarter_1 rfl rfl ⟨Nat.le_of_ble_eq_true rfl, Nat.le_of_ble_eq_true rfl⟩ rfl rfl (Nat.le_of_ble_eq_true rfl) ⟨Nat.zero_le _, Nat.zero_le _⟩ (fun H locs hk hS => ?_)
  obtain ⟨r_9, hr_10, h⟩ := bd1_s h
  refine sc_l hx hb hml hown hw hN (c_gr_flipped l r_7 r_9 hr_10) g_RX2_70 hd_X2_flipped (rest := []) hl.1 hS dX2_quarter_4 rfl rfl ⟨Nat.le_of_ble_eq_true rfl, Nat.le_of_ble_eq_true rfl⟩ rfl rfl (Nat.le_of_ble_eq_true rfl) ⟨Nat.zero_le _, Nat.zero_le _⟩ (fun H locs hk hS => ?_)
  obtain ⟨r_11, hr_12, h⟩ := bd1_s h
  refine sc_l hx hb hml hown hw hN (c_gr_settled l r_9 r_11 hr_12) g_RX2_73 hd_X2_settled (rest := []) hl.1 hS dX2_quarter_7 rfl rfl ⟨Nat.le_of_ble_eq_true rfl, Nat.le_of_ble_eq_true rfl⟩ rfl rfl (Nat.le_of_ble_eq_true rfl) ⟨Nat.zero_le _, Nat.zero_le _⟩ (fun H locs hk hS => ?_)
  exact rt_l hx hb hr hlocks hS dX2_quarter_10 h
noncomputable def gr_mirrored (v0 : Int64) : Option (Int64) :=
  bd1 (gr_flipped v0) fun r_1 =>
  bd1 (gr_settled r_1) fun r_3 =>
  some r_3
set_option maxHeartbeats 4000000 in
set_option maxRecDepth 100000 in
theorem c_gr_mirrored (l : Launch) (v0 : Int64) (r : Int64) (h : gr_mirrored v0 = some r) : Met l yX2_mirrored (wm yX2_mirrored cX2_mirrored 2 (some .long)) (rmm 2 48) (va_Pc [.long v0] NW) (Ql r) 0 0 NoA := by
  refine met_s (y := yX2_mirrored) (rm := rmm 2 48) (by decide) (Nat.le_of_ble_eq_true rfl) ?_
  intro p e s m below meth c hx hb hr hw hown hlocks _ hml hN ls hl
  replace hl : lv_has ls 2 [(0, .long v0)] := hl
  have hS : va_S NoA s.heap s.heap [] := va_S.rf
  generalize (([.long v0] : List Value).toArray) = av at hw ⊢
  rw [gr_mirrored] at h
  refine lv_lload_n hx hb dX2_mirrored_0 rfl (lv_at hl 0 rfl) ?_
  obtain ⟨r_5, hr_6, h⟩ := bd1_s h
  refine sc_l hx hb hml hown hw hN (c_gr_flipped l v0 r_5 hr_6) g_RX2_70 hd_X2_flipped (rest := []) hl.1 hS dX2_mirrored_1 rfl rfl ⟨Nat.le_of_ble_eq_true rfl, Nat.le_of_ble_eq_true rfl⟩ rfl rfl (Nat.le_of_ble_eq_true rfl) ⟨Nat.zero_le _, Nat.zero_le _⟩ (fun H locs hk hS => ?_)
  obtain ⟨r_7, hr_8, h⟩ := bd1_s h
  refine sc_l hx hb hml hown hw hN (c_gr_settled l r_5 r_7 hr_8) g_RX2_73 hd_X2_settled (rest := []) hl.1 hS dX2_mirrored_4 rfl rfl ⟨Nat.le_of_ble_eq_true rfl, Nat.le_of_ble_eq_true rfl⟩ rfl rfl (Nat.le_of_ble_eq_true rfl) ⟨Nat.zero_le _, Nat.zero_le _⟩ (fun H locs hk hS => ?_)
  exact rt_l hx hb hr hlocks hS dX2_mirrored_7 h
noncomputable def gr_isLeast_J31 (k5 : Int64 → Int32 → Option (Int32)) (v0 : Int64) (v2 : Int32) (v5 : Int32) (t0 : Int64) : Option (Int32) :=
  if v0 ≤ t0 then (nm (v5 + Int32.ofInt 1) fun v5_1 =>
  k5 t0 v5_1) else
  zb 0 (some 0)
noncomputable def gr_isLeast_B5 (v0 : Int64) (v2 : Int32)  (k5 : Int64 → Int32 → Option (Int32)) (v3 : Int64) (v5 : Int32) : Option (Int32) :=
  bd1 (gr_turnsOf v2) fun r_2 =>
  if r_2 ≤ v5 then (zb 1 (some 1)) else
  if v5 = 4 then (bd1 (gr_mirrored v0) fun r_6 =>
  gr_isLeast_J31 k5 v0 v2 v5 r_6) else
  bd1 (gr_quarter v3) fun r_4 =>
  gr_isLeast_J31 k5 v0 v2 v5 r_4
noncomputable def gr_isLeast (v0 : Int64) (v2 : Int32) : Option (Int32) :=
  fl2 (gr_isLeast_B5 v0 v2) FU v0 1
set_option maxHeartbeats 4000000 in
set_option maxRecDepth 100000 in
theorem c_gr_isLeast (l : Launch) (v0 : Int64) (v2 : Int32) (r : Int32) (h : gr_isLeast v0 v2 = some r) : Met l yX2_isLeast (wm yX2_isLeast cX2_isLeast 6 (some .boolean)) (rmm 3 69) (va_Pc [.long v0, .int v2] NW) (Qi r) 0 0 NoA := by
  refine met_s (y := yX2_isLeast) (rm := rmm 3 69) (by decide) (Nat.le_of_ble_eq_true rfl) ?_
  intro p e s m below meth c hx hb hr hw hown hlocks _ hml hN ls hl
  replace hl : lv_has ls 6 [(0, .long v0), (2, .int v2)] := hl
  have hS : va_S NoA s.heap s.heap [] := va_S.rf
  generalize (([.long v0, .int v2] : List Value).toArray) = av at hw ⊢
  rw [gr_isLeast] at h
  have hL5 : ∀ (v0 : Int64), ∀ (v2 : Int32), ∀ (n5 : Nat) (H : Heap) (locs : List Loc) (ls : Array Slot) (v3 : Int64) (v5 : Int32), lv_has ls 6 [(0, .long v0), (2, .int v2), (3, .long v3), (5, .int v5)] → va_S NoA s.heap H locs → fl2 (gr_isLeast_B5 v0 v2) n5 v3 v5 = some r → W p l e (rmm 3 69) s m av below meth c H locs 0 0 (MQ below (Qi r) av s 0 0 NoA) (F0 m 5 ls []) := by
    intro v0 v2 n5
    induction n5 with
    | zero => intro H locs ls v3 v5 hl hS h; cases h
    | succ n5 ih5 =>
      intro H locs ls v3 v5 hl hS h
      replace h : gr_isLeast_B5 v0 v2 (fl2 (gr_isLeast_B5 v0 v2) n5) v3 v5 = some r := h
      generalize fl2 (gr_isLeast_B5 v0 v2) n5 = k5 at h ih5
      have hJ31 : ∀ (H : Heap) (locs : List Loc) (ls : Array Slot) (v5 : Int32) (t0 : Int64), lv_has ls 6 [(0, .long v0), (2, .int v2), (5, .int v5)] → va_S NoA s.heap H locs → gr_isLeast_J31 k5 v0 v2 v5 t0 = some r → W p l e (rmm 3 69) s m av below meth c H locs 0 0 (MQ below (Qi r) av s 0 0 NoA) (F0 m 31 ls [.long t0]) := by
        intro H locs ls v5 t0 hl hS h
        rw [gr_isLeast_J31] at h
        refine lv_lstore_n hx hb dX2_isLeast_31 rfl hl (Nat.le_of_ble_eq_true rfl) (lv' := [(3, .long t0), (0, .long v0), (2, .int v2), (5, .int v5)]) rfl (fun ls hl => ?_)
        refine lv_lload_n hx hb dX2_isLeast_32 rfl (lv_at hl 0 rfl) ?_
        refine lv_lload_n hx hb dX2_isLeast_33 rfl (lv_at hl 1 rfl) ?_
        refine W.lcmp hx hb dX2_isLeast_34 ?_
        refine lv_if_ge hx hb dX2_isLeast_35 (tgt := 40) rfl (fun hc => ?_) (fun hc => ?_)
        · replace h := ifp h ((lg_cmp_ge _ _).mp hc)
          obtain ⟨v5_8, ev5_8, h⟩ := nm_s h
          refine lv_iinc hx hb dX2_isLeast_40 hl (k := 3) rfl ev5_8.symm (Nat.le_of_ble_eq_true rfl) (lv' := [(5, .int v5_8), (3, .long t0), (0, .long v0), (2, .int v2)]) rfl (fun ls hl => ?_)
          refine lv_goto hx hb dX2_isLeast_43 (tgt := 5) rfl ?_
          exact ih5 _ _ _ t0 v5_8 (lv_sub hl [2, 3, 1, 0] rfl) hS h
        · replace h := ifn h (fun q => hc ((lg_cmp_ge _ _).mpr q))
          refine lv_iconst (v := 0) hx hb dX2_isLeast_38 ki_0 ?_
          exact rt_z hx hb hr hlocks hS dX2_isLeast_39 h
      rw [gr_isLeast_B5] at h
      refine lv_iload hx hb dX2_isLeast_5 (lv_at hl 3 rfl) ?_
      refine lv_iload_n hx hb dX2_isLeast_7 rfl (lv_at hl 1 rfl) ?_
      obtain ⟨r_9, hr_10, h⟩ := bd1_s h
      refine sc_i hx hb hml hown hw hN (c_gr_turnsOf l v2 r_9 hr_10) g_RX2_85 hd_X2_turnsOf (rest := [.int v5]) hl.1 hS dX2_isLeast_8 rfl rfl ⟨Nat.le_of_ble_eq_true rfl, Nat.le_of_ble_eq_true rfl⟩ rfl rfl (Nat.le_of_ble_eq_true rfl) ⟨Nat.zero_le _, Nat.zero_le _⟩ (fun H locs hk hS => ?_)
      refine lv_icmp_ge hx hb dX2_isLeast_11 (tgt := 46) rfl (fun hc => ?_) (fun hc => ?_)
      · replace h := ifp h hc
        refine lv_iconst (v := 1) hx hb dX2_isLeast_46 ki_1 ?_
        exact rt_z hx hb hr hlocks hS dX2_isLeast_47 h
      · replace h := ifn h hc
        refine lv_iload hx hb dX2_isLeast_14 (lv_at hl 3 rfl) ?_
        refine lv_iconst (v := 4) hx hb dX2_isLeast_16 ki_4 ?_
        refine lv_icmp_ne hx hb dX2_isLeast_17 (tgt := 27) rfl (fun hc => ?_) (fun hc => ?_)
        · replace h := ifn h hc
          refine lv_lload_n hx hb dX2_isLeast_27 rfl (lv_at hl 2 rfl) ?_
          obtain ⟨r_11, hr_12, h⟩ := bd1_s h
          refine sc_l hx hb hml hown hw hN (c_gr_quarter l v3 r_11 hr_12) g_RX2_82 hd_X2_quarter (rest := []) hl.1 hS dX2_isLeast_28 rfl rfl ⟨Nat.le_of_ble_eq_true rfl, Nat.le_of_ble_eq_true rfl⟩ rfl rfl (Nat.le_of_ble_eq_true rfl) ⟨Nat.zero_le _, Nat.zero_le _⟩ (fun H locs hk hS => ?_)
          exact hJ31 _ _ _ v5 r_11 (lv_sub hl [0, 1, 3] rfl) hS h
        · replace h := ifp h hc
          refine lv_lload_n hx hb dX2_isLeast_20 rfl (lv_at hl 0 rfl) ?_
          obtain ⟨r_13, hr_14, h⟩ := bd1_s h
          refine sc_l hx hb hml hown hw hN (c_gr_mirrored l v0 r_13 hr_14) g_RX2_79 hd_X2_mirrored (rest := []) hl.1 hS dX2_isLeast_21 rfl rfl ⟨Nat.le_of_ble_eq_true rfl, Nat.le_of_ble_eq_true rfl⟩ rfl rfl (Nat.le_of_ble_eq_true rfl) ⟨Nat.zero_le _, Nat.zero_le _⟩ (fun H locs hk hS => ?_)
          refine lv_goto hx hb dX2_isLeast_24 (tgt := 31) rfl ?_
          exact hJ31 _ _ _ v5 r_13 (lv_sub hl [0, 1, 3] rfl) hS h
  refine lv_lload_n hx hb dX2_isLeast_0 rfl (lv_at hl 0 rfl) ?_
  refine lv_lstore_n hx hb dX2_isLeast_1 rfl hl (Nat.le_of_ble_eq_true rfl) (lv' := [(3, .long v0), (0, .long v0), (2, .int v2)]) rfl (fun ls hl => ?_)
  refine lv_iconst (v := 1) hx hb dX2_isLeast_2 ki_1 ?_
  refine lv_istore hx hb dX2_isLeast_3 hl (Nat.le_of_ble_eq_true rfl) (lv' := [(5, .int 1), (3, .long v0), (0, .long v0), (2, .int v2)]) rfl (fun ls hl => ?_)
  exact hL5 v0 v2 FU _ _ _ v0 1 (lv_sub hl [2, 3, 1, 0] rfl) hS h
noncomputable def tr_twos (v0 : Int64) : Option (Int32) :=
  bd1 (jl_bitCount (v0 &&& (su v0 1))) fun r_1 =>
  bd1 (jl_bitCount (v0 &&& (su v0 8))) fun r_3 =>
  some (r_1 + r_3)
set_option maxHeartbeats 4000000 in
set_option maxRecDepth 100000 in
theorem c_tr_twos (l : Launch) (v0 : Int64) (r : Int32) (h : tr_twos v0 = some r) : Met l yX9_twos (wm yX9_twos cX9_twos 2 (some .int)) (rmm 1 21) (va_Pc [.long v0] NW) (Qi r) 0 0 NoA := by
  refine met_s (y := yX9_twos) (rm := rmm 1 21) (by decide) (Nat.le_of_ble_eq_true rfl) ?_
  intro p e s m below meth c hx hb hr hw hown hlocks _ hml hN ls hl
  replace hl : lv_has ls 2 [(0, .long v0)] := hl
  have hS : va_S NoA s.heap s.heap [] := va_S.rf
  generalize (([.long v0] : List Value).toArray) = av at hw ⊢
  rw [tr_twos] at h
  refine lv_lload_n hx hb dX9_twos_0 rfl (lv_at hl 0 rfl) ?_
  refine lv_lload_n hx hb dX9_twos_1 rfl (lv_at hl 0 rfl) ?_
  refine lv_iconst (v := 1) hx hb dX9_twos_2 ki_1 ?_
  refine lv_lushr hx hb (v := su v0 1) dX9_twos_3 rfl ?_
  refine lv_land hx hb dX9_twos_4 ?_
  obtain ⟨r_5, hr_6, h⟩ := bd1_s h
  refine sc_i hx hb hml hown hw hN (c_jl_bitCount l (v0 &&& (su v0 1)) r_5 hr_6) g_RX9_9 hd_J13_bitCount_95d88 (rest := []) hl.1 hS dX9_twos_5 rfl rfl ⟨Nat.le_of_ble_eq_true rfl, Nat.le_of_ble_eq_true rfl⟩ rfl rfl (Nat.le_of_ble_eq_true rfl) ⟨Nat.zero_le _, Nat.zero_le _⟩ (fun H locs hk hS => ?_)
  refine lv_lload_n hx hb dX9_twos_8 rfl (lv_at hl 0 rfl) ?_
  refine lv_lload_n hx hb dX9_twos_9 rfl (lv_at hl 0 rfl) ?_
  refine lv_bipush (v := 8) hx hb dX9_twos_10 kb_8 ?_
  refine lv_lushr hx hb (v := su v0 8) dX9_twos_12 rfl ?_
  refine lv_land hx hb dX9_twos_13 ?_
  obtain ⟨r_7, hr_8, h⟩ := bd1_s h
  refine sc_i hx hb hml hown hw hN (c_jl_bitCount l (v0 &&& (su v0 8)) r_7 hr_8) g_RX9_9 hd_J13_bitCount_95d88 (rest := [.int r_5]) hl.1 hS dX9_twos_14 rfl rfl ⟨Nat.le_of_ble_eq_true rfl, Nat.le_of_ble_eq_true rfl⟩ rfl rfl (Nat.le_of_ble_eq_true rfl) ⟨Nat.zero_le _, Nat.zero_le _⟩ (fun H locs hk hS => ?_)
  refine lv_iadd hx hb dX9_twos_17 ?_
  exact rt_i hx hb hr hlocks hS dX9_twos_18 h
noncomputable def tr_same_J41 (k7 : Int32 → Int64 → Int32 → Option (Int32)) (v0 : Int64) (v2 : Int32) (v3 : Int64) (v5 : Int32)  : Option (Int32) :=
  nm (v5 + Int32.ofInt 1) fun v5_1 =>
  k7 v2 v3 v5_1
noncomputable def tr_same_J31 (k7 : Int32 → Int64 → Int32 → Option (Int32)) (v0 : Int64) (v2 : Int32) (v5 : Int32) (t0 : Int64) : Option (Int32) :=
  if t0 = v0 then (nm (v2 + Int32.ofInt 1) fun v2_2 =>
  tr_same_J41 k7 v0 v2_2 t0 v5) else
  tr_same_J41 k7 v0 v2 t0 v5
noncomputable def tr_same_B7 (v0 : Int64)  (k7 : Int32 → Int64 → Int32 → Option (Int32)) (v2 : Int32) (v3 : Int64) (v5 : Int32) : Option (Int32) :=
  if 8 ≤ v5 then (some v2) else
  if v5 = 4 then (bd1 (gr_mirrored v0) fun r_5 =>
  tr_same_J31 k7 v0 v2 v5 r_5) else
  bd1 (gr_quarter v3) fun r_3 =>
  tr_same_J31 k7 v0 v2 v5 r_3
noncomputable def tr_same (v0 : Int64) : Option (Int32) :=
  fl3 (tr_same_B7 v0) FU 1 v0 1
set_option maxHeartbeats 4000000 in
set_option maxRecDepth 100000 in
theorem c_tr_same (l : Launch) (v0 : Int64) (r : Int32) (h : tr_same v0 = some r) : Met l yX9_same (wm yX9_same cX9_same 6 (some .int)) (rmm 3 69) (va_Pc [.long v0] NW) (Qi r) 0 0 NoA := by
  refine met_s (y := yX9_same) (rm := rmm 3 69) (by decide) (Nat.le_of_ble_eq_true rfl) ?_
  intro p e s m below meth c hx hb hr hw hown hlocks _ hml hN ls hl
  replace hl : lv_has ls 6 [(0, .long v0)] := hl
  have hS : va_S NoA s.heap s.heap [] := va_S.rf
  generalize (([.long v0] : List Value).toArray) = av at hw ⊢
  rw [tr_same] at h
  have hL7 : ∀ (v0 : Int64), ∀ (n7 : Nat) (H : Heap) (locs : List Loc) (ls : Array Slot) (v2 : Int32) (v3 : Int64) (v5 : Int32), lv_has ls 6 [(0, .long v0), (2, .int v2), (3, .long v3), (5, .int v5)] → va_S NoA s.heap H locs → fl3 (tr_same_B7 v0) n7 v2 v3 v5 = some r → W p l e (rmm 3 69) s m av below meth c H locs 0 0 (MQ below (Qi r) av s 0 0 NoA) (F0 m 7 ls []) := by
    intro v0 n7
    induction n7 with
    | zero => intro H locs ls v2 v3 v5 hl hS h; cases h
    | succ n7 ih7 =>
      intro H locs ls v2 v3 v5 hl hS h
      replace h : tr_same_B7 v0 (fl3 (tr_same_B7 v0) n7) v2 v3 v5 = some r := h
      generalize fl3 (tr_same_B7 v0) n7 = k7 at h ih7
      have hJ41 : ∀ (H : Heap) (locs : List Loc) (ls : Array Slot) (v2 : Int32) (v3 : Int64) (v5 : Int32) , lv_has ls 6 [(0, .long v0), (2, .int v2), (3, .long v3), (5, .int v5)] → va_S NoA s.heap H locs → tr_same_J41 k7 v0 v2 v3 v5 = some r → W p l e (rmm 3 69) s m av below meth c H locs 0 0 (MQ below (Qi r) av s 0 0 NoA) (F0 m 41 ls []) := by
        intro H locs ls v2 v3 v5  hl hS h
        rw [tr_same_J41] at h
        obtain ⟨v5_7, ev5_7, h⟩ := nm_s h
        refine lv_iinc hx hb dX9_same_41 hl (k := 3) rfl ev5_7.symm (Nat.le_of_ble_eq_true rfl) (lv' := [(5, .int v5_7), (0, .long v0), (2, .int v2), (3, .long v3)]) rfl (fun ls hl => ?_)
        refine lv_goto hx hb dX9_same_44 (tgt := 7) rfl ?_
        exact ih7 _ _ _ v2 v3 v5_7 (lv_sub hl [1, 2, 3, 0] rfl) hS h
      have hJ31 : ∀ (H : Heap) (locs : List Loc) (ls : Array Slot) (v2 : Int32) (v5 : Int32) (t0 : Int64), lv_has ls 6 [(0, .long v0), (2, .int v2), (5, .int v5)] → va_S NoA s.heap H locs → tr_same_J31 k7 v0 v2 v5 t0 = some r → W p l e (rmm 3 69) s m av below meth c H locs 0 0 (MQ below (Qi r) av s 0 0 NoA) (F0 m 31 ls [.long t0]) := by
        intro H locs ls v2 v5 t0 hl hS h
        rw [tr_same_J31] at h
        refine lv_lstore_n hx hb dX9_same_31 rfl hl (Nat.le_of_ble_eq_true rfl) (lv' := [(3, .long t0), (0, .long v0), (2, .int v2), (5, .int v5)]) rfl (fun ls hl => ?_)
        refine lv_lload_n hx hb dX9_same_32 rfl (lv_at hl 0 rfl) ?_
        refine lv_lload_n hx hb dX9_same_33 rfl (lv_at hl 1 rfl) ?_
        refine W.lcmp hx hb dX9_same_34 ?_
        refine lv_if_ne hx hb dX9_same_35 (tgt := 41) rfl (fun hc => ?_) (fun hc => ?_)
        · replace h := ifn h (fun q => hc ((lg_cmp_eq _ _).mpr q))
          exact hJ41 _ _ _ v2 t0 v5 (lv_sub hl [1, 2, 0, 3] rfl) hS h
        · replace h := ifp h ((lg_cmp_eq _ _).mp hc)
          obtain ⟨v2_8, ev2_8, h⟩ := nm_s h
          refine lv_iinc hx hb dX9_same_38 hl (k := 2) rfl ev2_8.symm (Nat.le_of_ble_eq_true rfl) (lv' := [(2, .int v2_8), (3, .long t0), (0, .long v0), (5, .int v5)]) rfl (fun ls hl => ?_)
          exact hJ41 _ _ _ v2_8 t0 v5 (lv_sub hl [2, 0, 1, 3] rfl) hS h
      rw [tr_same_B7] at h
      refine lv_iload hx hb dX9_same_7 (lv_at hl 3 rfl) ?_
      refine lv_bipush (v := 8) hx hb dX9_same_9 kb_8 ?_
      refine lv_icmp_ge hx hb dX9_same_11 (tgt := 47) rfl (fun hc => ?_) (fun hc => ?_)
      · replace h := ifp h hc
        refine lv_iload_n hx hb dX9_same_47 rfl (lv_at hl 1 rfl) ?_
        exact rt_i hx hb hr hlocks hS dX9_same_48 h
      · replace h := ifn h hc
        refine lv_iload hx hb dX9_same_14 (lv_at hl 3 rfl) ?_
        refine lv_iconst (v := 4) hx hb dX9_same_16 ki_4 ?_
        refine lv_icmp_ne hx hb dX9_same_17 (tgt := 27) rfl (fun hc => ?_) (fun hc => ?_)
        · replace h := ifn h hc
          refine lv_lload_n hx hb dX9_same_27 rfl (lv_at hl 2 rfl) ?_
          obtain ⟨r_9, hr_10, h⟩ := bd1_s h
          refine sc_l hx hb hml hown hw hN (c_gr_quarter l v3 r_9 hr_10) g_RX9_93 hd_X2_quarter (rest := []) hl.1 hS dX9_same_28 rfl rfl ⟨Nat.le_of_ble_eq_true rfl, Nat.le_of_ble_eq_true rfl⟩ rfl rfl (Nat.le_of_ble_eq_true rfl) ⟨Nat.zero_le _, Nat.zero_le _⟩ (fun H locs hk hS => ?_)
          exact hJ31 _ _ _ v2 v5 r_9 (lv_sub hl [0, 1, 3] rfl) hS h
        · replace h := ifp h hc
          refine lv_lload_n hx hb dX9_same_20 rfl (lv_at hl 0 rfl) ?_
          obtain ⟨r_11, hr_12, h⟩ := bd1_s h
          refine sc_l hx hb hml hown hw hN (c_gr_mirrored l v0 r_11 hr_12) g_RX9_90 hd_X2_mirrored (rest := []) hl.1 hS dX9_same_21 rfl rfl ⟨Nat.le_of_ble_eq_true rfl, Nat.le_of_ble_eq_true rfl⟩ rfl rfl (Nat.le_of_ble_eq_true rfl) ⟨Nat.zero_le _, Nat.zero_le _⟩ (fun H locs hk hS => ?_)
          refine lv_goto hx hb dX9_same_24 (tgt := 31) rfl ?_
          exact hJ31 _ _ _ v2 v5 r_11 (lv_sub hl [0, 1, 3] rfl) hS h
  refine lv_iconst (v := 1) hx hb dX9_same_0 ki_1 ?_
  refine lv_istore_n hx hb dX9_same_1 rfl hl (Nat.le_of_ble_eq_true rfl) (lv' := [(2, .int 1), (0, .long v0)]) rfl (fun ls hl => ?_)
  refine lv_lload_n hx hb dX9_same_2 rfl (lv_at hl 1 rfl) ?_
  refine lv_lstore_n hx hb dX9_same_3 rfl hl (Nat.le_of_ble_eq_true rfl) (lv' := [(3, .long v0), (2, .int 1), (0, .long v0)]) rfl (fun ls hl => ?_)
  refine lv_iconst (v := 1) hx hb dX9_same_4 ki_1 ?_
  refine lv_istore hx hb dX9_same_5 hl (Nat.le_of_ble_eq_true rfl) (lv' := [(5, .int 1), (3, .long v0), (2, .int 1), (0, .long v0)]) rfl (fun ls hl => ?_)
  exact hL7 v0 FU _ _ _ 1 v0 1 (lv_sub hl [3, 2, 1, 0] rfl) hS h
noncomputable def tr_isColumnWhole (v0 : Int64) : Option (Int32) :=
  bd1 (jl_bitCount (v0 &&& ((sl v0 8) ^^^ (((-1) : Int64))))) fun r_1 =>
  bd1 (gr_width v0) fun r_3 =>
  if r_1 = r_3 then (zb 1 (some 1)) else
  zb 0 (some 0)
set_option maxHeartbeats 4000000 in
set_option maxRecDepth 100000 in
theorem c_tr_isColumnWhole (l : Launch) (v0 : Int64) (r : Int32) (h : tr_isColumnWhole v0 = some r) : Met l yX9_isColumnWhole (wm yX9_isColumnWhole cX9_isColumnWhole 2 (some .boolean)) (rmm 2 44) (va_Pc [.long v0] NW) (Qi r) 0 0 NoA := by
  refine met_s (y := yX9_isColumnWhole) (rm := rmm 2 44) (by decide) (Nat.le_of_ble_eq_true rfl) ?_
  intro p e s m below meth c hx hb hr hw hown hlocks _ hml hN ls hl
  replace hl : lv_has ls 2 [(0, .long v0)] := hl
  have hS : va_S NoA s.heap s.heap [] := va_S.rf
  generalize (([.long v0] : List Value).toArray) = av at hw ⊢
  rw [tr_isColumnWhole] at h
  refine lv_lload_n hx hb dX9_isColumnWhole_0 rfl (lv_at hl 0 rfl) ?_
  refine lv_lload_n hx hb dX9_isColumnWhole_1 rfl (lv_at hl 0 rfl) ?_
  refine lv_bipush (v := 8) hx hb dX9_isColumnWhole_2 kb_8 ?_
  refine lv_lshl hx hb (v := sl v0 8) dX9_isColumnWhole_4 rfl ?_
  refine lv_ldc2 hx hb hown (hw _ tw_14_17) dX9_isColumnWhole_5 ?_
  refine lv_lxor hx hb dX9_isColumnWhole_8 ?_
  refine lv_land hx hb dX9_isColumnWhole_9 ?_
  obtain ⟨r_5, hr_6, h⟩ := bd1_s h
  refine sc_i hx hb hml hown hw hN (c_jl_bitCount l (v0 &&& ((sl v0 8) ^^^ (((-1) : Int64)))) r_5 hr_6) g_RX9_9 hd_J13_bitCount_95d88 (rest := []) hl.1 hS dX9_isColumnWhole_10 rfl rfl ⟨Nat.le_of_ble_eq_true rfl, Nat.le_of_ble_eq_true rfl⟩ rfl rfl (Nat.le_of_ble_eq_true rfl) ⟨Nat.zero_le _, Nat.zero_le _⟩ (fun H locs hk hS => ?_)
  refine lv_lload_n hx hb dX9_isColumnWhole_13 rfl (lv_at hl 0 rfl) ?_
  obtain ⟨r_7, hr_8, h⟩ := bd1_s h
  refine sc_i hx hb hml hown hw hN (c_gr_width l v0 r_7 hr_8) g_RX9_15 hd_X2_width (rest := [.int r_5]) hl.1 hS dX9_isColumnWhole_14 rfl rfl ⟨Nat.le_of_ble_eq_true rfl, Nat.le_of_ble_eq_true rfl⟩ rfl rfl (Nat.le_of_ble_eq_true rfl) ⟨Nat.zero_le _, Nat.zero_le _⟩ (fun H locs hk hS => ?_)
  refine lv_icmp_ne hx hb dX9_isColumnWhole_17 (tgt := 24) rfl (fun hc => ?_) (fun hc => ?_)
  · replace h := ifn h hc
    refine lv_iconst (v := 0) hx hb dX9_isColumnWhole_24 ki_0 ?_
    exact rt_z hx hb hr hlocks hS dX9_isColumnWhole_25 h
  · replace h := ifp h hc
    refine lv_iconst (v := 1) hx hb dX9_isColumnWhole_20 ki_1 ?_
    refine lv_goto hx hb dX9_isColumnWhole_21 (tgt := 25) rfl ?_
    exact rt_z hx hb hr hlocks hS dX9_isColumnWhole_25 h
noncomputable def tr_isRowWhole (v0 : Int64) : Option (Int32) :=
  bd1 (jl_bitCount (v0 &&& ((sl v0 1) ^^^ (((-1) : Int64))))) fun r_1 =>
  bd1 (gr_height v0) fun r_3 =>
  if r_1 = r_3 then (zb 1 (some 1)) else
  zb 0 (some 0)
set_option maxHeartbeats 4000000 in
set_option maxRecDepth 100000 in
theorem c_tr_isRowWhole (l : Launch) (v0 : Int64) (r : Int32) (h : tr_isRowWhole v0 = some r) : Met l yX9_isRowWhole (wm yX9_isRowWhole cX9_isRowWhole 2 (some .boolean)) (rmm 2 44) (va_Pc [.long v0] NW) (Qi r) 0 0 NoA := by
  refine met_s (y := yX9_isRowWhole) (rm := rmm 2 44) (by decide) (Nat.le_of_ble_eq_true rfl) ?_
  intro p e s m below meth c hx hb hr hw hown hlocks _ hml hN ls hl
  replace hl : lv_has ls 2 [(0, .long v0)] := hl
  have hS : va_S NoA s.heap s.heap [] := va_S.rf
  generalize (([.long v0] : List Value).toArray) = av at hw ⊢
  rw [tr_isRowWhole] at h
  refine lv_lload_n hx hb dX9_isRowWhole_0 rfl (lv_at hl 0 rfl) ?_
  refine lv_lload_n hx hb dX9_isRowWhole_1 rfl (lv_at hl 0 rfl) ?_
  refine lv_iconst (v := 1) hx hb dX9_isRowWhole_2 ki_1 ?_
  refine lv_lshl hx hb (v := sl v0 1) dX9_isRowWhole_3 rfl ?_
  refine lv_ldc2 hx hb hown (hw _ tw_14_17) dX9_isRowWhole_4 ?_
  refine lv_lxor hx hb dX9_isRowWhole_7 ?_
  refine lv_land hx hb dX9_isRowWhole_8 ?_
  obtain ⟨r_5, hr_6, h⟩ := bd1_s h
  refine sc_i hx hb hml hown hw hN (c_jl_bitCount l (v0 &&& ((sl v0 1) ^^^ (((-1) : Int64)))) r_5 hr_6) g_RX9_9 hd_J13_bitCount_95d88 (rest := []) hl.1 hS dX9_isRowWhole_9 rfl rfl ⟨Nat.le_of_ble_eq_true rfl, Nat.le_of_ble_eq_true rfl⟩ rfl rfl (Nat.le_of_ble_eq_true rfl) ⟨Nat.zero_le _, Nat.zero_le _⟩ (fun H locs hk hS => ?_)
  refine lv_lload_n hx hb dX9_isRowWhole_12 rfl (lv_at hl 0 rfl) ?_
  obtain ⟨r_7, hr_8, h⟩ := bd1_s h
  refine sc_i hx hb hml hown hw hN (c_gr_height l v0 r_7 hr_8) g_RX9_20 hd_X2_height (rest := [.int r_5]) hl.1 hS dX9_isRowWhole_13 rfl rfl ⟨Nat.le_of_ble_eq_true rfl, Nat.le_of_ble_eq_true rfl⟩ rfl rfl (Nat.le_of_ble_eq_true rfl) ⟨Nat.zero_le _, Nat.zero_le _⟩ (fun H locs hk hS => ?_)
  refine lv_icmp_ne hx hb dX9_isRowWhole_16 (tgt := 23) rfl (fun hc => ?_) (fun hc => ?_)
  · replace h := ifn h hc
    refine lv_iconst (v := 0) hx hb dX9_isRowWhole_23 ki_0 ?_
    exact rt_z hx hb hr hlocks hS dX9_isRowWhole_24 h
  · replace h := ifp h hc
    refine lv_iconst (v := 1) hx hb dX9_isRowWhole_19 ki_1 ?_
    refine lv_goto hx hb dX9_isRowWhole_20 (tgt := 24) rfl ?_
    exact rt_z hx hb hr hlocks hS dX9_isRowWhole_24 h
noncomputable def tr_squares (v0 : Int64) : Option (Int32) :=
  bd1 (jl_bitCount (((v0 &&& (sl v0 1)) &&& (sl v0 8)) &&& (sl v0 9))) fun r_1 =>
  some r_1
set_option maxHeartbeats 4000000 in
set_option maxRecDepth 100000 in
theorem c_tr_squares (l : Launch) (v0 : Int64) (r : Int32) (h : tr_squares v0 = some r) : Met l yX9_squares (wm yX9_squares cX9_squares 2 (some .int)) (rmm 1 21) (va_Pc [.long v0] NW) (Qi r) 0 0 NoA := by
  refine met_s (y := yX9_squares) (rm := rmm 1 21) (by decide) (Nat.le_of_ble_eq_true rfl) ?_
  intro p e s m below meth c hx hb hr hw hown hlocks _ hml hN ls hl
  replace hl : lv_has ls 2 [(0, .long v0)] := hl
  have hS : va_S NoA s.heap s.heap [] := va_S.rf
  generalize (([.long v0] : List Value).toArray) = av at hw ⊢
  rw [tr_squares] at h
  refine lv_lload_n hx hb dX9_squares_0 rfl (lv_at hl 0 rfl) ?_
  refine lv_lload_n hx hb dX9_squares_1 rfl (lv_at hl 0 rfl) ?_
  refine lv_iconst (v := 1) hx hb dX9_squares_2 ki_1 ?_
  refine lv_lshl hx hb (v := sl v0 1) dX9_squares_3 rfl ?_
  refine lv_land hx hb dX9_squares_4 ?_
  refine lv_lload_n hx hb dX9_squares_5 rfl (lv_at hl 0 rfl) ?_
  refine lv_bipush (v := 8) hx hb dX9_squares_6 kb_8 ?_
  refine lv_lshl hx hb (v := sl v0 8) dX9_squares_8 rfl ?_
  refine lv_land hx hb dX9_squares_9 ?_
  refine lv_lload_n hx hb dX9_squares_10 rfl (lv_at hl 0 rfl) ?_
  refine lv_bipush (v := 9) hx hb dX9_squares_11 kb_9 ?_
  refine lv_lshl hx hb (v := sl v0 9) dX9_squares_13 rfl ?_
  refine lv_land hx hb dX9_squares_14 ?_
  obtain ⟨r_3, hr_4, h⟩ := bd1_s h
  refine sc_i hx hb hml hown hw hN (c_jl_bitCount l (((v0 &&& (sl v0 1)) &&& (sl v0 8)) &&& (sl v0 9)) r_3 hr_4) g_RX9_9 hd_J13_bitCount_95d88 (rest := []) hl.1 hS dX9_squares_15 rfl rfl ⟨Nat.le_of_ble_eq_true rfl, Nat.le_of_ble_eq_true rfl⟩ rfl rfl (Nat.le_of_ble_eq_true rfl) ⟨Nat.zero_le _, Nat.zero_le _⟩ (fun H locs hk hS => ?_)
  exact rt_i hx hb hr hlocks hS dX9_squares_18 h
noncomputable def tr_threes (v0 : Int64) : Option (Int64) :=
  nm (sl v0 1 : Int64) fun v4_1 =>
  nm (sl v0 8 : Int64) fun v6_2 =>
  nm (sl v0 9 : Int64) fun v8_3 =>
  some (((v0 &&& v4_1) &&& (v6_2 ^^^ v8_3)) ||| ((v6_2 &&& v8_3) &&& (v0 ^^^ v4_1)))
set_option maxHeartbeats 4000000 in
set_option maxRecDepth 100000 in
theorem c_tr_threes (l : Launch) (v0 : Int64) (r : Int64) (h : tr_threes v0 = some r) : Met l yX9_threes (wm yX9_threes cX9_threes 10 (some .long)) (rmm 0 0) (va_Pc [.long v0] NW) (Ql r) 0 0 NoA := by
  refine met_s (y := yX9_threes) (rm := rmm 0 0) (by decide) (Nat.le_of_ble_eq_true rfl) ?_
  intro p e s m below meth c hx hb hr hw hown hlocks _ hml hN ls hl
  replace hl : lv_has ls 10 [(0, .long v0)] := hl
  have hS : va_S NoA s.heap s.heap [] := va_S.rf
  generalize (([.long v0] : List Value).toArray) = av at hw ⊢
  rw [tr_threes] at h
  refine lv_lload_n hx hb dX9_threes_0 rfl (lv_at hl 0 rfl) ?_
  refine lv_lstore_n hx hb dX9_threes_1 rfl hl (Nat.le_of_ble_eq_true rfl) (lv' := [(2, .long v0), (0, .long v0)]) rfl (fun ls hl => ?_)
  refine lv_lload_n hx hb dX9_threes_2 rfl (lv_at hl 1 rfl) ?_
  refine lv_iconst (v := 1) hx hb dX9_threes_3 ki_1 ?_
  refine lv_lshl hx hb (v := sl v0 1) dX9_threes_4 rfl ?_
  obtain ⟨v4_4, ev4_4, h⟩ := nm_s h
  refine nmL ev4_4 ?_
  refine lv_lstore hx hb dX9_threes_5 hl (Nat.le_of_ble_eq_true rfl) (lv' := [(4, .long v4_4), (2, .long v0), (0, .long v0)]) rfl (fun ls hl => ?_)
  refine lv_lload_n hx hb dX9_threes_7 rfl (lv_at hl 2 rfl) ?_
  refine lv_bipush (v := 8) hx hb dX9_threes_8 kb_8 ?_
  refine lv_lshl hx hb (v := sl v0 8) dX9_threes_10 rfl ?_
  obtain ⟨v6_5, ev6_5, h⟩ := nm_s h
  refine nmL ev6_5 ?_
  refine lv_lstore hx hb dX9_threes_11 hl (Nat.le_of_ble_eq_true rfl) (lv' := [(6, .long v6_5), (4, .long v4_4), (2, .long v0), (0, .long v0)]) rfl (fun ls hl => ?_)
  refine lv_lload_n hx hb dX9_threes_13 rfl (lv_at hl 3 rfl) ?_
  refine lv_bipush (v := 9) hx hb dX9_threes_14 kb_9 ?_
  refine lv_lshl hx hb (v := sl v0 9) dX9_threes_16 rfl ?_
  obtain ⟨v8_6, ev8_6, h⟩ := nm_s h
  refine nmL ev8_6 ?_
  refine lv_lstore hx hb dX9_threes_17 hl (Nat.le_of_ble_eq_true rfl) (lv' := [(8, .long v8_6), (6, .long v6_5), (4, .long v4_4), (2, .long v0), (0, .long v0)]) rfl (fun ls hl => ?_)
  refine lv_lload_n hx hb dX9_threes_19 rfl (lv_at hl 3 rfl) ?_
  refine lv_lload hx hb dX9_threes_20 (lv_at hl 2 rfl) ?_
  refine lv_land hx hb dX9_threes_22 ?_
  refine lv_lload hx hb dX9_threes_23 (lv_at hl 1 rfl) ?_
  refine lv_lload hx hb dX9_threes_25 (lv_at hl 0 rfl) ?_
  refine lv_lxor hx hb dX9_threes_27 ?_
  refine lv_land hx hb dX9_threes_28 ?_
  refine lv_lload hx hb dX9_threes_29 (lv_at hl 1 rfl) ?_
  refine lv_lload hx hb dX9_threes_31 (lv_at hl 0 rfl) ?_
  refine lv_land hx hb dX9_threes_33 ?_
  refine lv_lload_n hx hb dX9_threes_34 rfl (lv_at hl 3 rfl) ?_
  refine lv_lload hx hb dX9_threes_35 (lv_at hl 2 rfl) ?_
  refine lv_lxor hx hb dX9_threes_37 ?_
  refine lv_land hx hb dX9_threes_38 ?_
  refine lv_lor hx hb dX9_threes_39 ?_
  exact rt_l hx hb hr hlocks hS dX9_threes_40 h
noncomputable def tr_aslant (v0 : Int64) : Option (Int64) :=
  nm (v0 &&& (sl v0 9) : Int64) fun v2_1 =>
  nm ((sl v0 1) &&& (sl v0 8) : Int64) fun v4_2 =>
  some ((v2_1 &&& (((sl v0 1) ||| (sl v0 8)) ^^^ (((-1) : Int64)))) ||| (v4_2 &&& ((v0 ||| (sl v0 9)) ^^^ (((-1) : Int64)))))
set_option maxHeartbeats 4000000 in
set_option maxRecDepth 100000 in
theorem c_tr_aslant (l : Launch) (v0 : Int64) (r : Int64) (h : tr_aslant v0 = some r) : Met l yX9_aslant (wm yX9_aslant cX9_aslant 6 (some .long)) (rmm 0 0) (va_Pc [.long v0] NW) (Ql r) 0 0 NoA := by
  refine met_s (y := yX9_aslant) (rm := rmm 0 0) (by decide) (Nat.le_of_ble_eq_true rfl) ?_
  intro p e s m below meth c hx hb hr hw hown hlocks _ hml hN ls hl
  replace hl : lv_has ls 6 [(0, .long v0)] := hl
  have hS : va_S NoA s.heap s.heap [] := va_S.rf
  generalize (([.long v0] : List Value).toArray) = av at hw ⊢
  rw [tr_aslant] at h
  refine lv_lload_n hx hb dX9_aslant_0 rfl (lv_at hl 0 rfl) ?_
  refine lv_lload_n hx hb dX9_aslant_1 rfl (lv_at hl 0 rfl) ?_
  refine lv_bipush (v := 9) hx hb dX9_aslant_2 kb_9 ?_
  refine lv_lshl hx hb (v := sl v0 9) dX9_aslant_4 rfl ?_
  refine lv_land hx hb dX9_aslant_5 ?_
  obtain ⟨v2_3, ev2_3, h⟩ := nm_s h
  refine nmL ev2_3 ?_
  refine lv_lstore_n hx hb dX9_aslant_6 rfl hl (Nat.le_of_ble_eq_true rfl) (lv' := [(2, .long v2_3), (0, .long v0)]) rfl (fun ls hl => ?_)
  refine lv_lload_n hx hb dX9_aslant_7 rfl (lv_at hl 1 rfl) ?_
  refine lv_iconst (v := 1) hx hb dX9_aslant_8 ki_1 ?_
  refine lv_lshl hx hb (v := sl v0 1) dX9_aslant_9 rfl ?_
  refine lv_lload_n hx hb dX9_aslant_10 rfl (lv_at hl 1 rfl) ?_
  refine lv_bipush (v := 8) hx hb dX9_aslant_11 kb_8 ?_
  refine lv_lshl hx hb (v := sl v0 8) dX9_aslant_13 rfl ?_
  refine lv_land hx hb dX9_aslant_14 ?_
  obtain ⟨v4_4, ev4_4, h⟩ := nm_s h
  refine nmL ev4_4 ?_
  refine lv_lstore hx hb dX9_aslant_15 hl (Nat.le_of_ble_eq_true rfl) (lv' := [(4, .long v4_4), (2, .long v2_3), (0, .long v0)]) rfl (fun ls hl => ?_)
  refine lv_lload_n hx hb dX9_aslant_17 rfl (lv_at hl 1 rfl) ?_
  refine lv_lload_n hx hb dX9_aslant_18 rfl (lv_at hl 2 rfl) ?_
  refine lv_iconst (v := 1) hx hb dX9_aslant_19 ki_1 ?_
  refine lv_lshl hx hb (v := sl v0 1) dX9_aslant_20 rfl ?_
  refine lv_lload_n hx hb dX9_aslant_21 rfl (lv_at hl 2 rfl) ?_
  refine lv_bipush (v := 8) hx hb dX9_aslant_22 kb_8 ?_
  refine lv_lshl hx hb (v := sl v0 8) dX9_aslant_24 rfl ?_
  refine lv_lor hx hb dX9_aslant_25 ?_
  refine lv_ldc2 hx hb hown (hw _ tw_14_17) dX9_aslant_26 ?_
  refine lv_lxor hx hb dX9_aslant_29 ?_
  refine lv_land hx hb dX9_aslant_30 ?_
  refine lv_lload hx hb dX9_aslant_31 (lv_at hl 0 rfl) ?_
  refine lv_lload_n hx hb dX9_aslant_33 rfl (lv_at hl 2 rfl) ?_
  refine lv_lload_n hx hb dX9_aslant_34 rfl (lv_at hl 2 rfl) ?_
  refine lv_bipush (v := 9) hx hb dX9_aslant_35 kb_9 ?_
  refine lv_lshl hx hb (v := sl v0 9) dX9_aslant_37 rfl ?_
  refine lv_lor hx hb dX9_aslant_38 ?_
  refine lv_ldc2 hx hb hown (hw _ tw_14_17) dX9_aslant_39 ?_
  refine lv_lxor hx hb dX9_aslant_42 ?_
  refine lv_land hx hb dX9_aslant_43 ?_
  refine lv_lor hx hb dX9_aslant_44 ?_
  exact rt_l hx hb hr hlocks hS dX9_aslant_45 h
noncomputable def tr_outer (v0 : Int64) : Option (Int32) :=
  nm (((v0 ^^^ (sl v0 1)) ^^^ (sl v0 8)) ^^^ (sl v0 9) : Int64) fun v2_1 =>
  bd1 (tr_threes v0) fun r_2 =>
  bd1 (jl_bitCount (v2_1 &&& (r_2 ^^^ (((-1) : Int64))))) fun r_4 =>
  bd1 (tr_aslant v0) fun r_6 =>
  bd1 (jl_bitCount r_6) fun r_8 =>
  some (r_4 + (2 * r_8))
set_option maxHeartbeats 4000000 in
set_option maxRecDepth 100000 in
theorem c_tr_outer (l : Launch) (v0 : Int64) (r : Int32) (h : tr_outer v0 = some r) : Met l yX9_outer (wm yX9_outer cX9_outer 4 (some .int)) (rmm 1 29) (va_Pc [.long v0] NW) (Qi r) 0 0 NoA := by
  refine met_s (y := yX9_outer) (rm := rmm 1 29) (by decide) (Nat.le_of_ble_eq_true rfl) ?_
  intro p e s m below meth c hx hb hr hw hown hlocks _ hml hN ls hl
  replace hl : lv_has ls 4 [(0, .long v0)] := hl
  have hS : va_S NoA s.heap s.heap [] := va_S.rf
  generalize (([.long v0] : List Value).toArray) = av at hw ⊢
  rw [tr_outer] at h
  refine lv_lload_n hx hb dX9_outer_0 rfl (lv_at hl 0 rfl) ?_
  refine lv_lload_n hx hb dX9_outer_1 rfl (lv_at hl 0 rfl) ?_
  refine lv_iconst (v := 1) hx hb dX9_outer_2 ki_1 ?_
  refine lv_lshl hx hb (v := sl v0 1) dX9_outer_3 rfl ?_
  refine lv_lxor hx hb dX9_outer_4 ?_
  refine lv_lload_n hx hb dX9_outer_5 rfl (lv_at hl 0 rfl) ?_
  refine lv_bipush (v := 8) hx hb dX9_outer_6 kb_8 ?_
  refine lv_lshl hx hb (v := sl v0 8) dX9_outer_8 rfl ?_
  refine lv_lxor hx hb dX9_outer_9 ?_
  refine lv_lload_n hx hb dX9_outer_10 rfl (lv_at hl 0 rfl) ?_
  refine lv_bipush (v := 9) hx hb dX9_outer_11 kb_9 ?_
  refine lv_lshl hx hb (v := sl v0 9) dX9_outer_13 rfl ?_
  refine lv_lxor hx hb dX9_outer_14 ?_
  obtain ⟨v2_10, ev2_10, h⟩ := nm_s h
  refine nmL ev2_10 ?_
  refine lv_lstore_n hx hb dX9_outer_15 rfl hl (Nat.le_of_ble_eq_true rfl) (lv' := [(2, .long v2_10), (0, .long v0)]) rfl (fun ls hl => ?_)
  refine lv_lload_n hx hb dX9_outer_16 rfl (lv_at hl 0 rfl) ?_
  refine lv_lload_n hx hb dX9_outer_17 rfl (lv_at hl 1 rfl) ?_
  obtain ⟨r_11, hr_12, h⟩ := bd1_s h
  refine sc_l hx hb hml hown hw hN (c_tr_threes l v0 r_11 hr_12) g_RX9_44 hd_X9_threes (rest := [.long v2_10]) hl.1 hS dX9_outer_18 rfl rfl ⟨Nat.le_of_ble_eq_true rfl, Nat.le_of_ble_eq_true rfl⟩ rfl rfl (Nat.le_of_ble_eq_true rfl) ⟨Nat.zero_le _, Nat.zero_le _⟩ (fun H locs hk hS => ?_)
  refine lv_ldc2 hx hb hown (hw _ tw_14_17) dX9_outer_21 ?_
  refine lv_lxor hx hb dX9_outer_24 ?_
  refine lv_land hx hb dX9_outer_25 ?_
  obtain ⟨r_13, hr_14, h⟩ := bd1_s h
  refine sc_i hx hb hml hown hw hN (c_jl_bitCount l (v2_10 &&& (r_11 ^^^ (((-1) : Int64)))) r_13 hr_14) g_RX9_9 hd_J13_bitCount_95d88 (rest := []) hl.1 hS dX9_outer_26 rfl rfl ⟨Nat.le_of_ble_eq_true rfl, Nat.le_of_ble_eq_true rfl⟩ rfl rfl (Nat.le_of_ble_eq_true rfl) ⟨Nat.zero_le _, Nat.zero_le _⟩ (fun H locs hk hS => ?_)
  refine lv_iconst (v := 2) hx hb dX9_outer_29 ki_2 ?_
  refine lv_lload_n hx hb dX9_outer_30 rfl (lv_at hl 1 rfl) ?_
  obtain ⟨r_15, hr_16, h⟩ := bd1_s h
  refine sc_l hx hb hml hown hw hN (c_tr_aslant l v0 r_15 hr_16) g_RX9_87 hd_X9_aslant (rest := [.int 2, .int r_13]) hl.1 hS dX9_outer_31 rfl rfl ⟨Nat.le_of_ble_eq_true rfl, Nat.le_of_ble_eq_true rfl⟩ rfl rfl (Nat.le_of_ble_eq_true rfl) ⟨Nat.zero_le _, Nat.zero_le _⟩ (fun H locs hk hS => ?_)
  obtain ⟨r_17, hr_18, h⟩ := bd1_s h
  refine sc_i hx hb hml hown hw hN (c_jl_bitCount l r_15 r_17 hr_18) g_RX9_9 hd_J13_bitCount_95d88 (rest := [.int 2, .int r_13]) hl.1 hS dX9_outer_34 rfl rfl ⟨Nat.le_of_ble_eq_true rfl, Nat.le_of_ble_eq_true rfl⟩ rfl rfl (Nat.le_of_ble_eq_true rfl) ⟨Nat.zero_le _, Nat.zero_le _⟩ (fun H locs hk hS => ?_)
  refine lv_imul hx hb dX9_outer_37 ?_
  refine lv_iadd hx hb dX9_outer_38 ?_
  exact rt_i hx hb hr hlocks hS dX9_outer_39 h
noncomputable def tr_beside (v0 : Int64) : Option (Int32) :=
  bd1 (gr_around v0) fun r_1 =>
  bd1 (jl_bitCount ((r_1 &&& (v0 ^^^ (((-1) : Int64)))) &&& (35887507618889599 : Int64))) fun r_3 =>
  bd1 (jl_bitCount (v0 &&& (72340172838076673 : Int64))) fun r_5 =>
  bd1 (jl_bitCount (v0 &&& (4629771061636907072 : Int64))) fun r_7 =>
  bd1 (jl_bitCount (v0 &&& (255 : Int64))) fun r_9 =>
  bd1 (jl_bitCount (v0 &&& (71776119061217280 : Int64))) fun r_11 =>
  some ((((r_3 + r_5) + r_7) + r_9) + r_11)
set_option maxHeartbeats 4000000 in
set_option maxRecDepth 100000 in
theorem c_tr_beside (l : Launch) (v0 : Int64) (r : Int32) (h : tr_beside v0 = some r) : Met l yX9_beside (wm yX9_beside cX9_beside 2 (some .int)) (rmm 1 21) (va_Pc [.long v0] NW) (Qi r) 0 0 NoA := by
  refine met_s (y := yX9_beside) (rm := rmm 1 21) (by decide) (Nat.le_of_ble_eq_true rfl) ?_
  intro p e s m below meth c hx hb hr hw hown hlocks _ hml hN ls hl
  replace hl : lv_has ls 2 [(0, .long v0)] := hl
  have hS : va_S NoA s.heap s.heap [] := va_S.rf
  generalize (([.long v0] : List Value).toArray) = av at hw ⊢
  rw [tr_beside] at h
  refine lv_lload_n hx hb dX9_beside_0 rfl (lv_at hl 0 rfl) ?_
  obtain ⟨r_13, hr_14, h⟩ := bd1_s h
  refine sc_l hx hb hml hown hw hN (c_gr_around l v0 r_13 hr_14) g_RX9_76 hd_X2_around (rest := []) hl.1 hS dX9_beside_1 rfl rfl ⟨Nat.le_of_ble_eq_true rfl, Nat.le_of_ble_eq_true rfl⟩ rfl rfl (Nat.le_of_ble_eq_true rfl) ⟨Nat.zero_le _, Nat.zero_le _⟩ (fun H locs hk hS => ?_)
  refine lv_lload_n hx hb dX9_beside_4 rfl (lv_at hl 0 rfl) ?_
  refine lv_ldc2 hx hb hown (hw _ tw_14_17) dX9_beside_5 ?_
  refine lv_lxor hx hb dX9_beside_8 ?_
  refine lv_land hx hb dX9_beside_9 ?_
  refine lv_ldc2 hx hb hown (hw _ tw_14_21) dX9_beside_10 ?_
  refine lv_land hx hb dX9_beside_13 ?_
  obtain ⟨r_15, hr_16, h⟩ := bd1_s h
  refine sc_i hx hb hml hown hw hN (c_jl_bitCount l ((r_13 &&& (v0 ^^^ (((-1) : Int64)))) &&& (35887507618889599 : Int64)) r_15 hr_16) g_RX9_9 hd_J13_bitCount_95d88 (rest := []) hl.1 hS dX9_beside_14 rfl rfl ⟨Nat.le_of_ble_eq_true rfl, Nat.le_of_ble_eq_true rfl⟩ rfl rfl (Nat.le_of_ble_eq_true rfl) ⟨Nat.zero_le _, Nat.zero_le _⟩ (fun H locs hk hS => ?_)
  refine lv_lload_n hx hb dX9_beside_17 rfl (lv_at hl 0 rfl) ?_
  refine lv_ldc2 hx hb hown (hw _ tw_15_7) dX9_beside_18 ?_
  refine lv_land hx hb dX9_beside_21 ?_
  obtain ⟨r_17, hr_18, h⟩ := bd1_s h
  refine sc_i hx hb hml hown hw hN (c_jl_bitCount l (v0 &&& (72340172838076673 : Int64)) r_17 hr_18) g_RX9_9 hd_J13_bitCount_95d88 (rest := [.int r_15]) hl.1 hS dX9_beside_22 rfl rfl ⟨Nat.le_of_ble_eq_true rfl, Nat.le_of_ble_eq_true rfl⟩ rfl rfl (Nat.le_of_ble_eq_true rfl) ⟨Nat.zero_le _, Nat.zero_le _⟩ (fun H locs hk hS => ?_)
  refine lv_iadd hx hb dX9_beside_25 ?_
  refine lv_lload_n hx hb dX9_beside_26 rfl (lv_at hl 0 rfl) ?_
  refine lv_ldc2 hx hb hown (hw _ tw_15_8) dX9_beside_27 ?_
  refine lv_land hx hb dX9_beside_30 ?_
  obtain ⟨r_19, hr_20, h⟩ := bd1_s h
  refine sc_i hx hb hml hown hw hN (c_jl_bitCount l (v0 &&& (4629771061636907072 : Int64)) r_19 hr_20) g_RX9_9 hd_J13_bitCount_95d88 (rest := [.int (r_15 + r_17)]) hl.1 hS dX9_beside_31 rfl rfl ⟨Nat.le_of_ble_eq_true rfl, Nat.le_of_ble_eq_true rfl⟩ rfl rfl (Nat.le_of_ble_eq_true rfl) ⟨Nat.zero_le _, Nat.zero_le _⟩ (fun H locs hk hS => ?_)
  refine lv_iadd hx hb dX9_beside_34 ?_
  refine lv_lload_n hx hb dX9_beside_35 rfl (lv_at hl 0 rfl) ?_
  refine lv_ldc2 hx hb hown (hw _ tw_15_9) dX9_beside_36 ?_
  refine lv_land hx hb dX9_beside_39 ?_
  obtain ⟨r_21, hr_22, h⟩ := bd1_s h
  refine sc_i hx hb hml hown hw hN (c_jl_bitCount l (v0 &&& (255 : Int64)) r_21 hr_22) g_RX9_9 hd_J13_bitCount_95d88 (rest := [.int ((r_15 + r_17) + r_19)]) hl.1 hS dX9_beside_40 rfl rfl ⟨Nat.le_of_ble_eq_true rfl, Nat.le_of_ble_eq_true rfl⟩ rfl rfl (Nat.le_of_ble_eq_true rfl) ⟨Nat.zero_le _, Nat.zero_le _⟩ (fun H locs hk hS => ?_)
  refine lv_iadd hx hb dX9_beside_43 ?_
  refine lv_lload_n hx hb dX9_beside_44 rfl (lv_at hl 0 rfl) ?_
  refine lv_ldc2 hx hb hown (hw _ tw_15_10) dX9_beside_45 ?_
  refine lv_land hx hb dX9_beside_48 ?_
  obtain ⟨r_23, hr_24, h⟩ := bd1_s h
  refine sc_i hx hb hml hown hw hN (c_jl_bitCount l (v0 &&& (71776119061217280 : Int64)) r_23 hr_24) g_RX9_9 hd_J13_bitCount_95d88 (rest := [.int (((r_15 + r_17) + r_19) + r_21)]) hl.1 hS dX9_beside_49 rfl rfl ⟨Nat.le_of_ble_eq_true rfl, Nat.le_of_ble_eq_true rfl⟩ rfl rfl (Nat.le_of_ble_eq_true rfl) ⟨Nat.zero_le _, Nat.zero_le _⟩ (fun H locs hk hS => ?_)
  refine lv_iadd hx hb dX9_beside_52 ?_
  exact rt_i hx hb hr hlocks hS dX9_beside_53 h
noncomputable def gr_reach_B8 (v2 : Int64)  (k8 : Int64 → Int32 → Option (Int64)) (v4 : Int64) (v6 : Int32) : Option (Int64) :=
  if 64 ≤ v6 then (some v4) else
  bd1 (gr_around v4) fun r_1 =>
  nm (v4 ||| (r_1 &&& v2) : Int64) fun v7_3 =>
  if v7_3 = v4 then (some v4) else
  nm (v6 + Int32.ofInt 1) fun v6_4 =>
  k8 v7_3 v6_4
noncomputable def gr_reach (v0 : Int64) (v2 : Int64) : Option (Int64) :=
  nm (v0 &&& v2 : Int64) fun v4_5 =>
  fl2 (gr_reach_B8 v2) FU v4_5 0
set_option maxHeartbeats 4000000 in
set_option maxRecDepth 100000 in
theorem c_gr_reach (l : Launch) (v0 : Int64) (v2 : Int64) (r : Int64) (h : gr_reach v0 v2 = some r) : Met l yX2_reach (wm yX2_reach cX2_reach 9 (some .long)) (rmm 1 21) (va_Pc [.long v0, .long v2] NW) (Ql r) 0 0 NoA := by
  refine met_s (y := yX2_reach) (rm := rmm 1 21) (by decide) (Nat.le_of_ble_eq_true rfl) ?_
  intro p e s m below meth c hx hb hr hw hown hlocks _ hml hN ls hl
  replace hl : lv_has ls 9 [(0, .long v0), (2, .long v2)] := hl
  have hS : va_S NoA s.heap s.heap [] := va_S.rf
  generalize (([.long v0, .long v2] : List Value).toArray) = av at hw ⊢
  rw [gr_reach] at h
  have hL8 : ∀ (v2 : Int64), ∀ (n8 : Nat) (H : Heap) (locs : List Loc) (ls : Array Slot) (v4 : Int64) (v6 : Int32), lv_has ls 9 [(2, .long v2), (4, .long v4), (6, .int v6)] → va_S NoA s.heap H locs → fl2 (gr_reach_B8 v2) n8 v4 v6 = some r → W p l e (rmm 1 21) s m av below meth c H locs 0 0 (MQ below (Ql r) av s 0 0 NoA) (F0 m 8 ls []) := by
    intro v2 n8
    induction n8 with
    | zero => intro H locs ls v4 v6 hl hS h; cases h
    | succ n8 ih8 =>
      intro H locs ls v4 v6 hl hS h
      replace h : gr_reach_B8 v2 (fl2 (gr_reach_B8 v2) n8) v4 v6 = some r := h
      generalize fl2 (gr_reach_B8 v2) n8 = k8 at h ih8
      rw [gr_reach_B8] at h
      refine lv_iload hx hb dX2_reach_8 (lv_at hl 2 rfl) ?_
      refine lv_bipush (v := 64) hx hb dX2_reach_10 kb_64 ?_
      refine lv_icmp_ge hx hb dX2_reach_12 (tgt := 48) rfl (fun hc => ?_) (fun hc => ?_)
      · replace h := ifp h hc
        refine lv_lload hx hb dX2_reach_48 (lv_at hl 1 rfl) ?_
        exact rt_l hx hb hr hlocks hS dX2_reach_50 h
      · replace h := ifn h hc
        refine lv_lload hx hb dX2_reach_15 (lv_at hl 1 rfl) ?_
        refine lv_lload hx hb dX2_reach_17 (lv_at hl 1 rfl) ?_
        obtain ⟨r_6, hr_7, h⟩ := bd1_s h
        refine sc_l hx hb hml hown hw hN (c_gr_around l v4 r_6 hr_7) g_RX2_45 hd_X2_around (rest := [.long v4]) hl.1 hS dX2_reach_19 rfl rfl ⟨Nat.le_of_ble_eq_true rfl, Nat.le_of_ble_eq_true rfl⟩ rfl rfl (Nat.le_of_ble_eq_true rfl) ⟨Nat.zero_le _, Nat.zero_le _⟩ (fun H locs hk hS => ?_)
        refine lv_lload_n hx hb dX2_reach_22 rfl (lv_at hl 0 rfl) ?_
        refine lv_land hx hb dX2_reach_23 ?_
        refine lv_lor hx hb dX2_reach_24 ?_
        obtain ⟨v7_8, ev7_8, h⟩ := nm_s h
        refine nmL ev7_8 ?_
        refine lv_lstore hx hb dX2_reach_25 hl (Nat.le_of_ble_eq_true rfl) (lv' := [(7, .long v7_8), (2, .long v2), (4, .long v4), (6, .int v6)]) rfl (fun ls hl => ?_)
        refine lv_lload hx hb dX2_reach_27 (lv_at hl 0 rfl) ?_
        refine lv_lload hx hb dX2_reach_29 (lv_at hl 2 rfl) ?_
        refine W.lcmp hx hb dX2_reach_31 ?_
        refine lv_if_ne hx hb dX2_reach_32 (tgt := 38) rfl (fun hc => ?_) (fun hc => ?_)
        · replace h := ifn h (fun q => hc ((lg_cmp_eq _ _).mpr q))
          refine lv_lload hx hb dX2_reach_38 (lv_at hl 0 rfl) ?_
          refine lv_lstore hx hb dX2_reach_40 hl (Nat.le_of_ble_eq_true rfl) (lv' := [(4, .long v7_8), (7, .long v7_8), (2, .long v2), (6, .int v6)]) rfl (fun ls hl => ?_)
          obtain ⟨v6_9, ev6_9, h⟩ := nm_s h
          refine lv_iinc hx hb dX2_reach_42 hl (k := 3) rfl ev6_9.symm (Nat.le_of_ble_eq_true rfl) (lv' := [(6, .int v6_9), (4, .long v7_8), (7, .long v7_8), (2, .long v2)]) rfl (fun ls hl => ?_)
          refine lv_goto hx hb dX2_reach_45 (tgt := 8) rfl ?_
          exact ih8 _ _ _ v7_8 v6_9 (lv_sub hl [3, 1, 0] rfl) hS h
        · replace h := ifp h ((lg_cmp_eq _ _).mp hc)
          refine lv_lload hx hb dX2_reach_35 (lv_at hl 2 rfl) ?_
          exact rt_l hx hb hr hlocks hS dX2_reach_37 h
  refine lv_lload_n hx hb dX2_reach_0 rfl (lv_at hl 0 rfl) ?_
  refine lv_lload_n hx hb dX2_reach_1 rfl (lv_at hl 1 rfl) ?_
  refine lv_land hx hb dX2_reach_2 ?_
  obtain ⟨v4_10, ev4_10, h⟩ := nm_s h
  refine nmL ev4_10 ?_
  refine lv_lstore hx hb dX2_reach_3 hl (Nat.le_of_ble_eq_true rfl) (lv' := [(4, .long v4_10), (0, .long v0), (2, .long v2)]) rfl (fun ls hl => ?_)
  refine lv_iconst (v := 0) hx hb dX2_reach_5 ki_0 ?_
  refine lv_istore hx hb dX2_reach_6 hl (Nat.le_of_ble_eq_true rfl) (lv' := [(6, .int 0), (4, .long v4_10), (0, .long v0), (2, .long v2)]) rfl (fun ls hl => ?_)
  exact hL8 v2 FU _ _ _ v4_10 0 (lv_sub hl [3, 1, 0] rfl) hS h
noncomputable def gr_hangs (v0 : Int64) : Option (Int32) :=
  if v0 = 0 then (zb 0 (some 0)) else
  bd1 (gr_reach (v0 &&& (-v0)) v0) fun r_1 =>
  if r_1 = v0 then (zb 1 (some 1)) else
  zb 0 (some 0)
set_option maxHeartbeats 4000000 in
set_option maxRecDepth 100000 in
theorem c_gr_hangs (l : Launch) (v0 : Int64) (r : Int32) (h : gr_hangs v0 = some r) : Met l yX2_hangs (wm yX2_hangs cX2_hangs 2 (some .boolean)) (rmm 2 49) (va_Pc [.long v0] NW) (Qi r) 0 0 NoA := by
  refine met_s (y := yX2_hangs) (rm := rmm 2 49) (by decide) (Nat.le_of_ble_eq_true rfl) ?_
  intro p e s m below meth c hx hb hr hw hown hlocks _ hml hN ls hl
  replace hl : lv_has ls 2 [(0, .long v0)] := hl
  have hS : va_S NoA s.heap s.heap [] := va_S.rf
  generalize (([.long v0] : List Value).toArray) = av at hw ⊢
  rw [gr_hangs] at h
  refine lv_lload_n hx hb dX2_hangs_0 rfl (lv_at hl 0 rfl) ?_
  refine lv_lconst (v := 0) hx hb dX2_hangs_1 kl_0 ?_
  refine W.lcmp hx hb dX2_hangs_2 ?_
  refine lv_if_eq hx hb dX2_hangs_3 (tgt := 23) rfl (fun hc => ?_) (fun hc => ?_)
  · replace h := ifp h ((lg_cmp_eq _ _).mp hc)
    refine lv_iconst (v := 0) hx hb dX2_hangs_23 ki_0 ?_
    exact rt_z hx hb hr hlocks hS dX2_hangs_24 h
  · replace h := ifn h (fun q => hc ((lg_cmp_eq _ _).mpr q))
    refine lv_lload_n hx hb dX2_hangs_6 rfl (lv_at hl 0 rfl) ?_
    refine lv_lload_n hx hb dX2_hangs_7 rfl (lv_at hl 0 rfl) ?_
    refine lv_lneg hx hb dX2_hangs_8 ?_
    refine lv_land hx hb dX2_hangs_9 ?_
    refine lv_lload_n hx hb dX2_hangs_10 rfl (lv_at hl 0 rfl) ?_
    obtain ⟨r_3, hr_4, h⟩ := bd1_s h
    refine sc_l hx hb hml hown hw hN (c_gr_reach l (v0 &&& (-v0)) v0 r_3 hr_4) g_RX2_48 hd_X2_reach (rest := []) hl.1 hS dX2_hangs_11 rfl rfl ⟨Nat.le_of_ble_eq_true rfl, Nat.le_of_ble_eq_true rfl⟩ rfl rfl (Nat.le_of_ble_eq_true rfl) ⟨Nat.zero_le _, Nat.zero_le _⟩ (fun H locs hk hS => ?_)
    refine lv_lload_n hx hb dX2_hangs_14 rfl (lv_at hl 0 rfl) ?_
    refine W.lcmp hx hb dX2_hangs_15 ?_
    refine lv_if_ne hx hb dX2_hangs_16 (tgt := 23) rfl (fun hc => ?_) (fun hc => ?_)
    · replace h := ifn h (fun q => hc ((lg_cmp_eq _ _).mpr q))
      refine lv_iconst (v := 0) hx hb dX2_hangs_23 ki_0 ?_
      exact rt_z hx hb hr hlocks hS dX2_hangs_24 h
    · replace h := ifp h ((lg_cmp_eq _ _).mp hc)
      refine lv_iconst (v := 1) hx hb dX2_hangs_19 ki_1 ?_
      refine lv_goto hx hb dX2_hangs_20 (tgt := 24) rfl ?_
      exact rt_z hx hb hr hlocks hS dX2_hangs_24 h
noncomputable def tr_cutCells_J48 (k13 : Int64 → Int32 → Int32 → Option (Int32)) (v0 : Int64) (v2 : Int32) (v3 : Int64) (v5 : Int32) (v6 : Int32)  : Option (Int32) :=
  nm (v6 + Int32.ofInt 1) fun v6_1 =>
  k13 v3 v5 v6_1
noncomputable def tr_cutCells_B13 (v0 : Int64) (v2 : Int32)  (k13 : Int64 → Int32 → Int32 → Option (Int32)) (v3 : Int64) (v5 : Int32) (v6 : Int32) : Option (Int32) :=
  if v2 ≤ v6 then (some v5) else
  if v2 ≤ 1 then (some v5) else
  nm (v3 &&& (-v3) : Int64) fun v7_2 =>
  nm (v3 ^^^ v7_2 : Int64) fun v3_3 =>
  bd1 (gr_hangs (v0 ^^^ v7_2)) fun r_4 =>
  if r_4 = 0 then (nm (v5 + Int32.ofInt 1) fun v5_6 =>
  tr_cutCells_J48 k13 v0 v2 v3_3 v5_6 v6) else
  tr_cutCells_J48 k13 v0 v2 v3_3 v5 v6
noncomputable def tr_cutCells (v0 : Int64) : Option (Int32) :=
  bd1 (jl_bitCount v0) fun r_7 =>
  fl3 (tr_cutCells_B13 v0 r_7) FU v0 0 0
set_option maxHeartbeats 4000000 in
set_option maxRecDepth 100000 in
theorem c_tr_cutCells (l : Launch) (v0 : Int64) (r : Int32) (h : tr_cutCells v0 = some r) : Met l yX9_cutCells (wm yX9_cutCells cX9_cutCells 9 (some .int)) (rmm 3 70) (va_Pc [.long v0] NW) (Qi r) 0 0 NoA := by
  refine met_s (y := yX9_cutCells) (rm := rmm 3 70) (by decide) (Nat.le_of_ble_eq_true rfl) ?_
  intro p e s m below meth c hx hb hr hw hown hlocks _ hml hN ls hl
  replace hl : lv_has ls 9 [(0, .long v0)] := hl
  have hS : va_S NoA s.heap s.heap [] := va_S.rf
  generalize (([.long v0] : List Value).toArray) = av at hw ⊢
  rw [tr_cutCells] at h
  have hL13 : ∀ (v0 : Int64), ∀ (v2 : Int32), ∀ (n13 : Nat) (H : Heap) (locs : List Loc) (ls : Array Slot) (v3 : Int64) (v5 : Int32) (v6 : Int32), lv_has ls 9 [(0, .long v0), (2, .int v2), (3, .long v3), (5, .int v5), (6, .int v6)] → va_S NoA s.heap H locs → fl3 (tr_cutCells_B13 v0 v2) n13 v3 v5 v6 = some r → W p l e (rmm 3 70) s m av below meth c H locs 0 0 (MQ below (Qi r) av s 0 0 NoA) (F0 m 13 ls []) := by
    intro v0 v2 n13
    induction n13 with
    | zero => intro H locs ls v3 v5 v6 hl hS h; cases h
    | succ n13 ih13 =>
      intro H locs ls v3 v5 v6 hl hS h
      replace h : tr_cutCells_B13 v0 v2 (fl3 (tr_cutCells_B13 v0 v2) n13) v3 v5 v6 = some r := h
      generalize fl3 (tr_cutCells_B13 v0 v2) n13 = k13 at h ih13
      have hJ48 : ∀ (H : Heap) (locs : List Loc) (ls : Array Slot) (v3 : Int64) (v5 : Int32) (v6 : Int32) , lv_has ls 9 [(0, .long v0), (2, .int v2), (3, .long v3), (5, .int v5), (6, .int v6)] → va_S NoA s.heap H locs → tr_cutCells_J48 k13 v0 v2 v3 v5 v6 = some r → W p l e (rmm 3 70) s m av below meth c H locs 0 0 (MQ below (Qi r) av s 0 0 NoA) (F0 m 48 ls []) := by
        intro H locs ls v3 v5 v6  hl hS h
        rw [tr_cutCells_J48] at h
        obtain ⟨v6_9, ev6_9, h⟩ := nm_s h
        refine lv_iinc hx hb dX9_cutCells_48 hl (k := 4) rfl ev6_9.symm (Nat.le_of_ble_eq_true rfl) (lv' := [(6, .int v6_9), (0, .long v0), (2, .int v2), (3, .long v3), (5, .int v5)]) rfl (fun ls hl => ?_)
        refine lv_goto hx hb dX9_cutCells_51 (tgt := 13) rfl ?_
        exact ih13 _ _ _ v3 v5 v6_9 (lv_sub hl [1, 2, 3, 4, 0] rfl) hS h
      rw [tr_cutCells_B13] at h
      refine lv_iload hx hb dX9_cutCells_13 (lv_at hl 4 rfl) ?_
      refine lv_iload_n hx hb dX9_cutCells_15 rfl (lv_at hl 1 rfl) ?_
      refine lv_icmp_ge hx hb dX9_cutCells_16 (tgt := 54) rfl (fun hc => ?_) (fun hc => ?_)
      · replace h := ifp h hc
        refine lv_iload hx hb dX9_cutCells_54 (lv_at hl 3 rfl) ?_
        exact rt_i hx hb hr hlocks hS dX9_cutCells_56 h
      · replace h := ifn h hc
        refine lv_iload_n hx hb dX9_cutCells_19 rfl (lv_at hl 1 rfl) ?_
        refine lv_iconst (v := 1) hx hb dX9_cutCells_20 ki_1 ?_
        refine lv_icmp_le hx hb dX9_cutCells_21 (tgt := 54) rfl (fun hc => ?_) (fun hc => ?_)
        · replace h := ifp h hc
          refine lv_iload hx hb dX9_cutCells_54 (lv_at hl 3 rfl) ?_
          exact rt_i hx hb hr hlocks hS dX9_cutCells_56 h
        · replace h := ifn h hc
          refine lv_lload_n hx hb dX9_cutCells_24 rfl (lv_at hl 2 rfl) ?_
          refine lv_lload_n hx hb dX9_cutCells_25 rfl (lv_at hl 2 rfl) ?_
          refine lv_lneg hx hb dX9_cutCells_26 ?_
          refine lv_land hx hb dX9_cutCells_27 ?_
          obtain ⟨v7_10, ev7_10, h⟩ := nm_s h
          refine nmL ev7_10 ?_
          refine lv_lstore hx hb dX9_cutCells_28 hl (Nat.le_of_ble_eq_true rfl) (lv' := [(7, .long v7_10), (0, .long v0), (2, .int v2), (3, .long v3), (5, .int v5), (6, .int v6)]) rfl (fun ls hl => ?_)
          refine lv_lload_n hx hb dX9_cutCells_30 rfl (lv_at hl 3 rfl) ?_
          refine lv_lload hx hb dX9_cutCells_31 (lv_at hl 0 rfl) ?_
          refine lv_lxor hx hb dX9_cutCells_33 ?_
          obtain ⟨v3_11, ev3_11, h⟩ := nm_s h
          refine nmL ev3_11 ?_
          refine lv_lstore_n hx hb dX9_cutCells_34 rfl hl (Nat.le_of_ble_eq_true rfl) (lv' := [(3, .long v3_11), (7, .long v7_10), (0, .long v0), (2, .int v2), (5, .int v5), (6, .int v6)]) rfl (fun ls hl => ?_)
          refine lv_lload_n hx hb dX9_cutCells_35 rfl (lv_at hl 2 rfl) ?_
          refine lv_lload hx hb dX9_cutCells_36 (lv_at hl 1 rfl) ?_
          refine lv_lxor hx hb dX9_cutCells_38 ?_
          obtain ⟨r_12, hr_13, h⟩ := bd1_s h
          refine sc_i hx hb hml hown hw hN (c_gr_hangs l (v0 ^^^ v7_10) r_12 hr_13) g_RX9_73 hd_X2_hangs (rest := []) hl.1 hS dX9_cutCells_39 rfl rfl ⟨Nat.le_of_ble_eq_true rfl, Nat.le_of_ble_eq_true rfl⟩ rfl rfl (Nat.le_of_ble_eq_true rfl) ⟨Nat.zero_le _, Nat.zero_le _⟩ (fun H locs hk hS => ?_)
          refine lv_if_ne hx hb dX9_cutCells_42 (tgt := 48) rfl (fun hc => ?_) (fun hc => ?_)
          · replace h := ifn h hc
            exact hJ48 _ _ _ v3_11 v5 v6 (lv_sub hl [2, 3, 0, 4, 5] rfl) hS h
          · replace h := ifp h hc
            obtain ⟨v5_14, ev5_14, h⟩ := nm_s h
            refine lv_iinc hx hb dX9_cutCells_45 hl (k := 4) rfl ev5_14.symm (Nat.le_of_ble_eq_true rfl) (lv' := [(5, .int v5_14), (3, .long v3_11), (7, .long v7_10), (0, .long v0), (2, .int v2), (6, .int v6)]) rfl (fun ls hl => ?_)
            exact hJ48 _ _ _ v3_11 v5_14 v6 (lv_sub hl [3, 4, 1, 0, 5] rfl) hS h
  refine lv_lload_n hx hb dX9_cutCells_0 rfl (lv_at hl 0 rfl) ?_
  obtain ⟨r_15, hr_16, h⟩ := bd1_s h
  refine sc_i hx hb hml hown hw hN (c_jl_bitCount l v0 r_15 hr_16) g_RX9_9 hd_J13_bitCount_95d88 (rest := []) hl.1 hS dX9_cutCells_1 rfl rfl ⟨Nat.le_of_ble_eq_true rfl, Nat.le_of_ble_eq_true rfl⟩ rfl rfl (Nat.le_of_ble_eq_true rfl) ⟨Nat.zero_le _, Nat.zero_le _⟩ (fun H locs hk hS => ?_)
  refine lv_istore_n hx hb dX9_cutCells_4 rfl hl (Nat.le_of_ble_eq_true rfl) (lv' := [(2, .int r_15), (0, .long v0)]) rfl (fun ls hl => ?_)
  refine lv_lload_n hx hb dX9_cutCells_5 rfl (lv_at hl 1 rfl) ?_
  refine lv_lstore_n hx hb dX9_cutCells_6 rfl hl (Nat.le_of_ble_eq_true rfl) (lv' := [(3, .long v0), (2, .int r_15), (0, .long v0)]) rfl (fun ls hl => ?_)
  refine lv_iconst (v := 0) hx hb dX9_cutCells_7 ki_0 ?_
  refine lv_istore hx hb dX9_cutCells_8 hl (Nat.le_of_ble_eq_true rfl) (lv' := [(5, .int 0), (3, .long v0), (2, .int r_15), (0, .long v0)]) rfl (fun ls hl => ?_)
  refine lv_iconst (v := 0) hx hb dX9_cutCells_10 ki_0 ?_
  refine lv_istore hx hb dX9_cutCells_11 hl (Nat.le_of_ble_eq_true rfl) (lv' := [(6, .int 0), (5, .int 0), (3, .long v0), (2, .int r_15), (0, .long v0)]) rfl (fun ls hl => ?_)
  exact hL13 v0 r_15 FU _ _ _ v0 0 0 (lv_sub hl [4, 3, 2, 1, 0] rfl) hS h
noncomputable def tr_hollow (v0 : Int64) : Option (Int64) :=
  nm ((35887507618889599 : Int64) &&& (v0 ^^^ (((-1) : Int64))) : Int64) fun v2_1 =>
  bd1 (gr_reach (4755591480050008575 : Int64) v2_1) fun r_2 =>
  some (v2_1 &&& (r_2 ^^^ (((-1) : Int64))))
set_option maxHeartbeats 4000000 in
set_option maxRecDepth 100000 in
theorem c_tr_hollow (l : Launch) (v0 : Int64) (r : Int64) (h : tr_hollow v0 = some r) : Met l yX9_hollow (wm yX9_hollow cX9_hollow 6 (some .long)) (rmm 2 49) (va_Pc [.long v0] NW) (Ql r) 0 0 NoA := by
  refine met_s (y := yX9_hollow) (rm := rmm 2 49) (by decide) (Nat.le_of_ble_eq_true rfl) ?_
  intro p e s m below meth c hx hb hr hw hown hlocks _ hml hN ls hl
  replace hl : lv_has ls 6 [(0, .long v0)] := hl
  have hS : va_S NoA s.heap s.heap [] := va_S.rf
  generalize (([.long v0] : List Value).toArray) = av at hw ⊢
  rw [tr_hollow] at h
  refine lv_ldc2 hx hb hown (hw _ tw_14_21) dX9_hollow_0 ?_
  refine lv_lload_n hx hb dX9_hollow_3 rfl (lv_at hl 0 rfl) ?_
  refine lv_ldc2 hx hb hown (hw _ tw_14_17) dX9_hollow_4 ?_
  refine lv_lxor hx hb dX9_hollow_7 ?_
  refine lv_land hx hb dX9_hollow_8 ?_
  obtain ⟨v2_4, ev2_4, h⟩ := nm_s h
  refine nmL ev2_4 ?_
  refine lv_lstore_n hx hb dX9_hollow_9 rfl hl (Nat.le_of_ble_eq_true rfl) (lv' := [(2, .long v2_4), (0, .long v0)]) rfl (fun ls hl => ?_)
  refine lv_ldc2 hx hb hown (hw _ tw_14_22) dX9_hollow_10 ?_
  refine lv_lstore hx hb dX9_hollow_13 hl (Nat.le_of_ble_eq_true rfl) (lv' := [(4, .long (4755591480050008575 : Int64)), (2, .long v2_4), (0, .long v0)]) rfl (fun ls hl => ?_)
  refine lv_lload_n hx hb dX9_hollow_15 rfl (lv_at hl 1 rfl) ?_
  refine lv_lload hx hb dX9_hollow_16 (lv_at hl 0 rfl) ?_
  refine lv_lload_n hx hb dX9_hollow_18 rfl (lv_at hl 1 rfl) ?_
  obtain ⟨r_5, hr_6, h⟩ := bd1_s h
  refine sc_l hx hb hml hown hw hN (c_gr_reach l (4755591480050008575 : Int64) v2_4 r_5 hr_6) g_RX9_69 hd_X2_reach (rest := [.long v2_4]) hl.1 hS dX9_hollow_19 rfl rfl ⟨Nat.le_of_ble_eq_true rfl, Nat.le_of_ble_eq_true rfl⟩ rfl rfl (Nat.le_of_ble_eq_true rfl) ⟨Nat.zero_le _, Nat.zero_le _⟩ (fun H locs hk hS => ?_)
  refine lv_ldc2 hx hb hown (hw _ tw_14_17) dX9_hollow_22 ?_
  refine lv_lxor hx hb dX9_hollow_25 ?_
  refine lv_land hx hb dX9_hollow_26 ?_
  exact rt_l hx hb hr hlocks hS dX9_hollow_27 h
noncomputable def tr_holes_B11   (k11 : Int64 → Int32 → Int32 → Option (Int32)) (v2 : Int64) (v4 : Int32) (v5 : Int32) : Option (Int32) :=
  if 64 ≤ v5 then (some v4) else
  if v2 = 0 then (some v4) else
  bd1 (gr_reach (v2 &&& (-v2)) v2) fun r_1 =>
  nm (v2 &&& (r_1 ^^^ (((-1) : Int64))) : Int64) fun v2_3 =>
  nm (v4 + Int32.ofInt 1) fun v4_4 =>
  nm (v5 + Int32.ofInt 1) fun v5_5 =>
  k11 v2_3 v4_4 v5_5
noncomputable def tr_holes (v0 : Int64) : Option (Int32) :=
  bd1 (tr_hollow v0) fun r_6 =>
  fl3 (tr_holes_B11 ) FU r_6 0 0
set_option maxHeartbeats 4000000 in
set_option maxRecDepth 100000 in
theorem c_tr_holes (l : Launch) (v0 : Int64) (r : Int32) (h : tr_holes v0 = some r) : Met l yX9_holes (wm yX9_holes cX9_holes 6 (some .int)) (rmm 3 74) (va_Pc [.long v0] NW) (Qi r) 0 0 NoA := by
  refine met_s (y := yX9_holes) (rm := rmm 3 74) (by decide) (Nat.le_of_ble_eq_true rfl) ?_
  intro p e s m below meth c hx hb hr hw hown hlocks _ hml hN ls hl
  replace hl : lv_has ls 6 [(0, .long v0)] := hl
  have hS : va_S NoA s.heap s.heap [] := va_S.rf
  generalize (([.long v0] : List Value).toArray) = av at hw ⊢
  rw [tr_holes] at h
  have hL11 : ∀ (n11 : Nat) (H : Heap) (locs : List Loc) (ls : Array Slot) (v2 : Int64) (v4 : Int32) (v5 : Int32), lv_has ls 6 [(2, .long v2), (4, .int v4), (5, .int v5)] → va_S NoA s.heap H locs → fl3 (tr_holes_B11 ) n11 v2 v4 v5 = some r → W p l e (rmm 3 74) s m av below meth c H locs 0 0 (MQ below (Qi r) av s 0 0 NoA) (F0 m 11 ls []) := by
    intro  n11
    induction n11 with
    | zero => intro H locs ls v2 v4 v5 hl hS h; cases h
    | succ n11 ih11 =>
      intro H locs ls v2 v4 v5 hl hS h
      replace h : tr_holes_B11  (fl3 (tr_holes_B11 ) n11) v2 v4 v5 = some r := h
      generalize fl3 (tr_holes_B11 ) n11 = k11 at h ih11
      rw [tr_holes_B11] at h
      refine lv_iload hx hb dX9_holes_11 (lv_at hl 2 rfl) ?_
      refine lv_bipush (v := 64) hx hb dX9_holes_13 kb_64 ?_
      refine lv_icmp_ge hx hb dX9_holes_15 (tgt := 48) rfl (fun hc => ?_) (fun hc => ?_)
      · replace h := ifp h hc
        refine lv_iload hx hb dX9_holes_48 (lv_at hl 1 rfl) ?_
        exact rt_i hx hb hr hlocks hS dX9_holes_50 h
      · replace h := ifn h hc
        refine lv_lload_n hx hb dX9_holes_18 rfl (lv_at hl 0 rfl) ?_
        refine lv_lconst (v := 0) hx hb dX9_holes_19 kl_0 ?_
        refine W.lcmp hx hb dX9_holes_20 ?_
        refine lv_if_eq hx hb dX9_holes_21 (tgt := 48) rfl (fun hc => ?_) (fun hc => ?_)
        · replace h := ifp h ((lg_cmp_eq _ _).mp hc)
          refine lv_iload hx hb dX9_holes_48 (lv_at hl 1 rfl) ?_
          exact rt_i hx hb hr hlocks hS dX9_holes_50 h
        · replace h := ifn h (fun q => hc ((lg_cmp_eq _ _).mpr q))
          refine lv_lload_n hx hb dX9_holes_24 rfl (lv_at hl 0 rfl) ?_
          refine lv_lload_n hx hb dX9_holes_25 rfl (lv_at hl 0 rfl) ?_
          refine lv_lload_n hx hb dX9_holes_26 rfl (lv_at hl 0 rfl) ?_
          refine lv_lneg hx hb dX9_holes_27 ?_
          refine lv_land hx hb dX9_holes_28 ?_
          refine lv_lload_n hx hb dX9_holes_29 rfl (lv_at hl 0 rfl) ?_
          obtain ⟨r_8, hr_9, h⟩ := bd1_s h
          refine sc_l hx hb hml hown hw hN (c_gr_reach l (v2 &&& (-v2)) v2 r_8 hr_9) g_RX9_69 hd_X2_reach (rest := [.long v2]) hl.1 hS dX9_holes_30 rfl rfl ⟨Nat.le_of_ble_eq_true rfl, Nat.le_of_ble_eq_true rfl⟩ rfl rfl (Nat.le_of_ble_eq_true rfl) ⟨Nat.zero_le _, Nat.zero_le _⟩ (fun H locs hk hS => ?_)
          refine lv_ldc2 hx hb hown (hw _ tw_14_17) dX9_holes_33 ?_
          refine lv_lxor hx hb dX9_holes_36 ?_
          refine lv_land hx hb dX9_holes_37 ?_
          obtain ⟨v2_10, ev2_10, h⟩ := nm_s h
          refine nmL ev2_10 ?_
          refine lv_lstore_n hx hb dX9_holes_38 rfl hl (Nat.le_of_ble_eq_true rfl) (lv' := [(2, .long v2_10), (4, .int v4), (5, .int v5)]) rfl (fun ls hl => ?_)
          obtain ⟨v4_11, ev4_11, h⟩ := nm_s h
          refine lv_iinc hx hb dX9_holes_39 hl (k := 1) rfl ev4_11.symm (Nat.le_of_ble_eq_true rfl) (lv' := [(4, .int v4_11), (2, .long v2_10), (5, .int v5)]) rfl (fun ls hl => ?_)
          obtain ⟨v5_12, ev5_12, h⟩ := nm_s h
          refine lv_iinc hx hb dX9_holes_42 hl (k := 2) rfl ev5_12.symm (Nat.le_of_ble_eq_true rfl) (lv' := [(5, .int v5_12), (4, .int v4_11), (2, .long v2_10)]) rfl (fun ls hl => ?_)
          refine lv_goto hx hb dX9_holes_45 (tgt := 11) rfl ?_
          exact ih11 _ _ _ v2_10 v4_11 v5_12 (lv_sub hl [2, 1, 0] rfl) hS h
  refine lv_lload_n hx hb dX9_holes_0 rfl (lv_at hl 0 rfl) ?_
  obtain ⟨r_13, hr_14, h⟩ := bd1_s h
  refine sc_l hx hb hml hown hw hN (c_tr_hollow l v0 r_13 hr_14) g_RX9_31 hd_X9_hollow (rest := []) hl.1 hS dX9_holes_1 rfl rfl ⟨Nat.le_of_ble_eq_true rfl, Nat.le_of_ble_eq_true rfl⟩ rfl rfl (Nat.le_of_ble_eq_true rfl) ⟨Nat.zero_le _, Nat.zero_le _⟩ (fun H locs hk hS => ?_)
  refine lv_lstore_n hx hb dX9_holes_4 rfl hl (Nat.le_of_ble_eq_true rfl) (lv' := [(2, .long r_13), (0, .long v0)]) rfl (fun ls hl => ?_)
  refine lv_iconst (v := 0) hx hb dX9_holes_5 ki_0 ?_
  refine lv_istore hx hb dX9_holes_6 hl (Nat.le_of_ble_eq_true rfl) (lv' := [(4, .int 0), (2, .long r_13), (0, .long v0)]) rfl (fun ls hl => ?_)
  refine lv_iconst (v := 0) hx hb dX9_holes_8 ki_0 ?_
  refine lv_istore hx hb dX9_holes_9 hl (Nat.le_of_ble_eq_true rfl) (lv' := [(5, .int 0), (4, .int 0), (2, .long r_13), (0, .long v0)]) rfl (fun ls hl => ?_)
  exact hL11  FU _ _ _ r_13 0 0 (lv_sub hl [2, 1, 0] rfl) hS h
noncomputable def tr_sides (v0 : Int64) : Option (Int32) :=
  bd1 (jl_bitCount v0) fun r_1 =>
  bd1 (tr_twos v0) fun r_3 =>
  some ((4 * r_1) - (2 * r_3))
set_option maxHeartbeats 4000000 in
set_option maxRecDepth 100000 in
theorem c_tr_sides (l : Launch) (v0 : Int64) (r : Int32) (h : tr_sides v0 = some r) : Met l yX9_sides (wm yX9_sides cX9_sides 2 (some .int)) (rmm 2 42) (va_Pc [.long v0] NW) (Qi r) 0 0 NoA := by
  refine met_s (y := yX9_sides) (rm := rmm 2 42) (by decide) (Nat.le_of_ble_eq_true rfl) ?_
  intro p e s m below meth c hx hb hr hw hown hlocks _ hml hN ls hl
  replace hl : lv_has ls 2 [(0, .long v0)] := hl
  have hS : va_S NoA s.heap s.heap [] := va_S.rf
  generalize (([.long v0] : List Value).toArray) = av at hw ⊢
  rw [tr_sides] at h
  refine lv_iconst (v := 4) hx hb dX9_sides_0 ki_4 ?_
  refine lv_lload_n hx hb dX9_sides_1 rfl (lv_at hl 0 rfl) ?_
  obtain ⟨r_5, hr_6, h⟩ := bd1_s h
  refine sc_i hx hb hml hown hw hN (c_jl_bitCount l v0 r_5 hr_6) g_RX9_9 hd_J13_bitCount_95d88 (rest := [.int 4]) hl.1 hS dX9_sides_2 rfl rfl ⟨Nat.le_of_ble_eq_true rfl, Nat.le_of_ble_eq_true rfl⟩ rfl rfl (Nat.le_of_ble_eq_true rfl) ⟨Nat.zero_le _, Nat.zero_le _⟩ (fun H locs hk hS => ?_)
  refine lv_imul hx hb dX9_sides_5 ?_
  refine lv_iconst (v := 2) hx hb dX9_sides_6 ki_2 ?_
  refine lv_lload_n hx hb dX9_sides_7 rfl (lv_at hl 0 rfl) ?_
  obtain ⟨r_7, hr_8, h⟩ := bd1_s h
  refine sc_i hx hb hml hown hw hN (c_tr_twos l v0 r_7 hr_8) g_RX9_60 hd_X9_twos (rest := [.int 2, .int (4 * r_5)]) hl.1 hS dX9_sides_8 rfl rfl ⟨Nat.le_of_ble_eq_true rfl, Nat.le_of_ble_eq_true rfl⟩ rfl rfl (Nat.le_of_ble_eq_true rfl) ⟨Nat.zero_le _, Nat.zero_le _⟩ (fun H locs hk hS => ?_)
  refine lv_imul hx hb dX9_sides_11 ?_
  refine lv_isub hx hb dX9_sides_12 ?_
  exact rt_i hx hb hr hlocks hS dX9_sides_13 h
noncomputable def tr_of (v0 : Int64) (v2 : Int32) : Option (Int32) :=
  if v2 = 0 then (bd1 (jl_bitCount v0) fun r_1 =>
  some r_1) else
  if v2 = 1 then (bd1 (gr_width v0) fun r_3 =>
  some r_3) else
  if v2 = 2 then (bd1 (gr_height v0) fun r_5 =>
  some r_5) else
  if v2 = 3 then (bd1 (tr_sides v0) fun r_7 =>
  some r_7) else
  if v2 = 4 then (bd1 (tr_holes v0) fun r_9 =>
  some r_9) else
  if v2 = 5 then (bd1 (tr_hollow v0) fun r_11 =>
  bd1 (jl_bitCount r_11) fun r_13 =>
  some r_13) else
  if v2 = 6 then (bd1 (tr_cutCells v0) fun r_15 =>
  some r_15) else
  if v2 = 7 then (bd1 (tr_beside v0) fun r_17 =>
  some r_17) else
  if v2 = 8 then (bd1 (tr_outer v0) fun r_19 =>
  some r_19) else
  if v2 = 9 then (bd1 (tr_threes v0) fun r_21 =>
  bd1 (jl_bitCount r_21) fun r_23 =>
  some r_23) else
  if v2 = 10 then (bd1 (tr_squares v0) fun r_25 =>
  some r_25) else
  if v2 = 11 then (bd1 (tr_isRowWhole v0) fun r_27 =>
  if r_27 = 0 then (some 0) else
  some 1) else
  if v2 = 12 then (bd1 (tr_isColumnWhole v0) fun r_29 =>
  if r_29 = 0 then (some 0) else
  some 1) else
  if v2 = 13 then (bd1 (tr_same v0) fun r_31 =>
  some r_31) else
  if v2 = 14 then (bd1 (tr_twos v0) fun r_33 =>
  some r_33) else
  some (-1)
set_option maxHeartbeats 4000000 in
set_option maxRecDepth 100000 in
theorem c_tr_of (l : Launch) (v0 : Int64) (v2 : Int32) (r : Int32) (h : tr_of v0 v2 = some r) : Met l yX9_of (wm yX9_of cX9_of 3 (some .int)) (rmm 4 99) (va_Pc [.long v0, .int v2] NW) (Qi r) 0 0 NoA := by
  refine met_s (y := yX9_of) (rm := rmm 4 99) (by decide) (Nat.le_of_ble_eq_true rfl) ?_
  intro p e s m below meth c hx hb hr hw hown hlocks _ hml hN ls hl
  replace hl : lv_has ls 3 [(0, .long v0), (2, .int v2)] := hl
  have hS : va_S NoA s.heap s.heap [] := va_S.rf
  generalize (([.long v0, .int v2] : List Value).toArray) = av at hw ⊢
  rw [tr_of] at h
  refine lv_iload_n hx hb dX9_of_0 rfl (lv_at hl 1 rfl) ?_
  by_cases hc0 : v2 = 0
  · replace h := ifp h hc0
    refine lv_tableIn hx hb dX9_of_1 (by rw [hc0]; decide) (by rw [hc0]; decide) (by rw [hc0]; rfl) (tgt := 76) rfl ?_
    refine lv_lload_n hx hb dX9_of_76 rfl (lv_at hl 0 rfl) ?_
    obtain ⟨r_35, hr_36, h⟩ := bd1_s h
    refine sc_i hx hb hml hown hw hN (c_jl_bitCount l v0 r_35 hr_36) g_RX9_9 hd_J13_bitCount_95d88 (rest := []) hl.1 hS dX9_of_77 rfl rfl ⟨Nat.le_of_ble_eq_true rfl, Nat.le_of_ble_eq_true rfl⟩ rfl rfl (Nat.le_of_ble_eq_true rfl) ⟨Nat.zero_le _, Nat.zero_le _⟩ (fun H locs hk hS => ?_)
    exact rt_i hx hb hr hlocks hS dX9_of_80 h
  replace h := ifn h hc0
  by_cases hc1 : v2 = 1
  · replace h := ifp h hc1
    refine lv_tableIn hx hb dX9_of_1 (by rw [hc1]; decide) (by rw [hc1]; decide) (by rw [hc1]; rfl) (tgt := 81) rfl ?_
    refine lv_lload_n hx hb dX9_of_81 rfl (lv_at hl 0 rfl) ?_
    obtain ⟨r_37, hr_38, h⟩ := bd1_s h
    refine sc_i hx hb hml hown hw hN (c_gr_width l v0 r_37 hr_38) g_RX9_15 hd_X2_width (rest := []) hl.1 hS dX9_of_82 rfl rfl ⟨Nat.le_of_ble_eq_true rfl, Nat.le_of_ble_eq_true rfl⟩ rfl rfl (Nat.le_of_ble_eq_true rfl) ⟨Nat.zero_le _, Nat.zero_le _⟩ (fun H locs hk hS => ?_)
    exact rt_i hx hb hr hlocks hS dX9_of_85 h
  replace h := ifn h hc1
  by_cases hc2 : v2 = 2
  · replace h := ifp h hc2
    refine lv_tableIn hx hb dX9_of_1 (by rw [hc2]; decide) (by rw [hc2]; decide) (by rw [hc2]; rfl) (tgt := 86) rfl ?_
    refine lv_lload_n hx hb dX9_of_86 rfl (lv_at hl 0 rfl) ?_
    obtain ⟨r_39, hr_40, h⟩ := bd1_s h
    refine sc_i hx hb hml hown hw hN (c_gr_height l v0 r_39 hr_40) g_RX9_20 hd_X2_height (rest := []) hl.1 hS dX9_of_87 rfl rfl ⟨Nat.le_of_ble_eq_true rfl, Nat.le_of_ble_eq_true rfl⟩ rfl rfl (Nat.le_of_ble_eq_true rfl) ⟨Nat.zero_le _, Nat.zero_le _⟩ (fun H locs hk hS => ?_)
    exact rt_i hx hb hr hlocks hS dX9_of_90 h
  replace h := ifn h hc2
  by_cases hc3 : v2 = 3
  · replace h := ifp h hc3
    refine lv_tableIn hx hb dX9_of_1 (by rw [hc3]; decide) (by rw [hc3]; decide) (by rw [hc3]; rfl) (tgt := 91) rfl ?_
    refine lv_lload_n hx hb dX9_of_91 rfl (lv_at hl 0 rfl) ?_
    obtain ⟨r_41, hr_42, h⟩ := bd1_s h
    refine sc_i hx hb hml hown hw hN (c_tr_sides l v0 r_41 hr_42) g_RX9_23 hd_X9_sides (rest := []) hl.1 hS dX9_of_92 rfl rfl ⟨Nat.le_of_ble_eq_true rfl, Nat.le_of_ble_eq_true rfl⟩ rfl rfl (Nat.le_of_ble_eq_true rfl) ⟨Nat.zero_le _, Nat.zero_le _⟩ (fun H locs hk hS => ?_)
    exact rt_i hx hb hr hlocks hS dX9_of_95 h
  replace h := ifn h hc3
  by_cases hc4 : v2 = 4
  · replace h := ifp h hc4
    refine lv_tableIn hx hb dX9_of_1 (by rw [hc4]; decide) (by rw [hc4]; decide) (by rw [hc4]; rfl) (tgt := 96) rfl ?_
    refine lv_lload_n hx hb dX9_of_96 rfl (lv_at hl 0 rfl) ?_
    obtain ⟨r_43, hr_44, h⟩ := bd1_s h
    refine sc_i hx hb hml hown hw hN (c_tr_holes l v0 r_43 hr_44) g_RX9_28 hd_X9_holes (rest := []) hl.1 hS dX9_of_97 rfl rfl ⟨Nat.le_of_ble_eq_true rfl, Nat.le_of_ble_eq_true rfl⟩ rfl rfl (Nat.le_of_ble_eq_true rfl) ⟨Nat.zero_le _, Nat.zero_le _⟩ (fun H locs hk hS => ?_)
    exact rt_i hx hb hr hlocks hS dX9_of_100 h
  replace h := ifn h hc4
  by_cases hc5 : v2 = 5
  · replace h := ifp h hc5
    refine lv_tableIn hx hb dX9_of_1 (by rw [hc5]; decide) (by rw [hc5]; decide) (by rw [hc5]; rfl) (tgt := 101) rfl ?_
    refine lv_lload_n hx hb dX9_of_101 rfl (lv_at hl 0 rfl) ?_
    obtain ⟨r_45, hr_46, h⟩ := bd1_s h
    refine sc_l hx hb hml hown hw hN (c_tr_hollow l v0 r_45 hr_46) g_RX9_31 hd_X9_hollow (rest := []) hl.1 hS dX9_of_102 rfl rfl ⟨Nat.le_of_ble_eq_true rfl, Nat.le_of_ble_eq_true rfl⟩ rfl rfl (Nat.le_of_ble_eq_true rfl) ⟨Nat.zero_le _, Nat.zero_le _⟩ (fun H locs hk hS => ?_)
    obtain ⟨r_47, hr_48, h⟩ := bd1_s h
    refine sc_i hx hb hml hown hw hN (c_jl_bitCount l r_45 r_47 hr_48) g_RX9_9 hd_J13_bitCount_95d88 (rest := []) hl.1 hS dX9_of_105 rfl rfl ⟨Nat.le_of_ble_eq_true rfl, Nat.le_of_ble_eq_true rfl⟩ rfl rfl (Nat.le_of_ble_eq_true rfl) ⟨Nat.zero_le _, Nat.zero_le _⟩ (fun H locs hk hS => ?_)
    exact rt_i hx hb hr hlocks hS dX9_of_108 h
  replace h := ifn h hc5
  by_cases hc6 : v2 = 6
  · replace h := ifp h hc6
    refine lv_tableIn hx hb dX9_of_1 (by rw [hc6]; decide) (by rw [hc6]; decide) (by rw [hc6]; rfl) (tgt := 109) rfl ?_
    refine lv_lload_n hx hb dX9_of_109 rfl (lv_at hl 0 rfl) ?_
    obtain ⟨r_49, hr_50, h⟩ := bd1_s h
    refine sc_i hx hb hml hown hw hN (c_tr_cutCells l v0 r_49 hr_50) g_RX9_35 hd_X9_cutCells (rest := []) hl.1 hS dX9_of_110 rfl rfl ⟨Nat.le_of_ble_eq_true rfl, Nat.le_of_ble_eq_true rfl⟩ rfl rfl (Nat.le_of_ble_eq_true rfl) ⟨Nat.zero_le _, Nat.zero_le _⟩ (fun H locs hk hS => ?_)
    exact rt_i hx hb hr hlocks hS dX9_of_113 h
  replace h := ifn h hc6
  by_cases hc7 : v2 = 7
  · replace h := ifp h hc7
    refine lv_tableIn hx hb dX9_of_1 (by rw [hc7]; decide) (by rw [hc7]; decide) (by rw [hc7]; rfl) (tgt := 114) rfl ?_
    refine lv_lload_n hx hb dX9_of_114 rfl (lv_at hl 0 rfl) ?_
    obtain ⟨r_51, hr_52, h⟩ := bd1_s h
    refine sc_i hx hb hml hown hw hN (c_tr_beside l v0 r_51 hr_52) g_RX9_38 hd_X9_beside (rest := []) hl.1 hS dX9_of_115 rfl rfl ⟨Nat.le_of_ble_eq_true rfl, Nat.le_of_ble_eq_true rfl⟩ rfl rfl (Nat.le_of_ble_eq_true rfl) ⟨Nat.zero_le _, Nat.zero_le _⟩ (fun H locs hk hS => ?_)
    exact rt_i hx hb hr hlocks hS dX9_of_118 h
  replace h := ifn h hc7
  by_cases hc8 : v2 = 8
  · replace h := ifp h hc8
    refine lv_tableIn hx hb dX9_of_1 (by rw [hc8]; decide) (by rw [hc8]; decide) (by rw [hc8]; rfl) (tgt := 119) rfl ?_
    refine lv_lload_n hx hb dX9_of_119 rfl (lv_at hl 0 rfl) ?_
    obtain ⟨r_53, hr_54, h⟩ := bd1_s h
    refine sc_i hx hb hml hown hw hN (c_tr_outer l v0 r_53 hr_54) g_RX9_41 hd_X9_outer (rest := []) hl.1 hS dX9_of_120 rfl rfl ⟨Nat.le_of_ble_eq_true rfl, Nat.le_of_ble_eq_true rfl⟩ rfl rfl (Nat.le_of_ble_eq_true rfl) ⟨Nat.zero_le _, Nat.zero_le _⟩ (fun H locs hk hS => ?_)
    exact rt_i hx hb hr hlocks hS dX9_of_123 h
  replace h := ifn h hc8
  by_cases hc9 : v2 = 9
  · replace h := ifp h hc9
    refine lv_tableIn hx hb dX9_of_1 (by rw [hc9]; decide) (by rw [hc9]; decide) (by rw [hc9]; rfl) (tgt := 124) rfl ?_
    refine lv_lload_n hx hb dX9_of_124 rfl (lv_at hl 0 rfl) ?_
    obtain ⟨r_55, hr_56, h⟩ := bd1_s h
    refine sc_l hx hb hml hown hw hN (c_tr_threes l v0 r_55 hr_56) g_RX9_44 hd_X9_threes (rest := []) hl.1 hS dX9_of_125 rfl rfl ⟨Nat.le_of_ble_eq_true rfl, Nat.le_of_ble_eq_true rfl⟩ rfl rfl (Nat.le_of_ble_eq_true rfl) ⟨Nat.zero_le _, Nat.zero_le _⟩ (fun H locs hk hS => ?_)
    obtain ⟨r_57, hr_58, h⟩ := bd1_s h
    refine sc_i hx hb hml hown hw hN (c_jl_bitCount l r_55 r_57 hr_58) g_RX9_9 hd_J13_bitCount_95d88 (rest := []) hl.1 hS dX9_of_128 rfl rfl ⟨Nat.le_of_ble_eq_true rfl, Nat.le_of_ble_eq_true rfl⟩ rfl rfl (Nat.le_of_ble_eq_true rfl) ⟨Nat.zero_le _, Nat.zero_le _⟩ (fun H locs hk hS => ?_)
    exact rt_i hx hb hr hlocks hS dX9_of_131 h
  replace h := ifn h hc9
  by_cases hc10 : v2 = 10
  · replace h := ifp h hc10
    refine lv_tableIn hx hb dX9_of_1 (by rw [hc10]; decide) (by rw [hc10]; decide) (by rw [hc10]; rfl) (tgt := 132) rfl ?_
    refine lv_lload_n hx hb dX9_of_132 rfl (lv_at hl 0 rfl) ?_
    obtain ⟨r_59, hr_60, h⟩ := bd1_s h
    refine sc_i hx hb hml hown hw hN (c_tr_squares l v0 r_59 hr_60) g_RX9_47 hd_X9_squares (rest := []) hl.1 hS dX9_of_133 rfl rfl ⟨Nat.le_of_ble_eq_true rfl, Nat.le_of_ble_eq_true rfl⟩ rfl rfl (Nat.le_of_ble_eq_true rfl) ⟨Nat.zero_le _, Nat.zero_le _⟩ (fun H locs hk hS => ?_)
    exact rt_i hx hb hr hlocks hS dX9_of_136 h
  replace h := ifn h hc10
  by_cases hc11 : v2 = 11
  · replace h := ifp h hc11
    refine lv_tableIn hx hb dX9_of_1 (by rw [hc11]; decide) (by rw [hc11]; decide) (by rw [hc11]; rfl) (tgt := 137) rfl ?_
    refine lv_lload_n hx hb dX9_of_137 rfl (lv_at hl 0 rfl) ?_
    obtain ⟨r_61, hr_62, h⟩ := bd1_s h
    refine sc_i hx hb hml hown hw hN (c_tr_isRowWhole l v0 r_61 hr_62) g_RX9_50 hd_X9_isRowWhole (rest := []) hl.1 hS dX9_of_138 rfl rfl ⟨Nat.le_of_ble_eq_true rfl, Nat.le_of_ble_eq_true rfl⟩ rfl rfl (Nat.le_of_ble_eq_true rfl) ⟨Nat.zero_le _, Nat.zero_le _⟩ (fun H locs hk hS => ?_)
    refine lv_if_eq hx hb dX9_of_141 (tgt := 148) rfl (fun hc => ?_) (fun hc => ?_)
    · replace h := ifp h hc
      refine lv_iconst (v := 0) hx hb dX9_of_148 ki_0 ?_
      exact rt_i hx hb hr hlocks hS dX9_of_149 h
    · replace h := ifn h hc
      refine lv_iconst (v := 1) hx hb dX9_of_144 ki_1 ?_
      refine lv_goto hx hb dX9_of_145 (tgt := 149) rfl ?_
      exact rt_i hx hb hr hlocks hS dX9_of_149 h
  replace h := ifn h hc11
  by_cases hc12 : v2 = 12
  · replace h := ifp h hc12
    refine lv_tableIn hx hb dX9_of_1 (by rw [hc12]; decide) (by rw [hc12]; decide) (by rw [hc12]; rfl) (tgt := 150) rfl ?_
    refine lv_lload_n hx hb dX9_of_150 rfl (lv_at hl 0 rfl) ?_
    obtain ⟨r_63, hr_64, h⟩ := bd1_s h
    refine sc_i hx hb hml hown hw hN (c_tr_isColumnWhole l v0 r_63 hr_64) g_RX9_54 hd_X9_isColumnWhole (rest := []) hl.1 hS dX9_of_151 rfl rfl ⟨Nat.le_of_ble_eq_true rfl, Nat.le_of_ble_eq_true rfl⟩ rfl rfl (Nat.le_of_ble_eq_true rfl) ⟨Nat.zero_le _, Nat.zero_le _⟩ (fun H locs hk hS => ?_)
    refine lv_if_eq hx hb dX9_of_154 (tgt := 161) rfl (fun hc => ?_) (fun hc => ?_)
    · replace h := ifp h hc
      refine lv_iconst (v := 0) hx hb dX9_of_161 ki_0 ?_
      exact rt_i hx hb hr hlocks hS dX9_of_162 h
    · replace h := ifn h hc
      refine lv_iconst (v := 1) hx hb dX9_of_157 ki_1 ?_
      refine lv_goto hx hb dX9_of_158 (tgt := 162) rfl ?_
      exact rt_i hx hb hr hlocks hS dX9_of_162 h
  replace h := ifn h hc12
  by_cases hc13 : v2 = 13
  · replace h := ifp h hc13
    refine lv_tableIn hx hb dX9_of_1 (by rw [hc13]; decide) (by rw [hc13]; decide) (by rw [hc13]; rfl) (tgt := 163) rfl ?_
    refine lv_lload_n hx hb dX9_of_163 rfl (lv_at hl 0 rfl) ?_
    obtain ⟨r_65, hr_66, h⟩ := bd1_s h
    refine sc_i hx hb hml hown hw hN (c_tr_same l v0 r_65 hr_66) g_RX9_57 hd_X9_same (rest := []) hl.1 hS dX9_of_164 rfl rfl ⟨Nat.le_of_ble_eq_true rfl, Nat.le_of_ble_eq_true rfl⟩ rfl rfl (Nat.le_of_ble_eq_true rfl) ⟨Nat.zero_le _, Nat.zero_le _⟩ (fun H locs hk hS => ?_)
    exact rt_i hx hb hr hlocks hS dX9_of_167 h
  replace h := ifn h hc13
  by_cases hc14 : v2 = 14
  · replace h := ifp h hc14
    refine lv_tableIn hx hb dX9_of_1 (by rw [hc14]; decide) (by rw [hc14]; decide) (by rw [hc14]; rfl) (tgt := 168) rfl ?_
    refine lv_lload_n hx hb dX9_of_168 rfl (lv_at hl 0 rfl) ?_
    obtain ⟨r_67, hr_68, h⟩ := bd1_s h
    refine sc_i hx hb hml hown hw hN (c_tr_twos l v0 r_67 hr_68) g_RX9_60 hd_X9_twos (rest := []) hl.1 hS dX9_of_169 rfl rfl ⟨Nat.le_of_ble_eq_true rfl, Nat.le_of_ble_eq_true rfl⟩ rfl rfl (Nat.le_of_ble_eq_true rfl) ⟨Nat.zero_le _, Nat.zero_le _⟩ (fun H locs hk hS => ?_)
    exact rt_i hx hb hr hlocks hS dX9_of_172 h
  replace h := ifn h hc14
  have q0 := lv_neT (k := 0) hc0 (a := 0) (by decide)
  have q1 := lv_neT (k := 1) hc1 (a := 1) (by decide)
  have q2 := lv_neT (k := 2) hc2 (a := 2) (by decide)
  have q3 := lv_neT (k := 3) hc3 (a := 3) (by decide)
  have q4 := lv_neT (k := 4) hc4 (a := 4) (by decide)
  have q5 := lv_neT (k := 5) hc5 (a := 5) (by decide)
  have q6 := lv_neT (k := 6) hc6 (a := 6) (by decide)
  have q7 := lv_neT (k := 7) hc7 (a := 7) (by decide)
  have q8 := lv_neT (k := 8) hc8 (a := 8) (by decide)
  have q9 := lv_neT (k := 9) hc9 (a := 9) (by decide)
  have q10 := lv_neT (k := 10) hc10 (a := 10) (by decide)
  have q11 := lv_neT (k := 11) hc11 (a := 11) (by decide)
  have q12 := lv_neT (k := 12) hc12 (a := 12) (by decide)
  have q13 := lv_neT (k := 13) hc13 (a := 13) (by decide)
  have q14 := lv_neT (k := 14) hc14 (a := 14) (by decide)
  refine lv_tableOut hx hb dX9_of_1 (by omega) (tgt := 173) rfl ?_
  refine lv_iconst (v := (-1)) hx hb dX9_of_173 ki_m1 ?_
  exact rt_i hx hb hr hlocks hS dX9_of_174 h
noncomputable def gr_lowest (v0 : Int64) : Option (Int32) :=
  bd1 (jl_bitCount ((v0 &&& (-v0)) - 1)) fun r_1 =>
  some r_1
set_option maxHeartbeats 4000000 in
set_option maxRecDepth 100000 in
theorem c_gr_lowest (l : Launch) (v0 : Int64) (r : Int32) (h : gr_lowest v0 = some r) : Met l yX2_lowest (wm yX2_lowest cX2_lowest 2 (some .int)) (rmm 1 21) (va_Pc [.long v0] NW) (Qi r) 0 0 NoA := by
  refine met_s (y := yX2_lowest) (rm := rmm 1 21) (by decide) (Nat.le_of_ble_eq_true rfl) ?_
  intro p e s m below meth c hx hb hr hw hown hlocks _ hml hN ls hl
  replace hl : lv_has ls 2 [(0, .long v0)] := hl
  have hS : va_S NoA s.heap s.heap [] := va_S.rf
  generalize (([.long v0] : List Value).toArray) = av at hw ⊢
  rw [gr_lowest] at h
  refine lv_lload_n hx hb dX2_lowest_0 rfl (lv_at hl 0 rfl) ?_
  refine lv_lload_n hx hb dX2_lowest_1 rfl (lv_at hl 0 rfl) ?_
  refine lv_lneg hx hb dX2_lowest_2 ?_
  refine lv_land hx hb dX2_lowest_3 ?_
  refine lv_lconst (v := 1) hx hb dX2_lowest_4 kl_1 ?_
  refine lv_lsub hx hb dX2_lowest_5 ?_
  obtain ⟨r_3, hr_4, h⟩ := bd1_s h
  refine sc_i hx hb hml hown hw hN (c_jl_bitCount l ((v0 &&& (-v0)) - 1) r_3 hr_4) g_RX2_11 hd_J13_bitCount_95d88 (rest := []) hl.1 hS dX2_lowest_6 rfl rfl ⟨Nat.le_of_ble_eq_true rfl, Nat.le_of_ble_eq_true rfl⟩ rfl rfl (Nat.le_of_ble_eq_true rfl) ⟨Nat.zero_le _, Nat.zero_le _⟩ (fun H locs hk hS => ?_)
  exact rt_i hx hb hr hlocks hS dX2_lowest_9 h
noncomputable def ol_stepX (v0 : Int32) : Option (Int32) :=
  if v0 = 0 then (some 1) else
  if v0 = 2 then (some (-1)) else
  some 0
set_option maxHeartbeats 4000000 in
set_option maxRecDepth 100000 in
theorem c_ol_stepX (l : Launch) (v0 : Int32) (r : Int32) (h : ol_stepX v0 = some r) : Met l yX5_stepX (wm yX5_stepX cX5_stepX 1 (some .int)) (rmm 0 0) (va_Pc [.int v0] NW) (Qi r) 0 0 NoA := by
  refine met_s (y := yX5_stepX) (rm := rmm 0 0) (by decide) (Nat.le_of_ble_eq_true rfl) ?_
  intro p e s m below meth c hx hb hr hw hown hlocks _ hml hN ls hl
  replace hl : lv_has ls 1 [(0, .int v0)] := hl
  have hS : va_S NoA s.heap s.heap [] := va_S.rf
  generalize (([.int v0] : List Value).toArray) = av at hw ⊢
  rw [ol_stepX] at h
  refine lv_iload_n hx hb dX5_stepX_0 rfl (lv_at hl 0 rfl) ?_
  refine lv_if_ne hx hb dX5_stepX_1 (tgt := 8) rfl (fun hc => ?_) (fun hc => ?_)
  · replace h := ifn h hc
    refine lv_iload_n hx hb dX5_stepX_8 rfl (lv_at hl 0 rfl) ?_
    refine lv_iconst (v := 2) hx hb dX5_stepX_9 ki_2 ?_
    refine lv_icmp_ne hx hb dX5_stepX_10 (tgt := 17) rfl (fun hc => ?_) (fun hc => ?_)
    · replace h := ifn h hc
      refine lv_iconst (v := 0) hx hb dX5_stepX_17 ki_0 ?_
      exact rt_i hx hb hr hlocks hS dX5_stepX_18 h
    · replace h := ifp h hc
      refine lv_iconst (v := (-1)) hx hb dX5_stepX_13 ki_m1 ?_
      refine lv_goto hx hb dX5_stepX_14 (tgt := 18) rfl ?_
      exact rt_i hx hb hr hlocks hS dX5_stepX_18 h
  · replace h := ifp h hc
    refine lv_iconst (v := 1) hx hb dX5_stepX_4 ki_1 ?_
    refine lv_goto hx hb dX5_stepX_5 (tgt := 18) rfl ?_
    exact rt_i hx hb hr hlocks hS dX5_stepX_18 h
noncomputable def ol_stepY (v0 : Int32) : Option (Int32) :=
  if v0 = 1 then (some 1) else
  if v0 = 3 then (some (-1)) else
  some 0
set_option maxHeartbeats 4000000 in
set_option maxRecDepth 100000 in
theorem c_ol_stepY (l : Launch) (v0 : Int32) (r : Int32) (h : ol_stepY v0 = some r) : Met l yX5_stepY (wm yX5_stepY cX5_stepY 1 (some .int)) (rmm 0 0) (va_Pc [.int v0] NW) (Qi r) 0 0 NoA := by
  refine met_s (y := yX5_stepY) (rm := rmm 0 0) (by decide) (Nat.le_of_ble_eq_true rfl) ?_
  intro p e s m below meth c hx hb hr hw hown hlocks _ hml hN ls hl
  replace hl : lv_has ls 1 [(0, .int v0)] := hl
  have hS : va_S NoA s.heap s.heap [] := va_S.rf
  generalize (([.int v0] : List Value).toArray) = av at hw ⊢
  rw [ol_stepY] at h
  refine lv_iload_n hx hb dX5_stepY_0 rfl (lv_at hl 0 rfl) ?_
  refine lv_iconst (v := 1) hx hb dX5_stepY_1 ki_1 ?_
  refine lv_icmp_ne hx hb dX5_stepY_2 (tgt := 9) rfl (fun hc => ?_) (fun hc => ?_)
  · replace h := ifn h hc
    refine lv_iload_n hx hb dX5_stepY_9 rfl (lv_at hl 0 rfl) ?_
    refine lv_iconst (v := 3) hx hb dX5_stepY_10 ki_3 ?_
    refine lv_icmp_ne hx hb dX5_stepY_11 (tgt := 18) rfl (fun hc => ?_) (fun hc => ?_)
    · replace h := ifn h hc
      refine lv_iconst (v := 0) hx hb dX5_stepY_18 ki_0 ?_
      exact rt_i hx hb hr hlocks hS dX5_stepY_19 h
    · replace h := ifp h hc
      refine lv_iconst (v := (-1)) hx hb dX5_stepY_14 ki_m1 ?_
      refine lv_goto hx hb dX5_stepY_15 (tgt := 19) rfl ?_
      exact rt_i hx hb hr hlocks hS dX5_stepY_19 h
  · replace h := ifp h hc
    refine lv_iconst (v := 1) hx hb dX5_stepY_5 ki_1 ?_
    refine lv_goto hx hb dX5_stepY_6 (tgt := 19) rfl ?_
    exact rt_i hx hb hr hlocks hS dX5_stepY_19 h
noncomputable def gr_has (v0 : Int64) (v2 : Int32) (v3 : Int32) : Option (Int32) :=
  bd1 (cf_within v2 0 7) fun r_1 =>
  if r_1 = 0 then (zb 0 (some 0)) else
  bd1 (cf_within v3 0 7) fun r_3 =>
  if r_3 = 0 then (zb 0 (some 0)) else
  if ((su v0 ((8 * v3) + v2)) &&& 1) = 0 then (zb 0 (some 0)) else
  zb 1 (some 1)
set_option maxHeartbeats 4000000 in
set_option maxRecDepth 100000 in
theorem c_gr_has (l : Launch) (v0 : Int64) (v2 : Int32) (v3 : Int32) (r : Int32) (h : gr_has v0 v2 v3 = some r) : Met l yX2_has (wm yX2_has cX2_has 4 (some .boolean)) (rmm 1 22) (va_Pc [.long v0, .int v2, .int v3] NW) (Qi r) 0 0 NoA := by
  refine met_s (y := yX2_has) (rm := rmm 1 22) (by decide) (Nat.le_of_ble_eq_true rfl) ?_
  intro p e s m below meth c hx hb hr hw hown hlocks _ hml hN ls hl
  replace hl : lv_has ls 4 [(0, .long v0), (2, .int v2), (3, .int v3)] := hl
  have hS : va_S NoA s.heap s.heap [] := va_S.rf
  generalize (([.long v0, .int v2, .int v3] : List Value).toArray) = av at hw ⊢
  rw [gr_has] at h
  refine lv_iload_n hx hb dX2_has_0 rfl (lv_at hl 1 rfl) ?_
  refine lv_iconst (v := 0) hx hb dX2_has_1 ki_0 ?_
  refine lv_bipush (v := 7) hx hb dX2_has_2 kb_7 ?_
  obtain ⟨r_5, hr_6, h⟩ := bd1_s h
  refine sn_i hx hb hml hown hw hN (c_cf_within l v2 0 7 r_5 hr_6) nq_RX2_17 tw_9_21 tw_9_20 tw_1_2 hd_X11_within (rest := []) hl.1 hS dX2_has_4 rfl rfl ⟨Nat.le_of_ble_eq_true rfl, Nat.le_of_ble_eq_true rfl⟩ rfl rfl (Nat.le_of_ble_eq_true rfl) ⟨Nat.zero_le _, Nat.zero_le _⟩ (fun H locs hk hS => ?_)
  refine lv_if_eq hx hb dX2_has_7 (tgt := 39) rfl (fun hc => ?_) (fun hc => ?_)
  · replace h := ifp h hc
    refine lv_iconst (v := 0) hx hb dX2_has_39 ki_0 ?_
    exact rt_z hx hb hr hlocks hS dX2_has_40 h
  · replace h := ifn h hc
    refine lv_iload_n hx hb dX2_has_10 rfl (lv_at hl 2 rfl) ?_
    refine lv_iconst (v := 0) hx hb dX2_has_11 ki_0 ?_
    refine lv_bipush (v := 7) hx hb dX2_has_12 kb_7 ?_
    obtain ⟨r_7, hr_8, h⟩ := bd1_s h
    refine sn_i hx hb hml hown hw hN (c_cf_within l v3 0 7 r_7 hr_8) nq_RX2_17 tw_9_21 tw_9_20 tw_1_2 hd_X11_within (rest := []) hl.1 hS dX2_has_14 rfl rfl ⟨Nat.le_of_ble_eq_true rfl, Nat.le_of_ble_eq_true rfl⟩ rfl rfl (Nat.le_of_ble_eq_true rfl) ⟨Nat.zero_le _, Nat.zero_le _⟩ (fun H locs hk hS => ?_)
    refine lv_if_eq hx hb dX2_has_17 (tgt := 39) rfl (fun hc => ?_) (fun hc => ?_)
    · replace h := ifp h hc
      refine lv_iconst (v := 0) hx hb dX2_has_39 ki_0 ?_
      exact rt_z hx hb hr hlocks hS dX2_has_40 h
    · replace h := ifn h hc
      refine lv_lload_n hx hb dX2_has_20 rfl (lv_at hl 0 rfl) ?_
      refine lv_bipush (v := 8) hx hb dX2_has_21 kb_8 ?_
      refine lv_iload_n hx hb dX2_has_23 rfl (lv_at hl 2 rfl) ?_
      refine lv_imul hx hb dX2_has_24 ?_
      refine lv_iload_n hx hb dX2_has_25 rfl (lv_at hl 1 rfl) ?_
      refine lv_iadd hx hb dX2_has_26 ?_
      refine lv_lushr hx hb (v := su v0 ((8 * v3) + v2)) dX2_has_27 rfl ?_
      refine lv_lconst (v := 1) hx hb dX2_has_28 kl_1 ?_
      refine lv_land hx hb dX2_has_29 ?_
      refine lv_lconst (v := 0) hx hb dX2_has_30 kl_0 ?_
      refine W.lcmp hx hb dX2_has_31 ?_
      refine lv_if_eq hx hb dX2_has_32 (tgt := 39) rfl (fun hc => ?_) (fun hc => ?_)
      · replace h := ifp h ((lg_cmp_eq _ _).mp hc)
        refine lv_iconst (v := 0) hx hb dX2_has_39 ki_0 ?_
        exact rt_z hx hb hr hlocks hS dX2_has_40 h
      · replace h := ifn h (fun q => hc ((lg_cmp_eq _ _).mpr q))
        refine lv_iconst (v := 1) hx hb dX2_has_35 ki_1 ?_
        refine lv_goto hx hb dX2_has_36 (tgt := 40) rfl ?_
        exact rt_z hx hb hr hlocks hS dX2_has_40 h
noncomputable def ol_nextLetter_J34  (v0 : Int64) (v4 : Int32) (v5 : Int32) (t0 : Int32) : Option (Int32) :=
  bd1 (ol_stepY v4) fun r_1 =>
  nm (v5 + r_1 : Int32) fun v7_3 =>
  bd1 (ol_stepX v4) fun r_4 =>
  nm (t0 - r_4 : Int32) fun v8_6 =>
  bd1 (gr_has v0 v7_3 v8_6) fun r_7 =>
  if r_7 = 0 then (bd1 (gr_has v0 v5 t0) fun r_9 =>
  if r_9 = 0 then (some ((v4 + 1) &&& 3)) else
  some v4) else
  some ((v4 + 3) &&& 3)
noncomputable def ol_nextLetter_J19  (v0 : Int64) (v3 : Int32) (v4 : Int32) (t0 : Int32) : Option (Int32) :=
  if v4 < 2 then (ol_nextLetter_J34 v0 v4 t0 v3) else
  ol_nextLetter_J34 v0 v4 t0 (v3 - 1)
noncomputable def ol_nextLetter_J12  (v0 : Int64) (v2 : Int32) (v3 : Int32) (v4 : Int32)  : Option (Int32) :=
  ol_nextLetter_J19 v0 v3 v4 (v2 - 1)
noncomputable def ol_nextLetter (v0 : Int64) (v2 : Int32) (v3 : Int32) (v4 : Int32) : Option (Int32) :=
  if v4 = 1 then (ol_nextLetter_J12 v0 v2 v3 v4) else
  if v4 = 2 then (ol_nextLetter_J12 v0 v2 v3 v4) else
  ol_nextLetter_J19 v0 v3 v4 v2
set_option maxHeartbeats 4000000 in
set_option maxRecDepth 100000 in
theorem c_ol_nextLetter (l : Launch) (v0 : Int64) (v2 : Int32) (v3 : Int32) (v4 : Int32) (r : Int32) (h : ol_nextLetter v0 v2 v3 v4 = some r) : Met l yX5_nextLetter (wm yX5_nextLetter cX5_nextLetter 9 (some .int)) (rmm 2 45) (va_Pc [.long v0, .int v2, .int v3, .int v4] NW) (Qi r) 0 0 NoA := by
  refine met_s (y := yX5_nextLetter) (rm := rmm 2 45) (by decide) (Nat.le_of_ble_eq_true rfl) ?_
  intro p e s m below meth c hx hb hr hw hown hlocks _ hml hN ls hl
  replace hl : lv_has ls 9 [(0, .long v0), (2, .int v2), (3, .int v3), (4, .int v4)] := hl
  have hS : va_S NoA s.heap s.heap [] := va_S.rf
  generalize (([.long v0, .int v2, .int v3, .int v4] : List Value).toArray) = av at hw ⊢
  rw [ol_nextLetter] at h
  have hJ34 : ∀ (H : Heap) (locs : List Loc) (ls : Array Slot) (v0 : Int64) (v4 : Int32) (v5 : Int32) (t0 : Int32), lv_has ls 9 [(0, .long v0), (4, .int v4), (5, .int v5)] → va_S NoA s.heap H locs → ol_nextLetter_J34 v0 v4 v5 t0 = some r → W p l e (rmm 2 45) s m av below meth c H locs 0 0 (MQ below (Qi r) av s 0 0 NoA) (F0 m 34 ls [.int t0]) := by
    intro H locs ls v0 v4 v5 t0 hl hS h
    rw [ol_nextLetter_J34] at h
    refine lv_istore hx hb dX5_nextLetter_34 hl (Nat.le_of_ble_eq_true rfl) (lv' := [(6, .int t0), (0, .long v0), (4, .int v4), (5, .int v5)]) rfl (fun ls hl => ?_)
    refine lv_iload hx hb dX5_nextLetter_36 (lv_at hl 3 rfl) ?_
    refine lv_iload hx hb dX5_nextLetter_38 (lv_at hl 2 rfl) ?_
    obtain ⟨r_11, hr_12, h⟩ := bd1_s h
    refine sc_i hx hb hml hown hw hN (c_ol_stepY l v4 r_11 hr_12) g_RX5_55 hd_X5_stepY (rest := [.int v5]) hl.1 hS dX5_nextLetter_40 rfl rfl ⟨Nat.le_of_ble_eq_true rfl, Nat.le_of_ble_eq_true rfl⟩ rfl rfl (Nat.le_of_ble_eq_true rfl) ⟨Nat.zero_le _, Nat.zero_le _⟩ (fun H locs hk hS => ?_)
    refine lv_iadd hx hb dX5_nextLetter_43 ?_
    obtain ⟨v7_13, ev7_13, h⟩ := nm_s h
    refine nmI ev7_13 ?_
    refine lv_istore hx hb dX5_nextLetter_44 hl (Nat.le_of_ble_eq_true rfl) (lv' := [(7, .int v7_13), (6, .int t0), (0, .long v0), (4, .int v4), (5, .int v5)]) rfl (fun ls hl => ?_)
    refine lv_iload hx hb dX5_nextLetter_46 (lv_at hl 1 rfl) ?_
    refine lv_iload hx hb dX5_nextLetter_48 (lv_at hl 3 rfl) ?_
    obtain ⟨r_14, hr_15, h⟩ := bd1_s h
    refine sc_i hx hb hml hown hw hN (c_ol_stepX l v4 r_14 hr_15) g_RX5_51 hd_X5_stepX (rest := [.int t0]) hl.1 hS dX5_nextLetter_50 rfl rfl ⟨Nat.le_of_ble_eq_true rfl, Nat.le_of_ble_eq_true rfl⟩ rfl rfl (Nat.le_of_ble_eq_true rfl) ⟨Nat.zero_le _, Nat.zero_le _⟩ (fun H locs hk hS => ?_)
    refine lv_isub hx hb dX5_nextLetter_53 ?_
    obtain ⟨v8_16, ev8_16, h⟩ := nm_s h
    refine nmI ev8_16 ?_
    refine lv_istore hx hb dX5_nextLetter_54 hl (Nat.le_of_ble_eq_true rfl) (lv' := [(8, .int v8_16), (7, .int v7_13), (6, .int t0), (0, .long v0), (4, .int v4), (5, .int v5)]) rfl (fun ls hl => ?_)
    refine lv_lload_n hx hb dX5_nextLetter_56 rfl (lv_at hl 3 rfl) ?_
    refine lv_iload hx hb dX5_nextLetter_57 (lv_at hl 1 rfl) ?_
    refine lv_iload hx hb dX5_nextLetter_59 (lv_at hl 0 rfl) ?_
    obtain ⟨r_17, hr_18, h⟩ := bd1_s h
    refine sc_i hx hb hml hown hw hN (c_gr_has l v0 v7_13 v8_16 r_17 hr_18) g_RX5_62 hd_X2_has (rest := []) hl.1 hS dX5_nextLetter_61 rfl rfl ⟨Nat.le_of_ble_eq_true rfl, Nat.le_of_ble_eq_true rfl⟩ rfl rfl (Nat.le_of_ble_eq_true rfl) ⟨Nat.zero_le _, Nat.zero_le _⟩ (fun H locs hk hS => ?_)
    refine lv_if_eq hx hb dX5_nextLetter_64 (tgt := 74) rfl (fun hc => ?_) (fun hc => ?_)
    · replace h := ifp h hc
      refine lv_lload_n hx hb dX5_nextLetter_74 rfl (lv_at hl 3 rfl) ?_
      refine lv_iload hx hb dX5_nextLetter_75 (lv_at hl 5 rfl) ?_
      refine lv_iload hx hb dX5_nextLetter_77 (lv_at hl 2 rfl) ?_
      obtain ⟨r_19, hr_20, h⟩ := bd1_s h
      refine sc_i hx hb hml hown hw hN (c_gr_has l v0 v5 t0 r_19 hr_20) g_RX5_62 hd_X2_has (rest := []) hl.1 hS dX5_nextLetter_79 rfl rfl ⟨Nat.le_of_ble_eq_true rfl, Nat.le_of_ble_eq_true rfl⟩ rfl rfl (Nat.le_of_ble_eq_true rfl) ⟨Nat.zero_le _, Nat.zero_le _⟩ (fun H locs hk hS => ?_)
      refine lv_if_eq hx hb dX5_nextLetter_82 (tgt := 90) rfl (fun hc => ?_) (fun hc => ?_)
      · replace h := ifp h hc
        refine lv_iload hx hb dX5_nextLetter_90 (lv_at hl 4 rfl) ?_
        refine lv_iconst (v := 1) hx hb dX5_nextLetter_92 ki_1 ?_
        refine lv_iadd hx hb dX5_nextLetter_93 ?_
        refine lv_iconst (v := 3) hx hb dX5_nextLetter_94 ki_3 ?_
        refine lv_iand hx hb dX5_nextLetter_95 ?_
        exact rt_i hx hb hr hlocks hS dX5_nextLetter_96 h
      · replace h := ifn h hc
        refine lv_iload hx hb dX5_nextLetter_85 (lv_at hl 4 rfl) ?_
        refine lv_goto hx hb dX5_nextLetter_87 (tgt := 96) rfl ?_
        exact rt_i hx hb hr hlocks hS dX5_nextLetter_96 h
    · replace h := ifn h hc
      refine lv_iload hx hb dX5_nextLetter_67 (lv_at hl 4 rfl) ?_
      refine lv_iconst (v := 3) hx hb dX5_nextLetter_69 ki_3 ?_
      refine lv_iadd hx hb dX5_nextLetter_70 ?_
      refine lv_iconst (v := 3) hx hb dX5_nextLetter_71 ki_3 ?_
      refine lv_iand hx hb dX5_nextLetter_72 ?_
      exact rt_i hx hb hr hlocks hS dX5_nextLetter_73 h
  have hJ19 : ∀ (H : Heap) (locs : List Loc) (ls : Array Slot) (v0 : Int64) (v3 : Int32) (v4 : Int32) (t0 : Int32), lv_has ls 9 [(0, .long v0), (3, .int v3), (4, .int v4)] → va_S NoA s.heap H locs → ol_nextLetter_J19 v0 v3 v4 t0 = some r → W p l e (rmm 2 45) s m av below meth c H locs 0 0 (MQ below (Qi r) av s 0 0 NoA) (F0 m 19 ls [.int t0]) := by
    intro H locs ls v0 v3 v4 t0 hl hS h
    rw [ol_nextLetter_J19] at h
    refine lv_istore hx hb dX5_nextLetter_19 hl (Nat.le_of_ble_eq_true rfl) (lv' := [(5, .int t0), (0, .long v0), (3, .int v3), (4, .int v4)]) rfl (fun ls hl => ?_)
    refine lv_iload hx hb dX5_nextLetter_21 (lv_at hl 3 rfl) ?_
    refine lv_iconst (v := 2) hx hb dX5_nextLetter_23 ki_2 ?_
    refine lv_icmp_lt hx hb dX5_nextLetter_24 (tgt := 33) rfl (fun hc => ?_) (fun hc => ?_)
    · replace h := ifp h hc
      refine lv_iload_n hx hb dX5_nextLetter_33 rfl (lv_at hl 2 rfl) ?_
      exact hJ34 _ _ _ v0 v4 t0 v3 (lv_sub hl [1, 3, 0] rfl) hS h
    · replace h := ifn h hc
      refine lv_iload_n hx hb dX5_nextLetter_27 rfl (lv_at hl 2 rfl) ?_
      refine lv_iconst (v := 1) hx hb dX5_nextLetter_28 ki_1 ?_
      refine lv_isub hx hb dX5_nextLetter_29 ?_
      refine lv_goto hx hb dX5_nextLetter_30 (tgt := 34) rfl ?_
      exact hJ34 _ _ _ v0 v4 t0 (v3 - 1) (lv_sub hl [1, 3, 0] rfl) hS h
  have hJ12 : ∀ (H : Heap) (locs : List Loc) (ls : Array Slot) (v0 : Int64) (v2 : Int32) (v3 : Int32) (v4 : Int32) , lv_has ls 9 [(0, .long v0), (2, .int v2), (3, .int v3), (4, .int v4)] → va_S NoA s.heap H locs → ol_nextLetter_J12 v0 v2 v3 v4 = some r → W p l e (rmm 2 45) s m av below meth c H locs 0 0 (MQ below (Qi r) av s 0 0 NoA) (F0 m 12 ls []) := by
    intro H locs ls v0 v2 v3 v4  hl hS h
    rw [ol_nextLetter_J12] at h
    refine lv_iload_n hx hb dX5_nextLetter_12 rfl (lv_at hl 1 rfl) ?_
    refine lv_iconst (v := 1) hx hb dX5_nextLetter_13 ki_1 ?_
    refine lv_isub hx hb dX5_nextLetter_14 ?_
    refine lv_goto hx hb dX5_nextLetter_15 (tgt := 19) rfl ?_
    exact hJ19 _ _ _ v0 v3 v4 (v2 - 1) (lv_sub hl [0, 2, 3] rfl) hS h
  refine lv_iload hx hb dX5_nextLetter_0 (lv_at hl 3 rfl) ?_
  refine lv_iconst (v := 1) hx hb dX5_nextLetter_2 ki_1 ?_
  refine lv_icmp_eq hx hb dX5_nextLetter_3 (tgt := 12) rfl (fun hc => ?_) (fun hc => ?_)
  · replace h := ifp h hc
    exact hJ12 _ _ _ v0 v2 v3 v4 (lv_sub hl [0, 1, 2, 3] rfl) hS h
  · replace h := ifn h hc
    refine lv_iload hx hb dX5_nextLetter_6 (lv_at hl 3 rfl) ?_
    refine lv_iconst (v := 2) hx hb dX5_nextLetter_8 ki_2 ?_
    refine lv_icmp_ne hx hb dX5_nextLetter_9 (tgt := 18) rfl (fun hc => ?_) (fun hc => ?_)
    · replace h := ifn h hc
      refine lv_iload_n hx hb dX5_nextLetter_18 rfl (lv_at hl 1 rfl) ?_
      exact hJ19 _ _ _ v0 v3 v4 v2 (lv_sub hl [0, 2, 3] rfl) hS h
    · replace h := ifp h hc
      exact hJ12 _ _ _ v0 v2 v3 v4 (lv_sub hl [0, 1, 2, 3] rfl) hS h
noncomputable def gr_moved_J63  (v3 : Int32) (t0 : Int64) : Option (Int64) :=
  if v3 < 0 then (some (su t0 ((-8) * v3))) else
  some (sl t0 (8 * v3))
noncomputable def gr_moved (v0 : Int64) (v2 : Int32) (v3 : Int32) : Option (Int64) :=
  bd1 (cf_within v2 (-7) 7) fun r_1 =>
  if r_1 = 0 then (some 0) else
  bd1 (cf_within v3 (-7) 7) fun r_3 =>
  if r_3 = 0 then (some 0) else
  if v2 < 0 then (gr_moved_J63 v3 (su (v0 &&& (((sl (255 : Int64) (-v2)) &&& (255 : Int64)) * (72340172838076673 : Int64))) (-v2))) else
  gr_moved_J63 v3 (sl (v0 &&& ((su (255 : Int64) v2) * (72340172838076673 : Int64))) v2)
set_option maxHeartbeats 4000000 in
set_option maxRecDepth 100000 in
theorem c_gr_moved (l : Launch) (v0 : Int64) (v2 : Int32) (v3 : Int32) (r : Int64) (h : gr_moved v0 v2 v3 = some r) : Met l yX2_moved (wm yX2_moved cX2_moved 6 (some .long)) (rmm 1 22) (va_Pc [.long v0, .int v2, .int v3] NW) (Ql r) 0 0 NoA := by
  refine met_s (y := yX2_moved) (rm := rmm 1 22) (by decide) (Nat.le_of_ble_eq_true rfl) ?_
  intro p e s m below meth c hx hb hr hw hown hlocks _ hml hN ls hl
  replace hl : lv_has ls 6 [(0, .long v0), (2, .int v2), (3, .int v3)] := hl
  have hS : va_S NoA s.heap s.heap [] := va_S.rf
  generalize (([.long v0, .int v2, .int v3] : List Value).toArray) = av at hw ⊢
  rw [gr_moved] at h
  have hJ63 : ∀ (H : Heap) (locs : List Loc) (ls : Array Slot) (v3 : Int32) (t0 : Int64), lv_has ls 6 [(3, .int v3)] → va_S NoA s.heap H locs → gr_moved_J63 v3 t0 = some r → W p l e (rmm 1 22) s m av below meth c H locs 0 0 (MQ below (Ql r) av s 0 0 NoA) (F0 m 63 ls [.long t0]) := by
    intro H locs ls v3 t0 hl hS h
    rw [gr_moved_J63] at h
    refine lv_lstore hx hb dX2_moved_63 hl (Nat.le_of_ble_eq_true rfl) (lv' := [(4, .long t0), (3, .int v3)]) rfl (fun ls hl => ?_)
    refine lv_iload_n hx hb dX2_moved_65 rfl (lv_at hl 1 rfl) ?_
    refine lv_if_lt hx hb dX2_moved_66 (tgt := 79) rfl (fun hc => ?_) (fun hc => ?_)
    · replace h := ifp h hc
      refine lv_lload hx hb dX2_moved_79 (lv_at hl 0 rfl) ?_
      refine lv_bipush (v := (-8)) hx hb dX2_moved_81 kb_m8 ?_
      refine lv_iload_n hx hb dX2_moved_83 rfl (lv_at hl 1 rfl) ?_
      refine lv_imul hx hb dX2_moved_84 ?_
      refine lv_lushr hx hb (v := su t0 ((-8) * v3)) dX2_moved_85 rfl ?_
      exact rt_l hx hb hr hlocks hS dX2_moved_86 h
    · replace h := ifn h hc
      refine lv_lload hx hb dX2_moved_69 (lv_at hl 0 rfl) ?_
      refine lv_bipush (v := 8) hx hb dX2_moved_71 kb_8 ?_
      refine lv_iload_n hx hb dX2_moved_73 rfl (lv_at hl 1 rfl) ?_
      refine lv_imul hx hb dX2_moved_74 ?_
      refine lv_lshl hx hb (v := sl t0 (8 * v3)) dX2_moved_75 rfl ?_
      refine lv_goto hx hb dX2_moved_76 (tgt := 86) rfl ?_
      exact rt_l hx hb hr hlocks hS dX2_moved_86 h
  refine lv_iload_n hx hb dX2_moved_0 rfl (lv_at hl 1 rfl) ?_
  refine lv_bipush (v := (-7)) hx hb dX2_moved_1 kb_m7 ?_
  refine lv_bipush (v := 7) hx hb dX2_moved_3 kb_7 ?_
  obtain ⟨r_5, hr_6, h⟩ := bd1_s h
  refine sn_i hx hb hml hown hw hN (c_cf_within l v2 (-7) 7 r_5 hr_6) nq_RX2_17 tw_9_21 tw_9_20 tw_1_2 hd_X11_within (rest := []) hl.1 hS dX2_moved_5 rfl rfl ⟨Nat.le_of_ble_eq_true rfl, Nat.le_of_ble_eq_true rfl⟩ rfl rfl (Nat.le_of_ble_eq_true rfl) ⟨Nat.zero_le _, Nat.zero_le _⟩ (fun H locs hk hS => ?_)
  refine lv_if_eq hx hb dX2_moved_8 (tgt := 22) rfl (fun hc => ?_) (fun hc => ?_)
  · replace h := ifp h hc
    refine lv_lconst (v := 0) hx hb dX2_moved_22 kl_0 ?_
    exact rt_l hx hb hr hlocks hS dX2_moved_23 h
  · replace h := ifn h hc
    refine lv_iload_n hx hb dX2_moved_11 rfl (lv_at hl 2 rfl) ?_
    refine lv_bipush (v := (-7)) hx hb dX2_moved_12 kb_m7 ?_
    refine lv_bipush (v := 7) hx hb dX2_moved_14 kb_7 ?_
    obtain ⟨r_7, hr_8, h⟩ := bd1_s h
    refine sn_i hx hb hml hown hw hN (c_cf_within l v3 (-7) 7 r_7 hr_8) nq_RX2_17 tw_9_21 tw_9_20 tw_1_2 hd_X11_within (rest := []) hl.1 hS dX2_moved_16 rfl rfl ⟨Nat.le_of_ble_eq_true rfl, Nat.le_of_ble_eq_true rfl⟩ rfl rfl (Nat.le_of_ble_eq_true rfl) ⟨Nat.zero_le _, Nat.zero_le _⟩ (fun H locs hk hS => ?_)
    refine lv_if_ne hx hb dX2_moved_19 (tgt := 24) rfl (fun hc => ?_) (fun hc => ?_)
    · replace h := ifn h hc
      refine lv_iload_n hx hb dX2_moved_24 rfl (lv_at hl 1 rfl) ?_
      refine lv_if_lt hx hb dX2_moved_25 (tgt := 44) rfl (fun hc => ?_) (fun hc => ?_)
      · replace h := ifp h hc
        refine lv_lload_n hx hb dX2_moved_44 rfl (lv_at hl 0 rfl) ?_
        refine lv_ldc2 hx hb hown (hw _ tw_11_21) dX2_moved_45 ?_
        refine lv_iload_n hx hb dX2_moved_48 rfl (lv_at hl 1 rfl) ?_
        refine lv_ineg hx hb dX2_moved_49 ?_
        refine lv_lshl hx hb (v := sl (255 : Int64) (-v2)) dX2_moved_50 rfl ?_
        refine lv_ldc2 hx hb hown (hw _ tw_11_21) dX2_moved_51 ?_
        refine lv_land hx hb dX2_moved_54 ?_
        refine lv_ldc2 hx hb hown (hw _ tw_12_2) dX2_moved_55 ?_
        refine lv_lmul hx hb dX2_moved_58 ?_
        refine lv_land hx hb dX2_moved_59 ?_
        refine lv_iload_n hx hb dX2_moved_60 rfl (lv_at hl 1 rfl) ?_
        refine lv_ineg hx hb dX2_moved_61 ?_
        refine lv_lushr hx hb (v := su (v0 &&& (((sl (255 : Int64) (-v2)) &&& (255 : Int64)) * (72340172838076673 : Int64))) (-v2)) dX2_moved_62 rfl ?_
        exact hJ63 _ _ _ v3 (su (v0 &&& (((sl (255 : Int64) (-v2)) &&& (255 : Int64)) * (72340172838076673 : Int64))) (-v2)) (lv_sub hl [2] rfl) hS h
      · replace h := ifn h hc
        refine lv_lload_n hx hb dX2_moved_28 rfl (lv_at hl 0 rfl) ?_
        refine lv_ldc2 hx hb hown (hw _ tw_11_21) dX2_moved_29 ?_
        refine lv_iload_n hx hb dX2_moved_32 rfl (lv_at hl 1 rfl) ?_
        refine lv_lushr hx hb (v := su (255 : Int64) v2) dX2_moved_33 rfl ?_
        refine lv_ldc2 hx hb hown (hw _ tw_12_2) dX2_moved_34 ?_
        refine lv_lmul hx hb dX2_moved_37 ?_
        refine lv_land hx hb dX2_moved_38 ?_
        refine lv_iload_n hx hb dX2_moved_39 rfl (lv_at hl 1 rfl) ?_
        refine lv_lshl hx hb (v := sl (v0 &&& ((su (255 : Int64) v2) * (72340172838076673 : Int64))) v2) dX2_moved_40 rfl ?_
        refine lv_goto hx hb dX2_moved_41 (tgt := 63) rfl ?_
        exact hJ63 _ _ _ v3 (sl (v0 &&& ((su (255 : Int64) v2) * (72340172838076673 : Int64))) v2) (lv_sub hl [2] rfl) hS h
    · replace h := ifp h hc
      refine lv_lconst (v := 0) hx hb dX2_moved_22 kl_0 ?_
      exact rt_l hx hb hr hlocks hS dX2_moved_23 h
noncomputable def gr_united (v0 : Int64) (v2 : Int64) (v4 : Int32) (v5 : Int32) : Option (Int64) :=
  nm (mxI 0 (-v4) : Int32) fun v6_1 =>
  nm (mxI 0 (-v5) : Int32) fun v7_2 =>
  bd1 (gr_width v0) fun r_3 =>
  bd1 (gr_width v2) fun r_5 =>
  nm (mxI (v6_1 + r_3) ((v6_1 + v4) + r_5) : Int32) fun v8_7 =>
  bd1 (gr_height v0) fun r_8 =>
  bd1 (gr_height v2) fun r_10 =>
  nm (mxI (v7_2 + r_8) ((v7_2 + v5) + r_10) : Int32) fun v9_12 =>
  if 7 < v8_7 then (some 0) else
  if v9_12 ≤ 7 then (bd1 (gr_moved v0 v6_1 v7_2) fun r_13 =>
  bd1 (gr_moved v2 (v6_1 + v4) (v7_2 + v5)) fun r_15 =>
  some (r_13 ||| r_15)) else
  some 0
set_option maxHeartbeats 4000000 in
set_option maxRecDepth 100000 in
theorem c_gr_united (l : Launch) (v0 : Int64) (v2 : Int64) (v4 : Int32) (v5 : Int32) (r : Int64) (h : gr_united v0 v2 v4 v5 = some r) : Met l yX2_united (wm yX2_united cX2_united 10 (some .long)) (rmm 2 47) (va_Pc [.long v0, .long v2, .int v4, .int v5] NW) (Ql r) 0 0 NoA := by
  refine met_s (y := yX2_united) (rm := rmm 2 47) (by decide) (Nat.le_of_ble_eq_true rfl) ?_
  intro p e s m below meth c hx hb hr hw hown hlocks _ hml hN ls hl
  replace hl : lv_has ls 10 [(0, .long v0), (2, .long v2), (4, .int v4), (5, .int v5)] := hl
  have hS : va_S NoA s.heap s.heap [] := va_S.rf
  generalize (([.long v0, .long v2, .int v4, .int v5] : List Value).toArray) = av at hw ⊢
  rw [gr_united] at h
  refine lv_iconst (v := 0) hx hb dX2_united_0 ki_0 ?_
  refine lv_iload hx hb dX2_united_1 (lv_at hl 2 rfl) ?_
  refine lv_ineg hx hb dX2_united_3 ?_
  refine va_mmax hx hb (hml.trans hl.1.symm) hown (hw _ tw_21_16) (hw _ tw_21_17) (hw _ tw_19_23) (hw _ tw_21_18) (Nat.le_of_ble_eq_true rfl) (Nat.le_of_ble_eq_true rfl) (Nat.zero_le _) (Nat.zero_le _) dX2_united_4 ?_
  refine nmI (v := mxI 0 (-v4)) rfl ?_
  obtain ⟨v6_17, ev6_17, h⟩ := nm_s h
  refine nmI ev6_17 ?_
  refine lv_istore hx hb dX2_united_7 hl (Nat.le_of_ble_eq_true rfl) (lv' := [(6, .int v6_17), (0, .long v0), (2, .long v2), (4, .int v4), (5, .int v5)]) rfl (fun ls hl => ?_)
  refine lv_iconst (v := 0) hx hb dX2_united_9 ki_0 ?_
  refine lv_iload hx hb dX2_united_10 (lv_at hl 4 rfl) ?_
  refine lv_ineg hx hb dX2_united_12 ?_
  refine va_mmax hx hb (hml.trans hl.1.symm) hown (hw _ tw_21_16) (hw _ tw_21_17) (hw _ tw_19_23) (hw _ tw_21_18) (Nat.le_of_ble_eq_true rfl) (Nat.le_of_ble_eq_true rfl) (Nat.zero_le _) (Nat.zero_le _) dX2_united_13 ?_
  refine nmI (v := mxI 0 (-v5)) rfl ?_
  obtain ⟨v7_18, ev7_18, h⟩ := nm_s h
  refine nmI ev7_18 ?_
  refine lv_istore hx hb dX2_united_16 hl (Nat.le_of_ble_eq_true rfl) (lv' := [(7, .int v7_18), (6, .int v6_17), (0, .long v0), (2, .long v2), (4, .int v4), (5, .int v5)]) rfl (fun ls hl => ?_)
  refine lv_iload hx hb dX2_united_18 (lv_at hl 1 rfl) ?_
  refine lv_lload_n hx hb dX2_united_20 rfl (lv_at hl 2 rfl) ?_
  obtain ⟨r_19, hr_20, h⟩ := bd1_s h
  refine sc_i hx hb hml hown hw hN (c_gr_width l v0 r_19 hr_20) g_RX2_35 hd_X2_width (rest := [.int v6_17]) hl.1 hS dX2_united_21 rfl rfl ⟨Nat.le_of_ble_eq_true rfl, Nat.le_of_ble_eq_true rfl⟩ rfl rfl (Nat.le_of_ble_eq_true rfl) ⟨Nat.zero_le _, Nat.zero_le _⟩ (fun H locs hk hS => ?_)
  refine lv_iadd hx hb dX2_united_24 ?_
  refine lv_iload hx hb dX2_united_25 (lv_at hl 1 rfl) ?_
  refine lv_iload hx hb dX2_united_27 (lv_at hl 4 rfl) ?_
  refine lv_iadd hx hb dX2_united_29 ?_
  refine lv_lload_n hx hb dX2_united_30 rfl (lv_at hl 3 rfl) ?_
  obtain ⟨r_21, hr_22, h⟩ := bd1_s h
  refine sc_i hx hb hml hown hw hN (c_gr_width l v2 r_21 hr_22) g_RX2_35 hd_X2_width (rest := [.int (v6_17 + v4), .int (v6_17 + r_19)]) hl.1 hS dX2_united_31 rfl rfl ⟨Nat.le_of_ble_eq_true rfl, Nat.le_of_ble_eq_true rfl⟩ rfl rfl (Nat.le_of_ble_eq_true rfl) ⟨Nat.zero_le _, Nat.zero_le _⟩ (fun H locs hk hS => ?_)
  refine lv_iadd hx hb dX2_united_34 ?_
  refine va_mmax hx hb (hml.trans hl.1.symm) hown (hw _ tw_21_16) (hw _ tw_21_17) (hw _ tw_19_23) (hw _ tw_21_18) (Nat.le_of_ble_eq_true rfl) (Nat.le_of_ble_eq_true rfl) (Nat.zero_le _) (Nat.zero_le _) dX2_united_35 ?_
  refine nmI (v := mxI (v6_17 + r_19) ((v6_17 + v4) + r_21)) rfl ?_
  obtain ⟨v8_23, ev8_23, h⟩ := nm_s h
  refine nmI ev8_23 ?_
  refine lv_istore hx hb dX2_united_38 hl (Nat.le_of_ble_eq_true rfl) (lv' := [(8, .int v8_23), (7, .int v7_18), (6, .int v6_17), (0, .long v0), (2, .long v2), (4, .int v4), (5, .int v5)]) rfl (fun ls hl => ?_)
  refine lv_iload hx hb dX2_united_40 (lv_at hl 1 rfl) ?_
  refine lv_lload_n hx hb dX2_united_42 rfl (lv_at hl 3 rfl) ?_
  obtain ⟨r_24, hr_25, h⟩ := bd1_s h
  refine sc_i hx hb hml hown hw hN (c_gr_height l v0 r_24 hr_25) g_RX2_38 hd_X2_height (rest := [.int v7_18]) hl.1 hS dX2_united_43 rfl rfl ⟨Nat.le_of_ble_eq_true rfl, Nat.le_of_ble_eq_true rfl⟩ rfl rfl (Nat.le_of_ble_eq_true rfl) ⟨Nat.zero_le _, Nat.zero_le _⟩ (fun H locs hk hS => ?_)
  refine lv_iadd hx hb dX2_united_46 ?_
  refine lv_iload hx hb dX2_united_47 (lv_at hl 1 rfl) ?_
  refine lv_iload hx hb dX2_united_49 (lv_at hl 6 rfl) ?_
  refine lv_iadd hx hb dX2_united_51 ?_
  refine lv_lload_n hx hb dX2_united_52 rfl (lv_at hl 4 rfl) ?_
  obtain ⟨r_26, hr_27, h⟩ := bd1_s h
  refine sc_i hx hb hml hown hw hN (c_gr_height l v2 r_26 hr_27) g_RX2_38 hd_X2_height (rest := [.int (v7_18 + v5), .int (v7_18 + r_24)]) hl.1 hS dX2_united_53 rfl rfl ⟨Nat.le_of_ble_eq_true rfl, Nat.le_of_ble_eq_true rfl⟩ rfl rfl (Nat.le_of_ble_eq_true rfl) ⟨Nat.zero_le _, Nat.zero_le _⟩ (fun H locs hk hS => ?_)
  refine lv_iadd hx hb dX2_united_56 ?_
  refine va_mmax hx hb (hml.trans hl.1.symm) hown (hw _ tw_21_16) (hw _ tw_21_17) (hw _ tw_19_23) (hw _ tw_21_18) (Nat.le_of_ble_eq_true rfl) (Nat.le_of_ble_eq_true rfl) (Nat.zero_le _) (Nat.zero_le _) dX2_united_57 ?_
  refine nmI (v := mxI (v7_18 + r_24) ((v7_18 + v5) + r_26)) rfl ?_
  obtain ⟨v9_28, ev9_28, h⟩ := nm_s h
  refine nmI ev9_28 ?_
  refine lv_istore hx hb dX2_united_60 hl (Nat.le_of_ble_eq_true rfl) (lv' := [(9, .int v9_28), (8, .int v8_23), (7, .int v7_18), (6, .int v6_17), (0, .long v0), (2, .long v2), (4, .int v4), (5, .int v5)]) rfl (fun ls hl => ?_)
  refine lv_iload hx hb dX2_united_62 (lv_at hl 1 rfl) ?_
  refine lv_bipush (v := 7) hx hb dX2_united_64 kb_7 ?_
  refine lv_icmp_gt hx hb dX2_united_66 (tgt := 76) rfl (fun hc => ?_) (fun hc => ?_)
  · replace h := ifp h hc
    refine lv_lconst (v := 0) hx hb dX2_united_76 kl_0 ?_
    exact rt_l hx hb hr hlocks hS dX2_united_77 h
  · replace h := ifn h hc
    refine lv_iload hx hb dX2_united_69 (lv_at hl 0 rfl) ?_
    refine lv_bipush (v := 7) hx hb dX2_united_71 kb_7 ?_
    refine lv_icmp_le hx hb dX2_united_73 (tgt := 78) rfl (fun hc => ?_) (fun hc => ?_)
    · replace h := ifp h hc
      refine lv_lload_n hx hb dX2_united_78 rfl (lv_at hl 4 rfl) ?_
      refine lv_iload hx hb dX2_united_79 (lv_at hl 3 rfl) ?_
      refine lv_iload hx hb dX2_united_81 (lv_at hl 2 rfl) ?_
      obtain ⟨r_29, hr_30, h⟩ := bd1_s h
      refine sc_l hx hb hml hown hw hN (c_gr_moved l v0 v6_17 v7_18 r_29 hr_30) g_RX2_41 hd_X2_moved (rest := []) hl.1 hS dX2_united_83 rfl rfl ⟨Nat.le_of_ble_eq_true rfl, Nat.le_of_ble_eq_true rfl⟩ rfl rfl (Nat.le_of_ble_eq_true rfl) ⟨Nat.zero_le _, Nat.zero_le _⟩ (fun H locs hk hS => ?_)
      refine lv_lload_n hx hb dX2_united_86 rfl (lv_at hl 5 rfl) ?_
      refine lv_iload hx hb dX2_united_87 (lv_at hl 3 rfl) ?_
      refine lv_iload hx hb dX2_united_89 (lv_at hl 6 rfl) ?_
      refine lv_iadd hx hb dX2_united_91 ?_
      refine lv_iload hx hb dX2_united_92 (lv_at hl 2 rfl) ?_
      refine lv_iload hx hb dX2_united_94 (lv_at hl 7 rfl) ?_
      refine lv_iadd hx hb dX2_united_96 ?_
      obtain ⟨r_31, hr_32, h⟩ := bd1_s h
      refine sc_l hx hb hml hown hw hN (c_gr_moved l v2 (v6_17 + v4) (v7_18 + v5) r_31 hr_32) g_RX2_41 hd_X2_moved (rest := [.long r_29]) hl.1 hS dX2_united_97 rfl rfl ⟨Nat.le_of_ble_eq_true rfl, Nat.le_of_ble_eq_true rfl⟩ rfl rfl (Nat.le_of_ble_eq_true rfl) ⟨Nat.zero_le _, Nat.zero_le _⟩ (fun H locs hk hS => ?_)
      refine lv_lor hx hb dX2_united_100 ?_
      exact rt_l hx hb hr hlocks hS dX2_united_101 h
    · replace h := ifn h hc
      refine lv_lconst (v := 0) hx hb dX2_united_76 kl_0 ?_
      exact rt_l hx hb hr hlocks hS dX2_united_77 h
noncomputable def gr_isFigure (v0 : Int64) : Option (Int32) :=
  if (v0 &&& (((-35887507618889600) : Int64))) = 0 then (if (v0 &&& (255 : Int64)) = 0 then (zb 0 (some 0)) else
  if (v0 &&& (72340172838076673 : Int64)) = 0 then (zb 0 (some 0)) else
  bd1 (jl_bitCount v0) fun r_1 =>
  if 12 < r_1 then (zb 0 (some 0)) else
  bd1 (gr_hangs v0) fun r_3 =>
  if r_3 = 0 then (zb 0 (some 0)) else
  zb 1 (some 1)) else
  zb 0 (some 0)
set_option maxHeartbeats 4000000 in
set_option maxRecDepth 100000 in
theorem c_gr_isFigure (l : Launch) (v0 : Int64) (r : Int32) (h : gr_isFigure v0 = some r) : Met l yX2_isFigure (wm yX2_isFigure cX2_isFigure 2 (some .boolean)) (rmm 3 70) (va_Pc [.long v0] NW) (Qi r) 0 0 NoA := by
  refine met_s (y := yX2_isFigure) (rm := rmm 3 70) (by decide) (Nat.le_of_ble_eq_true rfl) ?_
  intro p e s m below meth c hx hb hr hw hown hlocks _ hml hN ls hl
  replace hl : lv_has ls 2 [(0, .long v0)] := hl
  have hS : va_S NoA s.heap s.heap [] := va_S.rf
  generalize (([.long v0] : List Value).toArray) = av at hw ⊢
  rw [gr_isFigure] at h
  refine lv_lload_n hx hb dX2_isFigure_0 rfl (lv_at hl 0 rfl) ?_
  refine lv_ldc2 hx hb hown (hw _ tw_12_1) dX2_isFigure_1 ?_
  refine lv_land hx hb dX2_isFigure_4 ?_
  refine lv_lconst (v := 0) hx hb dX2_isFigure_5 kl_0 ?_
  refine W.lcmp hx hb dX2_isFigure_6 ?_
  refine lv_if_ne hx hb dX2_isFigure_7 (tgt := 50) rfl (fun hc => ?_) (fun hc => ?_)
  · replace h := ifn h (fun q => hc ((lg_cmp_eq _ _).mpr q))
    refine lv_iconst (v := 0) hx hb dX2_isFigure_50 ki_0 ?_
    exact rt_z hx hb hr hlocks hS dX2_isFigure_51 h
  · replace h := ifp h ((lg_cmp_eq _ _).mp hc)
    refine lv_lload_n hx hb dX2_isFigure_10 rfl (lv_at hl 0 rfl) ?_
    refine lv_ldc2 hx hb hown (hw _ tw_11_21) dX2_isFigure_11 ?_
    refine lv_land hx hb dX2_isFigure_14 ?_
    refine lv_lconst (v := 0) hx hb dX2_isFigure_15 kl_0 ?_
    refine W.lcmp hx hb dX2_isFigure_16 ?_
    refine lv_if_eq hx hb dX2_isFigure_17 (tgt := 50) rfl (fun hc => ?_) (fun hc => ?_)
    · replace h := ifp h ((lg_cmp_eq _ _).mp hc)
      refine lv_iconst (v := 0) hx hb dX2_isFigure_50 ki_0 ?_
      exact rt_z hx hb hr hlocks hS dX2_isFigure_51 h
    · replace h := ifn h (fun q => hc ((lg_cmp_eq _ _).mpr q))
      refine lv_lload_n hx hb dX2_isFigure_20 rfl (lv_at hl 0 rfl) ?_
      refine lv_ldc2 hx hb hown (hw _ tw_12_2) dX2_isFigure_21 ?_
      refine lv_land hx hb dX2_isFigure_24 ?_
      refine lv_lconst (v := 0) hx hb dX2_isFigure_25 kl_0 ?_
      refine W.lcmp hx hb dX2_isFigure_26 ?_
      refine lv_if_eq hx hb dX2_isFigure_27 (tgt := 50) rfl (fun hc => ?_) (fun hc => ?_)
      · replace h := ifp h ((lg_cmp_eq _ _).mp hc)
        refine lv_iconst (v := 0) hx hb dX2_isFigure_50 ki_0 ?_
        exact rt_z hx hb hr hlocks hS dX2_isFigure_51 h
      · replace h := ifn h (fun q => hc ((lg_cmp_eq _ _).mpr q))
        refine lv_lload_n hx hb dX2_isFigure_30 rfl (lv_at hl 0 rfl) ?_
        obtain ⟨r_5, hr_6, h⟩ := bd1_s h
        refine sc_i hx hb hml hown hw hN (c_jl_bitCount l v0 r_5 hr_6) g_RX2_11 hd_J13_bitCount_95d88 (rest := []) hl.1 hS dX2_isFigure_31 rfl rfl ⟨Nat.le_of_ble_eq_true rfl, Nat.le_of_ble_eq_true rfl⟩ rfl rfl (Nat.le_of_ble_eq_true rfl) ⟨Nat.zero_le _, Nat.zero_le _⟩ (fun H locs hk hS => ?_)
        refine lv_bipush (v := 12) hx hb dX2_isFigure_34 kb_12 ?_
        refine lv_icmp_gt hx hb dX2_isFigure_36 (tgt := 50) rfl (fun hc => ?_) (fun hc => ?_)
        · replace h := ifp h hc
          refine lv_iconst (v := 0) hx hb dX2_isFigure_50 ki_0 ?_
          exact rt_z hx hb hr hlocks hS dX2_isFigure_51 h
        · replace h := ifn h hc
          refine lv_lload_n hx hb dX2_isFigure_39 rfl (lv_at hl 0 rfl) ?_
          obtain ⟨r_7, hr_8, h⟩ := bd1_s h
          refine sc_i hx hb hml hown hw hN (c_gr_hangs l v0 r_7 hr_8) g_RX2_54 hd_X2_hangs (rest := []) hl.1 hS dX2_isFigure_40 rfl rfl ⟨Nat.le_of_ble_eq_true rfl, Nat.le_of_ble_eq_true rfl⟩ rfl rfl (Nat.le_of_ble_eq_true rfl) ⟨Nat.zero_le _, Nat.zero_le _⟩ (fun H locs hk hS => ?_)
          refine lv_if_eq hx hb dX2_isFigure_43 (tgt := 50) rfl (fun hc => ?_) (fun hc => ?_)
          · replace h := ifp h hc
            refine lv_iconst (v := 0) hx hb dX2_isFigure_50 ki_0 ?_
            exact rt_z hx hb hr hlocks hS dX2_isFigure_51 h
          · replace h := ifn h hc
            refine lv_iconst (v := 1) hx hb dX2_isFigure_46 ki_1 ?_
            refine lv_goto hx hb dX2_isFigure_47 (tgt := 51) rfl ?_
            exact rt_z hx hb hr hlocks hS dX2_isFigure_51 h
noncomputable def gr_turned_B17 (v2 : Int32)  (k17 : Int64 → Int32 → Option (Int64)) (v3 : Int64) (v5 : Int32) : Option (Int64) :=
  if (v2 &&& 3) ≤ v5 then (some v3) else
  bd1 (gr_quarter v3) fun r_1 =>
  nm (v5 + Int32.ofInt 1) fun v5_3 =>
  k17 r_1 v5_3
noncomputable def gr_turned_J13  (v2 : Int32) (t0 : Int64) : Option (Int64) :=
  fl2 (gr_turned_B17 v2) FU t0 0
noncomputable def gr_turned (v0 : Int64) (v2 : Int32) : Option (Int64) :=
  if v2 < 4 then (gr_turned_J13 v2 v0) else
  bd1 (gr_mirrored v0) fun r_4 =>
  gr_turned_J13 v2 r_4
set_option maxHeartbeats 4000000 in
set_option maxRecDepth 100000 in
theorem c_gr_turned (l : Launch) (v0 : Int64) (v2 : Int32) (r : Int64) (h : gr_turned v0 v2 = some r) : Met l yX2_turned (wm yX2_turned cX2_turned 6 (some .long)) (rmm 3 69) (va_Pc [.long v0, .int v2] NW) (Ql r) 0 0 NoA := by
  refine met_s (y := yX2_turned) (rm := rmm 3 69) (by decide) (Nat.le_of_ble_eq_true rfl) ?_
  intro p e s m below meth c hx hb hr hw hown hlocks _ hml hN ls hl
  replace hl : lv_has ls 6 [(0, .long v0), (2, .int v2)] := hl
  have hS : va_S NoA s.heap s.heap [] := va_S.rf
  generalize (([.long v0, .int v2] : List Value).toArray) = av at hw ⊢
  rw [gr_turned] at h
  have hL17 : ∀ (v2 : Int32), ∀ (n17 : Nat) (H : Heap) (locs : List Loc) (ls : Array Slot) (v3 : Int64) (v5 : Int32), lv_has ls 6 [(2, .int v2), (3, .long v3), (5, .int v5)] → va_S NoA s.heap H locs → fl2 (gr_turned_B17 v2) n17 v3 v5 = some r → W p l e (rmm 3 69) s m av below meth c H locs 0 0 (MQ below (Ql r) av s 0 0 NoA) (F0 m 17 ls []) := by
    intro v2 n17
    induction n17 with
    | zero => intro H locs ls v3 v5 hl hS h; cases h
    | succ n17 ih17 =>
      intro H locs ls v3 v5 hl hS h
      replace h : gr_turned_B17 v2 (fl2 (gr_turned_B17 v2) n17) v3 v5 = some r := h
      generalize fl2 (gr_turned_B17 v2) n17 = k17 at h ih17
      rw [gr_turned_B17] at h
      refine lv_iload hx hb dX2_turned_17 (lv_at hl 2 rfl) ?_
      refine lv_iload_n hx hb dX2_turned_19 rfl (lv_at hl 0 rfl) ?_
      refine lv_iconst (v := 3) hx hb dX2_turned_20 ki_3 ?_
      refine lv_iand hx hb dX2_turned_21 ?_
      refine lv_icmp_ge hx hb dX2_turned_22 (tgt := 36) rfl (fun hc => ?_) (fun hc => ?_)
      · replace h := ifp h hc
        refine lv_lload_n hx hb dX2_turned_36 rfl (lv_at hl 1 rfl) ?_
        exact rt_l hx hb hr hlocks hS dX2_turned_37 h
      · replace h := ifn h hc
        refine lv_lload_n hx hb dX2_turned_25 rfl (lv_at hl 1 rfl) ?_
        obtain ⟨r_6, hr_7, h⟩ := bd1_s h
        refine sc_l hx hb hml hown hw hN (c_gr_quarter l v3 r_6 hr_7) g_RX2_82 hd_X2_quarter (rest := []) hl.1 hS dX2_turned_26 rfl rfl ⟨Nat.le_of_ble_eq_true rfl, Nat.le_of_ble_eq_true rfl⟩ rfl rfl (Nat.le_of_ble_eq_true rfl) ⟨Nat.zero_le _, Nat.zero_le _⟩ (fun H locs hk hS => ?_)
        refine lv_lstore_n hx hb dX2_turned_29 rfl hl (Nat.le_of_ble_eq_true rfl) (lv' := [(3, .long r_6), (2, .int v2), (5, .int v5)]) rfl (fun ls hl => ?_)
        obtain ⟨v5_8, ev5_8, h⟩ := nm_s h
        refine lv_iinc hx hb dX2_turned_30 hl (k := 2) rfl ev5_8.symm (Nat.le_of_ble_eq_true rfl) (lv' := [(5, .int v5_8), (3, .long r_6), (2, .int v2)]) rfl (fun ls hl => ?_)
        refine lv_goto hx hb dX2_turned_33 (tgt := 17) rfl ?_
        exact ih17 _ _ _ r_6 v5_8 (lv_sub hl [2, 1, 0] rfl) hS h
  have hJ13 : ∀ (H : Heap) (locs : List Loc) (ls : Array Slot) (v2 : Int32) (t0 : Int64), lv_has ls 6 [(2, .int v2)] → va_S NoA s.heap H locs → gr_turned_J13 v2 t0 = some r → W p l e (rmm 3 69) s m av below meth c H locs 0 0 (MQ below (Ql r) av s 0 0 NoA) (F0 m 13 ls [.long t0]) := by
    intro H locs ls v2 t0 hl hS h
    rw [gr_turned_J13] at h
    refine lv_lstore_n hx hb dX2_turned_13 rfl hl (Nat.le_of_ble_eq_true rfl) (lv' := [(3, .long t0), (2, .int v2)]) rfl (fun ls hl => ?_)
    refine lv_iconst (v := 0) hx hb dX2_turned_14 ki_0 ?_
    refine lv_istore hx hb dX2_turned_15 hl (Nat.le_of_ble_eq_true rfl) (lv' := [(5, .int 0), (3, .long t0), (2, .int v2)]) rfl (fun ls hl => ?_)
    exact hL17 v2 FU _ _ _ t0 0 (lv_sub hl [2, 1, 0] rfl) hS h
  refine lv_iload_n hx hb dX2_turned_0 rfl (lv_at hl 1 rfl) ?_
  refine lv_iconst (v := 4) hx hb dX2_turned_1 ki_4 ?_
  refine lv_icmp_lt hx hb dX2_turned_2 (tgt := 12) rfl (fun hc => ?_) (fun hc => ?_)
  · replace h := ifp h hc
    refine lv_lload_n hx hb dX2_turned_12 rfl (lv_at hl 0 rfl) ?_
    exact hJ13 _ _ _ v2 v0 (lv_sub hl [1] rfl) hS h
  · replace h := ifn h hc
    refine lv_lload_n hx hb dX2_turned_5 rfl (lv_at hl 0 rfl) ?_
    obtain ⟨r_9, hr_10, h⟩ := bd1_s h
    refine sc_l hx hb hml hown hw hN (c_gr_mirrored l v0 r_9 hr_10) g_RX2_79 hd_X2_mirrored (rest := []) hl.1 hS dX2_turned_6 rfl rfl ⟨Nat.le_of_ble_eq_true rfl, Nat.le_of_ble_eq_true rfl⟩ rfl rfl (Nat.le_of_ble_eq_true rfl) ⟨Nat.zero_le _, Nat.zero_le _⟩ (fun H locs hk hS => ?_)
    refine lv_goto hx hb dX2_turned_9 (tgt := 13) rfl ?_
    exact hJ13 _ _ _ v2 r_9 (lv_sub hl [1] rfl) hS h
noncomputable def gr_least_J35 (k8 : Int64 → Int64 → Int32 → Option (Int64)) (v0 : Int64) (v2 : Int32) (v3 : Int64) (v7 : Int32) (t0 : Int64) : Option (Int64) :=
  nm (mnL v3 t0 : Int64) fun v3_1 =>
  nm (v7 + Int32.ofInt 1) fun v7_2 =>
  k8 v3_1 t0 v7_2
noncomputable def gr_least_B8 (v0 : Int64) (v2 : Int32)  (k8 : Int64 → Int64 → Int32 → Option (Int64)) (v3 : Int64) (v5 : Int64) (v7 : Int32) : Option (Int64) :=
  bd1 (gr_turnsOf v2) fun r_3 =>
  if r_3 ≤ v7 then (some v3) else
  if v7 = 4 then (bd1 (gr_mirrored v0) fun r_7 =>
  gr_least_J35 k8 v0 v2 v3 v7 r_7) else
  bd1 (gr_quarter v5) fun r_5 =>
  gr_least_J35 k8 v0 v2 v3 v7 r_5
noncomputable def gr_least (v0 : Int64) (v2 : Int32) : Option (Int64) :=
  fl3 (gr_least_B8 v0 v2) FU v0 v0 1
set_option maxHeartbeats 4000000 in
set_option maxRecDepth 100000 in
theorem c_gr_least (l : Launch) (v0 : Int64) (v2 : Int32) (r : Int64) (h : gr_least v0 v2 = some r) : Met l yX2_least (wm yX2_least cX2_least 8 (some .long)) (rmm 3 69) (va_Pc [.long v0, .int v2] NW) (Ql r) 0 0 NoA := by
  refine met_s (y := yX2_least) (rm := rmm 3 69) (by decide) (Nat.le_of_ble_eq_true rfl) ?_
  intro p e s m below meth c hx hb hr hw hown hlocks _ hml hN ls hl
  replace hl : lv_has ls 8 [(0, .long v0), (2, .int v2)] := hl
  have hS : va_S NoA s.heap s.heap [] := va_S.rf
  generalize (([.long v0, .int v2] : List Value).toArray) = av at hw ⊢
  rw [gr_least] at h
  have hL8 : ∀ (v0 : Int64), ∀ (v2 : Int32), ∀ (n8 : Nat) (H : Heap) (locs : List Loc) (ls : Array Slot) (v3 : Int64) (v5 : Int64) (v7 : Int32), lv_has ls 8 [(0, .long v0), (2, .int v2), (3, .long v3), (5, .long v5), (7, .int v7)] → va_S NoA s.heap H locs → fl3 (gr_least_B8 v0 v2) n8 v3 v5 v7 = some r → W p l e (rmm 3 69) s m av below meth c H locs 0 0 (MQ below (Ql r) av s 0 0 NoA) (F0 m 8 ls []) := by
    intro v0 v2 n8
    induction n8 with
    | zero => intro H locs ls v3 v5 v7 hl hS h; cases h
    | succ n8 ih8 =>
      intro H locs ls v3 v5 v7 hl hS h
      replace h : gr_least_B8 v0 v2 (fl3 (gr_least_B8 v0 v2) n8) v3 v5 v7 = some r := h
      generalize fl3 (gr_least_B8 v0 v2) n8 = k8 at h ih8
      have hJ35 : ∀ (H : Heap) (locs : List Loc) (ls : Array Slot) (v3 : Int64) (v7 : Int32) (t0 : Int64), lv_has ls 8 [(0, .long v0), (2, .int v2), (3, .long v3), (7, .int v7)] → va_S NoA s.heap H locs → gr_least_J35 k8 v0 v2 v3 v7 t0 = some r → W p l e (rmm 3 69) s m av below meth c H locs 0 0 (MQ below (Ql r) av s 0 0 NoA) (F0 m 35 ls [.long t0]) := by
        intro H locs ls v3 v7 t0 hl hS h
        rw [gr_least_J35] at h
        refine lv_lstore hx hb dX2_least_35 hl (Nat.le_of_ble_eq_true rfl) (lv' := [(5, .long t0), (0, .long v0), (2, .int v2), (3, .long v3), (7, .int v7)]) rfl (fun ls hl => ?_)
        refine lv_lload_n hx hb dX2_least_37 rfl (lv_at hl 3 rfl) ?_
        refine lv_lload hx hb dX2_least_38 (lv_at hl 0 rfl) ?_
        refine va_mmin_long hx hb (hml.trans hl.1.symm) hown (hw _ tw_19_21) (hw _ tw_19_22) (hw _ tw_19_23) (hw _ tw_20_0) (Nat.le_of_ble_eq_true rfl) (Nat.le_of_ble_eq_true rfl) (Nat.zero_le _) (Nat.zero_le _) dX2_least_40 ?_
        refine nmL (v := mnL v3 t0) rfl ?_
        obtain ⟨v3_9, ev3_9, h⟩ := nm_s h
        refine nmL ev3_9 ?_
        refine lv_lstore_n hx hb dX2_least_43 rfl hl (Nat.le_of_ble_eq_true rfl) (lv' := [(3, .long v3_9), (5, .long t0), (0, .long v0), (2, .int v2), (7, .int v7)]) rfl (fun ls hl => ?_)
        obtain ⟨v7_10, ev7_10, h⟩ := nm_s h
        refine lv_iinc hx hb dX2_least_44 hl (k := 4) rfl ev7_10.symm (Nat.le_of_ble_eq_true rfl) (lv' := [(7, .int v7_10), (3, .long v3_9), (5, .long t0), (0, .long v0), (2, .int v2)]) rfl (fun ls hl => ?_)
        refine lv_goto hx hb dX2_least_47 (tgt := 8) rfl ?_
        exact ih8 _ _ _ v3_9 t0 v7_10 (lv_sub hl [3, 4, 1, 2, 0] rfl) hS h
      rw [gr_least_B8] at h
      refine lv_iload hx hb dX2_least_8 (lv_at hl 4 rfl) ?_
      refine lv_iload_n hx hb dX2_least_10 rfl (lv_at hl 1 rfl) ?_
      obtain ⟨r_11, hr_12, h⟩ := bd1_s h
      refine sc_i hx hb hml hown hw hN (c_gr_turnsOf l v2 r_11 hr_12) g_RX2_85 hd_X2_turnsOf (rest := [.int v7]) hl.1 hS dX2_least_11 rfl rfl ⟨Nat.le_of_ble_eq_true rfl, Nat.le_of_ble_eq_true rfl⟩ rfl rfl (Nat.le_of_ble_eq_true rfl) ⟨Nat.zero_le _, Nat.zero_le _⟩ (fun H locs hk hS => ?_)
      refine lv_icmp_ge hx hb dX2_least_14 (tgt := 50) rfl (fun hc => ?_) (fun hc => ?_)
      · replace h := ifp h hc
        refine lv_lload_n hx hb dX2_least_50 rfl (lv_at hl 2 rfl) ?_
        exact rt_l hx hb hr hlocks hS dX2_least_51 h
      · replace h := ifn h hc
        refine lv_iload hx hb dX2_least_17 (lv_at hl 4 rfl) ?_
        refine lv_iconst (v := 4) hx hb dX2_least_19 ki_4 ?_
        refine lv_icmp_ne hx hb dX2_least_20 (tgt := 30) rfl (fun hc => ?_) (fun hc => ?_)
        · replace h := ifn h hc
          refine lv_lload hx hb dX2_least_30 (lv_at hl 3 rfl) ?_
          obtain ⟨r_13, hr_14, h⟩ := bd1_s h
          refine sc_l hx hb hml hown hw hN (c_gr_quarter l v5 r_13 hr_14) g_RX2_82 hd_X2_quarter (rest := []) hl.1 hS dX2_least_32 rfl rfl ⟨Nat.le_of_ble_eq_true rfl, Nat.le_of_ble_eq_true rfl⟩ rfl rfl (Nat.le_of_ble_eq_true rfl) ⟨Nat.zero_le _, Nat.zero_le _⟩ (fun H locs hk hS => ?_)
          exact hJ35 _ _ _ v3 v7 r_13 (lv_sub hl [0, 1, 2, 4] rfl) hS h
        · replace h := ifp h hc
          refine lv_lload_n hx hb dX2_least_23 rfl (lv_at hl 0 rfl) ?_
          obtain ⟨r_15, hr_16, h⟩ := bd1_s h
          refine sc_l hx hb hml hown hw hN (c_gr_mirrored l v0 r_15 hr_16) g_RX2_79 hd_X2_mirrored (rest := []) hl.1 hS dX2_least_24 rfl rfl ⟨Nat.le_of_ble_eq_true rfl, Nat.le_of_ble_eq_true rfl⟩ rfl rfl (Nat.le_of_ble_eq_true rfl) ⟨Nat.zero_le _, Nat.zero_le _⟩ (fun H locs hk hS => ?_)
          refine lv_goto hx hb dX2_least_27 (tgt := 35) rfl ?_
          exact hJ35 _ _ _ v3 v7 r_15 (lv_sub hl [0, 1, 2, 4] rfl) hS h
  refine lv_lload_n hx hb dX2_least_0 rfl (lv_at hl 0 rfl) ?_
  refine lv_lstore_n hx hb dX2_least_1 rfl hl (Nat.le_of_ble_eq_true rfl) (lv' := [(3, .long v0), (0, .long v0), (2, .int v2)]) rfl (fun ls hl => ?_)
  refine lv_lload_n hx hb dX2_least_2 rfl (lv_at hl 1 rfl) ?_
  refine lv_lstore hx hb dX2_least_3 hl (Nat.le_of_ble_eq_true rfl) (lv' := [(5, .long v0), (3, .long v0), (0, .long v0), (2, .int v2)]) rfl (fun ls hl => ?_)
  refine lv_iconst (v := 1) hx hb dX2_least_5 ki_1 ?_
  refine lv_istore hx hb dX2_least_6 hl (Nat.le_of_ble_eq_true rfl) (lv' := [(7, .int 1), (5, .long v0), (3, .long v0), (0, .long v0), (2, .int v2)]) rfl (fun ls hl => ?_)
  exact hL8 v0 v2 FU _ _ _ v0 v0 1 (lv_sub hl [3, 4, 2, 1, 0] rfl) hS h
noncomputable def gw_bitOf_B5 (v2 : Int32)  (k5 : Int64 → Int32 → Option (Int64)) (v3 : Int64) (v5 : Int32) : Option (Int64) :=
  if v2 ≤ v5 then (some (v3 &&& (-v3))) else
  nm (v3 &&& (v3 - 1) : Int64) fun v3_1 =>
  nm (v5 + Int32.ofInt 1) fun v5_2 =>
  k5 v3_1 v5_2
noncomputable def gw_bitOf (v0 : Int64) (v2 : Int32) : Option (Int64) :=
  fl2 (gw_bitOf_B5 v2) FU v0 0
set_option maxHeartbeats 4000000 in
set_option maxRecDepth 100000 in
theorem c_gw_bitOf (l : Launch) (v0 : Int64) (v2 : Int32) (r : Int64) (h : gw_bitOf v0 v2 = some r) : Met l yX3_bitOf (wm yX3_bitOf cX3_bitOf 6 (some .long)) (rmm 0 0) (va_Pc [.long v0, .int v2] NW) (Ql r) 0 0 NoA := by
  refine met_s (y := yX3_bitOf) (rm := rmm 0 0) (by decide) (Nat.le_of_ble_eq_true rfl) ?_
  intro p e s m below meth c hx hb hr hw hown hlocks _ hml hN ls hl
  replace hl : lv_has ls 6 [(0, .long v0), (2, .int v2)] := hl
  have hS : va_S NoA s.heap s.heap [] := va_S.rf
  generalize (([.long v0, .int v2] : List Value).toArray) = av at hw ⊢
  rw [gw_bitOf] at h
  have hL5 : ∀ (v2 : Int32), ∀ (n5 : Nat) (H : Heap) (locs : List Loc) (ls : Array Slot) (v3 : Int64) (v5 : Int32), lv_has ls 6 [(2, .int v2), (3, .long v3), (5, .int v5)] → va_S NoA s.heap H locs → fl2 (gw_bitOf_B5 v2) n5 v3 v5 = some r → W p l e (rmm 0 0) s m av below meth c H locs 0 0 (MQ below (Ql r) av s 0 0 NoA) (F0 m 5 ls []) := by
    intro v2 n5
    induction n5 with
    | zero => intro H locs ls v3 v5 hl hS h; cases h
    | succ n5 ih5 =>
      intro H locs ls v3 v5 hl hS h
      replace h : gw_bitOf_B5 v2 (fl2 (gw_bitOf_B5 v2) n5) v3 v5 = some r := h
      generalize fl2 (gw_bitOf_B5 v2) n5 = k5 at h ih5
      rw [gw_bitOf_B5] at h
      refine lv_iload hx hb dX3_bitOf_5 (lv_at hl 2 rfl) ?_
      refine lv_iload_n hx hb dX3_bitOf_7 rfl (lv_at hl 0 rfl) ?_
      refine lv_icmp_ge hx hb dX3_bitOf_8 (tgt := 23) rfl (fun hc => ?_) (fun hc => ?_)
      · replace h := ifp h hc
        refine lv_lload_n hx hb dX3_bitOf_23 rfl (lv_at hl 1 rfl) ?_
        refine lv_lload_n hx hb dX3_bitOf_24 rfl (lv_at hl 1 rfl) ?_
        refine lv_lneg hx hb dX3_bitOf_25 ?_
        refine lv_land hx hb dX3_bitOf_26 ?_
        exact rt_l hx hb hr hlocks hS dX3_bitOf_27 h
      · replace h := ifn h hc
        refine lv_lload_n hx hb dX3_bitOf_11 rfl (lv_at hl 1 rfl) ?_
        refine lv_lload_n hx hb dX3_bitOf_12 rfl (lv_at hl 1 rfl) ?_
        refine lv_lconst (v := 1) hx hb dX3_bitOf_13 kl_1 ?_
        refine lv_lsub hx hb dX3_bitOf_14 ?_
        refine lv_land hx hb dX3_bitOf_15 ?_
        obtain ⟨v3_3, ev3_3, h⟩ := nm_s h
        refine nmL ev3_3 ?_
        refine lv_lstore_n hx hb dX3_bitOf_16 rfl hl (Nat.le_of_ble_eq_true rfl) (lv' := [(3, .long v3_3), (2, .int v2), (5, .int v5)]) rfl (fun ls hl => ?_)
        obtain ⟨v5_4, ev5_4, h⟩ := nm_s h
        refine lv_iinc hx hb dX3_bitOf_17 hl (k := 2) rfl ev5_4.symm (Nat.le_of_ble_eq_true rfl) (lv' := [(5, .int v5_4), (3, .long v3_3), (2, .int v2)]) rfl (fun ls hl => ?_)
        refine lv_goto hx hb dX3_bitOf_20 (tgt := 5) rfl ?_
        exact ih5 _ _ _ v3_3 v5_4 (lv_sub hl [2, 1, 0] rfl) hS h
  refine lv_lload_n hx hb dX3_bitOf_0 rfl (lv_at hl 0 rfl) ?_
  refine lv_lstore_n hx hb dX3_bitOf_1 rfl hl (Nat.le_of_ble_eq_true rfl) (lv' := [(3, .long v0), (0, .long v0), (2, .int v2)]) rfl (fun ls hl => ?_)
  refine lv_iconst (v := 0) hx hb dX3_bitOf_2 ki_0 ?_
  refine lv_istore hx hb dX3_bitOf_3 hl (Nat.le_of_ble_eq_true rfl) (lv' := [(5, .int 0), (3, .long v0), (0, .long v0), (2, .int v2)]) rfl (fun ls hl => ?_)
  exact hL5 v2 FU _ _ _ v0 0 (lv_sub hl [3, 1, 0] rfl) hS h
noncomputable def gw_byLots_B11 (v1 : Int32)  (k11 : Int64 → Int32 → Int32 → Option (Int64)) (v2 : Int64) (v4 : Int32) (v5 : Int32) : Option (Int64) :=
  if v1 ≤ v5 then (some v2) else
  bd1 (gr_roomed v2) fun r_1 =>
  bd1 (gr_sites v2 r_1) fun r_3 =>
  bd1 (jl_bitCount r_3) fun r_5 =>
  if r_5 = 0 then (some v2) else
  nm (((25173 * v4) + 13849) &&& (65535 : Int32) : Int32) fun v4_7 =>
  dzI 4 <|
  dzI r_5 <|
  bd1 (gw_bitOf r_3 (remI (v4_7 / 4) r_5)) fun r_8 =>
  bd1 (gr_settled (r_1 ||| r_8)) fun r_10 =>
  nm (v5 + Int32.ofInt 1) fun v5_12 =>
  k11 r_10 v4_7 v5_12
noncomputable def gw_byLots (v0 : Int32) (v1 : Int32) : Option (Int64) :=
  nm (v0 &&& (65535 : Int32) : Int32) fun v4_13 =>
  fl3 (gw_byLots_B11 v1) FU 1 v4_13 1
set_option maxHeartbeats 4000000 in
set_option maxRecDepth 100000 in
theorem c_gw_byLots (l : Launch) (v0 : Int32) (v1 : Int32) (r : Int64) (h : gw_byLots v0 v1 = some r) : Met l yX3_byLots (wm yX3_byLots cX3_byLots 11 (some .long)) (rmm 3 69) (va_Pc [.int v0, .int v1] NW) (Ql r) 0 0 NoA := by
  refine met_s (y := yX3_byLots) (rm := rmm 3 69) (by decide) (Nat.le_of_ble_eq_true rfl) ?_
  intro p e s m below meth c hx hb hr hw hown hlocks _ hml hN ls hl
  replace hl : lv_has ls 11 [(0, .int v0), (1, .int v1)] := hl
  have hS : va_S NoA s.heap s.heap [] := va_S.rf
  generalize (([.int v0, .int v1] : List Value).toArray) = av at hw ⊢
  rw [gw_byLots] at h
  have hL11 : ∀ (v1 : Int32), ∀ (n11 : Nat) (H : Heap) (locs : List Loc) (ls : Array Slot) (v2 : Int64) (v4 : Int32) (v5 : Int32), lv_has ls 11 [(1, .int v1), (2, .long v2), (4, .int v4), (5, .int v5)] → va_S NoA s.heap H locs → fl3 (gw_byLots_B11 v1) n11 v2 v4 v5 = some r → W p l e (rmm 3 69) s m av below meth c H locs 0 0 (MQ below (Ql r) av s 0 0 NoA) (F0 m 11 ls []) := by
    intro v1 n11
    induction n11 with
    | zero => intro H locs ls v2 v4 v5 hl hS h; cases h
    | succ n11 ih11 =>
      intro H locs ls v2 v4 v5 hl hS h
      replace h : gw_byLots_B11 v1 (fl3 (gw_byLots_B11 v1) n11) v2 v4 v5 = some r := h
      generalize fl3 (gw_byLots_B11 v1) n11 = k11 at h ih11
      rw [gw_byLots_B11] at h
      refine lv_iload hx hb dX3_byLots_11 (lv_at hl 3 rfl) ?_
      refine lv_iload_n hx hb dX3_byLots_13 rfl (lv_at hl 0 rfl) ?_
      refine lv_icmp_ge hx hb dX3_byLots_14 (tgt := 85) rfl (fun hc => ?_) (fun hc => ?_)
      · replace h := ifp h hc
        refine lv_lload_n hx hb dX3_byLots_85 rfl (lv_at hl 1 rfl) ?_
        exact rt_l hx hb hr hlocks hS dX3_byLots_86 h
      · replace h := ifn h hc
        refine lv_lload_n hx hb dX3_byLots_17 rfl (lv_at hl 1 rfl) ?_
        obtain ⟨r_14, hr_15, h⟩ := bd1_s h
        refine sc_l hx hb hml hown hw hN (c_gr_roomed l v2 r_14 hr_15) g_RX3_42 hd_X2_roomed (rest := []) hl.1 hS dX3_byLots_18 rfl rfl ⟨Nat.le_of_ble_eq_true rfl, Nat.le_of_ble_eq_true rfl⟩ rfl rfl (Nat.le_of_ble_eq_true rfl) ⟨Nat.zero_le _, Nat.zero_le _⟩ (fun H locs hk hS => ?_)
        refine lv_lstore hx hb dX3_byLots_21 hl (Nat.le_of_ble_eq_true rfl) (lv' := [(6, .long r_14), (1, .int v1), (2, .long v2), (4, .int v4), (5, .int v5)]) rfl (fun ls hl => ?_)
        refine lv_lload_n hx hb dX3_byLots_23 rfl (lv_at hl 2 rfl) ?_
        refine lv_lload hx hb dX3_byLots_24 (lv_at hl 0 rfl) ?_
        obtain ⟨r_16, hr_17, h⟩ := bd1_s h
        refine sc_l hx hb hml hown hw hN (c_gr_sites l v2 r_14 r_16 hr_17) g_RX3_45 hd_X2_sites (rest := []) hl.1 hS dX3_byLots_26 rfl rfl ⟨Nat.le_of_ble_eq_true rfl, Nat.le_of_ble_eq_true rfl⟩ rfl rfl (Nat.le_of_ble_eq_true rfl) ⟨Nat.zero_le _, Nat.zero_le _⟩ (fun H locs hk hS => ?_)
        refine lv_lstore hx hb dX3_byLots_29 hl (Nat.le_of_ble_eq_true rfl) (lv' := [(8, .long r_16), (6, .long r_14), (1, .int v1), (2, .long v2), (4, .int v4), (5, .int v5)]) rfl (fun ls hl => ?_)
        refine lv_lload hx hb dX3_byLots_31 (lv_at hl 0 rfl) ?_
        obtain ⟨r_18, hr_19, h⟩ := bd1_s h
        refine sc_i hx hb hml hown hw hN (c_jl_bitCount l r_16 r_18 hr_19) g_RX3_36 hd_J13_bitCount_95d88 (rest := []) hl.1 hS dX3_byLots_33 rfl rfl ⟨Nat.le_of_ble_eq_true rfl, Nat.le_of_ble_eq_true rfl⟩ rfl rfl (Nat.le_of_ble_eq_true rfl) ⟨Nat.zero_le _, Nat.zero_le _⟩ (fun H locs hk hS => ?_)
        refine lv_istore hx hb dX3_byLots_36 hl (Nat.le_of_ble_eq_true rfl) (lv' := [(10, .int r_18), (8, .long r_16), (6, .long r_14), (1, .int v1), (2, .long v2), (4, .int v4), (5, .int v5)]) rfl (fun ls hl => ?_)
        refine lv_iload hx hb dX3_byLots_38 (lv_at hl 0 rfl) ?_
        refine lv_if_ne hx hb dX3_byLots_40 (tgt := 45) rfl (fun hc => ?_) (fun hc => ?_)
        · replace h := ifn h hc
          refine lv_sipush (v := 25173) hx hb dX3_byLots_45 ks_25173 ?_
          refine lv_iload hx hb dX3_byLots_48 (lv_at hl 5 rfl) ?_
          refine lv_imul hx hb dX3_byLots_50 ?_
          refine lv_sipush (v := 13849) hx hb dX3_byLots_51 ks_13849 ?_
          refine lv_iadd hx hb dX3_byLots_54 ?_
          refine lv_ldc hx hb hown (hw _ tw_35_18) dX3_byLots_55 ?_
          refine lv_iand hx hb dX3_byLots_57 ?_
          obtain ⟨v4_20, ev4_20, h⟩ := nm_s h
          refine nmI ev4_20 ?_
          refine lv_istore hx hb dX3_byLots_58 hl (Nat.le_of_ble_eq_true rfl) (lv' := [(4, .int v4_20), (10, .int r_18), (8, .long r_16), (6, .long r_14), (1, .int v1), (2, .long v2), (5, .int v5)]) rfl (fun ls hl => ?_)
          refine lv_lload hx hb dX3_byLots_60 (lv_at hl 3 rfl) ?_
          refine lv_lload hx hb dX3_byLots_62 (lv_at hl 2 rfl) ?_
          refine lv_iload hx hb dX3_byLots_64 (lv_at hl 0 rfl) ?_
          refine lv_iconst (v := 4) hx hb dX3_byLots_66 ki_4 ?_
          obtain ⟨hne, h⟩ := dzI_s h
          refine lv_idiv hx hb dX3_byLots_67 hne ?_
          refine lv_iload hx hb dX3_byLots_68 (lv_at hl 1 rfl) ?_
          obtain ⟨hne, h⟩ := dzI_s h
          refine lv_irem hx hb dX3_byLots_70 hne ?_
          refine nmI (v := remI (v4_20 / 4) r_18) rfl ?_
          obtain ⟨r_21, hr_22, h⟩ := bd1_s h
          refine sc_l hx hb hml hown hw hN (c_gw_bitOf l r_16 (remI (v4_20 / 4) r_18) r_21 hr_22) g_RX3_61 hd_X3_bitOf (rest := [.long r_14]) hl.1 hS dX3_byLots_71 rfl rfl ⟨Nat.le_of_ble_eq_true rfl, Nat.le_of_ble_eq_true rfl⟩ rfl rfl (Nat.le_of_ble_eq_true rfl) ⟨Nat.zero_le _, Nat.zero_le _⟩ (fun H locs hk hS => ?_)
          refine lv_lor hx hb dX3_byLots_74 ?_
          obtain ⟨r_23, hr_24, h⟩ := bd1_s h
          refine sc_l hx hb hml hown hw hN (c_gr_settled l (r_14 ||| r_21) r_23 hr_24) g_RX3_49 hd_X2_settled (rest := []) hl.1 hS dX3_byLots_75 rfl rfl ⟨Nat.le_of_ble_eq_true rfl, Nat.le_of_ble_eq_true rfl⟩ rfl rfl (Nat.le_of_ble_eq_true rfl) ⟨Nat.zero_le _, Nat.zero_le _⟩ (fun H locs hk hS => ?_)
          refine lv_lstore_n hx hb dX3_byLots_78 rfl hl (Nat.le_of_ble_eq_true rfl) (lv' := [(2, .long r_23), (4, .int v4_20), (10, .int r_18), (8, .long r_16), (6, .long r_14), (1, .int v1), (5, .int v5)]) rfl (fun ls hl => ?_)
          obtain ⟨v5_25, ev5_25, h⟩ := nm_s h
          refine lv_iinc hx hb dX3_byLots_79 hl (k := 6) rfl ev5_25.symm (Nat.le_of_ble_eq_true rfl) (lv' := [(5, .int v5_25), (2, .long r_23), (4, .int v4_20), (10, .int r_18), (8, .long r_16), (6, .long r_14), (1, .int v1)]) rfl (fun ls hl => ?_)
          refine lv_goto hx hb dX3_byLots_82 (tgt := 11) rfl ?_
          exact ih11 _ _ _ r_23 v4_20 v5_25 (lv_sub hl [6, 1, 2, 0] rfl) hS h
        · replace h := ifp h hc
          refine lv_lload_n hx hb dX3_byLots_43 rfl (lv_at hl 4 rfl) ?_
          exact rt_l hx hb hr hlocks hS dX3_byLots_44 h
  refine lv_lconst (v := 1) hx hb dX3_byLots_0 kl_1 ?_
  refine lv_lstore_n hx hb dX3_byLots_1 rfl hl (Nat.le_of_ble_eq_true rfl) (lv' := [(2, .long 1), (0, .int v0), (1, .int v1)]) rfl (fun ls hl => ?_)
  refine lv_iload_n hx hb dX3_byLots_2 rfl (lv_at hl 1 rfl) ?_
  refine lv_ldc hx hb hown (hw _ tw_35_18) dX3_byLots_3 ?_
  refine lv_iand hx hb dX3_byLots_5 ?_
  obtain ⟨v4_26, ev4_26, h⟩ := nm_s h
  refine nmI ev4_26 ?_
  refine lv_istore hx hb dX3_byLots_6 hl (Nat.le_of_ble_eq_true rfl) (lv' := [(4, .int v4_26), (2, .long 1), (0, .int v0), (1, .int v1)]) rfl (fun ls hl => ?_)
  refine lv_iconst (v := 1) hx hb dX3_byLots_8 ki_1 ?_
  refine lv_istore hx hb dX3_byLots_9 hl (Nat.le_of_ble_eq_true rfl) (lv' := [(5, .int 1), (4, .int v4_26), (2, .long 1), (0, .int v0), (1, .int v1)]) rfl (fun ls hl => ?_)
  exact hL11 v1 FU _ _ _ 1 v4_26 1 (lv_sub hl [4, 2, 1, 0] rfl) hS h
noncomputable def me_overlap (v0 : Int64) (v2 : Int64) (v4 : Int32) (v5 : Int32) : Option (Int32) :=
  bd1 (gr_moved v2 v4 v5) fun r_1 =>
  bd1 (jl_bitCount (v0 &&& r_1)) fun r_3 =>
  some r_3
set_option maxHeartbeats 4000000 in
set_option maxRecDepth 100000 in
theorem c_me_overlap (l : Launch) (v0 : Int64) (v2 : Int64) (v4 : Int32) (v5 : Int32) (r : Int32) (h : me_overlap v0 v2 v4 v5 = some r) : Met l yX4_overlap (wm yX4_overlap cX4_overlap 6 (some .int)) (rmm 2 47) (va_Pc [.long v0, .long v2, .int v4, .int v5] NW) (Qi r) 0 0 NoA := by
  refine met_s (y := yX4_overlap) (rm := rmm 2 47) (by decide) (Nat.le_of_ble_eq_true rfl) ?_
  intro p e s m below meth c hx hb hr hw hown hlocks _ hml hN ls hl
  replace hl : lv_has ls 6 [(0, .long v0), (2, .long v2), (4, .int v4), (5, .int v5)] := hl
  have hS : va_S NoA s.heap s.heap [] := va_S.rf
  generalize (([.long v0, .long v2, .int v4, .int v5] : List Value).toArray) = av at hw ⊢
  rw [me_overlap] at h
  refine lv_lload_n hx hb dX4_overlap_0 rfl (lv_at hl 0 rfl) ?_
  refine lv_lload_n hx hb dX4_overlap_1 rfl (lv_at hl 1 rfl) ?_
  refine lv_iload hx hb dX4_overlap_2 (lv_at hl 2 rfl) ?_
  refine lv_iload hx hb dX4_overlap_4 (lv_at hl 3 rfl) ?_
  obtain ⟨r_5, hr_6, h⟩ := bd1_s h
  refine sc_l hx hb hml hown hw hN (c_gr_moved l v2 v4 v5 r_5 hr_6) g_RX4_15 hd_X2_moved (rest := [.long v0]) hl.1 hS dX4_overlap_6 rfl rfl ⟨Nat.le_of_ble_eq_true rfl, Nat.le_of_ble_eq_true rfl⟩ rfl rfl (Nat.le_of_ble_eq_true rfl) ⟨Nat.zero_le _, Nat.zero_le _⟩ (fun H locs hk hS => ?_)
  refine lv_land hx hb dX4_overlap_9 ?_
  obtain ⟨r_7, hr_8, h⟩ := bd1_s h
  refine sc_i hx hb hml hown hw hN (c_jl_bitCount l (v0 &&& r_5) r_7 hr_8) g_RX4_21 hd_J13_bitCount_95d88 (rest := []) hl.1 hS dX4_overlap_10 rfl rfl ⟨Nat.le_of_ble_eq_true rfl, Nat.le_of_ble_eq_true rfl⟩ rfl rfl (Nat.le_of_ble_eq_true rfl) ⟨Nat.zero_le _, Nat.zero_le _⟩ (fun H locs hk hS => ?_)
  exact rt_i hx hb hr hlocks hS dX4_overlap_13 h
noncomputable def me_sharedSides (v0 : Int64) (v2 : Int64) (v4 : Int32) (v5 : Int32) : Option (Int32) :=
  bd1 (me_overlap v0 v2 (v4 - 1) v5) fun r_1 =>
  bd1 (me_overlap v0 v2 (v4 + 1) v5) fun r_3 =>
  bd1 (me_overlap v0 v2 v4 (v5 - 1)) fun r_5 =>
  bd1 (me_overlap v0 v2 v4 (v5 + 1)) fun r_7 =>
  some (((r_1 + r_3) + r_5) + r_7)
set_option maxHeartbeats 4000000 in
set_option maxRecDepth 100000 in
theorem c_me_sharedSides (l : Launch) (v0 : Int64) (v2 : Int64) (v4 : Int32) (v5 : Int32) (r : Int32) (h : me_sharedSides v0 v2 v4 v5 = some r) : Met l yX4_sharedSides (wm yX4_sharedSides cX4_sharedSides 6 (some .int)) (rmm 3 72) (va_Pc [.long v0, .long v2, .int v4, .int v5] NW) (Qi r) 0 0 NoA := by
  refine met_s (y := yX4_sharedSides) (rm := rmm 3 72) (by decide) (Nat.le_of_ble_eq_true rfl) ?_
  intro p e s m below meth c hx hb hr hw hown hlocks _ hml hN ls hl
  replace hl : lv_has ls 6 [(0, .long v0), (2, .long v2), (4, .int v4), (5, .int v5)] := hl
  have hS : va_S NoA s.heap s.heap [] := va_S.rf
  generalize (([.long v0, .long v2, .int v4, .int v5] : List Value).toArray) = av at hw ⊢
  rw [me_sharedSides] at h
  refine lv_lload_n hx hb dX4_sharedSides_0 rfl (lv_at hl 0 rfl) ?_
  refine lv_lload_n hx hb dX4_sharedSides_1 rfl (lv_at hl 1 rfl) ?_
  refine lv_iload hx hb dX4_sharedSides_2 (lv_at hl 2 rfl) ?_
  refine lv_iconst (v := 1) hx hb dX4_sharedSides_4 ki_1 ?_
  refine lv_isub hx hb dX4_sharedSides_5 ?_
  refine lv_iload hx hb dX4_sharedSides_6 (lv_at hl 3 rfl) ?_
  obtain ⟨r_9, hr_10, h⟩ := bd1_s h
  refine sc_i hx hb hml hown hw hN (c_me_overlap l v0 v2 (v4 - 1) v5 r_9 hr_10) g_RX4_27 hd_X4_overlap (rest := []) hl.1 hS dX4_sharedSides_8 rfl rfl ⟨Nat.le_of_ble_eq_true rfl, Nat.le_of_ble_eq_true rfl⟩ rfl rfl (Nat.le_of_ble_eq_true rfl) ⟨Nat.zero_le _, Nat.zero_le _⟩ (fun H locs hk hS => ?_)
  refine lv_lload_n hx hb dX4_sharedSides_11 rfl (lv_at hl 0 rfl) ?_
  refine lv_lload_n hx hb dX4_sharedSides_12 rfl (lv_at hl 1 rfl) ?_
  refine lv_iload hx hb dX4_sharedSides_13 (lv_at hl 2 rfl) ?_
  refine lv_iconst (v := 1) hx hb dX4_sharedSides_15 ki_1 ?_
  refine lv_iadd hx hb dX4_sharedSides_16 ?_
  refine lv_iload hx hb dX4_sharedSides_17 (lv_at hl 3 rfl) ?_
  obtain ⟨r_11, hr_12, h⟩ := bd1_s h
  refine sc_i hx hb hml hown hw hN (c_me_overlap l v0 v2 (v4 + 1) v5 r_11 hr_12) g_RX4_27 hd_X4_overlap (rest := [.int r_9]) hl.1 hS dX4_sharedSides_19 rfl rfl ⟨Nat.le_of_ble_eq_true rfl, Nat.le_of_ble_eq_true rfl⟩ rfl rfl (Nat.le_of_ble_eq_true rfl) ⟨Nat.zero_le _, Nat.zero_le _⟩ (fun H locs hk hS => ?_)
  refine lv_iadd hx hb dX4_sharedSides_22 ?_
  refine lv_lload_n hx hb dX4_sharedSides_23 rfl (lv_at hl 0 rfl) ?_
  refine lv_lload_n hx hb dX4_sharedSides_24 rfl (lv_at hl 1 rfl) ?_
  refine lv_iload hx hb dX4_sharedSides_25 (lv_at hl 2 rfl) ?_
  refine lv_iload hx hb dX4_sharedSides_27 (lv_at hl 3 rfl) ?_
  refine lv_iconst (v := 1) hx hb dX4_sharedSides_29 ki_1 ?_
  refine lv_isub hx hb dX4_sharedSides_30 ?_
  obtain ⟨r_13, hr_14, h⟩ := bd1_s h
  refine sc_i hx hb hml hown hw hN (c_me_overlap l v0 v2 v4 (v5 - 1) r_13 hr_14) g_RX4_27 hd_X4_overlap (rest := [.int (r_9 + r_11)]) hl.1 hS dX4_sharedSides_31 rfl rfl ⟨Nat.le_of_ble_eq_true rfl, Nat.le_of_ble_eq_true rfl⟩ rfl rfl (Nat.le_of_ble_eq_true rfl) ⟨Nat.zero_le _, Nat.zero_le _⟩ (fun H locs hk hS => ?_)
  refine lv_iadd hx hb dX4_sharedSides_34 ?_
  refine lv_lload_n hx hb dX4_sharedSides_35 rfl (lv_at hl 0 rfl) ?_
  refine lv_lload_n hx hb dX4_sharedSides_36 rfl (lv_at hl 1 rfl) ?_
  refine lv_iload hx hb dX4_sharedSides_37 (lv_at hl 2 rfl) ?_
  refine lv_iload hx hb dX4_sharedSides_39 (lv_at hl 3 rfl) ?_
  refine lv_iconst (v := 1) hx hb dX4_sharedSides_41 ki_1 ?_
  refine lv_iadd hx hb dX4_sharedSides_42 ?_
  obtain ⟨r_15, hr_16, h⟩ := bd1_s h
  refine sc_i hx hb hml hown hw hN (c_me_overlap l v0 v2 v4 (v5 + 1) r_15 hr_16) g_RX4_27 hd_X4_overlap (rest := [.int ((r_9 + r_11) + r_13)]) hl.1 hS dX4_sharedSides_43 rfl rfl ⟨Nat.le_of_ble_eq_true rfl, Nat.le_of_ble_eq_true rfl⟩ rfl rfl (Nat.le_of_ble_eq_true rfl) ⟨Nat.zero_le _, Nat.zero_le _⟩ (fun H locs hk hS => ?_)
  refine lv_iadd hx hb dX4_sharedSides_46 ?_
  exact rt_i hx hb hr hlocks hS dX4_sharedSides_47 h
noncomputable def me_largestPart_B8   (k8 : Int32 → Int64 → Int32 → Option (Int32)) (v3 : Int32) (v4 : Int64) (v6 : Int32) : Option (Int32) :=
  if 64 ≤ v6 then (some v3) else
  bd1 (jl_bitCount v4) fun r_1 =>
  if r_1 ≤ v3 then (some v3) else
  bd1 (gr_reach (v4 &&& (-v4)) v4) fun r_3 =>
  bd1 (jl_bitCount r_3) fun r_5 =>
  nm (mxI v3 r_5 : Int32) fun v3_7 =>
  nm (v4 ^^^ r_3 : Int64) fun v4_8 =>
  nm (v6 + Int32.ofInt 1) fun v6_9 =>
  k8 v3_7 v4_8 v6_9
noncomputable def me_largestPart (v0 : Int64) (v2 : Int32) : Option (Int32) :=
  fl3 (me_largestPart_B8 ) FU v2 v0 0
set_option maxHeartbeats 4000000 in
set_option maxRecDepth 100000 in
theorem c_me_largestPart (l : Launch) (v0 : Int64) (v2 : Int32) (r : Int32) (h : me_largestPart v0 v2 = some r) : Met l yX4_largestPart (wm yX4_largestPart cX4_largestPart 9 (some .int)) (rmm 2 49) (va_Pc [.long v0, .int v2] NW) (Qi r) 0 0 NoA := by
  refine met_s (y := yX4_largestPart) (rm := rmm 2 49) (by decide) (Nat.le_of_ble_eq_true rfl) ?_
  intro p e s m below meth c hx hb hr hw hown hlocks _ hml hN ls hl
  replace hl : lv_has ls 9 [(0, .long v0), (2, .int v2)] := hl
  have hS : va_S NoA s.heap s.heap [] := va_S.rf
  generalize (([.long v0, .int v2] : List Value).toArray) = av at hw ⊢
  rw [me_largestPart] at h
  have hL8 : ∀ (n8 : Nat) (H : Heap) (locs : List Loc) (ls : Array Slot) (v3 : Int32) (v4 : Int64) (v6 : Int32), lv_has ls 9 [(3, .int v3), (4, .long v4), (6, .int v6)] → va_S NoA s.heap H locs → fl3 (me_largestPart_B8 ) n8 v3 v4 v6 = some r → W p l e (rmm 2 49) s m av below meth c H locs 0 0 (MQ below (Qi r) av s 0 0 NoA) (F0 m 8 ls []) := by
    intro  n8
    induction n8 with
    | zero => intro H locs ls v3 v4 v6 hl hS h; cases h
    | succ n8 ih8 =>
      intro H locs ls v3 v4 v6 hl hS h
      replace h : me_largestPart_B8  (fl3 (me_largestPart_B8 ) n8) v3 v4 v6 = some r := h
      generalize fl3 (me_largestPart_B8 ) n8 = k8 at h ih8
      rw [me_largestPart_B8] at h
      refine lv_iload hx hb dX4_largestPart_8 (lv_at hl 2 rfl) ?_
      refine lv_bipush (v := 64) hx hb dX4_largestPart_10 kb_64 ?_
      refine lv_icmp_ge hx hb dX4_largestPart_12 (tgt := 60) rfl (fun hc => ?_) (fun hc => ?_)
      · replace h := ifp h hc
        refine lv_iload_n hx hb dX4_largestPart_60 rfl (lv_at hl 0 rfl) ?_
        exact rt_i hx hb hr hlocks hS dX4_largestPart_61 h
      · replace h := ifn h hc
        refine lv_lload hx hb dX4_largestPart_15 (lv_at hl 1 rfl) ?_
        obtain ⟨r_10, hr_11, h⟩ := bd1_s h
        refine sc_i hx hb hml hown hw hN (c_jl_bitCount l v4 r_10 hr_11) g_RX4_21 hd_J13_bitCount_95d88 (rest := []) hl.1 hS dX4_largestPart_17 rfl rfl ⟨Nat.le_of_ble_eq_true rfl, Nat.le_of_ble_eq_true rfl⟩ rfl rfl (Nat.le_of_ble_eq_true rfl) ⟨Nat.zero_le _, Nat.zero_le _⟩ (fun H locs hk hS => ?_)
        refine lv_iload_n hx hb dX4_largestPart_20 rfl (lv_at hl 0 rfl) ?_
        refine lv_icmp_le hx hb dX4_largestPart_21 (tgt := 60) rfl (fun hc => ?_) (fun hc => ?_)
        · replace h := ifp h hc
          refine lv_iload_n hx hb dX4_largestPart_60 rfl (lv_at hl 0 rfl) ?_
          exact rt_i hx hb hr hlocks hS dX4_largestPart_61 h
        · replace h := ifn h hc
          refine lv_lload hx hb dX4_largestPart_24 (lv_at hl 1 rfl) ?_
          refine lv_lload hx hb dX4_largestPart_26 (lv_at hl 1 rfl) ?_
          refine lv_lneg hx hb dX4_largestPart_28 ?_
          refine lv_land hx hb dX4_largestPart_29 ?_
          refine lv_lload hx hb dX4_largestPart_30 (lv_at hl 1 rfl) ?_
          obtain ⟨r_12, hr_13, h⟩ := bd1_s h
          refine sc_l hx hb hml hown hw hN (c_gr_reach l (v4 &&& (-v4)) v4 r_12 hr_13) g_RX4_53 hd_X2_reach (rest := []) hl.1 hS dX4_largestPart_32 rfl rfl ⟨Nat.le_of_ble_eq_true rfl, Nat.le_of_ble_eq_true rfl⟩ rfl rfl (Nat.le_of_ble_eq_true rfl) ⟨Nat.zero_le _, Nat.zero_le _⟩ (fun H locs hk hS => ?_)
          refine lv_lstore hx hb dX4_largestPart_35 hl (Nat.le_of_ble_eq_true rfl) (lv' := [(7, .long r_12), (3, .int v3), (4, .long v4), (6, .int v6)]) rfl (fun ls hl => ?_)
          refine lv_iload_n hx hb dX4_largestPart_37 rfl (lv_at hl 1 rfl) ?_
          refine lv_lload hx hb dX4_largestPart_38 (lv_at hl 0 rfl) ?_
          obtain ⟨r_14, hr_15, h⟩ := bd1_s h
          refine sc_i hx hb hml hown hw hN (c_jl_bitCount l r_12 r_14 hr_15) g_RX4_21 hd_J13_bitCount_95d88 (rest := [.int v3]) hl.1 hS dX4_largestPart_40 rfl rfl ⟨Nat.le_of_ble_eq_true rfl, Nat.le_of_ble_eq_true rfl⟩ rfl rfl (Nat.le_of_ble_eq_true rfl) ⟨Nat.zero_le _, Nat.zero_le _⟩ (fun H locs hk hS => ?_)
          refine va_mmax hx hb (hml.trans hl.1.symm) hown (hw _ tw_49_5) (hw _ tw_21_17) (hw _ tw_19_23) (hw _ tw_21_18) (Nat.le_of_ble_eq_true rfl) (Nat.le_of_ble_eq_true rfl) (Nat.zero_le _) (Nat.zero_le _) dX4_largestPart_43 ?_
          refine nmI (v := mxI v3 r_14) rfl ?_
          obtain ⟨v3_16, ev3_16, h⟩ := nm_s h
          refine nmI ev3_16 ?_
          refine lv_istore_n hx hb dX4_largestPart_46 rfl hl (Nat.le_of_ble_eq_true rfl) (lv' := [(3, .int v3_16), (7, .long r_12), (4, .long v4), (6, .int v6)]) rfl (fun ls hl => ?_)
          refine lv_lload hx hb dX4_largestPart_47 (lv_at hl 2 rfl) ?_
          refine lv_lload hx hb dX4_largestPart_49 (lv_at hl 1 rfl) ?_
          refine lv_lxor hx hb dX4_largestPart_51 ?_
          obtain ⟨v4_17, ev4_17, h⟩ := nm_s h
          refine nmL ev4_17 ?_
          refine lv_lstore hx hb dX4_largestPart_52 hl (Nat.le_of_ble_eq_true rfl) (lv' := [(4, .long v4_17), (3, .int v3_16), (7, .long r_12), (6, .int v6)]) rfl (fun ls hl => ?_)
          obtain ⟨v6_18, ev6_18, h⟩ := nm_s h
          refine lv_iinc hx hb dX4_largestPart_54 hl (k := 3) rfl ev6_18.symm (Nat.le_of_ble_eq_true rfl) (lv' := [(6, .int v6_18), (4, .long v4_17), (3, .int v3_16), (7, .long r_12)]) rfl (fun ls hl => ?_)
          refine lv_goto hx hb dX4_largestPart_57 (tgt := 8) rfl ?_
          exact ih8 _ _ _ v3_16 v4_17 v6_18 (lv_sub hl [2, 1, 0] rfl) hS h
  refine lv_iload_n hx hb dX4_largestPart_0 rfl (lv_at hl 1 rfl) ?_
  refine lv_istore_n hx hb dX4_largestPart_1 rfl hl (Nat.le_of_ble_eq_true rfl) (lv' := [(3, .int v2), (0, .long v0), (2, .int v2)]) rfl (fun ls hl => ?_)
  refine lv_lload_n hx hb dX4_largestPart_2 rfl (lv_at hl 1 rfl) ?_
  refine lv_lstore hx hb dX4_largestPart_3 hl (Nat.le_of_ble_eq_true rfl) (lv' := [(4, .long v0), (3, .int v2), (0, .long v0), (2, .int v2)]) rfl (fun ls hl => ?_)
  refine lv_iconst (v := 0) hx hb dX4_largestPart_5 ki_0 ?_
  refine lv_istore hx hb dX4_largestPart_6 hl (Nat.le_of_ble_eq_true rfl) (lv' := [(6, .int 0), (4, .long v0), (3, .int v2), (0, .long v0), (2, .int v2)]) rfl (fun ls hl => ?_)
  exact hL8  FU _ _ _ v2 v0 0 (lv_sub hl [2, 1, 0] rfl) hS h
noncomputable def me_around (v0 : Int32) (v1 : Int32) (v2 : Int32) : Option (Int32) :=
  some ((mxI v0 (v2 + v1)) - (mnI 0 v2))
set_option maxHeartbeats 4000000 in
set_option maxRecDepth 100000 in
theorem c_me_around (l : Launch) (v0 : Int32) (v1 : Int32) (v2 : Int32) (r : Int32) (h : me_around v0 v1 v2 = some r) : Met l yX4_around (wm yX4_around cX4_around 3 (some .int)) (rmm 1 38) (va_Pc [.int v0, .int v1, .int v2] NW) (Qi r) 0 0 NoA := by
  refine met_s (y := yX4_around) (rm := rmm 1 38) (by decide) (Nat.le_of_ble_eq_true rfl) ?_
  intro p e s m below meth c hx hb hr hw hown hlocks _ hml hN ls hl
  replace hl : lv_has ls 3 [(0, .int v0), (1, .int v1), (2, .int v2)] := hl
  have hS : va_S NoA s.heap s.heap [] := va_S.rf
  generalize (([.int v0, .int v1, .int v2] : List Value).toArray) = av at hw ⊢
  rw [me_around] at h
  refine lv_iload_n hx hb dX4_around_0 rfl (lv_at hl 0 rfl) ?_
  refine lv_iload_n hx hb dX4_around_1 rfl (lv_at hl 2 rfl) ?_
  refine lv_iload_n hx hb dX4_around_2 rfl (lv_at hl 1 rfl) ?_
  refine lv_iadd hx hb dX4_around_3 ?_
  refine va_mmax hx hb (hml.trans hl.1.symm) hown (hw _ tw_49_5) (hw _ tw_21_17) (hw _ tw_19_23) (hw _ tw_21_18) (Nat.le_of_ble_eq_true rfl) (Nat.le_of_ble_eq_true rfl) (Nat.zero_le _) (Nat.zero_le _) dX4_around_4 ?_
  refine nmI (v := mxI v0 (v2 + v1)) rfl ?_
  refine lv_iconst (v := 0) hx hb dX4_around_7 ki_0 ?_
  refine lv_iload_n hx hb dX4_around_8 rfl (lv_at hl 2 rfl) ?_
  refine va_mmin hx hb (hml.trans hl.1.symm) hown (hw _ tw_52_20) (hw _ tw_33_6) (hw _ tw_19_23) (hw _ tw_33_7) (Nat.le_of_ble_eq_true rfl) (Nat.le_of_ble_eq_true rfl) (Nat.zero_le _) (Nat.zero_le _) dX4_around_9 ?_
  refine nmI (v := mnI 0 v2) rfl ?_
  refine lv_isub hx hb dX4_around_12 ?_
  exact rt_i hx hb hr hlocks hS dX4_around_13 h
noncomputable def ol_crossed (v0 : Int32) (v1 : Int32) (v2 : Int32) (v3 : Int32) : Option (Int32) :=
  some ((v0 * v3) - (v1 * v2))
set_option maxHeartbeats 4000000 in
set_option maxRecDepth 100000 in
theorem c_ol_crossed (l : Launch) (v0 : Int32) (v1 : Int32) (v2 : Int32) (v3 : Int32) (r : Int32) (h : ol_crossed v0 v1 v2 v3 = some r) : Met l yX5_crossed (wm yX5_crossed cX5_crossed 4 (some .int)) (rmm 0 0) (va_Pc [.int v0, .int v1, .int v2, .int v3] NW) (Qi r) 0 0 NoA := by
  refine met_s (y := yX5_crossed) (rm := rmm 0 0) (by decide) (Nat.le_of_ble_eq_true rfl) ?_
  intro p e s m below meth c hx hb hr hw hown hlocks _ hml hN ls hl
  replace hl : lv_has ls 4 [(0, .int v0), (1, .int v1), (2, .int v2), (3, .int v3)] := hl
  have hS : va_S NoA s.heap s.heap [] := va_S.rf
  generalize (([.int v0, .int v1, .int v2, .int v3] : List Value).toArray) = av at hw ⊢
  rw [ol_crossed] at h
  refine lv_iload_n hx hb dX5_crossed_0 rfl (lv_at hl 0 rfl) ?_
  refine lv_iload_n hx hb dX5_crossed_1 rfl (lv_at hl 3 rfl) ?_
  refine lv_imul hx hb dX5_crossed_2 ?_
  refine lv_iload_n hx hb dX5_crossed_3 rfl (lv_at hl 1 rfl) ?_
  refine lv_iload_n hx hb dX5_crossed_4 rfl (lv_at hl 2 rfl) ?_
  refine lv_imul hx hb dX5_crossed_5 ?_
  refine lv_isub hx hb dX5_crossed_6 ?_
  exact rt_i hx hb hr hlocks hS dX5_crossed_7 h
noncomputable def ji_bitCount (v0 : Int32) : Option (Int32) :=
  nm (v0 - ((ui v0 1) &&& (1431655765 : Int32)) : Int32) fun v0_1 =>
  nm ((v0_1 &&& (858993459 : Int32)) + ((ui v0_1 2) &&& (858993459 : Int32)) : Int32) fun v0_2 =>
  nm ((v0_2 + (ui v0_2 4)) &&& (252645135 : Int32) : Int32) fun v0_3 =>
  nm (v0_3 + (ui v0_3 8) : Int32) fun v0_4 =>
  nm (v0_4 + (ui v0_4 16) : Int32) fun v0_5 =>
  some (v0_5 &&& 63)
set_option maxHeartbeats 4000000 in
set_option maxRecDepth 100000 in
theorem c_ji_bitCount (l : Launch) (v0 : Int32) (r : Int32) (h : ji_bitCount v0 = some r) : Met l yJ6_bitCount_0f7a4 (wm yJ6_bitCount_0f7a4 cJ6_bitCount_0f7a4 1 (some .int)) (rmm 0 0) (va_Pc [.int v0] NW) (Qi r) 0 0 NoA := by
  refine met_s (y := yJ6_bitCount_0f7a4) (rm := rmm 0 0) (by decide) (Nat.le_of_ble_eq_true rfl) ?_
  intro p e s m below meth c hx hb hr hw hown hlocks _ hml hN ls hl
  replace hl : lv_has ls 1 [(0, .int v0)] := hl
  have hS : va_S NoA s.heap s.heap [] := va_S.rf
  generalize (([.int v0] : List Value).toArray) = av at hw ⊢
  rw [ji_bitCount] at h
  refine lv_iload_n hx hb dJ6_bitCount_0f7a4_0 rfl (lv_at hl 0 rfl) ?_
  refine lv_iload_n hx hb dJ6_bitCount_0f7a4_1 rfl (lv_at hl 0 rfl) ?_
  refine lv_iconst (v := 1) hx hb dJ6_bitCount_0f7a4_2 ki_1 ?_
  refine lv_iushr hx hb (v := ui v0 1) dJ6_bitCount_0f7a4_3 rfl ?_
  refine lv_ldcw hx hb hown (hw _ tw_44_16) dJ6_bitCount_0f7a4_4 ?_
  refine lv_iand hx hb dJ6_bitCount_0f7a4_7 ?_
  refine lv_isub hx hb dJ6_bitCount_0f7a4_8 ?_
  obtain ⟨v0_6, ev0_6, h⟩ := nm_s h
  refine nmI ev0_6 ?_
  refine lv_istore_n hx hb dJ6_bitCount_0f7a4_9 rfl hl (Nat.le_of_ble_eq_true rfl) (lv' := [(0, .int v0_6)]) rfl (fun ls hl => ?_)
  refine lv_iload_n hx hb dJ6_bitCount_0f7a4_10 rfl (lv_at hl 0 rfl) ?_
  refine lv_ldcw hx hb hown (hw _ tw_44_17) dJ6_bitCount_0f7a4_11 ?_
  refine lv_iand hx hb dJ6_bitCount_0f7a4_14 ?_
  refine lv_iload_n hx hb dJ6_bitCount_0f7a4_15 rfl (lv_at hl 0 rfl) ?_
  refine lv_iconst (v := 2) hx hb dJ6_bitCount_0f7a4_16 ki_2 ?_
  refine lv_iushr hx hb (v := ui v0_6 2) dJ6_bitCount_0f7a4_17 rfl ?_
  refine lv_ldcw hx hb hown (hw _ tw_44_17) dJ6_bitCount_0f7a4_18 ?_
  refine lv_iand hx hb dJ6_bitCount_0f7a4_21 ?_
  refine lv_iadd hx hb dJ6_bitCount_0f7a4_22 ?_
  obtain ⟨v0_7, ev0_7, h⟩ := nm_s h
  refine nmI ev0_7 ?_
  refine lv_istore_n hx hb dJ6_bitCount_0f7a4_23 rfl hl (Nat.le_of_ble_eq_true rfl) (lv' := [(0, .int v0_7)]) rfl (fun ls hl => ?_)
  refine lv_iload_n hx hb dJ6_bitCount_0f7a4_24 rfl (lv_at hl 0 rfl) ?_
  refine lv_iload_n hx hb dJ6_bitCount_0f7a4_25 rfl (lv_at hl 0 rfl) ?_
  refine lv_iconst (v := 4) hx hb dJ6_bitCount_0f7a4_26 ki_4 ?_
  refine lv_iushr hx hb (v := ui v0_7 4) dJ6_bitCount_0f7a4_27 rfl ?_
  refine lv_iadd hx hb dJ6_bitCount_0f7a4_28 ?_
  refine lv_ldcw hx hb hown (hw _ tw_44_18) dJ6_bitCount_0f7a4_29 ?_
  refine lv_iand hx hb dJ6_bitCount_0f7a4_32 ?_
  obtain ⟨v0_8, ev0_8, h⟩ := nm_s h
  refine nmI ev0_8 ?_
  refine lv_istore_n hx hb dJ6_bitCount_0f7a4_33 rfl hl (Nat.le_of_ble_eq_true rfl) (lv' := [(0, .int v0_8)]) rfl (fun ls hl => ?_)
  refine lv_iload_n hx hb dJ6_bitCount_0f7a4_34 rfl (lv_at hl 0 rfl) ?_
  refine lv_iload_n hx hb dJ6_bitCount_0f7a4_35 rfl (lv_at hl 0 rfl) ?_
  refine lv_bipush (v := 8) hx hb dJ6_bitCount_0f7a4_36 kb_8 ?_
  refine lv_iushr hx hb (v := ui v0_8 8) dJ6_bitCount_0f7a4_38 rfl ?_
  refine lv_iadd hx hb dJ6_bitCount_0f7a4_39 ?_
  obtain ⟨v0_9, ev0_9, h⟩ := nm_s h
  refine nmI ev0_9 ?_
  refine lv_istore_n hx hb dJ6_bitCount_0f7a4_40 rfl hl (Nat.le_of_ble_eq_true rfl) (lv' := [(0, .int v0_9)]) rfl (fun ls hl => ?_)
  refine lv_iload_n hx hb dJ6_bitCount_0f7a4_41 rfl (lv_at hl 0 rfl) ?_
  refine lv_iload_n hx hb dJ6_bitCount_0f7a4_42 rfl (lv_at hl 0 rfl) ?_
  refine lv_bipush (v := 16) hx hb dJ6_bitCount_0f7a4_43 kb_16 ?_
  refine lv_iushr hx hb (v := ui v0_9 16) dJ6_bitCount_0f7a4_45 rfl ?_
  refine lv_iadd hx hb dJ6_bitCount_0f7a4_46 ?_
  obtain ⟨v0_10, ev0_10, h⟩ := nm_s h
  refine nmI ev0_10 ?_
  refine lv_istore_n hx hb dJ6_bitCount_0f7a4_47 rfl hl (Nat.le_of_ble_eq_true rfl) (lv' := [(0, .int v0_10)]) rfl (fun ls hl => ?_)
  refine lv_iload_n hx hb dJ6_bitCount_0f7a4_48 rfl (lv_at hl 0 rfl) ?_
  refine lv_bipush (v := 63) hx hb dJ6_bitCount_0f7a4_49 kb_63 ?_
  refine lv_iand hx hb dJ6_bitCount_0f7a4_51 ?_
  exact rt_i hx hb hr hlocks hS dJ6_bitCount_0f7a4_52 h
noncomputable def pa_areAlike (v0 : Int64) (v2 : Int64) (v4 : Int32) : Option (Int32) :=
  nm (v0 ^^^ v2 : Int64) fun v5_1 =>
  bd1 (gr_hangs v2) fun r_2 =>
  if r_2 = 0 then (zb 0 (some 0)) else
  bd1 (gr_hangs v5_1) fun r_4 =>
  if r_4 = 0 then (zb 0 (some 0)) else
  bd1 (gr_settled v2) fun r_6 =>
  bd1 (gr_least r_6 v4) fun r_8 =>
  bd1 (gr_settled v5_1) fun r_10 =>
  bd1 (gr_least r_10 v4) fun r_12 =>
  if r_8 = r_12 then (zb 1 (some 1)) else
  zb 0 (some 0)
set_option maxHeartbeats 4000000 in
set_option maxRecDepth 100000 in
theorem c_pa_areAlike (l : Launch) (v0 : Int64) (v2 : Int64) (v4 : Int32) (r : Int32) (h : pa_areAlike v0 v2 v4 = some r) : Met l yX6_areAlike (wm yX6_areAlike cX6_areAlike 7 (some .boolean)) (rmm 4 96) (va_Pc [.long v0, .long v2, .int v4] NW) (Qi r) 0 0 NoA := by
  refine met_s (y := yX6_areAlike) (rm := rmm 4 96) (by decide) (Nat.le_of_ble_eq_true rfl) ?_
  intro p e s m below meth c hx hb hr hw hown hlocks _ hml hN ls hl
  replace hl : lv_has ls 7 [(0, .long v0), (2, .long v2), (4, .int v4)] := hl
  have hS : va_S NoA s.heap s.heap [] := va_S.rf
  generalize (([.long v0, .long v2, .int v4] : List Value).toArray) = av at hw ⊢
  rw [pa_areAlike] at h
  refine lv_lload_n hx hb dX6_areAlike_0 rfl (lv_at hl 0 rfl) ?_
  refine lv_lload_n hx hb dX6_areAlike_1 rfl (lv_at hl 1 rfl) ?_
  refine lv_lxor hx hb dX6_areAlike_2 ?_
  obtain ⟨v5_14, ev5_14, h⟩ := nm_s h
  refine nmL ev5_14 ?_
  refine lv_lstore hx hb dX6_areAlike_3 hl (Nat.le_of_ble_eq_true rfl) (lv' := [(5, .long v5_14), (0, .long v0), (2, .long v2), (4, .int v4)]) rfl (fun ls hl => ?_)
  refine lv_lload_n hx hb dX6_areAlike_5 rfl (lv_at hl 2 rfl) ?_
  obtain ⟨r_15, hr_16, h⟩ := bd1_s h
  refine sc_i hx hb hml hown hw hN (c_gr_hangs l v2 r_15 hr_16) g_RX6_88 hd_X2_hangs (rest := []) hl.1 hS dX6_areAlike_6 rfl rfl ⟨Nat.le_of_ble_eq_true rfl, Nat.le_of_ble_eq_true rfl⟩ rfl rfl (Nat.le_of_ble_eq_true rfl) ⟨Nat.zero_le _, Nat.zero_le _⟩ (fun H locs hk hS => ?_)
  refine lv_if_eq hx hb dX6_areAlike_9 (tgt := 47) rfl (fun hc => ?_) (fun hc => ?_)
  · replace h := ifp h hc
    refine lv_iconst (v := 0) hx hb dX6_areAlike_47 ki_0 ?_
    exact rt_z hx hb hr hlocks hS dX6_areAlike_48 h
  · replace h := ifn h hc
    refine lv_lload hx hb dX6_areAlike_12 (lv_at hl 0 rfl) ?_
    obtain ⟨r_17, hr_18, h⟩ := bd1_s h
    refine sc_i hx hb hml hown hw hN (c_gr_hangs l v5_14 r_17 hr_18) g_RX6_88 hd_X2_hangs (rest := []) hl.1 hS dX6_areAlike_14 rfl rfl ⟨Nat.le_of_ble_eq_true rfl, Nat.le_of_ble_eq_true rfl⟩ rfl rfl (Nat.le_of_ble_eq_true rfl) ⟨Nat.zero_le _, Nat.zero_le _⟩ (fun H locs hk hS => ?_)
    refine lv_if_eq hx hb dX6_areAlike_17 (tgt := 47) rfl (fun hc => ?_) (fun hc => ?_)
    · replace h := ifp h hc
      refine lv_iconst (v := 0) hx hb dX6_areAlike_47 ki_0 ?_
      exact rt_z hx hb hr hlocks hS dX6_areAlike_48 h
    · replace h := ifn h hc
      refine lv_lload_n hx hb dX6_areAlike_20 rfl (lv_at hl 2 rfl) ?_
      obtain ⟨r_19, hr_20, h⟩ := bd1_s h
      refine sc_l hx hb hml hown hw hN (c_gr_settled l v2 r_19 hr_20) g_RX6_92 hd_X2_settled (rest := []) hl.1 hS dX6_areAlike_21 rfl rfl ⟨Nat.le_of_ble_eq_true rfl, Nat.le_of_ble_eq_true rfl⟩ rfl rfl (Nat.le_of_ble_eq_true rfl) ⟨Nat.zero_le _, Nat.zero_le _⟩ (fun H locs hk hS => ?_)
      refine lv_iload hx hb dX6_areAlike_24 (lv_at hl 3 rfl) ?_
      obtain ⟨r_21, hr_22, h⟩ := bd1_s h
      refine sc_l hx hb hml hown hw hN (c_gr_least l r_19 v4 r_21 hr_22) g_RX6_95 hd_X2_least (rest := []) hl.1 hS dX6_areAlike_26 rfl rfl ⟨Nat.le_of_ble_eq_true rfl, Nat.le_of_ble_eq_true rfl⟩ rfl rfl (Nat.le_of_ble_eq_true rfl) ⟨Nat.zero_le _, Nat.zero_le _⟩ (fun H locs hk hS => ?_)
      refine lv_lload hx hb dX6_areAlike_29 (lv_at hl 0 rfl) ?_
      obtain ⟨r_23, hr_24, h⟩ := bd1_s h
      refine sc_l hx hb hml hown hw hN (c_gr_settled l v5_14 r_23 hr_24) g_RX6_92 hd_X2_settled (rest := [.long r_21]) hl.1 hS dX6_areAlike_31 rfl rfl ⟨Nat.le_of_ble_eq_true rfl, Nat.le_of_ble_eq_true rfl⟩ rfl rfl (Nat.le_of_ble_eq_true rfl) ⟨Nat.zero_le _, Nat.zero_le _⟩ (fun H locs hk hS => ?_)
      refine lv_iload hx hb dX6_areAlike_34 (lv_at hl 3 rfl) ?_
      obtain ⟨r_25, hr_26, h⟩ := bd1_s h
      refine sc_l hx hb hml hown hw hN (c_gr_least l r_23 v4 r_25 hr_26) g_RX6_95 hd_X2_least (rest := [.long r_21]) hl.1 hS dX6_areAlike_36 rfl rfl ⟨Nat.le_of_ble_eq_true rfl, Nat.le_of_ble_eq_true rfl⟩ rfl rfl (Nat.le_of_ble_eq_true rfl) ⟨Nat.zero_le _, Nat.zero_le _⟩ (fun H locs hk hS => ?_)
      refine W.lcmp hx hb dX6_areAlike_39 ?_
      refine lv_if_ne hx hb dX6_areAlike_40 (tgt := 47) rfl (fun hc => ?_) (fun hc => ?_)
      · replace h := ifn h (fun q => hc ((lg_cmp_eq _ _).mpr q))
        refine lv_iconst (v := 0) hx hb dX6_areAlike_47 ki_0 ?_
        exact rt_z hx hb hr hlocks hS dX6_areAlike_48 h
      · replace h := ifp h ((lg_cmp_eq _ _).mp hc)
        refine lv_iconst (v := 1) hx hb dX6_areAlike_43 ki_1 ?_
        refine lv_goto hx hb dX6_areAlike_44 (tgt := 48) rfl ?_
        exact rt_z hx hb hr hlocks hS dX6_areAlike_48 h
noncomputable def cf_isDrawer (v0 : Int32) : Option (Int32) :=
  bd1 (cf_within v0 0 7) fun r_1 =>
  zb r_1 (some r_1)
set_option maxHeartbeats 4000000 in
set_option maxRecDepth 100000 in
theorem c_cf_isDrawer (l : Launch) (v0 : Int32) (r : Int32) (h : cf_isDrawer v0 = some r) : Met l yX11_isDrawer (wm yX11_isDrawer cX11_isDrawer 1 (some .boolean)) (rmm 1 22) (va_Pc [.int v0] NW) (Qi r) 0 0 NoA := by
  refine met_s (y := yX11_isDrawer) (rm := rmm 1 22) (by decide) (Nat.le_of_ble_eq_true rfl) ?_
  intro p e s m below meth c hx hb hr hw hown hlocks _ hml hN ls hl
  replace hl : lv_has ls 1 [(0, .int v0)] := hl
  have hS : va_S NoA s.heap s.heap [] := va_S.rf
  generalize (([.int v0] : List Value).toArray) = av at hw ⊢
  rw [cf_isDrawer] at h
  refine lv_iload_n hx hb dX11_isDrawer_0 rfl (lv_at hl 0 rfl) ?_
  refine lv_iconst (v := 0) hx hb dX11_isDrawer_1 ki_0 ?_
  refine lv_bipush (v := 7) hx hb dX11_isDrawer_2 kb_7 ?_
  obtain ⟨r_3, hr_4, h⟩ := bd1_s h
  refine sc_i hx hb hml hown hw hN (c_cf_within l v0 0 7 r_3 hr_4) g_RX11_95 hd_X11_within (rest := []) hl.1 hS dX11_isDrawer_4 rfl rfl ⟨Nat.le_of_ble_eq_true rfl, Nat.le_of_ble_eq_true rfl⟩ rfl rfl (Nat.le_of_ble_eq_true rfl) ⟨Nat.zero_le _, Nat.zero_le _⟩ (fun H locs hk hS => ?_)
  exact rt_z hx hb hr hlocks hS dX11_isDrawer_7 h
noncomputable def cf_isKind (v0 : Int32) : Option (Int32) :=
  bd1 (cf_within v0 0 2) fun r_1 =>
  zb r_1 (some r_1)
set_option maxHeartbeats 4000000 in
set_option maxRecDepth 100000 in
theorem c_cf_isKind (l : Launch) (v0 : Int32) (r : Int32) (h : cf_isKind v0 = some r) : Met l yX11_isKind (wm yX11_isKind cX11_isKind 1 (some .boolean)) (rmm 1 22) (va_Pc [.int v0] NW) (Qi r) 0 0 NoA := by
  refine met_s (y := yX11_isKind) (rm := rmm 1 22) (by decide) (Nat.le_of_ble_eq_true rfl) ?_
  intro p e s m below meth c hx hb hr hw hown hlocks _ hml hN ls hl
  replace hl : lv_has ls 1 [(0, .int v0)] := hl
  have hS : va_S NoA s.heap s.heap [] := va_S.rf
  generalize (([.int v0] : List Value).toArray) = av at hw ⊢
  rw [cf_isKind] at h
  refine lv_iload_n hx hb dX11_isKind_0 rfl (lv_at hl 0 rfl) ?_
  refine lv_iconst (v := 0) hx hb dX11_isKind_1 ki_0 ?_
  refine lv_iconst (v := 2) hx hb dX11_isKind_2 ki_2 ?_
  obtain ⟨r_3, hr_4, h⟩ := bd1_s h
  refine sc_i hx hb hml hown hw hN (c_cf_within l v0 0 2 r_3 hr_4) g_RX11_95 hd_X11_within (rest := []) hl.1 hS dX11_isKind_3 rfl rfl ⟨Nat.le_of_ble_eq_true rfl, Nat.le_of_ble_eq_true rfl⟩ rfl rfl (Nat.le_of_ble_eq_true rfl) ⟨Nat.zero_le _, Nat.zero_le _⟩ (fun H locs hk hS => ?_)
  exact rt_z hx hb hr hlocks hS dX11_isKind_6 h
noncomputable def cf_isList (v0 : Int32) (v1 : Int32) : Option (Int32) :=
  bd1 (cf_within v0 1 7) fun r_1 =>
  if r_1 = 0 then (zb 0 (some 0)) else
  bd1 (cf_isKind v1) fun r_3 =>
  if r_3 = 0 then (zb 0 (some 0)) else
  zb 1 (some 1)
set_option maxHeartbeats 4000000 in
set_option maxRecDepth 100000 in
theorem c_cf_isList (l : Launch) (v0 : Int32) (v1 : Int32) (r : Int32) (h : cf_isList v0 v1 = some r) : Met l yX11_isList (wm yX11_isList cX11_isList 2 (some .boolean)) (rmm 2 42) (va_Pc [.int v0, .int v1] NW) (Qi r) 0 0 NoA := by
  refine met_s (y := yX11_isList) (rm := rmm 2 42) (by decide) (Nat.le_of_ble_eq_true rfl) ?_
  intro p e s m below meth c hx hb hr hw hown hlocks _ hml hN ls hl
  replace hl : lv_has ls 2 [(0, .int v0), (1, .int v1)] := hl
  have hS : va_S NoA s.heap s.heap [] := va_S.rf
  generalize (([.int v0, .int v1] : List Value).toArray) = av at hw ⊢
  rw [cf_isList] at h
  refine lv_iload_n hx hb dX11_isList_0 rfl (lv_at hl 0 rfl) ?_
  refine lv_iconst (v := 1) hx hb dX11_isList_1 ki_1 ?_
  refine lv_bipush (v := 7) hx hb dX11_isList_2 kb_7 ?_
  obtain ⟨r_5, hr_6, h⟩ := bd1_s h
  refine sc_i hx hb hml hown hw hN (c_cf_within l v0 1 7 r_5 hr_6) g_RX11_95 hd_X11_within (rest := []) hl.1 hS dX11_isList_4 rfl rfl ⟨Nat.le_of_ble_eq_true rfl, Nat.le_of_ble_eq_true rfl⟩ rfl rfl (Nat.le_of_ble_eq_true rfl) ⟨Nat.zero_le _, Nat.zero_le _⟩ (fun H locs hk hS => ?_)
  refine lv_if_eq hx hb dX11_isList_7 (tgt := 21) rfl (fun hc => ?_) (fun hc => ?_)
  · replace h := ifp h hc
    refine lv_iconst (v := 0) hx hb dX11_isList_21 ki_0 ?_
    exact rt_z hx hb hr hlocks hS dX11_isList_22 h
  · replace h := ifn h hc
    refine lv_iload_n hx hb dX11_isList_10 rfl (lv_at hl 1 rfl) ?_
    obtain ⟨r_7, hr_8, h⟩ := bd1_s h
    refine sc_i hx hb hml hown hw hN (c_cf_isKind l v1 r_7 hr_8) g_RX11_127 hd_X11_isKind (rest := []) hl.1 hS dX11_isList_11 rfl rfl ⟨Nat.le_of_ble_eq_true rfl, Nat.le_of_ble_eq_true rfl⟩ rfl rfl (Nat.le_of_ble_eq_true rfl) ⟨Nat.zero_le _, Nat.zero_le _⟩ (fun H locs hk hS => ?_)
    refine lv_if_eq hx hb dX11_isList_14 (tgt := 21) rfl (fun hc => ?_) (fun hc => ?_)
    · replace h := ifp h hc
      refine lv_iconst (v := 0) hx hb dX11_isList_21 ki_0 ?_
      exact rt_z hx hb hr hlocks hS dX11_isList_22 h
    · replace h := ifn h hc
      refine lv_iconst (v := 1) hx hb dX11_isList_17 ki_1 ?_
      refine lv_goto hx hb dX11_isList_18 (tgt := 22) rfl ?_
      exact rt_z hx hb hr hlocks hS dX11_isList_22 h
noncomputable def cf_isMove (v0 : Int32) (v1 : Int32) : Option (Int32) :=
  bd1 (cf_within v0 (-7) 7) fun r_1 =>
  if r_1 = 0 then (zb 0 (some 0)) else
  bd1 (cf_within v1 (-7) 7) fun r_3 =>
  if r_3 = 0 then (zb 0 (some 0)) else
  zb 1 (some 1)
set_option maxHeartbeats 4000000 in
set_option maxRecDepth 100000 in
theorem c_cf_isMove (l : Launch) (v0 : Int32) (v1 : Int32) (r : Int32) (h : cf_isMove v0 v1 = some r) : Met l yX11_isMove (wm yX11_isMove cX11_isMove 2 (some .boolean)) (rmm 1 22) (va_Pc [.int v0, .int v1] NW) (Qi r) 0 0 NoA := by
  refine met_s (y := yX11_isMove) (rm := rmm 1 22) (by decide) (Nat.le_of_ble_eq_true rfl) ?_
  intro p e s m below meth c hx hb hr hw hown hlocks _ hml hN ls hl
  replace hl : lv_has ls 2 [(0, .int v0), (1, .int v1)] := hl
  have hS : va_S NoA s.heap s.heap [] := va_S.rf
  generalize (([.int v0, .int v1] : List Value).toArray) = av at hw ⊢
  rw [cf_isMove] at h
  refine lv_iload_n hx hb dX11_isMove_0 rfl (lv_at hl 0 rfl) ?_
  refine lv_bipush (v := (-7)) hx hb dX11_isMove_1 kb_m7 ?_
  refine lv_bipush (v := 7) hx hb dX11_isMove_3 kb_7 ?_
  obtain ⟨r_5, hr_6, h⟩ := bd1_s h
  refine sc_i hx hb hml hown hw hN (c_cf_within l v0 (-7) 7 r_5 hr_6) g_RX11_95 hd_X11_within (rest := []) hl.1 hS dX11_isMove_5 rfl rfl ⟨Nat.le_of_ble_eq_true rfl, Nat.le_of_ble_eq_true rfl⟩ rfl rfl (Nat.le_of_ble_eq_true rfl) ⟨Nat.zero_le _, Nat.zero_le _⟩ (fun H locs hk hS => ?_)
  refine lv_if_eq hx hb dX11_isMove_8 (tgt := 26) rfl (fun hc => ?_) (fun hc => ?_)
  · replace h := ifp h hc
    refine lv_iconst (v := 0) hx hb dX11_isMove_26 ki_0 ?_
    exact rt_z hx hb hr hlocks hS dX11_isMove_27 h
  · replace h := ifn h hc
    refine lv_iload_n hx hb dX11_isMove_11 rfl (lv_at hl 1 rfl) ?_
    refine lv_bipush (v := (-7)) hx hb dX11_isMove_12 kb_m7 ?_
    refine lv_bipush (v := 7) hx hb dX11_isMove_14 kb_7 ?_
    obtain ⟨r_7, hr_8, h⟩ := bd1_s h
    refine sc_i hx hb hml hown hw hN (c_cf_within l v1 (-7) 7 r_7 hr_8) g_RX11_95 hd_X11_within (rest := []) hl.1 hS dX11_isMove_16 rfl rfl ⟨Nat.le_of_ble_eq_true rfl, Nat.le_of_ble_eq_true rfl⟩ rfl rfl (Nat.le_of_ble_eq_true rfl) ⟨Nat.zero_le _, Nat.zero_le _⟩ (fun H locs hk hS => ?_)
    refine lv_if_eq hx hb dX11_isMove_19 (tgt := 26) rfl (fun hc => ?_) (fun hc => ?_)
    · replace h := ifp h hc
      refine lv_iconst (v := 0) hx hb dX11_isMove_26 ki_0 ?_
      exact rt_z hx hb hr hlocks hS dX11_isMove_27 h
    · replace h := ifn h hc
      refine lv_iconst (v := 1) hx hb dX11_isMove_22 ki_1 ?_
      refine lv_goto hx hb dX11_isMove_23 (tgt := 27) rfl ?_
      exact rt_z hx hb hr hlocks hS dX11_isMove_27 h
