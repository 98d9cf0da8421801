noncomputable def mo_in (v0 : Int32) (v1 : Int32) (v2 : Int32) : Option (Int32) :=
  if v0 < v1 then (zb 0 (some 0)) else
  if v2 < v0 then (zb 0 (some 0)) else
  zb 1 (some 1)
set_option maxHeartbeats 4000000 in
set_option maxRecDepth 100000 in
theorem c_mo_in (l : Launch) (v0 : Int32) (v1 : Int32) (v2 : Int32) (r : Int32) (h : mo_in v0 v1 v2 = some r) : Met l yX12_in (wm yX12_in cX12_in 3 (some .boolean)) (rmm 0 0) (va_Pc [.int v0, .int v1, .int v2] NW) (Qi r) 0 0 NoA := by
  refine met_s (y := yX12_in) (rm := rmm 0 0) (by decide) (Nat.le_of_ble_eq_true rfl) ?_
  intro p e s m below meth c hx hb hr hw hown hlocks _ hml hN ls hl
  replace hl : lv_has ls 3 [(0, .int v0), (1, .int v1), (2, .int v2)] := hl
  have hS : va_S NoA s.heap s.heap [] := va_S.rf
  generalize (([.int v0, .int v1, .int v2] : List Value).toArray) = av at hw ⊢
  rw [mo_in] at h
  refine lv_iload_n hx hb dX12_in_0 rfl (lv_at hl 0 rfl) ?_
  refine lv_iload_n hx hb dX12_in_1 rfl (lv_at hl 1 rfl) ?_
  refine lv_icmp_lt hx hb dX12_in_2 (tgt := 14) rfl (fun hc => ?_) (fun hc => ?_)
  · replace h := ifp h hc
    refine lv_iconst (v := 0) hx hb dX12_in_14 ki_0 ?_
    exact rt_z hx hb hr hlocks hS dX12_in_15 h
  · replace h := ifn h hc
    refine lv_iload_n hx hb dX12_in_5 rfl (lv_at hl 0 rfl) ?_
    refine lv_iload_n hx hb dX12_in_6 rfl (lv_at hl 2 rfl) ?_
    refine lv_icmp_gt hx hb dX12_in_7 (tgt := 14) rfl (fun hc => ?_) (fun hc => ?_)
    · replace h := ifp h hc
      refine lv_iconst (v := 0) hx hb dX12_in_14 ki_0 ?_
      exact rt_z hx hb hr hlocks hS dX12_in_15 h
    · replace h := ifn h hc
      refine lv_iconst (v := 1) hx hb dX12_in_10 ki_1 ?_
      refine lv_goto hx hb dX12_in_11 (tgt := 15) rfl ?_
      exact rt_z hx hb hr hlocks hS dX12_in_15 h
noncomputable def mo_has (v0 : Int64) (v2 : Int32) : Option (Int32) :=
  if ((ss v0 v2) &&& 1) = 1 then (zb 1 (some 1)) else
  zb 0 (some 0)
set_option maxHeartbeats 4000000 in
set_option maxRecDepth 100000 in
theorem c_mo_has (l : Launch) (v0 : Int64) (v2 : Int32) (r : Int32) (h : mo_has v0 v2 = some r) : Met l yX12_has (wm yX12_has cX12_has 3 (some .boolean)) (rmm 0 0) (va_Pc [.long v0, .int v2] NW) (Qi r) 0 0 NoA := by
  refine met_s (y := yX12_has) (rm := rmm 0 0) (by decide) (Nat.le_of_ble_eq_true rfl) ?_
  intro p e s m below meth c hx hb hr hw hown hlocks _ hml hN ls hl
  replace hl : lv_has ls 3 [(0, .long v0), (2, .int v2)] := hl
  have hS : va_S NoA s.heap s.heap [] := va_S.rf
  generalize (([.long v0, .int v2] : List Value).toArray) = av at hw ⊢
  rw [mo_has] at h
  refine lv_lload_n hx hb dX12_has_0 rfl (lv_at hl 0 rfl) ?_
  refine lv_iload_n hx hb dX12_has_1 rfl (lv_at hl 1 rfl) ?_
  refine lv_lshr hx hb (v := ss v0 v2) dX12_has_2 rfl ?_
  refine lv_lconst (v := 1) hx hb dX12_has_3 kl_1 ?_
  refine lv_land hx hb dX12_has_4 ?_
  refine lv_lconst (v := 1) hx hb dX12_has_5 kl_1 ?_
  refine W.lcmp hx hb dX12_has_6 ?_
  refine lv_if_ne hx hb dX12_has_7 (tgt := 14) rfl (fun hc => ?_) (fun hc => ?_)
  · replace h := ifn h (fun q => hc ((lg_cmp_eq _ _).mpr q))
    refine lv_iconst (v := 0) hx hb dX12_has_14 ki_0 ?_
    exact rt_z hx hb hr hlocks hS dX12_has_15 h
  · replace h := ifp h ((lg_cmp_eq _ _).mp hc)
    refine lv_iconst (v := 1) hx hb dX12_has_10 ki_1 ?_
    refine lv_goto hx hb dX12_has_11 (tgt := 15) rfl ?_
    exact rt_z hx hb hr hlocks hS dX12_has_15 h
noncomputable def mo_bits_B4   (k4 : Int32 → Int64 → Option (Int32)) (v2 : Int32) (v3 : Int64) : Option (Int32) :=
  if v3 = 0 then (some v2) else
  nm (v2 + 1 : Int32) fun v2_1 =>
  nm (v3 &&& (v3 - 1) : Int64) fun v3_2 =>
  k4 v2_1 v3_2
noncomputable def mo_bits (v0 : Int64) : Option (Int32) :=
  fl2 (mo_bits_B4 ) FU 0 v0
set_option maxHeartbeats 4000000 in
set_option maxRecDepth 100000 in
theorem c_mo_bits (l : Launch) (v0 : Int64) (r : Int32) (h : mo_bits v0 = some r) : Met l yX12_bits (wm yX12_bits cX12_bits 5 (some .int)) (rmm 0 0) (va_Pc [.long v0] NW) (Qi r) 0 0 NoA := by
  refine met_s (y := yX12_bits) (rm := rmm 0 0) (by decide) (Nat.le_of_ble_eq_true rfl) ?_
  intro p e s m below meth c hx hb hr hw hown hlocks _ hml hN ls hl
  replace hl : lv_has ls 5 [(0, .long v0)] := hl
  have hS : va_S NoA s.heap s.heap [] := va_S.rf
  generalize (([.long v0] : List Value).toArray) = av at hw ⊢
  rw [mo_bits] at h
  have hL4 : ∀ (n4 : Nat) (H : Heap) (locs : List Loc) (ls : Array Slot) (v2 : Int32) (v3 : Int64), lv_has ls 5 [(2, .int v2), (3, .long v3)] → va_S NoA s.heap H locs → fl2 (mo_bits_B4 ) n4 v2 v3 = some r → W p l e (rmm 0 0) s m av below meth c H locs 0 0 (MQ below (Qi r) av s 0 0 NoA) (F0 m 4 ls []) := by
    intro  n4
    induction n4 with
    | zero => intro H locs ls v2 v3 hl hS h; cases h
    | succ n4 ih4 =>
      intro H locs ls v2 v3 hl hS h
      replace h : mo_bits_B4  (fl2 (mo_bits_B4 ) n4) v2 v3 = some r := h
      generalize fl2 (mo_bits_B4 ) n4 = k4 at h ih4
      rw [mo_bits_B4] at h
      refine lv_lload_n hx hb dX12_bits_4 rfl (lv_at hl 1 rfl) ?_
      refine lv_lconst (v := 0) hx hb dX12_bits_5 kl_0 ?_
      refine W.lcmp hx hb dX12_bits_6 ?_
      refine lv_if_eq hx hb dX12_bits_7 (tgt := 23) rfl (fun hc => ?_) (fun hc => ?_)
      · replace h := ifp h ((lg_cmp_eq _ _).mp hc)
        refine lv_iload_n hx hb dX12_bits_23 rfl (lv_at hl 0 rfl) ?_
        exact rt_i hx hb hr hlocks hS dX12_bits_24 h
      · replace h := ifn h (fun q => hc ((lg_cmp_eq _ _).mpr q))
        refine lv_iload_n hx hb dX12_bits_10 rfl (lv_at hl 0 rfl) ?_
        refine lv_iconst (v := 1) hx hb dX12_bits_11 ki_1 ?_
        refine lv_iadd hx hb dX12_bits_12 ?_
        obtain ⟨v2_3, ev2_3, h⟩ := nm_s h
        refine nmI ev2_3 ?_
        refine lv_istore_n hx hb dX12_bits_13 rfl hl (Nat.le_of_ble_eq_true rfl) (lv' := [(2, .int v2_3), (3, .long v3)]) rfl (fun ls hl => ?_)
        refine lv_lload_n hx hb dX12_bits_14 rfl (lv_at hl 1 rfl) ?_
        refine lv_lload_n hx hb dX12_bits_15 rfl (lv_at hl 1 rfl) ?_
        refine lv_lconst (v := 1) hx hb dX12_bits_16 kl_1 ?_
        refine lv_lsub hx hb dX12_bits_17 ?_
        refine lv_land hx hb dX12_bits_18 ?_
        obtain ⟨v3_4, ev3_4, h⟩ := nm_s h
        refine nmL ev3_4 ?_
        refine lv_lstore_n hx hb dX12_bits_19 rfl hl (Nat.le_of_ble_eq_true rfl) (lv' := [(3, .long v3_4), (2, .int v2_3)]) rfl (fun ls hl => ?_)
        refine lv_goto hx hb dX12_bits_20 (tgt := 4) rfl ?_
        exact ih4 _ _ _ v2_3 v3_4 (lv_sub hl [1, 0] rfl) hS h
  refine lv_iconst (v := 0) hx hb dX12_bits_0 ki_0 ?_
  refine lv_istore_n hx hb dX12_bits_1 rfl hl (Nat.le_of_ble_eq_true rfl) (lv' := [(2, .int 0), (0, .long v0)]) rfl (fun ls hl => ?_)
  refine lv_lload_n hx hb dX12_bits_2 rfl (lv_at hl 1 rfl) ?_
  refine lv_lstore_n hx hb dX12_bits_3 rfl hl (Nat.le_of_ble_eq_true rfl) (lv' := [(3, .long v0), (2, .int 0), (0, .long v0)]) rfl (fun ls hl => ?_)
  exact hL4  FU _ _ _ 0 v0 (lv_sub hl [1, 0] rfl) hS h
noncomputable def mo_lowest_B2 (v0 : Int64)  (k2 : Int32 → Option (Int32)) (v2 : Int32) : Option (Int32) :=
  if ((ss v0 v2) &&& 1) = 0 then (nm (v2 + 1 : Int32) fun v2_1 =>
  k2 v2_1) else
  some v2
noncomputable def mo_lowest (v0 : Int64) : Option (Int32) :=
  fl1 (mo_lowest_B2 v0) FU 0
set_option maxHeartbeats 4000000 in
set_option maxRecDepth 100000 in
theorem c_mo_lowest (l : Launch) (v0 : Int64) (r : Int32) (h : mo_lowest v0 = some r) : Met l yX12_lowest (wm yX12_lowest cX12_lowest 3 (some .int)) (rmm 0 0) (va_Pc [.long v0] NW) (Qi r) 0 0 NoA := by
  refine met_s (y := yX12_lowest) (rm := rmm 0 0) (by decide) (Nat.le_of_ble_eq_true rfl) ?_
  intro p e s m below meth c hx hb hr hw hown hlocks _ hml hN ls hl
  replace hl : lv_has ls 3 [(0, .long v0)] := hl
  have hS : va_S NoA s.heap s.heap [] := va_S.rf
  generalize (([.long v0] : List Value).toArray) = av at hw ⊢
  rw [mo_lowest] at h
  have hL2 : ∀ (v0 : Int64), ∀ (n2 : Nat) (H : Heap) (locs : List Loc) (ls : Array Slot) (v2 : Int32), lv_has ls 3 [(0, .long v0), (2, .int v2)] → va_S NoA s.heap H locs → fl1 (mo_lowest_B2 v0) n2 v2 = some r → W p l e (rmm 0 0) s m av below meth c H locs 0 0 (MQ below (Qi r) av s 0 0 NoA) (F0 m 2 ls []) := by
    intro v0 n2
    induction n2 with
    | zero => intro H locs ls v2 hl hS h; cases h
    | succ n2 ih2 =>
      intro H locs ls v2 hl hS h
      replace h : mo_lowest_B2 v0 (fl1 (mo_lowest_B2 v0) n2) v2 = some r := h
      generalize fl1 (mo_lowest_B2 v0) n2 = k2 at h ih2
      rw [mo_lowest_B2] at h
      refine lv_lload_n hx hb dX12_lowest_2 rfl (lv_at hl 0 rfl) ?_
      refine lv_iload_n hx hb dX12_lowest_3 rfl (lv_at hl 1 rfl) ?_
      refine lv_lshr hx hb (v := ss v0 v2) dX12_lowest_4 rfl ?_
      refine lv_lconst (v := 1) hx hb dX12_lowest_5 kl_1 ?_
      refine lv_land hx hb dX12_lowest_6 ?_
      refine lv_lconst (v := 0) hx hb dX12_lowest_7 kl_0 ?_
      refine W.lcmp hx hb dX12_lowest_8 ?_
      refine lv_if_ne hx hb dX12_lowest_9 (tgt := 19) rfl (fun hc => ?_) (fun hc => ?_)
      · replace h := ifn h (fun q => hc ((lg_cmp_eq _ _).mpr q))
        refine lv_iload_n hx hb dX12_lowest_19 rfl (lv_at hl 1 rfl) ?_
        exact rt_i hx hb hr hlocks hS dX12_lowest_20 h
      · replace h := ifp h ((lg_cmp_eq _ _).mp hc)
        refine lv_iload_n hx hb dX12_lowest_12 rfl (lv_at hl 1 rfl) ?_
        refine lv_iconst (v := 1) hx hb dX12_lowest_13 ki_1 ?_
        refine lv_iadd hx hb dX12_lowest_14 ?_
        obtain ⟨v2_2, ev2_2, h⟩ := nm_s h
        refine nmI ev2_2 ?_
        refine lv_istore_n hx hb dX12_lowest_15 rfl hl (Nat.le_of_ble_eq_true rfl) (lv' := [(2, .int v2_2), (0, .long v0)]) rfl (fun ls hl => ?_)
        refine lv_goto hx hb dX12_lowest_16 (tgt := 2) rfl ?_
        exact ih2 _ _ _ v2_2 (lv_sub hl [1, 0] rfl) hS h
  refine lv_iconst (v := 0) hx hb dX12_lowest_0 ki_0 ?_
  refine lv_istore_n hx hb dX12_lowest_1 rfl hl (Nat.le_of_ble_eq_true rfl) (lv' := [(2, .int 0), (0, .long v0)]) rfl (fun ls hl => ?_)
  exact hL2 v0 FU _ _ _ 0 (lv_sub hl [1, 0] rfl) hS h
noncomputable def mo_cellBit (v0 : Int32) (v1 : Int32) : Option (Int64) :=
  some (sl 1 ((8 * v1) + v0))
set_option maxHeartbeats 4000000 in
set_option maxRecDepth 100000 in
theorem c_mo_cellBit (l : Launch) (v0 : Int32) (v1 : Int32) (r : Int64) (h : mo_cellBit v0 v1 = some r) : Met l yX12_cellBit (wm yX12_cellBit cX12_cellBit 2 (some .long)) (rmm 0 0) (va_Pc [.int v0, .int v1] NW) (Ql r) 0 0 NoA := by
  refine met_s (y := yX12_cellBit) (rm := rmm 0 0) (by decide) (Nat.le_of_ble_eq_true rfl) ?_
  intro p e s m below meth c hx hb hr hw hown hlocks _ hml hN ls hl
  replace hl : lv_has ls 2 [(0, .int v0), (1, .int v1)] := hl
  have hS : va_S NoA s.heap s.heap [] := va_S.rf
  generalize (([.int v0, .int v1] : List Value).toArray) = av at hw ⊢
  rw [mo_cellBit] at h
  refine lv_lconst (v := 1) hx hb dX12_cellBit_0 kl_1 ?_
  refine lv_bipush (v := 8) hx hb dX12_cellBit_1 kb_8 ?_
  refine lv_iload_n hx hb dX12_cellBit_3 rfl (lv_at hl 1 rfl) ?_
  refine lv_imul hx hb dX12_cellBit_4 ?_
  refine lv_iload_n hx hb dX12_cellBit_5 rfl (lv_at hl 0 rfl) ?_
  refine lv_iadd hx hb dX12_cellBit_6 ?_
  refine lv_lshl hx hb (v := sl 1 ((8 * v1) + v0)) dX12_cellBit_7 rfl ?_
  exact rt_l hx hb hr hlocks hS dX12_cellBit_8 h
noncomputable def mo_isCell (v0 : Int64) (v2 : Int32) (v3 : Int32) : Option (Int32) :=
  bd1 (mo_in v2 0 7) fun r_1 =>
  if r_1 = 0 then (zb 0 (some 0)) else
  bd1 (mo_in v3 0 7) fun r_3 =>
  if r_3 = 0 then (zb 0 (some 0)) else
  bd1 (mo_has v0 ((8 * v3) + v2)) fun r_5 =>
  if r_5 = 0 then (zb 0 (some 0)) else
  zb 1 (some 1)
set_option maxHeartbeats 4000000 in
set_option maxRecDepth 100000 in
theorem c_mo_isCell (l : Launch) (v0 : Int64) (v2 : Int32) (v3 : Int32) (r : Int32) (h : mo_isCell v0 v2 v3 = some r) : Met l yX12_isCell (wm yX12_isCell cX12_isCell 4 (some .boolean)) (rmm 1 22) (va_Pc [.long v0, .int v2, .int v3] NW) (Qi r) 0 0 NoA := by
  refine met_s (y := yX12_isCell) (rm := rmm 1 22) (by decide) (Nat.le_of_ble_eq_true rfl) ?_
  intro p e s m below meth c hx hb hr hw hown hlocks _ hml hN ls hl
  replace hl : lv_has ls 4 [(0, .long v0), (2, .int v2), (3, .int v3)] := hl
  have hS : va_S NoA s.heap s.heap [] := va_S.rf
  generalize (([.long v0, .int v2, .int v3] : List Value).toArray) = av at hw ⊢
  rw [mo_isCell] at h
  refine lv_iload_n hx hb dX12_isCell_0 rfl (lv_at hl 1 rfl) ?_
  refine lv_iconst (v := 0) hx hb dX12_isCell_1 ki_0 ?_
  refine lv_bipush (v := 7) hx hb dX12_isCell_2 kb_7 ?_
  obtain ⟨r_7, hr_8, h⟩ := bd1_s h
  refine sc_i hx hb hml hown hw hN (c_mo_in l v2 0 7 r_7 hr_8) g_RX12_82 hd_X12_in (rest := []) hl.1 hS dX12_isCell_4 rfl rfl ⟨Nat.le_of_ble_eq_true rfl, Nat.le_of_ble_eq_true rfl⟩ rfl rfl (Nat.le_of_ble_eq_true rfl) ⟨Nat.zero_le _, Nat.zero_le _⟩ (fun H locs hk hS => ?_)
  refine lv_if_eq hx hb dX12_isCell_7 (tgt := 37) rfl (fun hc => ?_) (fun hc => ?_)
  · replace h := ifp h hc
    refine lv_iconst (v := 0) hx hb dX12_isCell_37 ki_0 ?_
    exact rt_z hx hb hr hlocks hS dX12_isCell_38 h
  · replace h := ifn h hc
    refine lv_iload_n hx hb dX12_isCell_10 rfl (lv_at hl 2 rfl) ?_
    refine lv_iconst (v := 0) hx hb dX12_isCell_11 ki_0 ?_
    refine lv_bipush (v := 7) hx hb dX12_isCell_12 kb_7 ?_
    obtain ⟨r_9, hr_10, h⟩ := bd1_s h
    refine sc_i hx hb hml hown hw hN (c_mo_in l v3 0 7 r_9 hr_10) g_RX12_82 hd_X12_in (rest := []) hl.1 hS dX12_isCell_14 rfl rfl ⟨Nat.le_of_ble_eq_true rfl, Nat.le_of_ble_eq_true rfl⟩ rfl rfl (Nat.le_of_ble_eq_true rfl) ⟨Nat.zero_le _, Nat.zero_le _⟩ (fun H locs hk hS => ?_)
    refine lv_if_eq hx hb dX12_isCell_17 (tgt := 37) rfl (fun hc => ?_) (fun hc => ?_)
    · replace h := ifp h hc
      refine lv_iconst (v := 0) hx hb dX12_isCell_37 ki_0 ?_
      exact rt_z hx hb hr hlocks hS dX12_isCell_38 h
    · replace h := ifn h hc
      refine lv_lload_n hx hb dX12_isCell_20 rfl (lv_at hl 0 rfl) ?_
      refine lv_bipush (v := 8) hx hb dX12_isCell_21 kb_8 ?_
      refine lv_iload_n hx hb dX12_isCell_23 rfl (lv_at hl 2 rfl) ?_
      refine lv_imul hx hb dX12_isCell_24 ?_
      refine lv_iload_n hx hb dX12_isCell_25 rfl (lv_at hl 1 rfl) ?_
      refine lv_iadd hx hb dX12_isCell_26 ?_
      obtain ⟨r_11, hr_12, h⟩ := bd1_s h
      refine sc_i hx hb hml hown hw hN (c_mo_has l v0 ((8 * v3) + v2) r_11 hr_12) g_RX12_86 hd_X12_has (rest := []) hl.1 hS dX12_isCell_27 rfl rfl ⟨Nat.le_of_ble_eq_true rfl, Nat.le_of_ble_eq_true rfl⟩ rfl rfl (Nat.le_of_ble_eq_true rfl) ⟨Nat.zero_le _, Nat.zero_le _⟩ (fun H locs hk hS => ?_)
      refine lv_if_eq hx hb dX12_isCell_30 (tgt := 37) rfl (fun hc => ?_) (fun hc => ?_)
      · replace h := ifp h hc
        refine lv_iconst (v := 0) hx hb dX12_isCell_37 ki_0 ?_
        exact rt_z hx hb hr hlocks hS dX12_isCell_38 h
      · replace h := ifn h hc
        refine lv_iconst (v := 1) hx hb dX12_isCell_33 ki_1 ?_
        refine lv_goto hx hb dX12_isCell_34 (tgt := 38) rfl ?_
        exact rt_z hx hb hr hlocks hS dX12_isCell_38 h
noncomputable def mo_moved_B20   (k20 : Int64 → Option (Int64)) (v2 : Int64) : Option (Int64) :=
  if (v2 &&& (72340172838076673 : Int64)) = 0 then (nm (su v2 1 : Int64) fun v2_1 =>
  k20 v2_1) else
  some v2
noncomputable def mo_moved_B2   (k2 : Int64 → Option (Int64)) (v2 : Int64) : Option (Int64) :=
  if (v2 &&& (255 : Int64)) = 0 then (nm (su v2 8 : Int64) fun v2_2 =>
  k2 v2_2) else
  fl1 (mo_moved_B20 ) FU v2
noncomputable def mo_moved (v0 : Int64) : Option (Int64) :=
  fl1 (mo_moved_B2 ) FU v0
set_option maxHeartbeats 4000000 in
set_option maxRecDepth 100000 in
theorem c_mo_moved (l : Launch) (v0 : Int64) (r : Int64) (h : mo_moved v0 = some r) : Met l yX12_moved (wm yX12_moved cX12_moved 4 (some .long)) (rmm 0 0) (va_Pc [.long v0] NW) (Ql r) 0 0 NoA := by
  refine met_s (y := yX12_moved) (rm := rmm 0 0) (by decide) (Nat.le_of_ble_eq_true rfl) ?_
  intro p e s m below meth c hx hb hr hw hown hlocks _ hml hN ls hl
  replace hl : lv_has ls 4 [(0, .long v0)] := hl
  have hS : va_S NoA s.heap s.heap [] := va_S.rf
  generalize (([.long v0] : List Value).toArray) = av at hw ⊢
  rw [mo_moved] at h
  have hL20 : ∀ (n20 : Nat) (H : Heap) (locs : List Loc) (ls : Array Slot) (v2 : Int64), lv_has ls 4 [(2, .long v2)] → va_S NoA s.heap H locs → fl1 (mo_moved_B20 ) n20 v2 = some r → W p l e (rmm 0 0) s m av below meth c H locs 0 0 (MQ below (Ql r) av s 0 0 NoA) (F0 m 20 ls []) := by
    intro  n20
    induction n20 with
    | zero => intro H locs ls v2 hl hS h; cases h
    | succ n20 ih20 =>
      intro H locs ls v2 hl hS h
      replace h : mo_moved_B20  (fl1 (mo_moved_B20 ) n20) v2 = some r := h
      generalize fl1 (mo_moved_B20 ) n20 = k20 at h ih20
      rw [mo_moved_B20] at h
      refine lv_lload_n hx hb dX12_moved_20 rfl (lv_at hl 0 rfl) ?_
      refine lv_ldc2 hx hb hown (hw _ tw_7_17) dX12_moved_21 ?_
      refine lv_land hx hb dX12_moved_24 ?_
      refine lv_lconst (v := 0) hx hb dX12_moved_25 kl_0 ?_
      refine W.lcmp hx hb dX12_moved_26 ?_
      refine lv_if_ne hx hb dX12_moved_27 (tgt := 37) rfl (fun hc => ?_) (fun hc => ?_)
      · replace h := ifn h (fun q => hc ((lg_cmp_eq _ _).mpr q))
        refine lv_lload_n hx hb dX12_moved_37 rfl (lv_at hl 0 rfl) ?_
        exact rt_l hx hb hr hlocks hS dX12_moved_38 h
      · replace h := ifp h ((lg_cmp_eq _ _).mp hc)
        refine lv_lload_n hx hb dX12_moved_30 rfl (lv_at hl 0 rfl) ?_
        refine lv_iconst (v := 1) hx hb dX12_moved_31 ki_1 ?_
        refine lv_lushr hx hb (v := su v2 1) dX12_moved_32 rfl ?_
        obtain ⟨v2_3, ev2_3, h⟩ := nm_s h
        refine nmL ev2_3 ?_
        refine lv_lstore_n hx hb dX12_moved_33 rfl hl (Nat.le_of_ble_eq_true rfl) (lv' := [(2, .long v2_3)]) rfl (fun ls hl => ?_)
        refine lv_goto hx hb dX12_moved_34 (tgt := 20) rfl ?_
        exact ih20 _ _ _ v2_3 (lv_sub hl [0] rfl) hS h
  have hL2 : ∀ (n2 : Nat) (H : Heap) (locs : List Loc) (ls : Array Slot) (v2 : Int64), lv_has ls 4 [(2, .long v2)] → va_S NoA s.heap H locs → fl1 (mo_moved_B2 ) n2 v2 = some r → W p l e (rmm 0 0) s m av below meth c H locs 0 0 (MQ below (Ql r) av s 0 0 NoA) (F0 m 2 ls []) := by
    intro  n2
    induction n2 with
    | zero => intro H locs ls v2 hl hS h; cases h
    | succ n2 ih2 =>
      intro H locs ls v2 hl hS h
      replace h : mo_moved_B2  (fl1 (mo_moved_B2 ) n2) v2 = some r := h
      generalize fl1 (mo_moved_B2 ) n2 = k2 at h ih2
      rw [mo_moved_B2] at h
      refine lv_lload_n hx hb dX12_moved_2 rfl (lv_at hl 0 rfl) ?_
      refine lv_ldc2 hx hb hown (hw _ tw_7_21) dX12_moved_3 ?_
      refine lv_land hx hb dX12_moved_6 ?_
      refine lv_lconst (v := 0) hx hb dX12_moved_7 kl_0 ?_
      refine W.lcmp hx hb dX12_moved_8 ?_
      refine lv_if_ne hx hb dX12_moved_9 (tgt := 20) rfl (fun hc => ?_) (fun hc => ?_)
      · replace h := ifn h (fun q => hc ((lg_cmp_eq _ _).mpr q))
        exact hL20  FU _ _ _ v2 (lv_sub hl [0] rfl) hS h
      · replace h := ifp h ((lg_cmp_eq _ _).mp hc)
        refine lv_lload_n hx hb dX12_moved_12 rfl (lv_at hl 0 rfl) ?_
        refine lv_bipush (v := 8) hx hb dX12_moved_13 kb_8 ?_
        refine lv_lushr hx hb (v := su v2 8) dX12_moved_15 rfl ?_
        obtain ⟨v2_4, ev2_4, h⟩ := nm_s h
        refine nmL ev2_4 ?_
        refine lv_lstore_n hx hb dX12_moved_16 rfl hl (Nat.le_of_ble_eq_true rfl) (lv' := [(2, .long v2_4)]) rfl (fun ls hl => ?_)
        refine lv_goto hx hb dX12_moved_17 (tgt := 2) rfl ?_
        exact ih2 _ _ _ v2_4 (lv_sub hl [0] rfl) hS h
  refine lv_lload_n hx hb dX12_moved_0 rfl (lv_at hl 0 rfl) ?_
  refine lv_lstore_n hx hb dX12_moved_1 rfl hl (Nat.le_of_ble_eq_true rfl) (lv' := [(2, .long v0), (0, .long v0)]) rfl (fun ls hl => ?_)
  exact hL2  FU _ _ _ v0 (lv_sub hl [0] rfl) hS h
noncomputable def mo_around (v0 : Int64) : Option (Int64) :=
  nm ((su v0 1) &&& (9187201950435737471 : Int64) : Int64) fun v2_1 =>
  nm ((sl v0 1) &&& (((-72340172838076674) : Int64)) : Int64) fun v4_2 =>
  some ((((v2_1 ||| v4_2) ||| (su v0 8)) ||| (sl v0 8)) &&& (v0 ^^^ (((-1) : Int64))))
set_option maxHeartbeats 4000000 in
set_option maxRecDepth 100000 in
theorem c_mo_around (l : Launch) (v0 : Int64) (r : Int64) (h : mo_around v0 = some r) : Met l yX12_around (wm yX12_around cX12_around 6 (some .long)) (rmm 0 0) (va_Pc [.long v0] NW) (Ql r) 0 0 NoA := by
  refine met_s (y := yX12_around) (rm := rmm 0 0) (by decide) (Nat.le_of_ble_eq_true rfl) ?_
  intro p e s m below meth c hx hb hr hw hown hlocks _ hml hN ls hl
  replace hl : lv_has ls 6 [(0, .long v0)] := hl
  have hS : va_S NoA s.heap s.heap [] := va_S.rf
  generalize (([.long v0] : List Value).toArray) = av at hw ⊢
  rw [mo_around] at h
  refine lv_lload_n hx hb dX12_around_0 rfl (lv_at hl 0 rfl) ?_
  refine lv_iconst (v := 1) hx hb dX12_around_1 ki_1 ?_
  refine lv_lushr hx hb (v := su v0 1) dX12_around_2 rfl ?_
  refine lv_ldc2 hx hb hown (hw _ tw_12_18) dX12_around_3 ?_
  refine lv_land hx hb dX12_around_6 ?_
  obtain ⟨v2_3, ev2_3, h⟩ := nm_s h
  refine nmL ev2_3 ?_
  refine lv_lstore_n hx hb dX12_around_7 rfl hl (Nat.le_of_ble_eq_true rfl) (lv' := [(2, .long v2_3), (0, .long v0)]) rfl (fun ls hl => ?_)
  refine lv_lload_n hx hb dX12_around_8 rfl (lv_at hl 1 rfl) ?_
  refine lv_iconst (v := 1) hx hb dX12_around_9 ki_1 ?_
  refine lv_lshl hx hb (v := sl v0 1) dX12_around_10 rfl ?_
  refine lv_ldc2 hx hb hown (hw _ tw_12_19) dX12_around_11 ?_
  refine lv_land hx hb dX12_around_14 ?_
  obtain ⟨v4_4, ev4_4, h⟩ := nm_s h
  refine nmL ev4_4 ?_
  refine lv_lstore hx hb dX12_around_15 hl (Nat.le_of_ble_eq_true rfl) (lv' := [(4, .long v4_4), (2, .long v2_3), (0, .long v0)]) rfl (fun ls hl => ?_)
  refine lv_lload_n hx hb dX12_around_17 rfl (lv_at hl 1 rfl) ?_
  refine lv_lload hx hb dX12_around_18 (lv_at hl 0 rfl) ?_
  refine lv_lor hx hb dX12_around_20 ?_
  refine lv_lload_n hx hb dX12_around_21 rfl (lv_at hl 2 rfl) ?_
  refine lv_bipush (v := 8) hx hb dX12_around_22 kb_8 ?_
  refine lv_lushr hx hb (v := su v0 8) dX12_around_24 rfl ?_
  refine lv_lor hx hb dX12_around_25 ?_
  refine lv_lload_n hx hb dX12_around_26 rfl (lv_at hl 2 rfl) ?_
  refine lv_bipush (v := 8) hx hb dX12_around_27 kb_8 ?_
  refine lv_lshl hx hb (v := sl v0 8) dX12_around_29 rfl ?_
  refine lv_lor hx hb dX12_around_30 ?_
  refine lv_lload_n hx hb dX12_around_31 rfl (lv_at hl 2 rfl) ?_
  refine lv_ldc2 hx hb hown (hw _ tw_12_20) dX12_around_32 ?_
  refine lv_lxor hx hb dX12_around_35 ?_
  refine lv_land hx hb dX12_around_36 ?_
  exact rt_l hx hb hr hlocks hS dX12_around_37 h
noncomputable def mo_hangs_B23 (v0 : Int64)  (k23 : Int64 → Int64 → Option (Int32)) (v2 : Int64) (v4 : Int64) : Option (Int32) :=
  if v4 = v2 then (if v2 = v0 then (zb 1 (some 1)) else
  zb 0 (some 0)) else
  bd1 (mo_around v4) fun r_1 =>
  nm (v4 ||| (r_1 &&& v0) : Int64) fun v4_3 =>
  k23 v4 v4_3
noncomputable def mo_hangs (v0 : Int64) : Option (Int32) :=
  if v0 = 0 then (zb 0 (some 0)) else
  nm (v0 &&& (-v0) : Int64) fun v2_4 =>
  bd1 (mo_around v2_4) fun r_5 =>
  nm (v2_4 ||| (r_5 &&& v0) : Int64) fun v4_7 =>
  fl2 (mo_hangs_B23 v0) FU v2_4 v4_7
set_option maxHeartbeats 4000000 in
set_option maxRecDepth 100000 in
theorem c_mo_hangs (l : Launch) (v0 : Int64) (r : Int32) (h : mo_hangs v0 = some r) : Met l yX12_hangs (wm yX12_hangs cX12_hangs 6 (some .boolean)) (rmm 1 25) (va_Pc [.long v0] NW) (Qi r) 0 0 NoA := by
  refine met_s (y := yX12_hangs) (rm := rmm 1 25) (by decide) (Nat.le_of_ble_eq_true rfl) ?_
  intro p e s m below meth c hx hb hr hw hown hlocks _ hml hN ls hl
  replace hl : lv_has ls 6 [(0, .long v0)] := hl
  have hS : va_S NoA s.heap s.heap [] := va_S.rf
  generalize (([.long v0] : List Value).toArray) = av at hw ⊢
  rw [mo_hangs] at h
  have hL23 : ∀ (v0 : Int64), ∀ (n23 : Nat) (H : Heap) (locs : List Loc) (ls : Array Slot) (v2 : Int64) (v4 : Int64), lv_has ls 6 [(0, .long v0), (2, .long v2), (4, .long v4)] → va_S NoA s.heap H locs → fl2 (mo_hangs_B23 v0) n23 v2 v4 = some r → W p l e (rmm 1 25) s m av below meth c H locs 0 0 (MQ below (Qi r) av s 0 0 NoA) (F0 m 23 ls []) := by
    intro v0 n23
    induction n23 with
    | zero => intro H locs ls v2 v4 hl hS h; cases h
    | succ n23 ih23 =>
      intro H locs ls v2 v4 hl hS h
      replace h : mo_hangs_B23 v0 (fl2 (mo_hangs_B23 v0) n23) v2 v4 = some r := h
      generalize fl2 (mo_hangs_B23 v0) n23 = k23 at h ih23
      rw [mo_hangs_B23] at h
      refine lv_lload hx hb dX12_hangs_23 (lv_at hl 2 rfl) ?_
      refine lv_lload_n hx hb dX12_hangs_25 rfl (lv_at hl 1 rfl) ?_
      refine W.lcmp hx hb dX12_hangs_26 ?_
      refine lv_if_eq hx hb dX12_hangs_27 (tgt := 46) rfl (fun hc => ?_) (fun hc => ?_)
      · replace h := ifp h ((lg_cmp_eq _ _).mp hc)
        refine lv_lload_n hx hb dX12_hangs_46 rfl (lv_at hl 1 rfl) ?_
        refine lv_lload_n hx hb dX12_hangs_47 rfl (lv_at hl 0 rfl) ?_
        refine W.lcmp hx hb dX12_hangs_48 ?_
        refine lv_if_ne hx hb dX12_hangs_49 (tgt := 56) rfl (fun hc => ?_) (fun hc => ?_)
        · replace h := ifn h (fun q => hc ((lg_cmp_eq _ _).mpr q))
          refine lv_iconst (v := 0) hx hb dX12_hangs_56 ki_0 ?_
          exact rt_z hx hb hr hlocks hS dX12_hangs_57 h
        · replace h := ifp h ((lg_cmp_eq _ _).mp hc)
          refine lv_iconst (v := 1) hx hb dX12_hangs_52 ki_1 ?_
          refine lv_goto hx hb dX12_hangs_53 (tgt := 57) rfl ?_
          exact rt_z hx hb hr hlocks hS dX12_hangs_57 h
      · replace h := ifn h (fun q => hc ((lg_cmp_eq _ _).mpr q))
        refine lv_lload hx hb dX12_hangs_30 (lv_at hl 2 rfl) ?_
        refine lv_lstore_n hx hb dX12_hangs_32 rfl hl (Nat.le_of_ble_eq_true rfl) (lv' := [(2, .long v4), (0, .long v0), (4, .long v4)]) rfl (fun ls hl => ?_)
        refine lv_lload_n hx hb dX12_hangs_33 rfl (lv_at hl 0 rfl) ?_
        refine lv_lload_n hx hb dX12_hangs_34 rfl (lv_at hl 0 rfl) ?_
        obtain ⟨r_8, hr_9, h⟩ := bd1_s h
        refine sc_l hx hb hml hown hw hN (c_mo_around l v4 r_8 hr_9) g_RX12_100 hd_X12_around (rest := [.long v4]) hl.1 hS dX12_hangs_35 rfl rfl ⟨Nat.le_of_ble_eq_true rfl, Nat.le_of_ble_eq_true rfl⟩ rfl rfl (Nat.le_of_ble_eq_true rfl) ⟨Nat.zero_le _, Nat.zero_le _⟩ (fun H locs hk hS => ?_)
        refine lv_lload_n hx hb dX12_hangs_38 rfl (lv_at hl 1 rfl) ?_
        refine lv_land hx hb dX12_hangs_39 ?_
        refine lv_lor hx hb dX12_hangs_40 ?_
        obtain ⟨v4_10, ev4_10, h⟩ := nm_s h
        refine nmL ev4_10 ?_
        refine lv_lstore hx hb dX12_hangs_41 hl (Nat.le_of_ble_eq_true rfl) (lv' := [(4, .long v4_10), (2, .long v4), (0, .long v0)]) rfl (fun ls hl => ?_)
        refine lv_goto hx hb dX12_hangs_43 (tgt := 23) rfl ?_
        exact ih23 _ _ _ v4 v4_10 (lv_sub hl [2, 1, 0] rfl) hS h
  refine lv_lload_n hx hb dX12_hangs_0 rfl (lv_at hl 0 rfl) ?_
  refine lv_lconst (v := 0) hx hb dX12_hangs_1 kl_0 ?_
  refine W.lcmp hx hb dX12_hangs_2 ?_
  refine lv_if_ne hx hb dX12_hangs_3 (tgt := 8) rfl (fun hc => ?_) (fun hc => ?_)
  · replace h := ifn h (fun q => hc ((lg_cmp_eq _ _).mpr q))
    refine lv_lload_n hx hb dX12_hangs_8 rfl (lv_at hl 0 rfl) ?_
    refine lv_lload_n hx hb dX12_hangs_9 rfl (lv_at hl 0 rfl) ?_
    refine lv_lneg hx hb dX12_hangs_10 ?_
    refine lv_land hx hb dX12_hangs_11 ?_
    obtain ⟨v2_11, ev2_11, h⟩ := nm_s h
    refine nmL ev2_11 ?_
    refine lv_lstore_n hx hb dX12_hangs_12 rfl hl (Nat.le_of_ble_eq_true rfl) (lv' := [(2, .long v2_11), (0, .long v0)]) rfl (fun ls hl => ?_)
    refine lv_lload_n hx hb dX12_hangs_13 rfl (lv_at hl 0 rfl) ?_
    refine lv_lload_n hx hb dX12_hangs_14 rfl (lv_at hl 0 rfl) ?_
    obtain ⟨r_12, hr_13, h⟩ := bd1_s h
    refine sc_l hx hb hml hown hw hN (c_mo_around l v2_11 r_12 hr_13) g_RX12_100 hd_X12_around (rest := [.long v2_11]) hl.1 hS dX12_hangs_15 rfl rfl ⟨Nat.le_of_ble_eq_true rfl, Nat.le_of_ble_eq_true rfl⟩ rfl rfl (Nat.le_of_ble_eq_true rfl) ⟨Nat.zero_le _, Nat.zero_le _⟩ (fun H locs hk hS => ?_)
    refine lv_lload_n hx hb dX12_hangs_18 rfl (lv_at hl 1 rfl) ?_
    refine lv_land hx hb dX12_hangs_19 ?_
    refine lv_lor hx hb dX12_hangs_20 ?_
    obtain ⟨v4_14, ev4_14, h⟩ := nm_s h
    refine nmL ev4_14 ?_
    refine lv_lstore hx hb dX12_hangs_21 hl (Nat.le_of_ble_eq_true rfl) (lv' := [(4, .long v4_14), (2, .long v2_11), (0, .long v0)]) rfl (fun ls hl => ?_)
    exact hL23 v0 FU _ _ _ v2_11 v4_14 (lv_sub hl [2, 1, 0] rfl) hS h
  · replace h := ifp h ((lg_cmp_eq _ _).mp hc)
    refine lv_iconst (v := 0) hx hb dX12_hangs_6 ki_0 ?_
    exact rt_z hx hb hr hlocks hS dX12_hangs_7 h
noncomputable def mo_isFigure (v0 : Int64) : Option (Int32) :=
  if (v0 &&& (((-35887507618889600) : Int64))) = 0 then (bd1 (mo_bits v0) fun r_1 =>
  bd1 (mo_in r_1 1 12) fun r_3 =>
  if r_3 = 0 then (zb 0 (some 0)) else
  bd1 (mo_hangs v0) fun r_5 =>
  if r_5 = 0 then (zb 0 (some 0)) else
  bd1 (mo_moved v0) fun r_7 =>
  if r_7 = v0 then (zb 1 (some 1)) else
  zb 0 (some 0)) else
  zb 0 (some 0)
set_option maxHeartbeats 4000000 in
set_option maxRecDepth 100000 in
theorem c_mo_isFigure (l : Launch) (v0 : Int64) (r : Int32) (h : mo_isFigure v0 = some r) : Met l yX12_isFigure (wm yX12_isFigure cX12_isFigure 2 (some .boolean)) (rmm 2 50) (va_Pc [.long v0] NW) (Qi r) 0 0 NoA := by
  refine met_s (y := yX12_isFigure) (rm := rmm 2 50) (by decide) (Nat.le_of_ble_eq_true rfl) ?_
  intro p e s m below meth c hx hb hr hw hown hlocks _ hml hN ls hl
  replace hl : lv_has ls 2 [(0, .long v0)] := hl
  have hS : va_S NoA s.heap s.heap [] := va_S.rf
  generalize (([.long v0] : List Value).toArray) = av at hw ⊢
  rw [mo_isFigure] at h
  refine lv_lload_n hx hb dX12_isFigure_0 rfl (lv_at hl 0 rfl) ?_
  refine lv_ldc2 hx hb hown (hw _ tw_13_8) dX12_isFigure_1 ?_
  refine lv_land hx hb dX12_isFigure_4 ?_
  refine lv_lconst (v := 0) hx hb dX12_isFigure_5 kl_0 ?_
  refine W.lcmp hx hb dX12_isFigure_6 ?_
  refine lv_if_ne hx hb dX12_isFigure_7 (tgt := 43) rfl (fun hc => ?_) (fun hc => ?_)
  · replace h := ifn h (fun q => hc ((lg_cmp_eq _ _).mpr q))
    refine lv_iconst (v := 0) hx hb dX12_isFigure_43 ki_0 ?_
    exact rt_z hx hb hr hlocks hS dX12_isFigure_44 h
  · replace h := ifp h ((lg_cmp_eq _ _).mp hc)
    refine lv_lload_n hx hb dX12_isFigure_10 rfl (lv_at hl 0 rfl) ?_
    obtain ⟨r_9, hr_10, h⟩ := bd1_s h
    refine sc_i hx hb hml hown hw hN (c_mo_bits l v0 r_9 hr_10) g_RX12_106 hd_X12_bits (rest := []) hl.1 hS dX12_isFigure_11 rfl rfl ⟨Nat.le_of_ble_eq_true rfl, Nat.le_of_ble_eq_true rfl⟩ rfl rfl (Nat.le_of_ble_eq_true rfl) ⟨Nat.zero_le _, Nat.zero_le _⟩ (fun H locs hk hS => ?_)
    refine lv_iconst (v := 1) hx hb dX12_isFigure_14 ki_1 ?_
    refine lv_bipush (v := 12) hx hb dX12_isFigure_15 kb_12 ?_
    obtain ⟨r_11, hr_12, h⟩ := bd1_s h
    refine sc_i hx hb hml hown hw hN (c_mo_in l r_9 1 12 r_11 hr_12) g_RX12_82 hd_X12_in (rest := []) hl.1 hS dX12_isFigure_17 rfl rfl ⟨Nat.le_of_ble_eq_true rfl, Nat.le_of_ble_eq_true rfl⟩ rfl rfl (Nat.le_of_ble_eq_true rfl) ⟨Nat.zero_le _, Nat.zero_le _⟩ (fun H locs hk hS => ?_)
    refine lv_if_eq hx hb dX12_isFigure_20 (tgt := 43) rfl (fun hc => ?_) (fun hc => ?_)
    · replace h := ifp h hc
      refine lv_iconst (v := 0) hx hb dX12_isFigure_43 ki_0 ?_
      exact rt_z hx hb hr hlocks hS dX12_isFigure_44 h
    · replace h := ifn h hc
      refine lv_lload_n hx hb dX12_isFigure_23 rfl (lv_at hl 0 rfl) ?_
      obtain ⟨r_13, hr_14, h⟩ := bd1_s h
      refine sc_i hx hb hml hown hw hN (c_mo_hangs l v0 r_13 hr_14) g_RX12_110 hd_X12_hangs (rest := []) hl.1 hS dX12_isFigure_24 rfl rfl ⟨Nat.le_of_ble_eq_true rfl, Nat.le_of_ble_eq_true rfl⟩ rfl rfl (Nat.le_of_ble_eq_true rfl) ⟨Nat.zero_le _, Nat.zero_le _⟩ (fun H locs hk hS => ?_)
      refine lv_if_eq hx hb dX12_isFigure_27 (tgt := 43) rfl (fun hc => ?_) (fun hc => ?_)
      · replace h := ifp h hc
        refine lv_iconst (v := 0) hx hb dX12_isFigure_43 ki_0 ?_
        exact rt_z hx hb hr hlocks hS dX12_isFigure_44 h
      · replace h := ifn h hc
        refine lv_lload_n hx hb dX12_isFigure_30 rfl (lv_at hl 0 rfl) ?_
        obtain ⟨r_15, hr_16, h⟩ := bd1_s h
        refine sc_l hx hb hml hown hw hN (c_mo_moved l v0 r_15 hr_16) g_RX12_114 hd_X12_moved (rest := []) hl.1 hS dX12_isFigure_31 rfl rfl ⟨Nat.le_of_ble_eq_true rfl, Nat.le_of_ble_eq_true rfl⟩ rfl rfl (Nat.le_of_ble_eq_true rfl) ⟨Nat.zero_le _, Nat.zero_le _⟩ (fun H locs hk hS => ?_)
        refine lv_lload_n hx hb dX12_isFigure_34 rfl (lv_at hl 0 rfl) ?_
        refine W.lcmp hx hb dX12_isFigure_35 ?_
        refine lv_if_ne hx hb dX12_isFigure_36 (tgt := 43) rfl (fun hc => ?_) (fun hc => ?_)
        · replace h := ifn h (fun q => hc ((lg_cmp_eq _ _).mpr q))
          refine lv_iconst (v := 0) hx hb dX12_isFigure_43 ki_0 ?_
          exact rt_z hx hb hr hlocks hS dX12_isFigure_44 h
        · replace h := ifp h ((lg_cmp_eq _ _).mp hc)
          refine lv_iconst (v := 1) hx hb dX12_isFigure_39 ki_1 ?_
          refine lv_goto hx hb dX12_isFigure_40 (tgt := 44) rfl ?_
          exact rt_z hx hb hr hlocks hS dX12_isFigure_44 h
noncomputable def mo_wide_J26 (k4 : Int32 → Int32 → Option (Int32)) (v0 : Int64) (v2 : Int32) (v3 : Int32)  : Option (Int32) :=
  nm (v3 + Int32.ofInt 1) fun v3_1 =>
  k4 v2 v3_1
noncomputable def mo_wide_B4 (v0 : Int64)  (k4 : Int32 → Int32 → Option (Int32)) (v2 : Int32) (v3 : Int32) : Option (Int32) :=
  if 8 ≤ v3 then (some v2) else
  if (v0 &&& (sl (72340172838076673 : Int64) v3)) = 0 then (mo_wide_J26 k4 v0 v2 v3) else
  nm (v3 + 1 : Int32) fun v2_2 =>
  mo_wide_J26 k4 v0 v2_2 v3
noncomputable def mo_wide (v0 : Int64) : Option (Int32) :=
  fl2 (mo_wide_B4 v0) FU 0 0
set_option maxHeartbeats 4000000 in
set_option maxRecDepth 100000 in
theorem c_mo_wide (l : Launch) (v0 : Int64) (r : Int32) (h : mo_wide v0 = some r) : Met l yX12_wide (wm yX12_wide cX12_wide 4 (some .int)) (rmm 0 0) (va_Pc [.long v0] NW) (Qi r) 0 0 NoA := by
  refine met_s (y := yX12_wide) (rm := rmm 0 0) (by decide) (Nat.le_of_ble_eq_true rfl) ?_
  intro p e s m below meth c hx hb hr hw hown hlocks _ hml hN ls hl
  replace hl : lv_has ls 4 [(0, .long v0)] := hl
  have hS : va_S NoA s.heap s.heap [] := va_S.rf
  generalize (([.long v0] : List Value).toArray) = av at hw ⊢
  rw [mo_wide] at h
  have hL4 : ∀ (v0 : Int64), ∀ (n4 : Nat) (H : Heap) (locs : List Loc) (ls : Array Slot) (v2 : Int32) (v3 : Int32), lv_has ls 4 [(0, .long v0), (2, .int v2), (3, .int v3)] → va_S NoA s.heap H locs → fl2 (mo_wide_B4 v0) n4 v2 v3 = some r → W p l e (rmm 0 0) s m av below meth c H locs 0 0 (MQ below (Qi r) av s 0 0 NoA) (F0 m 4 ls []) := by
    intro v0 n4
    induction n4 with
    | zero => intro H locs ls v2 v3 hl hS h; cases h
    | succ n4 ih4 =>
      intro H locs ls v2 v3 hl hS h
      replace h : mo_wide_B4 v0 (fl2 (mo_wide_B4 v0) n4) v2 v3 = some r := h
      generalize fl2 (mo_wide_B4 v0) n4 = k4 at h ih4
      have hJ26 : ∀ (H : Heap) (locs : List Loc) (ls : Array Slot) (v2 : Int32) (v3 : Int32) , lv_has ls 4 [(0, .long v0), (2, .int v2), (3, .int v3)] → va_S NoA s.heap H locs → mo_wide_J26 k4 v0 v2 v3 = some r → W p l e (rmm 0 0) s m av below meth c H locs 0 0 (MQ below (Qi r) av s 0 0 NoA) (F0 m 26 ls []) := by
        intro H locs ls v2 v3  hl hS h
        rw [mo_wide_J26] at h
        obtain ⟨v3_3, ev3_3, h⟩ := nm_s h
        refine lv_iinc hx hb dX12_wide_26 hl (k := 2) rfl ev3_3.symm (Nat.le_of_ble_eq_true rfl) (lv' := [(3, .int v3_3), (0, .long v0), (2, .int v2)]) rfl (fun ls hl => ?_)
        refine lv_goto hx hb dX12_wide_29 (tgt := 4) rfl ?_
        exact ih4 _ _ _ v2 v3_3 (lv_sub hl [1, 2, 0] rfl) hS h
      rw [mo_wide_B4] at h
      refine lv_iload_n hx hb dX12_wide_4 rfl (lv_at hl 2 rfl) ?_
      refine lv_bipush (v := 8) hx hb dX12_wide_5 kb_8 ?_
      refine lv_icmp_ge hx hb dX12_wide_7 (tgt := 32) rfl (fun hc => ?_) (fun hc => ?_)
      · replace h := ifp h hc
        refine lv_iload_n hx hb dX12_wide_32 rfl (lv_at hl 1 rfl) ?_
        exact rt_i hx hb hr hlocks hS dX12_wide_33 h
      · replace h := ifn h hc
        refine lv_lload_n hx hb dX12_wide_10 rfl (lv_at hl 0 rfl) ?_
        refine lv_ldc2 hx hb hown (hw _ tw_7_17) dX12_wide_11 ?_
        refine lv_iload_n hx hb dX12_wide_14 rfl (lv_at hl 2 rfl) ?_
        refine lv_lshl hx hb (v := sl (72340172838076673 : Int64) v3) dX12_wide_15 rfl ?_
        refine lv_land hx hb dX12_wide_16 ?_
        refine lv_lconst (v := 0) hx hb dX12_wide_17 kl_0 ?_
        refine W.lcmp hx hb dX12_wide_18 ?_
        refine lv_if_eq hx hb dX12_wide_19 (tgt := 26) rfl (fun hc => ?_) (fun hc => ?_)
        · replace h := ifp h ((lg_cmp_eq _ _).mp hc)
          exact hJ26 _ _ _ v2 v3 (lv_sub hl [0, 1, 2] rfl) hS h
        · replace h := ifn h (fun q => hc ((lg_cmp_eq _ _).mpr q))
          refine lv_iload_n hx hb dX12_wide_22 rfl (lv_at hl 2 rfl) ?_
          refine lv_iconst (v := 1) hx hb dX12_wide_23 ki_1 ?_
          refine lv_iadd hx hb dX12_wide_24 ?_
          obtain ⟨v2_4, ev2_4, h⟩ := nm_s h
          refine nmI ev2_4 ?_
          refine lv_istore_n hx hb dX12_wide_25 rfl hl (Nat.le_of_ble_eq_true rfl) (lv' := [(2, .int v2_4), (0, .long v0), (3, .int v3)]) rfl (fun ls hl => ?_)
          exact hJ26 _ _ _ v2_4 v3 (lv_sub hl [1, 0, 2] rfl) hS h
  refine lv_iconst (v := 0) hx hb dX12_wide_0 ki_0 ?_
  refine lv_istore_n hx hb dX12_wide_1 rfl hl (Nat.le_of_ble_eq_true rfl) (lv' := [(2, .int 0), (0, .long v0)]) rfl (fun ls hl => ?_)
  refine lv_iconst (v := 0) hx hb dX12_wide_2 ki_0 ?_
  refine lv_istore_n hx hb dX12_wide_3 rfl hl (Nat.le_of_ble_eq_true rfl) (lv' := [(3, .int 0), (2, .int 0), (0, .long v0)]) rfl (fun ls hl => ?_)
  exact hL4 v0 FU _ _ _ 0 0 (lv_sub hl [2, 1, 0] rfl) hS h
noncomputable def mo_high_J29 (k4 : Int32 → Int32 → Option (Int32)) (v0 : Int64) (v2 : Int32) (v3 : Int32)  : Option (Int32) :=
  nm (v3 + Int32.ofInt 1) fun v3_1 =>
  k4 v2 v3_1
noncomputable def mo_high_B4 (v0 : Int64)  (k4 : Int32 → Int32 → Option (Int32)) (v2 : Int32) (v3 : Int32) : Option (Int32) :=
  if 8 ≤ v3 then (some v2) else
  if ((ss v0 (8 * v3)) &&& (255 : Int64)) = 0 then (mo_high_J29 k4 v0 v2 v3) else
  nm (v3 + 1 : Int32) fun v2_2 =>
  mo_high_J29 k4 v0 v2_2 v3
noncomputable def mo_high (v0 : Int64) : Option (Int32) :=
  fl2 (mo_high_B4 v0) FU 0 0
set_option maxHeartbeats 4000000 in
set_option maxRecDepth 100000 in
theorem c_mo_high (l : Launch) (v0 : Int64) (r : Int32) (h : mo_high v0 = some r) : Met l yX12_high (wm yX12_high cX12_high 4 (some .int)) (rmm 0 0) (va_Pc [.long v0] NW) (Qi r) 0 0 NoA := by
  refine met_s (y := yX12_high) (rm := rmm 0 0) (by decide) (Nat.le_of_ble_eq_true rfl) ?_
  intro p e s m below meth c hx hb hr hw hown hlocks _ hml hN ls hl
  replace hl : lv_has ls 4 [(0, .long v0)] := hl
  have hS : va_S NoA s.heap s.heap [] := va_S.rf
  generalize (([.long v0] : List Value).toArray) = av at hw ⊢
  rw [mo_high] at h
  have hL4 : ∀ (v0 : Int64), ∀ (n4 : Nat) (H : Heap) (locs : List Loc) (ls : Array Slot) (v2 : Int32) (v3 : Int32), lv_has ls 4 [(0, .long v0), (2, .int v2), (3, .int v3)] → va_S NoA s.heap H locs → fl2 (mo_high_B4 v0) n4 v2 v3 = some r → W p l e (rmm 0 0) s m av below meth c H locs 0 0 (MQ below (Qi r) av s 0 0 NoA) (F0 m 4 ls []) := by
    intro v0 n4
    induction n4 with
    | zero => intro H locs ls v2 v3 hl hS h; cases h
    | succ n4 ih4 =>
      intro H locs ls v2 v3 hl hS h
      replace h : mo_high_B4 v0 (fl2 (mo_high_B4 v0) n4) v2 v3 = some r := h
      generalize fl2 (mo_high_B4 v0) n4 = k4 at h ih4
      have hJ29 : ∀ (H : Heap) (locs : List Loc) (ls : Array Slot) (v2 : Int32) (v3 : Int32) , lv_has ls 4 [(0, .long v0), (2, .int v2), (3, .int v3)] → va_S NoA s.heap H locs → mo_high_J29 k4 v0 v2 v3 = some r → W p l e (rmm 0 0) s m av below meth c H locs 0 0 (MQ below (Qi r) av s 0 0 NoA) (F0 m 29 ls []) := by
        intro H locs ls v2 v3  hl hS h
        rw [mo_high_J29] at h
        obtain ⟨v3_3, ev3_3, h⟩ := nm_s h
        refine lv_iinc hx hb dX12_high_29 hl (k := 2) rfl ev3_3.symm (Nat.le_of_ble_eq_true rfl) (lv' := [(3, .int v3_3), (0, .long v0), (2, .int v2)]) rfl (fun ls hl => ?_)
        refine lv_goto hx hb dX12_high_32 (tgt := 4) rfl ?_
        exact ih4 _ _ _ v2 v3_3 (lv_sub hl [1, 2, 0] rfl) hS h
      rw [mo_high_B4] at h
      refine lv_iload_n hx hb dX12_high_4 rfl (lv_at hl 2 rfl) ?_
      refine lv_bipush (v := 8) hx hb dX12_high_5 kb_8 ?_
      refine lv_icmp_ge hx hb dX12_high_7 (tgt := 35) rfl (fun hc => ?_) (fun hc => ?_)
      · replace h := ifp h hc
        refine lv_iload_n hx hb dX12_high_35 rfl (lv_at hl 1 rfl) ?_
        exact rt_i hx hb hr hlocks hS dX12_high_36 h
      · replace h := ifn h hc
        refine lv_lload_n hx hb dX12_high_10 rfl (lv_at hl 0 rfl) ?_
        refine lv_bipush (v := 8) hx hb dX12_high_11 kb_8 ?_
        refine lv_iload_n hx hb dX12_high_13 rfl (lv_at hl 2 rfl) ?_
        refine lv_imul hx hb dX12_high_14 ?_
        refine lv_lshr hx hb (v := ss v0 (8 * v3)) dX12_high_15 rfl ?_
        refine lv_ldc2 hx hb hown (hw _ tw_7_21) dX12_high_16 ?_
        refine lv_land hx hb dX12_high_19 ?_
        refine lv_lconst (v := 0) hx hb dX12_high_20 kl_0 ?_
        refine W.lcmp hx hb dX12_high_21 ?_
        refine lv_if_eq hx hb dX12_high_22 (tgt := 29) rfl (fun hc => ?_) (fun hc => ?_)
        · replace h := ifp h ((lg_cmp_eq _ _).mp hc)
          exact hJ29 _ _ _ v2 v3 (lv_sub hl [0, 1, 2] rfl) hS h
        · replace h := ifn h (fun q => hc ((lg_cmp_eq _ _).mpr q))
          refine lv_iload_n hx hb dX12_high_25 rfl (lv_at hl 2 rfl) ?_
          refine lv_iconst (v := 1) hx hb dX12_high_26 ki_1 ?_
          refine lv_iadd hx hb dX12_high_27 ?_
          obtain ⟨v2_4, ev2_4, h⟩ := nm_s h
          refine nmI ev2_4 ?_
          refine lv_istore_n hx hb dX12_high_28 rfl hl (Nat.le_of_ble_eq_true rfl) (lv' := [(2, .int v2_4), (0, .long v0), (3, .int v3)]) rfl (fun ls hl => ?_)
          exact hJ29 _ _ _ v2_4 v3 (lv_sub hl [1, 0, 2] rfl) hS h
  refine lv_iconst (v := 0) hx hb dX12_high_0 ki_0 ?_
  refine lv_istore_n hx hb dX12_high_1 rfl hl (Nat.le_of_ble_eq_true rfl) (lv' := [(2, .int 0), (0, .long v0)]) rfl (fun ls hl => ?_)
  refine lv_iconst (v := 0) hx hb dX12_high_2 ki_0 ?_
  refine lv_istore_n hx hb dX12_high_3 rfl hl (Nat.le_of_ble_eq_true rfl) (lv' := [(3, .int 0), (2, .int 0), (0, .long v0)]) rfl (fun ls hl => ?_)
  exact hL4 v0 FU _ _ _ 0 0 (lv_sub hl [2, 1, 0] rfl) hS h
noncomputable def mo_quarter_J50 (k5 : Int64 → Int32 → Option (Int64)) (k15 : Int64 → Int32 → Option (Int64)) (v0 : Int64) (v2 : Int64) (v4 : Int32) (v5 : Int32)  : Option (Int64) :=
  nm (v5 + Int32.ofInt 1) fun v5_1 =>
  k15 v2 v5_1
noncomputable def mo_quarter_B15 (v0 : Int64) (v4 : Int32) (k5 : Int64 → Int32 → Option (Int64)) (k15 : Int64 → Int32 → Option (Int64)) (v2 : Int64) (v5 : Int32) : Option (Int64) :=
  if 7 ≤ v5 then (nm (v4 + Int32.ofInt 1) fun v4_2 =>
  k5 v2 v4_2) else
  bd1 (mo_has v0 ((8 * v4) + v5)) fun r_3 =>
  if r_3 = 0 then (mo_quarter_J50 k5 k15 v0 v2 v4 v5) else
  bd1 (mo_cellBit (6 - v4) v5) fun r_5 =>
  nm (v2 ||| r_5 : Int64) fun v2_7 =>
  mo_quarter_J50 k5 k15 v0 v2_7 v4 v5
noncomputable def mo_quarter_B5 (v0 : Int64)  (k5 : Int64 → Int32 → Option (Int64)) (v2 : Int64) (v4 : Int32) : Option (Int64) :=
  if 7 ≤ v4 then (bd1 (mo_moved v2) fun r_8 =>
  some r_8) else
  fl2 (mo_quarter_B15 v0 v4 k5) FU v2 0
noncomputable def mo_quarter (v0 : Int64) : Option (Int64) :=
  fl2 (mo_quarter_B5 v0) FU 0 0
set_option maxHeartbeats 4000000 in
set_option maxRecDepth 100000 in
theorem c_mo_quarter (l : Launch) (v0 : Int64) (r : Int64) (h : mo_quarter v0 = some r) : Met l yX12_quarter (wm yX12_quarter cX12_quarter 6 (some .long)) (rmm 1 23) (va_Pc [.long v0] NW) (Ql r) 0 0 NoA := by
  refine met_s (y := yX12_quarter) (rm := rmm 1 23) (by decide) (Nat.le_of_ble_eq_true rfl) ?_
  intro p e s m below meth c hx hb hr hw hown hlocks _ hml hN ls hl
  replace hl : lv_has ls 6 [(0, .long v0)] := hl
  have hS : va_S NoA s.heap s.heap [] := va_S.rf
  generalize (([.long v0] : List Value).toArray) = av at hw ⊢
  rw [mo_quarter] at h
  have hL5 : ∀ (v0 : Int64), ∀ (n5 : Nat) (H : Heap) (locs : List Loc) (ls : Array Slot) (v2 : Int64) (v4 : Int32), lv_has ls 6 [(0, .long v0), (2, .long v2), (4, .int v4)] → va_S NoA s.heap H locs → fl2 (mo_quarter_B5 v0) n5 v2 v4 = some r → W p l e (rmm 1 23) s m av below meth c H locs 0 0 (MQ below (Ql r) av s 0 0 NoA) (F0 m 5 ls []) := by
    intro v0 n5
    induction n5 with
    | zero => intro H locs ls v2 v4 hl hS h; cases h
    | succ n5 ih5 =>
      intro H locs ls v2 v4 hl hS h
      replace h : mo_quarter_B5 v0 (fl2 (mo_quarter_B5 v0) n5) v2 v4 = some r := h
      generalize fl2 (mo_quarter_B5 v0) n5 = k5 at h ih5
      have hL15 : ∀ (v4 : Int32), ∀ (n15 : Nat) (H : Heap) (locs : List Loc) (ls : Array Slot) (v2 : Int64) (v5 : Int32), lv_has ls 6 [(0, .long v0), (2, .long v2), (4, .int v4), (5, .int v5)] → va_S NoA s.heap H locs → fl2 (mo_quarter_B15 v0 v4 k5) n15 v2 v5 = some r → W p l e (rmm 1 23) s m av below meth c H locs 0 0 (MQ below (Ql r) av s 0 0 NoA) (F0 m 15 ls []) := by
        intro v4 n15
        induction n15 with
        | zero => intro H locs ls v2 v5 hl hS h; cases h
        | succ n15 ih15 =>
          intro H locs ls v2 v5 hl hS h
          replace h : mo_quarter_B15 v0 v4 k5 (fl2 (mo_quarter_B15 v0 v4 k5) n15) v2 v5 = some r := h
          generalize fl2 (mo_quarter_B15 v0 v4 k5) n15 = k15 at h ih15
          have hJ50 : ∀ (H : Heap) (locs : List Loc) (ls : Array Slot) (v2 : Int64) (v5 : Int32) , lv_has ls 6 [(0, .long v0), (2, .long v2), (4, .int v4), (5, .int v5)] → va_S NoA s.heap H locs → mo_quarter_J50 k5 k15 v0 v2 v4 v5 = some r → W p l e (rmm 1 23) s m av below meth c H locs 0 0 (MQ below (Ql r) av s 0 0 NoA) (F0 m 50 ls []) := by
            intro H locs ls v2 v5  hl hS h
            rw [mo_quarter_J50] at h
            obtain ⟨v5_10, ev5_10, h⟩ := nm_s h
            refine lv_iinc hx hb dX12_quarter_50 hl (k := 3) rfl ev5_10.symm (Nat.le_of_ble_eq_true rfl) (lv' := [(5, .int v5_10), (0, .long v0), (2, .long v2), (4, .int v4)]) rfl (fun ls hl => ?_)
            refine lv_goto hx hb dX12_quarter_53 (tgt := 15) rfl ?_
            exact ih15 _ _ _ v2 v5_10 (lv_sub hl [1, 2, 3, 0] rfl) hS h
          rw [mo_quarter_B15] at h
          refine lv_iload hx hb dX12_quarter_15 (lv_at hl 3 rfl) ?_
          refine lv_bipush (v := 7) hx hb dX12_quarter_17 kb_7 ?_
          refine lv_icmp_ge hx hb dX12_quarter_19 (tgt := 56) rfl (fun hc => ?_) (fun hc => ?_)
          · replace h := ifp h hc
            obtain ⟨v4_11, ev4_11, h⟩ := nm_s h
            refine lv_iinc hx hb dX12_quarter_56 hl (k := 2) rfl ev4_11.symm (Nat.le_of_ble_eq_true rfl) (lv' := [(4, .int v4_11), (0, .long v0), (2, .long v2), (5, .int v5)]) rfl (fun ls hl => ?_)
            refine lv_goto hx hb dX12_quarter_59 (tgt := 5) rfl ?_
            exact ih5 _ _ _ v2 v4_11 (lv_sub hl [1, 2, 0] rfl) hS h
          · replace h := ifn h hc
            refine lv_lload_n hx hb dX12_quarter_22 rfl (lv_at hl 0 rfl) ?_
            refine lv_bipush (v := 8) hx hb dX12_quarter_23 kb_8 ?_
            refine lv_iload hx hb dX12_quarter_25 (lv_at hl 2 rfl) ?_
            refine lv_imul hx hb dX12_quarter_27 ?_
            refine lv_iload hx hb dX12_quarter_28 (lv_at hl 3 rfl) ?_
            refine lv_iadd hx hb dX12_quarter_30 ?_
            obtain ⟨r_12, hr_13, h⟩ := bd1_s h
            refine sc_i hx hb hml hown hw hN (c_mo_has l v0 ((8 * v4) + v5) r_12 hr_13) g_RX12_86 hd_X12_has (rest := []) hl.1 hS dX12_quarter_31 rfl rfl ⟨Nat.le_of_ble_eq_true rfl, Nat.le_of_ble_eq_true rfl⟩ rfl rfl (Nat.le_of_ble_eq_true rfl) ⟨Nat.zero_le _, Nat.zero_le _⟩ (fun H locs hk hS => ?_)
            refine lv_if_eq hx hb dX12_quarter_34 (tgt := 50) rfl (fun hc => ?_) (fun hc => ?_)
            · replace h := ifp h hc
              exact hJ50 _ _ _ v2 v5 (lv_sub hl [0, 1, 2, 3] rfl) hS h
            · replace h := ifn h hc
              refine lv_lload_n hx hb dX12_quarter_37 rfl (lv_at hl 1 rfl) ?_
              refine lv_bipush (v := 6) hx hb dX12_quarter_38 kb_6 ?_
              refine lv_iload hx hb dX12_quarter_40 (lv_at hl 2 rfl) ?_
              refine lv_isub hx hb dX12_quarter_42 ?_
              refine lv_iload hx hb dX12_quarter_43 (lv_at hl 3 rfl) ?_
              obtain ⟨r_14, hr_15, h⟩ := bd1_s h
              refine sc_l hx hb hml hown hw hN (c_mo_cellBit l (6 - v4) v5 r_14 hr_15) g_RX12_117 hd_X12_cellBit (rest := [.long v2]) hl.1 hS dX12_quarter_45 rfl rfl ⟨Nat.le_of_ble_eq_true rfl, Nat.le_of_ble_eq_true rfl⟩ rfl rfl (Nat.le_of_ble_eq_true rfl) ⟨Nat.zero_le _, Nat.zero_le _⟩ (fun H locs hk hS => ?_)
              refine lv_lor hx hb dX12_quarter_48 ?_
              obtain ⟨v2_16, ev2_16, h⟩ := nm_s h
              refine nmL ev2_16 ?_
              refine lv_lstore_n hx hb dX12_quarter_49 rfl hl (Nat.le_of_ble_eq_true rfl) (lv' := [(2, .long v2_16), (0, .long v0), (4, .int v4), (5, .int v5)]) rfl (fun ls hl => ?_)
              exact hJ50 _ _ _ v2_16 v5 (lv_sub hl [1, 0, 2, 3] rfl) hS h
      rw [mo_quarter_B5] at h
      refine lv_iload hx hb dX12_quarter_5 (lv_at hl 2 rfl) ?_
      refine lv_bipush (v := 7) hx hb dX12_quarter_7 kb_7 ?_
      refine lv_icmp_ge hx hb dX12_quarter_9 (tgt := 62) rfl (fun hc => ?_) (fun hc => ?_)
      · replace h := ifp h hc
        refine lv_lload_n hx hb dX12_quarter_62 rfl (lv_at hl 1 rfl) ?_
        obtain ⟨r_17, hr_18, h⟩ := bd1_s h
        refine sc_l hx hb hml hown hw hN (c_mo_moved l v2 r_17 hr_18) g_RX12_114 hd_X12_moved (rest := []) hl.1 hS dX12_quarter_63 rfl rfl ⟨Nat.le_of_ble_eq_true rfl, Nat.le_of_ble_eq_true rfl⟩ rfl rfl (Nat.le_of_ble_eq_true rfl) ⟨Nat.zero_le _, Nat.zero_le _⟩ (fun H locs hk hS => ?_)
        exact rt_l hx hb hr hlocks hS dX12_quarter_66 h
      · replace h := ifn h hc
        refine lv_iconst (v := 0) hx hb dX12_quarter_12 ki_0 ?_
        refine lv_istore hx hb dX12_quarter_13 hl (Nat.le_of_ble_eq_true rfl) (lv' := [(5, .int 0), (0, .long v0), (2, .long v2), (4, .int v4)]) rfl (fun ls hl => ?_)
        exact hL15 v4 FU _ _ _ v2 0 (lv_sub hl [1, 2, 3, 0] rfl) hS h
  refine lv_lconst (v := 0) hx hb dX12_quarter_0 kl_0 ?_
  refine lv_lstore_n hx hb dX12_quarter_1 rfl hl (Nat.le_of_ble_eq_true rfl) (lv' := [(2, .long 0), (0, .long v0)]) rfl (fun ls hl => ?_)
  refine lv_iconst (v := 0) hx hb dX12_quarter_2 ki_0 ?_
  refine lv_istore hx hb dX12_quarter_3 hl (Nat.le_of_ble_eq_true rfl) (lv' := [(4, .int 0), (2, .long 0), (0, .long v0)]) rfl (fun ls hl => ?_)
  exact hL5 v0 FU _ _ _ 0 0 (lv_sub hl [2, 1, 0] rfl) hS h
noncomputable def mo_mirrored_J50 (k5 : Int64 → Int32 → Option (Int64)) (k15 : Int64 → Int32 → Option (Int64)) (v0 : Int64) (v2 : Int64) (v4 : Int32) (v5 : Int32)  : Option (Int64) :=
  nm (v5 + Int32.ofInt 1) fun v5_1 =>
  k15 v2 v5_1
noncomputable def mo_mirrored_B15 (v0 : Int64) (v4 : Int32) (k5 : Int64 → Int32 → Option (Int64)) (k15 : Int64 → Int32 → Option (Int64)) (v2 : Int64) (v5 : Int32) : Option (Int64) :=
  if 7 ≤ v5 then (nm (v4 + Int32.ofInt 1) fun v4_2 =>
  k5 v2 v4_2) else
  bd1 (mo_has v0 ((8 * v4) + v5)) fun r_3 =>
  if r_3 = 0 then (mo_mirrored_J50 k5 k15 v0 v2 v4 v5) else
  bd1 (mo_cellBit (6 - v5) v4) fun r_5 =>
  nm (v2 ||| r_5 : Int64) fun v2_7 =>
  mo_mirrored_J50 k5 k15 v0 v2_7 v4 v5
noncomputable def mo_mirrored_B5 (v0 : Int64)  (k5 : Int64 → Int32 → Option (Int64)) (v2 : Int64) (v4 : Int32) : Option (Int64) :=
  if 7 ≤ v4 then (bd1 (mo_moved v2) fun r_8 =>
  some r_8) else
  fl2 (mo_mirrored_B15 v0 v4 k5) FU v2 0
noncomputable def mo_mirrored (v0 : Int64) : Option (Int64) :=
  fl2 (mo_mirrored_B5 v0) FU 0 0
set_option maxHeartbeats 4000000 in
set_option maxRecDepth 100000 in
theorem c_mo_mirrored (l : Launch) (v0 : Int64) (r : Int64) (h : mo_mirrored v0 = some r) : Met l yX12_mirrored (wm yX12_mirrored cX12_mirrored 6 (some .long)) (rmm 1 23) (va_Pc [.long v0] NW) (Ql r) 0 0 NoA := by
  refine met_s (y := yX12_mirrored) (rm := rmm 1 23) (by decide) (Nat.le_of_ble_eq_true rfl) ?_
  intro p e s m below meth c hx hb hr hw hown hlocks _ hml hN ls hl
  replace hl : lv_has ls 6 [(0, .long v0)] := hl
  have hS : va_S NoA s.heap s.heap [] := va_S.rf
  generalize (([.long v0] : List Value).toArray) = av at hw ⊢
  rw [mo_mirrored] at h
  have hL5 : ∀ (v0 : Int64), ∀ (n5 : Nat) (H : Heap) (locs : List Loc) (ls : Array Slot) (v2 : Int64) (v4 : Int32), lv_has ls 6 [(0, .long v0), (2, .long v2), (4, .int v4)] → va_S NoA s.heap H locs → fl2 (mo_mirrored_B5 v0) n5 v2 v4 = some r → W p l e (rmm 1 23) s m av below meth c H locs 0 0 (MQ below (Ql r) av s 0 0 NoA) (F0 m 5 ls []) := by
    intro v0 n5
    induction n5 with
    | zero => intro H locs ls v2 v4 hl hS h; cases h
    | succ n5 ih5 =>
      intro H locs ls v2 v4 hl hS h
      replace h : mo_mirrored_B5 v0 (fl2 (mo_mirrored_B5 v0) n5) v2 v4 = some r := h
      generalize fl2 (mo_mirrored_B5 v0) n5 = k5 at h ih5
      have hL15 : ∀ (v4 : Int32), ∀ (n15 : Nat) (H : Heap) (locs : List Loc) (ls : Array Slot) (v2 : Int64) (v5 : Int32), lv_has ls 6 [(0, .long v0), (2, .long v2), (4, .int v4), (5, .int v5)] → va_S NoA s.heap H locs → fl2 (mo_mirrored_B15 v0 v4 k5) n15 v2 v5 = some r → W p l e (rmm 1 23) s m av below meth c H locs 0 0 (MQ below (Ql r) av s 0 0 NoA) (F0 m 15 ls []) := by
        intro v4 n15
        induction n15 with
        | zero => intro H locs ls v2 v5 hl hS h; cases h
        | succ n15 ih15 =>
          intro H locs ls v2 v5 hl hS h
          replace h : mo_mirrored_B15 v0 v4 k5 (fl2 (mo_mirrored_B15 v0 v4 k5) n15) v2 v5 = some r := h
          generalize fl2 (mo_mirrored_B15 v0 v4 k5) n15 = k15 at h ih15
          have hJ50 : ∀ (H : Heap) (locs : List Loc) (ls : Array Slot) (v2 : Int64) (v5 : Int32) , lv_has ls 6 [(0, .long v0), (2, .long v2), (4, .int v4), (5, .int v5)] → va_S NoA s.heap H locs → mo_mirrored_J50 k5 k15 v0 v2 v4 v5 = some r → W p l e (rmm 1 23) s m av below meth c H locs 0 0 (MQ below (Ql r) av s 0 0 NoA) (F0 m 50 ls []) := by
            intro H locs ls v2 v5  hl hS h
            rw [mo_mirrored_J50] at h
            obtain ⟨v5_10, ev5_10, h⟩ := nm_s h
            refine lv_iinc hx hb dX12_mirrored_50 hl (k := 3) rfl ev5_10.symm (Nat.le_of_ble_eq_true rfl) (lv' := [(5, .int v5_10), (0, .long v0), (2, .long v2), (4, .int v4)]) rfl (fun ls hl => ?_)
            refine lv_goto hx hb dX12_mirrored_53 (tgt := 15) rfl ?_
            exact ih15 _ _ _ v2 v5_10 (lv_sub hl [1, 2, 3, 0] rfl) hS h
          rw [mo_mirrored_B15] at h
          refine lv_iload hx hb dX12_mirrored_15 (lv_at hl 3 rfl) ?_
          refine lv_bipush (v := 7) hx hb dX12_mirrored_17 kb_7 ?_
          refine lv_icmp_ge hx hb dX12_mirrored_19 (tgt := 56) rfl (fun hc => ?_) (fun hc => ?_)
          · replace h := ifp h hc
            obtain ⟨v4_11, ev4_11, h⟩ := nm_s h
            refine lv_iinc hx hb dX12_mirrored_56 hl (k := 2) rfl ev4_11.symm (Nat.le_of_ble_eq_true rfl) (lv' := [(4, .int v4_11), (0, .long v0), (2, .long v2), (5, .int v5)]) rfl (fun ls hl => ?_)
            refine lv_goto hx hb dX12_mirrored_59 (tgt := 5) rfl ?_
            exact ih5 _ _ _ v2 v4_11 (lv_sub hl [1, 2, 0] rfl) hS h
          · replace h := ifn h hc
            refine lv_lload_n hx hb dX12_mirrored_22 rfl (lv_at hl 0 rfl) ?_
            refine lv_bipush (v := 8) hx hb dX12_mirrored_23 kb_8 ?_
            refine lv_iload hx hb dX12_mirrored_25 (lv_at hl 2 rfl) ?_
            refine lv_imul hx hb dX12_mirrored_27 ?_
            refine lv_iload hx hb dX12_mirrored_28 (lv_at hl 3 rfl) ?_
            refine lv_iadd hx hb dX12_mirrored_30 ?_
            obtain ⟨r_12, hr_13, h⟩ := bd1_s h
            refine sc_i hx hb hml hown hw hN (c_mo_has l v0 ((8 * v4) + v5) r_12 hr_13) g_RX12_86 hd_X12_has (rest := []) hl.1 hS dX12_mirrored_31 rfl rfl ⟨Nat.le_of_ble_eq_true rfl, Nat.le_of_ble_eq_true rfl⟩ rfl rfl (Nat.le_of_ble_eq_true rfl) ⟨Nat.zero_le _, Nat.zero_le _⟩ (fun H locs hk hS => ?_)
            refine lv_if_eq hx hb dX12_mirrored_34 (tgt := 50) rfl (fun hc => ?_) (fun hc => ?_)
            · replace h := ifp h hc
              exact hJ50 _ _ _ v2 v5 (lv_sub hl [0, 1, 2, 3] rfl) hS h
            · replace h := ifn h hc
              refine lv_lload_n hx hb dX12_mirrored_37 rfl (lv_at hl 1 rfl) ?_
              refine lv_bipush (v := 6) hx hb dX12_mirrored_38 kb_6 ?_
              refine lv_iload hx hb dX12_mirrored_40 (lv_at hl 3 rfl) ?_
              refine lv_isub hx hb dX12_mirrored_42 ?_
              refine lv_iload hx hb dX12_mirrored_43 (lv_at hl 2 rfl) ?_
              obtain ⟨r_14, hr_15, h⟩ := bd1_s h
              refine sc_l hx hb hml hown hw hN (c_mo_cellBit l (6 - v5) v4 r_14 hr_15) g_RX12_117 hd_X12_cellBit (rest := [.long v2]) hl.1 hS dX12_mirrored_45 rfl rfl ⟨Nat.le_of_ble_eq_true rfl, Nat.le_of_ble_eq_true rfl⟩ rfl rfl (Nat.le_of_ble_eq_true rfl) ⟨Nat.zero_le _, Nat.zero_le _⟩ (fun H locs hk hS => ?_)
              refine lv_lor hx hb dX12_mirrored_48 ?_
              obtain ⟨v2_16, ev2_16, h⟩ := nm_s h
              refine nmL ev2_16 ?_
              refine lv_lstore_n hx hb dX12_mirrored_49 rfl hl (Nat.le_of_ble_eq_true rfl) (lv' := [(2, .long v2_16), (0, .long v0), (4, .int v4), (5, .int v5)]) rfl (fun ls hl => ?_)
              exact hJ50 _ _ _ v2_16 v5 (lv_sub hl [1, 0, 2, 3] rfl) hS h
      rw [mo_mirrored_B5] at h
      refine lv_iload hx hb dX12_mirrored_5 (lv_at hl 2 rfl) ?_
      refine lv_bipush (v := 7) hx hb dX12_mirrored_7 kb_7 ?_
      refine lv_icmp_ge hx hb dX12_mirrored_9 (tgt := 62) rfl (fun hc => ?_) (fun hc => ?_)
      · replace h := ifp h hc
        refine lv_lload_n hx hb dX12_mirrored_62 rfl (lv_at hl 1 rfl) ?_
        obtain ⟨r_17, hr_18, h⟩ := bd1_s h
        refine sc_l hx hb hml hown hw hN (c_mo_moved l v2 r_17 hr_18) g_RX12_114 hd_X12_moved (rest := []) hl.1 hS dX12_mirrored_63 rfl rfl ⟨Nat.le_of_ble_eq_true rfl, Nat.le_of_ble_eq_true rfl⟩ rfl rfl (Nat.le_of_ble_eq_true rfl) ⟨Nat.zero_le _, Nat.zero_le _⟩ (fun H locs hk hS => ?_)
        exact rt_l hx hb hr hlocks hS dX12_mirrored_66 h
      · replace h := ifn h hc
        refine lv_iconst (v := 0) hx hb dX12_mirrored_12 ki_0 ?_
        refine lv_istore hx hb dX12_mirrored_13 hl (Nat.le_of_ble_eq_true rfl) (lv' := [(5, .int 0), (0, .long v0), (2, .long v2), (4, .int v4)]) rfl (fun ls hl => ?_)
        exact hL15 v4 FU _ _ _ v2 0 (lv_sub hl [1, 2, 3, 0] rfl) hS h
  refine lv_lconst (v := 0) hx hb dX12_mirrored_0 kl_0 ?_
  refine lv_lstore_n hx hb dX12_mirrored_1 rfl hl (Nat.le_of_ble_eq_true rfl) (lv' := [(2, .long 0), (0, .long v0)]) rfl (fun ls hl => ?_)
  refine lv_iconst (v := 0) hx hb dX12_mirrored_2 ki_0 ?_
  refine lv_istore hx hb dX12_mirrored_3 hl (Nat.le_of_ble_eq_true rfl) (lv' := [(4, .int 0), (2, .long 0), (0, .long v0)]) rfl (fun ls hl => ?_)
  exact hL5 v0 FU _ _ _ 0 0 (lv_sub hl [2, 1, 0] rfl) hS h
noncomputable def mo_turned_B17 (v2 : Int32)  (k17 : Int64 → Int32 → Option (Int64)) (v3 : Int64) (v5 : Int32) : Option (Int64) :=
  dzI 4 <|
  if (remI v2 4) ≤ v5 then (some v3) else
  bd1 (mo_quarter v3) fun r_1 =>
  nm (v5 + Int32.ofInt 1) fun v5_3 =>
  k17 r_1 v5_3
noncomputable def mo_turned_J13  (v2 : Int32) (t0 : Int64) : Option (Int64) :=
  fl2 (mo_turned_B17 v2) FU t0 0
noncomputable def mo_turned (v0 : Int64) (v2 : Int32) : Option (Int64) :=
  if v2 ≤ 3 then (mo_turned_J13 v2 v0) else
  bd1 (mo_mirrored v0) fun r_4 =>
  mo_turned_J13 v2 r_4
set_option maxHeartbeats 4000000 in
set_option maxRecDepth 100000 in
theorem c_mo_turned (l : Launch) (v0 : Int64) (v2 : Int32) (r : Int64) (h : mo_turned v0 v2 = some r) : Met l yX12_turned (wm yX12_turned cX12_turned 6 (some .long)) (rmm 2 48) (va_Pc [.long v0, .int v2] NW) (Ql r) 0 0 NoA := by
  refine met_s (y := yX12_turned) (rm := rmm 2 48) (by decide) (Nat.le_of_ble_eq_true rfl) ?_
  intro p e s m below meth c hx hb hr hw hown hlocks _ hml hN ls hl
  replace hl : lv_has ls 6 [(0, .long v0), (2, .int v2)] := hl
  have hS : va_S NoA s.heap s.heap [] := va_S.rf
  generalize (([.long v0, .int v2] : List Value).toArray) = av at hw ⊢
  rw [mo_turned] at h
  have hL17 : ∀ (v2 : Int32), ∀ (n17 : Nat) (H : Heap) (locs : List Loc) (ls : Array Slot) (v3 : Int64) (v5 : Int32), lv_has ls 6 [(2, .int v2), (3, .long v3), (5, .int v5)] → va_S NoA s.heap H locs → fl2 (mo_turned_B17 v2) n17 v3 v5 = some r → W p l e (rmm 2 48) s m av below meth c H locs 0 0 (MQ below (Ql r) av s 0 0 NoA) (F0 m 17 ls []) := by
    intro v2 n17
    induction n17 with
    | zero => intro H locs ls v3 v5 hl hS h; cases h
    | succ n17 ih17 =>
      intro H locs ls v3 v5 hl hS h
      replace h : mo_turned_B17 v2 (fl2 (mo_turned_B17 v2) n17) v3 v5 = some r := h
      generalize fl2 (mo_turned_B17 v2) n17 = k17 at h ih17
      rw [mo_turned_B17] at h
      refine lv_iload hx hb dX12_turned_17 (lv_at hl 2 rfl) ?_
      refine lv_iload_n hx hb dX12_turned_19 rfl (lv_at hl 0 rfl) ?_
      refine lv_iconst (v := 4) hx hb dX12_turned_20 ki_4 ?_
      obtain ⟨hne, h⟩ := dzI_s h
      refine lv_irem hx hb dX12_turned_21 hne ?_
      refine nmI (v := remI v2 4) rfl ?_
      refine lv_icmp_ge hx hb dX12_turned_22 (tgt := 36) rfl (fun hc => ?_) (fun hc => ?_)
      · replace h := ifp h hc
        refine lv_lload_n hx hb dX12_turned_36 rfl (lv_at hl 1 rfl) ?_
        exact rt_l hx hb hr hlocks hS dX12_turned_37 h
      · replace h := ifn h hc
        refine lv_lload_n hx hb dX12_turned_25 rfl (lv_at hl 1 rfl) ?_
        obtain ⟨r_6, hr_7, h⟩ := bd1_s h
        refine sc_l hx hb hml hown hw hN (c_mo_quarter l v3 r_6 hr_7) g_RX12_124 hd_X12_quarter (rest := []) hl.1 hS dX12_turned_26 rfl rfl ⟨Nat.le_of_ble_eq_true rfl, Nat.le_of_ble_eq_true rfl⟩ rfl rfl (Nat.le_of_ble_eq_true rfl) ⟨Nat.zero_le _, Nat.zero_le _⟩ (fun H locs hk hS => ?_)
        refine lv_lstore_n hx hb dX12_turned_29 rfl hl (Nat.le_of_ble_eq_true rfl) (lv' := [(3, .long r_6), (2, .int v2), (5, .int v5)]) rfl (fun ls hl => ?_)
        obtain ⟨v5_8, ev5_8, h⟩ := nm_s h
        refine lv_iinc hx hb dX12_turned_30 hl (k := 2) rfl ev5_8.symm (Nat.le_of_ble_eq_true rfl) (lv' := [(5, .int v5_8), (3, .long r_6), (2, .int v2)]) rfl (fun ls hl => ?_)
        refine lv_goto hx hb dX12_turned_33 (tgt := 17) rfl ?_
        exact ih17 _ _ _ r_6 v5_8 (lv_sub hl [2, 1, 0] rfl) hS h
  have hJ13 : ∀ (H : Heap) (locs : List Loc) (ls : Array Slot) (v2 : Int32) (t0 : Int64), lv_has ls 6 [(2, .int v2)] → va_S NoA s.heap H locs → mo_turned_J13 v2 t0 = some r → W p l e (rmm 2 48) s m av below meth c H locs 0 0 (MQ below (Ql r) av s 0 0 NoA) (F0 m 13 ls [.long t0]) := by
    intro H locs ls v2 t0 hl hS h
    rw [mo_turned_J13] at h
    refine lv_lstore_n hx hb dX12_turned_13 rfl hl (Nat.le_of_ble_eq_true rfl) (lv' := [(3, .long t0), (2, .int v2)]) rfl (fun ls hl => ?_)
    refine lv_iconst (v := 0) hx hb dX12_turned_14 ki_0 ?_
    refine lv_istore hx hb dX12_turned_15 hl (Nat.le_of_ble_eq_true rfl) (lv' := [(5, .int 0), (3, .long t0), (2, .int v2)]) rfl (fun ls hl => ?_)
    exact hL17 v2 FU _ _ _ t0 0 (lv_sub hl [2, 1, 0] rfl) hS h
  refine lv_iload_n hx hb dX12_turned_0 rfl (lv_at hl 1 rfl) ?_
  refine lv_iconst (v := 3) hx hb dX12_turned_1 ki_3 ?_
  refine lv_icmp_le hx hb dX12_turned_2 (tgt := 12) rfl (fun hc => ?_) (fun hc => ?_)
  · replace h := ifp h hc
    refine lv_lload_n hx hb dX12_turned_12 rfl (lv_at hl 0 rfl) ?_
    exact hJ13 _ _ _ v2 v0 (lv_sub hl [1] rfl) hS h
  · replace h := ifn h hc
    refine lv_lload_n hx hb dX12_turned_5 rfl (lv_at hl 0 rfl) ?_
    obtain ⟨r_9, hr_10, h⟩ := bd1_s h
    refine sc_l hx hb hml hown hw hN (c_mo_mirrored l v0 r_9 hr_10) g_RX12_121 hd_X12_mirrored (rest := []) hl.1 hS dX12_turned_6 rfl rfl ⟨Nat.le_of_ble_eq_true rfl, Nat.le_of_ble_eq_true rfl⟩ rfl rfl (Nat.le_of_ble_eq_true rfl) ⟨Nat.zero_le _, Nat.zero_le _⟩ (fun H locs hk hS => ?_)
    refine lv_goto hx hb dX12_turned_9 (tgt := 13) rfl ?_
    exact hJ13 _ _ _ v2 r_9 (lv_sub hl [1] rfl) hS h
noncomputable def mo_ownOf_J56 (k14 : Int64 → Int64 → Int32 → Option (Int64)) (v2 : Int32) (v5 : Int64) (v7 : Int32) (t0 : Int64) : Option (Int64) :=
  bd1 (mo_quarter v5) fun r_1 =>
  nm (v7 + Int32.ofInt 1) fun v7_3 =>
  k14 t0 r_1 v7_3
noncomputable def mo_ownOf_J43 (k14 : Int64 → Int64 → Int32 → Option (Int64)) (v2 : Int32) (v3 : Int64) (v5 : Int64) (v7 : Int32)  : Option (Int64) :=
  if v3 ≤ v5 then (mo_ownOf_J56 k14 v2 v5 v7 v3) else
  mo_ownOf_J56 k14 v2 v5 v7 v5
noncomputable def mo_ownOf_J27 (k14 : Int64 → Int64 → Int32 → Option (Int64)) (v2 : Int32) (v3 : Int64) (v5 : Int64) (v7 : Int32) (t0 : Int32) (t1 : Int32) : Option (Int64) :=
  if t1 ≤ t0 then (some v3) else
  if v7 = 4 then (bd1 (mo_mirrored v5) fun r_4 =>
  mo_ownOf_J43 k14 v2 v3 r_4 v7) else
  mo_ownOf_J43 k14 v2 v3 v5 v7
noncomputable def mo_ownOf_B14 (v2 : Int32)  (k14 : Int64 → Int64 → Int32 → Option (Int64)) (v3 : Int64) (v5 : Int64) (v7 : Int32) : Option (Int64) :=
  if v2 = 1 then (mo_ownOf_J27 k14 v2 v3 v5 v7 v7 4) else
  mo_ownOf_J27 k14 v2 v3 v5 v7 v7 8
noncomputable def mo_ownOf (v0 : Int64) (v2 : Int32) : Option (Int64) :=
  if v2 = 0 then (some v0) else
  fl3 (mo_ownOf_B14 v2) FU v0 v0 0
set_option maxHeartbeats 4000000 in
set_option maxRecDepth 100000 in
theorem c_mo_ownOf (l : Launch) (v0 : Int64) (v2 : Int32) (r : Int64) (h : mo_ownOf v0 v2 = some r) : Met l yX12_ownOf (wm yX12_ownOf cX12_ownOf 8 (some .long)) (rmm 2 48) (va_Pc [.long v0, .int v2] NW) (Ql r) 0 0 NoA := by
  refine met_s (y := yX12_ownOf) (rm := rmm 2 48) (by decide) (Nat.le_of_ble_eq_true rfl) ?_
  intro p e s m below meth c hx hb hr hw hown hlocks _ hml hN ls hl
  replace hl : lv_has ls 8 [(0, .long v0), (2, .int v2)] := hl
  have hS : va_S NoA s.heap s.heap [] := va_S.rf
  generalize (([.long v0, .int v2] : List Value).toArray) = av at hw ⊢
  rw [mo_ownOf] at h
  have hL14 : ∀ (v2 : Int32), ∀ (n14 : Nat) (H : Heap) (locs : List Loc) (ls : Array Slot) (v3 : Int64) (v5 : Int64) (v7 : Int32), lv_has ls 8 [(2, .int v2), (3, .long v3), (5, .long v5), (7, .int v7)] → va_S NoA s.heap H locs → fl3 (mo_ownOf_B14 v2) n14 v3 v5 v7 = some r → W p l e (rmm 2 48) s m av below meth c H locs 0 0 (MQ below (Ql r) av s 0 0 NoA) (F0 m 14 ls []) := by
    intro v2 n14
    induction n14 with
    | zero => intro H locs ls v3 v5 v7 hl hS h; cases h
    | succ n14 ih14 =>
      intro H locs ls v3 v5 v7 hl hS h
      replace h : mo_ownOf_B14 v2 (fl3 (mo_ownOf_B14 v2) n14) v3 v5 v7 = some r := h
      generalize fl3 (mo_ownOf_B14 v2) n14 = k14 at h ih14
      have hJ56 : ∀ (H : Heap) (locs : List Loc) (ls : Array Slot) (v5 : Int64) (v7 : Int32) (t0 : Int64), lv_has ls 8 [(2, .int v2), (5, .long v5), (7, .int v7)] → va_S NoA s.heap H locs → mo_ownOf_J56 k14 v2 v5 v7 t0 = some r → W p l e (rmm 2 48) s m av below meth c H locs 0 0 (MQ below (Ql r) av s 0 0 NoA) (F0 m 56 ls [.long t0]) := by
        intro H locs ls v5 v7 t0 hl hS h
        rw [mo_ownOf_J56] at h
        refine lv_lstore_n hx hb dX12_ownOf_56 rfl hl (Nat.le_of_ble_eq_true rfl) (lv' := [(3, .long t0), (2, .int v2), (5, .long v5), (7, .int v7)]) rfl (fun ls hl => ?_)
        refine lv_lload hx hb dX12_ownOf_57 (lv_at hl 2 rfl) ?_
        obtain ⟨r_6, hr_7, h⟩ := bd1_s h
        refine sc_l hx hb hml hown hw hN (c_mo_quarter l v5 r_6 hr_7) g_RX12_124 hd_X12_quarter (rest := []) hl.1 hS dX12_ownOf_59 rfl rfl ⟨Nat.le_of_ble_eq_true rfl, Nat.le_of_ble_eq_true rfl⟩ rfl rfl (Nat.le_of_ble_eq_true rfl) ⟨Nat.zero_le _, Nat.zero_le _⟩ (fun H locs hk hS => ?_)
        refine lv_lstore hx hb dX12_ownOf_62 hl (Nat.le_of_ble_eq_true rfl) (lv' := [(5, .long r_6), (3, .long t0), (2, .int v2), (7, .int v7)]) rfl (fun ls hl => ?_)
        obtain ⟨v7_8, ev7_8, h⟩ := nm_s h
        refine lv_iinc hx hb dX12_ownOf_64 hl (k := 3) rfl ev7_8.symm (Nat.le_of_ble_eq_true rfl) (lv' := [(7, .int v7_8), (5, .long r_6), (3, .long t0), (2, .int v2)]) rfl (fun ls hl => ?_)
        refine lv_goto hx hb dX12_ownOf_67 (tgt := 14) rfl ?_
        exact ih14 _ _ _ t0 r_6 v7_8 (lv_sub hl [3, 2, 1, 0] rfl) hS h
      have hJ43 : ∀ (H : Heap) (locs : List Loc) (ls : Array Slot) (v3 : Int64) (v5 : Int64) (v7 : Int32) , lv_has ls 8 [(2, .int v2), (3, .long v3), (5, .long v5), (7, .int v7)] → va_S NoA s.heap H locs → mo_ownOf_J43 k14 v2 v3 v5 v7 = some r → W p l e (rmm 2 48) s m av below meth c H locs 0 0 (MQ below (Ql r) av s 0 0 NoA) (F0 m 43 ls []) := by
        intro H locs ls v3 v5 v7  hl hS h
        rw [mo_ownOf_J43] at h
        refine lv_lload hx hb dX12_ownOf_43 (lv_at hl 2 rfl) ?_
        refine lv_lload_n hx hb dX12_ownOf_45 rfl (lv_at hl 1 rfl) ?_
        refine W.lcmp hx hb dX12_ownOf_46 ?_
        refine lv_if_ge hx hb dX12_ownOf_47 (tgt := 55) rfl (fun hc => ?_) (fun hc => ?_)
        · replace h := ifp h ((lg_cmp_ge _ _).mp hc)
          refine lv_lload_n hx hb dX12_ownOf_55 rfl (lv_at hl 1 rfl) ?_
          exact hJ56 _ _ _ v5 v7 v3 (lv_sub hl [0, 2, 3] rfl) hS h
        · replace h := ifn h (fun q => hc ((lg_cmp_ge _ _).mpr q))
          refine lv_lload hx hb dX12_ownOf_50 (lv_at hl 2 rfl) ?_
          refine lv_goto hx hb dX12_ownOf_52 (tgt := 56) rfl ?_
          exact hJ56 _ _ _ v5 v7 v5 (lv_sub hl [0, 2, 3] rfl) hS h
      have hJ27 : ∀ (H : Heap) (locs : List Loc) (ls : Array Slot) (v3 : Int64) (v5 : Int64) (v7 : Int32) (t0 : Int32) (t1 : Int32), lv_has ls 8 [(2, .int v2), (3, .long v3), (5, .long v5), (7, .int v7)] → va_S NoA s.heap H locs → mo_ownOf_J27 k14 v2 v3 v5 v7 t0 t1 = some r → W p l e (rmm 2 48) s m av below meth c H locs 0 0 (MQ below (Ql r) av s 0 0 NoA) (F0 m 27 ls [.int t1, .int t0]) := by
        intro H locs ls v3 v5 v7 t0 t1 hl hS h
        rw [mo_ownOf_J27] at h
        refine lv_icmp_ge hx hb dX12_ownOf_27 (tgt := 70) rfl (fun hc => ?_) (fun hc => ?_)
        · replace h := ifp h hc
          refine lv_lload_n hx hb dX12_ownOf_70 rfl (lv_at hl 1 rfl) ?_
          exact rt_l hx hb hr hlocks hS dX12_ownOf_71 h
        · replace h := ifn h hc
          refine lv_iload hx hb dX12_ownOf_30 (lv_at hl 3 rfl) ?_
          refine lv_iconst (v := 4) hx hb dX12_ownOf_32 ki_4 ?_
          refine lv_icmp_ne hx hb dX12_ownOf_33 (tgt := 43) rfl (fun hc => ?_) (fun hc => ?_)
          · replace h := ifn h hc
            exact hJ43 _ _ _ v3 v5 v7 (lv_sub hl [0, 1, 2, 3] rfl) hS h
          · replace h := ifp h hc
            refine lv_lload hx hb dX12_ownOf_36 (lv_at hl 2 rfl) ?_
            obtain ⟨r_9, hr_10, h⟩ := bd1_s h
            refine sc_l hx hb hml hown hw hN (c_mo_mirrored l v5 r_9 hr_10) g_RX12_121 hd_X12_mirrored (rest := []) hl.1 hS dX12_ownOf_38 rfl rfl ⟨Nat.le_of_ble_eq_true rfl, Nat.le_of_ble_eq_true rfl⟩ rfl rfl (Nat.le_of_ble_eq_true rfl) ⟨Nat.zero_le _, Nat.zero_le _⟩ (fun H locs hk hS => ?_)
            refine lv_lstore hx hb dX12_ownOf_41 hl (Nat.le_of_ble_eq_true rfl) (lv' := [(5, .long r_9), (2, .int v2), (3, .long v3), (7, .int v7)]) rfl (fun ls hl => ?_)
            exact hJ43 _ _ _ v3 r_9 v7 (lv_sub hl [1, 2, 0, 3] rfl) hS h
      rw [mo_ownOf_B14] at h
      refine lv_iload hx hb dX12_ownOf_14 (lv_at hl 3 rfl) ?_
      refine lv_iload_n hx hb dX12_ownOf_16 rfl (lv_at hl 0 rfl) ?_
      refine lv_iconst (v := 1) hx hb dX12_ownOf_17 ki_1 ?_
      refine lv_icmp_ne hx hb dX12_ownOf_18 (tgt := 25) rfl (fun hc => ?_) (fun hc => ?_)
      · replace h := ifn h hc
        refine lv_bipush (v := 8) hx hb dX12_ownOf_25 kb_8 ?_
        exact hJ27 _ _ _ v3 v5 v7 v7 8 (lv_sub hl [0, 1, 2, 3] rfl) hS h
      · replace h := ifp h hc
        refine lv_iconst (v := 4) hx hb dX12_ownOf_21 ki_4 ?_
        refine lv_goto hx hb dX12_ownOf_22 (tgt := 27) rfl ?_
        exact hJ27 _ _ _ v3 v5 v7 v7 4 (lv_sub hl [0, 1, 2, 3] rfl) hS h
  refine lv_iload_n hx hb dX12_ownOf_0 rfl (lv_at hl 1 rfl) ?_
  refine lv_if_ne hx hb dX12_ownOf_1 (tgt := 6) rfl (fun hc => ?_) (fun hc => ?_)
  · replace h := ifn h hc
    refine lv_lload_n hx hb dX12_ownOf_6 rfl (lv_at hl 0 rfl) ?_
    refine lv_lstore_n hx hb dX12_ownOf_7 rfl hl (Nat.le_of_ble_eq_true rfl) (lv' := [(3, .long v0), (0, .long v0), (2, .int v2)]) rfl (fun ls hl => ?_)
    refine lv_lload_n hx hb dX12_ownOf_8 rfl (lv_at hl 1 rfl) ?_
    refine lv_lstore hx hb dX12_ownOf_9 hl (Nat.le_of_ble_eq_true rfl) (lv' := [(5, .long v0), (3, .long v0), (0, .long v0), (2, .int v2)]) rfl (fun ls hl => ?_)
    refine lv_iconst (v := 0) hx hb dX12_ownOf_11 ki_0 ?_
    refine lv_istore hx hb dX12_ownOf_12 hl (Nat.le_of_ble_eq_true rfl) (lv' := [(7, .int 0), (5, .long v0), (3, .long v0), (0, .long v0), (2, .int v2)]) rfl (fun ls hl => ?_)
    exact hL14 v2 FU _ _ _ v0 v0 0 (lv_sub hl [4, 2, 1, 0] rfl) hS h
  · replace h := ifp h hc
    refine lv_lload_n hx hb dX12_ownOf_4 rfl (lv_at hl 0 rfl) ?_
    exact rt_l hx hb hr hlocks hS dX12_ownOf_5 h
noncomputable def mo_isDrawer (v0 : Int32) : Option (Int32) :=
  bd1 (mo_in v0 0 7) fun r_1 =>
  zb r_1 (some r_1)
set_option maxHeartbeats 4000000 in
set_option maxRecDepth 100000 in
theorem c_mo_isDrawer (l : Launch) (v0 : Int32) (r : Int32) (h : mo_isDrawer v0 = some r) : Met l yX12_isDrawer (wm yX12_isDrawer cX12_isDrawer 1 (some .boolean)) (rmm 1 22) (va_Pc [.int v0] NW) (Qi r) 0 0 NoA := by
  refine met_s (y := yX12_isDrawer) (rm := rmm 1 22) (by decide) (Nat.le_of_ble_eq_true rfl) ?_
  intro p e s m below meth c hx hb hr hw hown hlocks _ hml hN ls hl
  replace hl : lv_has ls 1 [(0, .int v0)] := hl
  have hS : va_S NoA s.heap s.heap [] := va_S.rf
  generalize (([.int v0] : List Value).toArray) = av at hw ⊢
  rw [mo_isDrawer] at h
  refine lv_iload_n hx hb dX12_isDrawer_0 rfl (lv_at hl 0 rfl) ?_
  refine lv_iconst (v := 0) hx hb dX12_isDrawer_1 ki_0 ?_
  refine lv_bipush (v := 7) hx hb dX12_isDrawer_2 kb_7 ?_
  obtain ⟨r_3, hr_4, h⟩ := bd1_s h
  refine sc_i hx hb hml hown hw hN (c_mo_in l v0 0 7 r_3 hr_4) g_RX12_82 hd_X12_in (rest := []) hl.1 hS dX12_isDrawer_4 rfl rfl ⟨Nat.le_of_ble_eq_true rfl, Nat.le_of_ble_eq_true rfl⟩ rfl rfl (Nat.le_of_ble_eq_true rfl) ⟨Nat.zero_le _, Nat.zero_le _⟩ (fun H locs hk hS => ?_)
  exact rt_z hx hb hr hlocks hS dX12_isDrawer_7 h
noncomputable def mo_twos (v0 : Int64) : Option (Int32) :=
  bd1 (mo_bits ((v0 &&& (su v0 1)) &&& (9187201950435737471 : Int64))) fun r_1 =>
  bd1 (mo_bits (v0 &&& (su v0 8))) fun r_3 =>
  some (r_1 + r_3)
set_option maxHeartbeats 4000000 in
set_option maxRecDepth 100000 in
theorem c_mo_twos (l : Launch) (v0 : Int64) (r : Int32) (h : mo_twos v0 = some r) : Met l yX12_twos (wm yX12_twos cX12_twos 2 (some .int)) (rmm 1 24) (va_Pc [.long v0] NW) (Qi r) 0 0 NoA := by
  refine met_s (y := yX12_twos) (rm := rmm 1 24) (by decide) (Nat.le_of_ble_eq_true rfl) ?_
  intro p e s m below meth c hx hb hr hw hown hlocks _ hml hN ls hl
  replace hl : lv_has ls 2 [(0, .long v0)] := hl
  have hS : va_S NoA s.heap s.heap [] := va_S.rf
  generalize (([.long v0] : List Value).toArray) = av at hw ⊢
  rw [mo_twos] at h
  refine lv_lload_n hx hb dX12_twos_0 rfl (lv_at hl 0 rfl) ?_
  refine lv_lload_n hx hb dX12_twos_1 rfl (lv_at hl 0 rfl) ?_
  refine lv_iconst (v := 1) hx hb dX12_twos_2 ki_1 ?_
  refine lv_lushr hx hb (v := su v0 1) dX12_twos_3 rfl ?_
  refine lv_land hx hb dX12_twos_4 ?_
  refine lv_ldc2 hx hb hown (hw _ tw_12_18) dX12_twos_5 ?_
  refine lv_land hx hb dX12_twos_8 ?_
  obtain ⟨r_5, hr_6, h⟩ := bd1_s h
  refine sc_i hx hb hml hown hw hN (c_mo_bits l ((v0 &&& (su v0 1)) &&& (9187201950435737471 : Int64)) r_5 hr_6) g_RX12_106 hd_X12_bits (rest := []) hl.1 hS dX12_twos_9 rfl rfl ⟨Nat.le_of_ble_eq_true rfl, Nat.le_of_ble_eq_true rfl⟩ rfl rfl (Nat.le_of_ble_eq_true rfl) ⟨Nat.zero_le _, Nat.zero_le _⟩ (fun H locs hk hS => ?_)
  refine lv_lload_n hx hb dX12_twos_12 rfl (lv_at hl 0 rfl) ?_
  refine lv_lload_n hx hb dX12_twos_13 rfl (lv_at hl 0 rfl) ?_
  refine lv_bipush (v := 8) hx hb dX12_twos_14 kb_8 ?_
  refine lv_lushr hx hb (v := su v0 8) dX12_twos_16 rfl ?_
  refine lv_land hx hb dX12_twos_17 ?_
  obtain ⟨r_7, hr_8, h⟩ := bd1_s h
  refine sc_i hx hb hml hown hw hN (c_mo_bits l (v0 &&& (su v0 8)) r_7 hr_8) g_RX12_106 hd_X12_bits (rest := [.int r_5]) hl.1 hS dX12_twos_18 rfl rfl ⟨Nat.le_of_ble_eq_true rfl, Nat.le_of_ble_eq_true rfl⟩ rfl rfl (Nat.le_of_ble_eq_true rfl) ⟨Nat.zero_le _, Nat.zero_le _⟩ (fun H locs hk hS => ?_)
  refine lv_iadd hx hb dX12_twos_21 ?_
  exact rt_i hx hb hr hlocks hS dX12_twos_22 h
noncomputable def mo_cutCells_J43 (k4 : Int32 → Int64 → Option (Int32)) (v0 : Int64) (v3 : Int64) (t0 : Int32) (t1 : Int32) : Option (Int32) :=
  nm (t0 + t1 : Int32) fun v2_1 =>
  nm (v3 &&& (v3 - 1) : Int64) fun v3_2 =>
  k4 v2_1 v3_2
noncomputable def mo_cutCells_J42 (k4 : Int32 → Int64 → Option (Int32)) (v0 : Int64) (v3 : Int64) (t0 : Int32) : Option (Int32) :=
  mo_cutCells_J43 k4 v0 v3 t0 0
noncomputable def mo_cutCells_B4 (v0 : Int64)  (k4 : Int32 → Int64 → Option (Int32)) (v2 : Int32) (v3 : Int64) : Option (Int32) :=
  if v3 = 0 then (some v2) else
  nm (v0 &&& ((v3 &&& (-v3)) ^^^ (((-1) : Int64))) : Int64) fun v5_3 =>
  if v5_3 = 0 then (mo_cutCells_J42 k4 v0 v3 v2) else
  bd1 (mo_hangs v5_3) fun r_4 =>
  if r_4 = 0 then (mo_cutCells_J43 k4 v0 v3 v2 1) else
  mo_cutCells_J42 k4 v0 v3 v2
noncomputable def mo_cutCells (v0 : Int64) : Option (Int32) :=
  fl2 (mo_cutCells_B4 v0) FU 0 v0
set_option maxHeartbeats 4000000 in
set_option maxRecDepth 100000 in
theorem c_mo_cutCells (l : Launch) (v0 : Int64) (r : Int32) (h : mo_cutCells v0 = some r) : Met l yX12_cutCells (wm yX12_cutCells cX12_cutCells 7 (some .int)) (rmm 2 50) (va_Pc [.long v0] NW) (Qi r) 0 0 NoA := by
  refine met_s (y := yX12_cutCells) (rm := rmm 2 50) (by decide) (Nat.le_of_ble_eq_true rfl) ?_
  intro p e s m below meth c hx hb hr hw hown hlocks _ hml hN ls hl
  replace hl : lv_has ls 7 [(0, .long v0)] := hl
  have hS : va_S NoA s.heap s.heap [] := va_S.rf
  generalize (([.long v0] : List Value).toArray) = av at hw ⊢
  rw [mo_cutCells] at h
  have hL4 : ∀ (v0 : Int64), ∀ (n4 : Nat) (H : Heap) (locs : List Loc) (ls : Array Slot) (v2 : Int32) (v3 : Int64), lv_has ls 7 [(0, .long v0), (2, .int v2), (3, .long v3)] → va_S NoA s.heap H locs → fl2 (mo_cutCells_B4 v0) n4 v2 v3 = some r → W p l e (rmm 2 50) s m av below meth c H locs 0 0 (MQ below (Qi r) av s 0 0 NoA) (F0 m 4 ls []) := by
    intro v0 n4
    induction n4 with
    | zero => intro H locs ls v2 v3 hl hS h; cases h
    | succ n4 ih4 =>
      intro H locs ls v2 v3 hl hS h
      replace h : mo_cutCells_B4 v0 (fl2 (mo_cutCells_B4 v0) n4) v2 v3 = some r := h
      generalize fl2 (mo_cutCells_B4 v0) n4 = k4 at h ih4
      have hJ43 : ∀ (H : Heap) (locs : List Loc) (ls : Array Slot) (v3 : Int64) (t0 : Int32) (t1 : Int32), lv_has ls 7 [(0, .long v0), (3, .long v3)] → va_S NoA s.heap H locs → mo_cutCells_J43 k4 v0 v3 t0 t1 = some r → W p l e (rmm 2 50) s m av below meth c H locs 0 0 (MQ below (Qi r) av s 0 0 NoA) (F0 m 43 ls [.int t1, .int t0]) := by
        intro H locs ls v3 t0 t1 hl hS h
        rw [mo_cutCells_J43] at h
        refine lv_iadd hx hb dX12_cutCells_43 ?_
        obtain ⟨v2_6, ev2_6, h⟩ := nm_s h
        refine nmI ev2_6 ?_
        refine lv_istore_n hx hb dX12_cutCells_44 rfl hl (Nat.le_of_ble_eq_true rfl) (lv' := [(2, .int v2_6), (0, .long v0), (3, .long v3)]) rfl (fun ls hl => ?_)
        refine lv_lload_n hx hb dX12_cutCells_45 rfl (lv_at hl 2 rfl) ?_
        refine lv_lload_n hx hb dX12_cutCells_46 rfl (lv_at hl 2 rfl) ?_
        refine lv_lconst (v := 1) hx hb dX12_cutCells_47 kl_1 ?_
        refine lv_lsub hx hb dX12_cutCells_48 ?_
        refine lv_land hx hb dX12_cutCells_49 ?_
        obtain ⟨v3_7, ev3_7, h⟩ := nm_s h
        refine nmL ev3_7 ?_
        refine lv_lstore_n hx hb dX12_cutCells_50 rfl hl (Nat.le_of_ble_eq_true rfl) (lv' := [(3, .long v3_7), (2, .int v2_6), (0, .long v0)]) rfl (fun ls hl => ?_)
        refine lv_goto hx hb dX12_cutCells_51 (tgt := 4) rfl ?_
        exact ih4 _ _ _ v2_6 v3_7 (lv_sub hl [2, 1, 0] rfl) hS h
      have hJ42 : ∀ (H : Heap) (locs : List Loc) (ls : Array Slot) (v3 : Int64) (t0 : Int32), lv_has ls 7 [(0, .long v0), (3, .long v3)] → va_S NoA s.heap H locs → mo_cutCells_J42 k4 v0 v3 t0 = some r → W p l e (rmm 2 50) s m av below meth c H locs 0 0 (MQ below (Qi r) av s 0 0 NoA) (F0 m 42 ls [.int t0]) := by
        intro H locs ls v3 t0 hl hS h
        rw [mo_cutCells_J42] at h
        refine lv_iconst (v := 0) hx hb dX12_cutCells_42 ki_0 ?_
        exact hJ43 _ _ _ v3 t0 0 (lv_sub hl [0, 1] rfl) hS h
      rw [mo_cutCells_B4] at h
      refine lv_lload_n hx hb dX12_cutCells_4 rfl (lv_at hl 2 rfl) ?_
      refine lv_lconst (v := 0) hx hb dX12_cutCells_5 kl_0 ?_
      refine W.lcmp hx hb dX12_cutCells_6 ?_
      refine lv_if_eq hx hb dX12_cutCells_7 (tgt := 54) rfl (fun hc => ?_) (fun hc => ?_)
      · replace h := ifp h ((lg_cmp_eq _ _).mp hc)
        refine lv_iload_n hx hb dX12_cutCells_54 rfl (lv_at hl 1 rfl) ?_
        exact rt_i hx hb hr hlocks hS dX12_cutCells_55 h
      · replace h := ifn h (fun q => hc ((lg_cmp_eq _ _).mpr q))
        refine lv_lload_n hx hb dX12_cutCells_10 rfl (lv_at hl 0 rfl) ?_
        refine lv_lload_n hx hb dX12_cutCells_11 rfl (lv_at hl 2 rfl) ?_
        refine lv_lload_n hx hb dX12_cutCells_12 rfl (lv_at hl 2 rfl) ?_
        refine lv_lneg hx hb dX12_cutCells_13 ?_
        refine lv_land hx hb dX12_cutCells_14 ?_
        refine lv_ldc2 hx hb hown (hw _ tw_12_20) dX12_cutCells_15 ?_
        refine lv_lxor hx hb dX12_cutCells_18 ?_
        refine lv_land hx hb dX12_cutCells_19 ?_
        obtain ⟨v5_8, ev5_8, h⟩ := nm_s h
        refine nmL ev5_8 ?_
        refine lv_lstore hx hb dX12_cutCells_20 hl (Nat.le_of_ble_eq_true rfl) (lv' := [(5, .long v5_8), (0, .long v0), (2, .int v2), (3, .long v3)]) rfl (fun ls hl => ?_)
        refine lv_iload_n hx hb dX12_cutCells_22 rfl (lv_at hl 2 rfl) ?_
        refine lv_lload hx hb dX12_cutCells_23 (lv_at hl 0 rfl) ?_
        refine lv_lconst (v := 0) hx hb dX12_cutCells_25 kl_0 ?_
        refine W.lcmp hx hb dX12_cutCells_26 ?_
        refine lv_if_eq hx hb dX12_cutCells_27 (tgt := 42) rfl (fun hc => ?_) (fun hc => ?_)
        · replace h := ifp h ((lg_cmp_eq _ _).mp hc)
          exact hJ42 _ _ _ v3 v2 (lv_sub hl [1, 3] rfl) hS h
        · replace h := ifn h (fun q => hc ((lg_cmp_eq _ _).mpr q))
          refine lv_lload hx hb dX12_cutCells_30 (lv_at hl 0 rfl) ?_
          obtain ⟨r_9, hr_10, h⟩ := bd1_s h
          refine sc_i hx hb hml hown hw hN (c_mo_hangs l v5_8 r_9 hr_10) g_RX12_110 hd_X12_hangs (rest := [.int v2]) hl.1 hS dX12_cutCells_32 rfl rfl ⟨Nat.le_of_ble_eq_true rfl, Nat.le_of_ble_eq_true rfl⟩ rfl rfl (Nat.le_of_ble_eq_true rfl) ⟨Nat.zero_le _, Nat.zero_le _⟩ (fun H locs hk hS => ?_)
          refine lv_if_ne hx hb dX12_cutCells_35 (tgt := 42) rfl (fun hc => ?_) (fun hc => ?_)
          · replace h := ifn h hc
            exact hJ42 _ _ _ v3 v2 (lv_sub hl [1, 3] rfl) hS h
          · replace h := ifp h hc
            refine lv_iconst (v := 1) hx hb dX12_cutCells_38 ki_1 ?_
            refine lv_goto hx hb dX12_cutCells_39 (tgt := 43) rfl ?_
            exact hJ43 _ _ _ v3 v2 1 (lv_sub hl [1, 3] rfl) hS h
  refine lv_iconst (v := 0) hx hb dX12_cutCells_0 ki_0 ?_
  refine lv_istore_n hx hb dX12_cutCells_1 rfl hl (Nat.le_of_ble_eq_true rfl) (lv' := [(2, .int 0), (0, .long v0)]) rfl (fun ls hl => ?_)
  refine lv_lload_n hx hb dX12_cutCells_2 rfl (lv_at hl 1 rfl) ?_
  refine lv_lstore_n hx hb dX12_cutCells_3 rfl hl (Nat.le_of_ble_eq_true rfl) (lv' := [(3, .long v0), (2, .int 0), (0, .long v0)]) rfl (fun ls hl => ?_)
  exact hL4 v0 FU _ _ _ 0 v0 (lv_sub hl [2, 1, 0] rfl) hS h
noncomputable def mo_isBeside_J53    : Option (Int32) :=
  zb 1 (some 1)
noncomputable def mo_isBeside (v0 : Int64) (v2 : Int32) (v3 : Int32) : Option (Int32) :=
  bd1 (mo_isCell v0 v2 v3) fun r_1 =>
  if r_1 = 0 then (bd1 (mo_isCell v0 (v2 + 1) v3) fun r_3 =>
  if r_3 = 0 then (bd1 (mo_isCell v0 (v2 - 1) v3) fun r_5 =>
  if r_5 = 0 then (bd1 (mo_isCell v0 v2 (v3 + 1)) fun r_7 =>
  if r_7 = 0 then (bd1 (mo_isCell v0 v2 (v3 - 1)) fun r_9 =>
  if r_9 = 0 then (zb 0 (some 0)) else
  mo_isBeside_J53) else
  mo_isBeside_J53) else
  mo_isBeside_J53) else
  mo_isBeside_J53) else
  zb 0 (some 0)
set_option maxHeartbeats 4000000 in
set_option maxRecDepth 100000 in
theorem c_mo_isBeside (l : Launch) (v0 : Int64) (v2 : Int32) (v3 : Int32) (r : Int32) (h : mo_isBeside v0 v2 v3 = some r) : Met l yX12_isBeside (wm yX12_isBeside cX12_isBeside 4 (some .boolean)) (rmm 2 45) (va_Pc [.long v0, .int v2, .int v3] NW) (Qi r) 0 0 NoA := by
  refine met_s (y := yX12_isBeside) (rm := rmm 2 45) (by decide) (Nat.le_of_ble_eq_true rfl) ?_
  intro p e s m below meth c hx hb hr hw hown hlocks _ hml hN ls hl
  replace hl : lv_has ls 4 [(0, .long v0), (2, .int v2), (3, .int v3)] := hl
  have hS : va_S NoA s.heap s.heap [] := va_S.rf
  generalize (([.long v0, .int v2, .int v3] : List Value).toArray) = av at hw ⊢
  rw [mo_isBeside] at h
  have hJ53 : ∀ (H : Heap) (locs : List Loc) (ls : Array Slot)  , lv_has ls 4 [] → va_S NoA s.heap H locs → mo_isBeside_J53 = some r → W p l e (rmm 2 45) s m av below meth c H locs 0 0 (MQ below (Qi r) av s 0 0 NoA) (F0 m 53 ls []) := by
    intro H locs ls   hl hS h
    rw [mo_isBeside_J53] at h
    refine lv_iconst (v := 1) hx hb dX12_isBeside_53 ki_1 ?_
    refine lv_goto hx hb dX12_isBeside_54 (tgt := 58) rfl ?_
    exact rt_z hx hb hr hlocks hS dX12_isBeside_58 h
  refine lv_lload_n hx hb dX12_isBeside_0 rfl (lv_at hl 0 rfl) ?_
  refine lv_iload_n hx hb dX12_isBeside_1 rfl (lv_at hl 1 rfl) ?_
  refine lv_iload_n hx hb dX12_isBeside_2 rfl (lv_at hl 2 rfl) ?_
  obtain ⟨r_11, hr_12, h⟩ := bd1_s h
  refine sc_i hx hb hml hown hw hN (c_mo_isCell l v0 v2 v3 r_11 hr_12) g_RX12_142 hd_X12_isCell (rest := []) hl.1 hS dX12_isBeside_3 rfl rfl ⟨Nat.le_of_ble_eq_true rfl, Nat.le_of_ble_eq_true rfl⟩ rfl rfl (Nat.le_of_ble_eq_true rfl) ⟨Nat.zero_le _, Nat.zero_le _⟩ (fun H locs hk hS => ?_)
  refine lv_if_ne hx hb dX12_isBeside_6 (tgt := 57) rfl (fun hc => ?_) (fun hc => ?_)
  · replace h := ifn h hc
    refine lv_iconst (v := 0) hx hb dX12_isBeside_57 ki_0 ?_
    exact rt_z hx hb hr hlocks hS dX12_isBeside_58 h
  · replace h := ifp h hc
    refine lv_lload_n hx hb dX12_isBeside_9 rfl (lv_at hl 0 rfl) ?_
    refine lv_iload_n hx hb dX12_isBeside_10 rfl (lv_at hl 1 rfl) ?_
    refine lv_iconst (v := 1) hx hb dX12_isBeside_11 ki_1 ?_
    refine lv_iadd hx hb dX12_isBeside_12 ?_
    refine lv_iload_n hx hb dX12_isBeside_13 rfl (lv_at hl 2 rfl) ?_
    obtain ⟨r_13, hr_14, h⟩ := bd1_s h
    refine sc_i hx hb hml hown hw hN (c_mo_isCell l v0 (v2 + 1) v3 r_13 hr_14) g_RX12_142 hd_X12_isCell (rest := []) hl.1 hS dX12_isBeside_14 rfl rfl ⟨Nat.le_of_ble_eq_true rfl, Nat.le_of_ble_eq_true rfl⟩ rfl rfl (Nat.le_of_ble_eq_true rfl) ⟨Nat.zero_le _, Nat.zero_le _⟩ (fun H locs hk hS => ?_)
    refine lv_if_ne hx hb dX12_isBeside_17 (tgt := 53) rfl (fun hc => ?_) (fun hc => ?_)
    · replace h := ifn h hc
      exact hJ53 _ _ _  (lv_sub hl [] rfl) hS h
    · replace h := ifp h hc
      refine lv_lload_n hx hb dX12_isBeside_20 rfl (lv_at hl 0 rfl) ?_
      refine lv_iload_n hx hb dX12_isBeside_21 rfl (lv_at hl 1 rfl) ?_
      refine lv_iconst (v := 1) hx hb dX12_isBeside_22 ki_1 ?_
      refine lv_isub hx hb dX12_isBeside_23 ?_
      refine lv_iload_n hx hb dX12_isBeside_24 rfl (lv_at hl 2 rfl) ?_
      obtain ⟨r_15, hr_16, h⟩ := bd1_s h
      refine sc_i hx hb hml hown hw hN (c_mo_isCell l v0 (v2 - 1) v3 r_15 hr_16) g_RX12_142 hd_X12_isCell (rest := []) hl.1 hS dX12_isBeside_25 rfl rfl ⟨Nat.le_of_ble_eq_true rfl, Nat.le_of_ble_eq_true rfl⟩ rfl rfl (Nat.le_of_ble_eq_true rfl) ⟨Nat.zero_le _, Nat.zero_le _⟩ (fun H locs hk hS => ?_)
      refine lv_if_ne hx hb dX12_isBeside_28 (tgt := 53) rfl (fun hc => ?_) (fun hc => ?_)
      · replace h := ifn h hc
        exact hJ53 _ _ _  (lv_sub hl [] rfl) hS h
      · replace h := ifp h hc
        refine lv_lload_n hx hb dX12_isBeside_31 rfl (lv_at hl 0 rfl) ?_
        refine lv_iload_n hx hb dX12_isBeside_32 rfl (lv_at hl 1 rfl) ?_
        refine lv_iload_n hx hb dX12_isBeside_33 rfl (lv_at hl 2 rfl) ?_
        refine lv_iconst (v := 1) hx hb dX12_isBeside_34 ki_1 ?_
        refine lv_iadd hx hb dX12_isBeside_35 ?_
        obtain ⟨r_17, hr_18, h⟩ := bd1_s h
        refine sc_i hx hb hml hown hw hN (c_mo_isCell l v0 v2 (v3 + 1) r_17 hr_18) g_RX12_142 hd_X12_isCell (rest := []) hl.1 hS dX12_isBeside_36 rfl rfl ⟨Nat.le_of_ble_eq_true rfl, Nat.le_of_ble_eq_true rfl⟩ rfl rfl (Nat.le_of_ble_eq_true rfl) ⟨Nat.zero_le _, Nat.zero_le _⟩ (fun H locs hk hS => ?_)
        refine lv_if_ne hx hb dX12_isBeside_39 (tgt := 53) rfl (fun hc => ?_) (fun hc => ?_)
        · replace h := ifn h hc
          exact hJ53 _ _ _  (lv_sub hl [] rfl) hS h
        · replace h := ifp h hc
          refine lv_lload_n hx hb dX12_isBeside_42 rfl (lv_at hl 0 rfl) ?_
          refine lv_iload_n hx hb dX12_isBeside_43 rfl (lv_at hl 1 rfl) ?_
          refine lv_iload_n hx hb dX12_isBeside_44 rfl (lv_at hl 2 rfl) ?_
          refine lv_iconst (v := 1) hx hb dX12_isBeside_45 ki_1 ?_
          refine lv_isub hx hb dX12_isBeside_46 ?_
          obtain ⟨r_19, hr_20, h⟩ := bd1_s h
          refine sc_i hx hb hml hown hw hN (c_mo_isCell l v0 v2 (v3 - 1) r_19 hr_20) g_RX12_142 hd_X12_isCell (rest := []) hl.1 hS dX12_isBeside_47 rfl rfl ⟨Nat.le_of_ble_eq_true rfl, Nat.le_of_ble_eq_true rfl⟩ rfl rfl (Nat.le_of_ble_eq_true rfl) ⟨Nat.zero_le _, Nat.zero_le _⟩ (fun H locs hk hS => ?_)
          refine lv_if_eq hx hb dX12_isBeside_50 (tgt := 57) rfl (fun hc => ?_) (fun hc => ?_)
          · replace h := ifp h hc
            refine lv_iconst (v := 0) hx hb dX12_isBeside_57 ki_0 ?_
            exact rt_z hx hb hr hlocks hS dX12_isBeside_58 h
          · replace h := ifn h hc
            exact hJ53 _ _ _  (lv_sub hl [] rfl) hS h
noncomputable def mo_besideOf_J36 (k4 : Int32 → Int32 → Option (Int32)) (k13 : Int32 → Int32 → Option (Int32)) (v0 : Int64) (v3 : Int32) (v4 : Int32) (t0 : Int32) (t1 : Int32) : Option (Int32) :=
  nm (t0 + t1 : Int32) fun v2_1 =>
  nm (v4 + Int32.ofInt 1) fun v4_2 =>
  k13 v2_1 v4_2
noncomputable def mo_besideOf_B13 (v0 : Int64) (v3 : Int32) (k4 : Int32 → Int32 → Option (Int32)) (k13 : Int32 → Int32 → Option (Int32)) (v2 : Int32) (v4 : Int32) : Option (Int32) :=
  if 8 ≤ v4 then (nm (v3 + Int32.ofInt 1) fun v3_3 =>
  k4 v2 v3_3) else
  bd1 (mo_isBeside v0 v4 v3) fun r_4 =>
  if r_4 = 0 then (mo_besideOf_J36 k4 k13 v0 v3 v4 v2 0) else
  mo_besideOf_J36 k4 k13 v0 v3 v4 v2 1
noncomputable def mo_besideOf_B4 (v0 : Int64)  (k4 : Int32 → Int32 → Option (Int32)) (v2 : Int32) (v3 : Int32) : Option (Int32) :=
  if 8 ≤ v3 then (some v2) else
  fl2 (mo_besideOf_B13 v0 v3 k4) FU v2 (-1)
noncomputable def mo_besideOf (v0 : Int64) : Option (Int32) :=
  fl2 (mo_besideOf_B4 v0) FU 0 (-1)
set_option maxHeartbeats 4000000 in
set_option maxRecDepth 100000 in
theorem c_mo_besideOf (l : Launch) (v0 : Int64) (r : Int32) (h : mo_besideOf v0 = some r) : Met l yX12_besideOf (wm yX12_besideOf cX12_besideOf 5 (some .int)) (rmm 3 68) (va_Pc [.long v0] NW) (Qi r) 0 0 NoA := by
  refine met_s (y := yX12_besideOf) (rm := rmm 3 68) (by decide) (Nat.le_of_ble_eq_true rfl) ?_
  intro p e s m below meth c hx hb hr hw hown hlocks _ hml hN ls hl
  replace hl : lv_has ls 5 [(0, .long v0)] := hl
  have hS : va_S NoA s.heap s.heap [] := va_S.rf
  generalize (([.long v0] : List Value).toArray) = av at hw ⊢
  rw [mo_besideOf] at h
  have hL4 : ∀ (v0 : Int64), ∀ (n4 : Nat) (H : Heap) (locs : List Loc) (ls : Array Slot) (v2 : Int32) (v3 : Int32), lv_has ls 5 [(0, .long v0), (2, .int v2), (3, .int v3)] → va_S NoA s.heap H locs → fl2 (mo_besideOf_B4 v0) n4 v2 v3 = some r → W p l e (rmm 3 68) s m av below meth c H locs 0 0 (MQ below (Qi r) av s 0 0 NoA) (F0 m 4 ls []) := by
    intro v0 n4
    induction n4 with
    | zero => intro H locs ls v2 v3 hl hS h; cases h
    | succ n4 ih4 =>
      intro H locs ls v2 v3 hl hS h
      replace h : mo_besideOf_B4 v0 (fl2 (mo_besideOf_B4 v0) n4) v2 v3 = some r := h
      generalize fl2 (mo_besideOf_B4 v0) n4 = k4 at h ih4
      have hL13 : ∀ (v3 : Int32), ∀ (n13 : Nat) (H : Heap) (locs : List Loc) (ls : Array Slot) (v2 : Int32) (v4 : Int32), lv_has ls 5 [(0, .long v0), (2, .int v2), (3, .int v3), (4, .int v4)] → va_S NoA s.heap H locs → fl2 (mo_besideOf_B13 v0 v3 k4) n13 v2 v4 = some r → W p l e (rmm 3 68) s m av below meth c H locs 0 0 (MQ below (Qi r) av s 0 0 NoA) (F0 m 13 ls []) := by
        intro v3 n13
        induction n13 with
        | zero => intro H locs ls v2 v4 hl hS h; cases h
        | succ n13 ih13 =>
          intro H locs ls v2 v4 hl hS h
          replace h : mo_besideOf_B13 v0 v3 k4 (fl2 (mo_besideOf_B13 v0 v3 k4) n13) v2 v4 = some r := h
          generalize fl2 (mo_besideOf_B13 v0 v3 k4) n13 = k13 at h ih13
          have hJ36 : ∀ (H : Heap) (locs : List Loc) (ls : Array Slot) (v4 : Int32) (t0 : Int32) (t1 : Int32), lv_has ls 5 [(0, .long v0), (3, .int v3), (4, .int v4)] → va_S NoA s.heap H locs → mo_besideOf_J36 k4 k13 v0 v3 v4 t0 t1 = some r → W p l e (rmm 3 68) s m av below meth c H locs 0 0 (MQ below (Qi r) av s 0 0 NoA) (F0 m 36 ls [.int t1, .int t0]) := by
            intro H locs ls v4 t0 t1 hl hS h
            rw [mo_besideOf_J36] at h
            refine lv_iadd hx hb dX12_besideOf_36 ?_
            obtain ⟨v2_6, ev2_6, h⟩ := nm_s h
            refine nmI ev2_6 ?_
            refine lv_istore_n hx hb dX12_besideOf_37 rfl hl (Nat.le_of_ble_eq_true rfl) (lv' := [(2, .int v2_6), (0, .long v0), (3, .int v3), (4, .int v4)]) rfl (fun ls hl => ?_)
            obtain ⟨v4_7, ev4_7, h⟩ := nm_s h
            refine lv_iinc hx hb dX12_besideOf_38 hl (k := 3) rfl ev4_7.symm (Nat.le_of_ble_eq_true rfl) (lv' := [(4, .int v4_7), (2, .int v2_6), (0, .long v0), (3, .int v3)]) rfl (fun ls hl => ?_)
            refine lv_goto hx hb dX12_besideOf_41 (tgt := 13) rfl ?_
            exact ih13 _ _ _ v2_6 v4_7 (lv_sub hl [2, 1, 3, 0] rfl) hS h
          rw [mo_besideOf_B13] at h
          refine lv_iload hx hb dX12_besideOf_13 (lv_at hl 3 rfl) ?_
          refine lv_bipush (v := 8) hx hb dX12_besideOf_15 kb_8 ?_
          refine lv_icmp_ge hx hb dX12_besideOf_17 (tgt := 44) rfl (fun hc => ?_) (fun hc => ?_)
          · replace h := ifp h hc
            obtain ⟨v3_8, ev3_8, h⟩ := nm_s h
            refine lv_iinc hx hb dX12_besideOf_44 hl (k := 2) rfl ev3_8.symm (Nat.le_of_ble_eq_true rfl) (lv' := [(3, .int v3_8), (0, .long v0), (2, .int v2), (4, .int v4)]) rfl (fun ls hl => ?_)
            refine lv_goto hx hb dX12_besideOf_47 (tgt := 4) rfl ?_
            exact ih4 _ _ _ v2 v3_8 (lv_sub hl [1, 2, 0] rfl) hS h
          · replace h := ifn h hc
            refine lv_iload_n hx hb dX12_besideOf_20 rfl (lv_at hl 1 rfl) ?_
            refine lv_lload_n hx hb dX12_besideOf_21 rfl (lv_at hl 0 rfl) ?_
            refine lv_iload hx hb dX12_besideOf_22 (lv_at hl 3 rfl) ?_
            refine lv_iload_n hx hb dX12_besideOf_24 rfl (lv_at hl 2 rfl) ?_
            obtain ⟨r_9, hr_10, h⟩ := bd1_s h
            refine sc_i hx hb hml hown hw hN (c_mo_isBeside l v0 v4 v3 r_9 hr_10) g_RX12_156 hd_X12_isBeside (rest := [.int v2]) hl.1 hS dX12_besideOf_25 rfl rfl ⟨Nat.le_of_ble_eq_true rfl, Nat.le_of_ble_eq_true rfl⟩ rfl rfl (Nat.le_of_ble_eq_true rfl) ⟨Nat.zero_le _, Nat.zero_le _⟩ (fun H locs hk hS => ?_)
            refine lv_if_eq hx hb dX12_besideOf_28 (tgt := 35) rfl (fun hc => ?_) (fun hc => ?_)
            · replace h := ifp h hc
              refine lv_iconst (v := 0) hx hb dX12_besideOf_35 ki_0 ?_
              exact hJ36 _ _ _ v4 v2 0 (lv_sub hl [0, 2, 3] rfl) hS h
            · replace h := ifn h hc
              refine lv_iconst (v := 1) hx hb dX12_besideOf_31 ki_1 ?_
              refine lv_goto hx hb dX12_besideOf_32 (tgt := 36) rfl ?_
              exact hJ36 _ _ _ v4 v2 1 (lv_sub hl [0, 2, 3] rfl) hS h
      rw [mo_besideOf_B4] at h
      refine lv_iload_n hx hb dX12_besideOf_4 rfl (lv_at hl 2 rfl) ?_
      refine lv_bipush (v := 8) hx hb dX12_besideOf_5 kb_8 ?_
      refine lv_icmp_ge hx hb dX12_besideOf_7 (tgt := 50) rfl (fun hc => ?_) (fun hc => ?_)
      · replace h := ifp h hc
        refine lv_iload_n hx hb dX12_besideOf_50 rfl (lv_at hl 1 rfl) ?_
        exact rt_i hx hb hr hlocks hS dX12_besideOf_51 h
      · replace h := ifn h hc
        refine lv_iconst (v := (-1)) hx hb dX12_besideOf_10 ki_m1 ?_
        refine lv_istore hx hb dX12_besideOf_11 hl (Nat.le_of_ble_eq_true rfl) (lv' := [(4, .int (-1)), (0, .long v0), (2, .int v2), (3, .int v3)]) rfl (fun ls hl => ?_)
        exact hL13 v3 FU _ _ _ v2 (-1) (lv_sub hl [1, 2, 3, 0] rfl) hS h
  refine lv_iconst (v := 0) hx hb dX12_besideOf_0 ki_0 ?_
  refine lv_istore_n hx hb dX12_besideOf_1 rfl hl (Nat.le_of_ble_eq_true rfl) (lv' := [(2, .int 0), (0, .long v0)]) rfl (fun ls hl => ?_)
  refine lv_iconst (v := (-1)) hx hb dX12_besideOf_2 ki_m1 ?_
  refine lv_istore_n hx hb dX12_besideOf_3 rfl hl (Nat.le_of_ble_eq_true rfl) (lv' := [(3, .int (-1)), (2, .int 0), (0, .long v0)]) rfl (fun ls hl => ?_)
  exact hL4 v0 FU _ _ _ 0 (-1) (lv_sub hl [2, 1, 0] rfl) hS h
noncomputable def mo_pointsOf_J211 (k5 : Int32 → Int32 → Option (Int32)) (k15 : Int32 → Int32 → Option (Int32)) (v0 : Int64) (v2 : Int32) (v4 : Int32) (v5 : Int32) (t0 : Int32) (t1 : Int32) : Option (Int32) :=
  nm (t0 + t1 : Int32) fun v3_1 =>
  nm (v5 + Int32.ofInt 1) fun v5_2 =>
  k15 v3_1 v5_2
noncomputable def mo_pointsOf_J133 (k5 : Int32 → Int32 → Option (Int32)) (k15 : Int32 → Int32 → Option (Int32)) (v0 : Int64) (v2 : Int32) (v3 : Int32) (v4 : Int32) (v5 : Int32) (v10 : Int32) (t0 : Int32) : Option (Int32) :=
  if v2 = 0 then (if v10 = 1 then (mo_pointsOf_J211 k5 k15 v0 v2 v4 v5 v3 1) else
  if t0 = 0 then (mo_pointsOf_J211 k5 k15 v0 v2 v4 v5 v3 0) else
  mo_pointsOf_J211 k5 k15 v0 v2 v4 v5 v3 2) else
  if v2 = 1 then (if v10 = 3 then (mo_pointsOf_J211 k5 k15 v0 v2 v4 v5 v3 1) else
  mo_pointsOf_J211 k5 k15 v0 v2 v4 v5 v3 0) else
  if v2 = 2 then (if t0 = 0 then (mo_pointsOf_J211 k5 k15 v0 v2 v4 v5 v3 0) else
  mo_pointsOf_J211 k5 k15 v0 v2 v4 v5 v3 1) else
  if v10 = 4 then (mo_pointsOf_J211 k5 k15 v0 v2 v4 v5 v3 1) else
  mo_pointsOf_J211 k5 k15 v0 v2 v4 v5 v3 0
noncomputable def mo_pointsOf_J132 (k5 : Int32 → Int32 → Option (Int32)) (k15 : Int32 → Int32 → Option (Int32)) (v0 : Int64) (v2 : Int32) (v3 : Int32) (v4 : Int32) (v5 : Int32) (v10 : Int32)  : Option (Int32) :=
  mo_pointsOf_J133 k5 k15 v0 v2 v3 v4 v5 v10 0
noncomputable def mo_pointsOf_J112 (k5 : Int32 → Int32 → Option (Int32)) (k15 : Int32 → Int32 → Option (Int32)) (v0 : Int64) (v2 : Int32) (v3 : Int32) (v4 : Int32) (v5 : Int32) (v6 : Int32) (v9 : Int32) (t0 : Int32) (t1 : Int32) : Option (Int32) :=
  nm (t0 + t1 : Int32) fun v10_3 =>
  if v10_3 = 2 then (if v6 = v9 then (mo_pointsOf_J133 k5 k15 v0 v2 v3 v4 v5 v10_3 1) else
  mo_pointsOf_J132 k5 k15 v0 v2 v3 v4 v5 v10_3) else
  mo_pointsOf_J132 k5 k15 v0 v2 v3 v4 v5 v10_3
noncomputable def mo_pointsOf_J101 (k5 : Int32 → Int32 → Option (Int32)) (k15 : Int32 → Int32 → Option (Int32)) (v0 : Int64) (v2 : Int32) (v3 : Int32) (v4 : Int32) (v5 : Int32) (v6 : Int32) (v9 : Int32) (t0 : Int32) (t1 : Int32) : Option (Int32) :=
  if v9 = 0 then (mo_pointsOf_J112 k5 k15 v0 v2 v3 v4 v5 v6 v9 (t0 + t1) 0) else
  mo_pointsOf_J112 k5 k15 v0 v2 v3 v4 v5 v6 v9 (t0 + t1) 1
noncomputable def mo_pointsOf_J90 (k5 : Int32 → Int32 → Option (Int32)) (k15 : Int32 → Int32 → Option (Int32)) (v0 : Int64) (v2 : Int32) (v3 : Int32) (v4 : Int32) (v5 : Int32) (v6 : Int32) (v8 : Int32) (v9 : Int32) (t0 : Int32) (t1 : Int32) : Option (Int32) :=
  if v8 = 0 then (mo_pointsOf_J101 k5 k15 v0 v2 v3 v4 v5 v6 v9 (t0 + t1) 0) else
  mo_pointsOf_J101 k5 k15 v0 v2 v3 v4 v5 v6 v9 (t0 + t1) 1
noncomputable def mo_pointsOf_J80 (k5 : Int32 → Int32 → Option (Int32)) (k15 : Int32 → Int32 → Option (Int32)) (v0 : Int64) (v2 : Int32) (v3 : Int32) (v4 : Int32) (v5 : Int32) (v6 : Int32) (v7 : Int32) (v8 : Int32) (v9 : Int32) (t0 : Int32) : Option (Int32) :=
  if v7 = 0 then (mo_pointsOf_J90 k5 k15 v0 v2 v3 v4 v5 v6 v8 v9 t0 0) else
  mo_pointsOf_J90 k5 k15 v0 v2 v3 v4 v5 v6 v8 v9 t0 1
noncomputable def mo_pointsOf_B15 (v0 : Int64) (v2 : Int32) (v4 : Int32) (k5 : Int32 → Int32 → Option (Int32)) (k15 : Int32 → Int32 → Option (Int32)) (v3 : Int32) (v5 : Int32) : Option (Int32) :=
  if 8 ≤ v5 then (nm (v4 + Int32.ofInt 1) fun v4_4 =>
  k5 v3 v4_4) else
  bd1 (mo_isCell v0 (v5 - 1) (v4 - 1)) fun r_5 =>
  bd1 (mo_isCell v0 v5 (v4 - 1)) fun r_7 =>
  bd1 (mo_isCell v0 (v5 - 1) v4) fun r_9 =>
  bd1 (mo_isCell v0 v5 v4) fun r_11 =>
  if r_5 = 0 then (mo_pointsOf_J80 k5 k15 v0 v2 v3 v4 v5 r_5 r_7 r_9 r_11 0) else
  mo_pointsOf_J80 k5 k15 v0 v2 v3 v4 v5 r_5 r_7 r_9 r_11 1
noncomputable def mo_pointsOf_B5 (v0 : Int64) (v2 : Int32)  (k5 : Int32 → Int32 → Option (Int32)) (v3 : Int32) (v4 : Int32) : Option (Int32) :=
  if 8 ≤ v4 then (some v3) else
  fl2 (mo_pointsOf_B15 v0 v2 v4 k5) FU v3 0
noncomputable def mo_pointsOf (v0 : Int64) (v2 : Int32) : Option (Int32) :=
  fl2 (mo_pointsOf_B5 v0 v2) FU 0 0
set_option maxHeartbeats 4000000 in
set_option maxRecDepth 100000 in
theorem c_mo_pointsOf (l : Launch) (v0 : Int64) (v2 : Int32) (r : Int32) (h : mo_pointsOf v0 v2 = some r) : Met l yX12_pointsOf (wm yX12_pointsOf cX12_pointsOf 12 (some .int)) (rmm 2 45) (va_Pc [.long v0, .int v2] NW) (Qi r) 0 0 NoA := by
  refine met_s (y := yX12_pointsOf) (rm := rmm 2 45) (by decide) (Nat.le_of_ble_eq_true rfl) ?_
  intro p e s m below meth c hx hb hr hw hown hlocks _ hml hN ls hl
  replace hl : lv_has ls 12 [(0, .long v0), (2, .int v2)] := hl
  have hS : va_S NoA s.heap s.heap [] := va_S.rf
  generalize (([.long v0, .int v2] : List Value).toArray) = av at hw ⊢
  rw [mo_pointsOf] at h
  have hL5 : ∀ (v0 : Int64), ∀ (v2 : Int32), ∀ (n5 : Nat) (H : Heap) (locs : List Loc) (ls : Array Slot) (v3 : Int32) (v4 : Int32), lv_has ls 12 [(0, .long v0), (2, .int v2), (3, .int v3), (4, .int v4)] → va_S NoA s.heap H locs → fl2 (mo_pointsOf_B5 v0 v2) n5 v3 v4 = some r → W p l e (rmm 2 45) s m av below meth c H locs 0 0 (MQ below (Qi r) av s 0 0 NoA) (F0 m 5 ls []) := by
    intro v0 v2 n5
    induction n5 with
    | zero => intro H locs ls v3 v4 hl hS h; cases h
    | succ n5 ih5 =>
      intro H locs ls v3 v4 hl hS h
      replace h : mo_pointsOf_B5 v0 v2 (fl2 (mo_pointsOf_B5 v0 v2) n5) v3 v4 = some r := h
      generalize fl2 (mo_pointsOf_B5 v0 v2) n5 = k5 at h ih5
      have hL15 : ∀ (v4 : Int32), ∀ (n15 : Nat) (H : Heap) (locs : List Loc) (ls : Array Slot) (v3 : Int32) (v5 : Int32), lv_has ls 12 [(0, .long v0), (2, .int v2), (3, .int v3), (4, .int v4), (5, .int v5)] → va_S NoA s.heap H locs → fl2 (mo_pointsOf_B15 v0 v2 v4 k5) n15 v3 v5 = some r → W p l e (rmm 2 45) s m av below meth c H locs 0 0 (MQ below (Qi r) av s 0 0 NoA) (F0 m 15 ls []) := by
        intro v4 n15
        induction n15 with
        | zero => intro H locs ls v3 v5 hl hS h; cases h
        | succ n15 ih15 =>
          intro H locs ls v3 v5 hl hS h
          replace h : mo_pointsOf_B15 v0 v2 v4 k5 (fl2 (mo_pointsOf_B15 v0 v2 v4 k5) n15) v3 v5 = some r := h
          generalize fl2 (mo_pointsOf_B15 v0 v2 v4 k5) n15 = k15 at h ih15
          have hJ211 : ∀ (H : Heap) (locs : List Loc) (ls : Array Slot) (v5 : Int32) (t0 : Int32) (t1 : Int32), lv_has ls 12 [(0, .long v0), (2, .int v2), (4, .int v4), (5, .int v5)] → va_S NoA s.heap H locs → mo_pointsOf_J211 k5 k15 v0 v2 v4 v5 t0 t1 = some r → W p l e (rmm 2 45) s m av below meth c H locs 0 0 (MQ below (Qi r) av s 0 0 NoA) (F0 m 211 ls [.int t1, .int t0]) := by
            intro H locs ls v5 t0 t1 hl hS h
            rw [mo_pointsOf_J211] at h
            refine lv_iadd hx hb dX12_pointsOf_211 ?_
            obtain ⟨v3_13, ev3_13, h⟩ := nm_s h
            refine nmI ev3_13 ?_
            refine lv_istore_n hx hb dX12_pointsOf_212 rfl hl (Nat.le_of_ble_eq_true rfl) (lv' := [(3, .int v3_13), (0, .long v0), (2, .int v2), (4, .int v4), (5, .int v5)]) rfl (fun ls hl => ?_)
            obtain ⟨v5_14, ev5_14, h⟩ := nm_s h
            refine lv_iinc hx hb dX12_pointsOf_213 hl (k := 4) rfl ev5_14.symm (Nat.le_of_ble_eq_true rfl) (lv' := [(5, .int v5_14), (3, .int v3_13), (0, .long v0), (2, .int v2), (4, .int v4)]) rfl (fun ls hl => ?_)
            refine lv_goto hx hb dX12_pointsOf_216 (tgt := 15) rfl ?_
            exact ih15 _ _ _ v3_13 v5_14 (lv_sub hl [2, 3, 1, 4, 0] rfl) hS h
          have hJ133 : ∀ (H : Heap) (locs : List Loc) (ls : Array Slot) (v3 : Int32) (v5 : Int32) (v10 : Int32) (t0 : Int32), lv_has ls 12 [(0, .long v0), (2, .int v2), (3, .int v3), (4, .int v4), (5, .int v5), (10, .int v10)] → va_S NoA s.heap H locs → mo_pointsOf_J133 k5 k15 v0 v2 v3 v4 v5 v10 t0 = some r → W p l e (rmm 2 45) s m av below meth c H locs 0 0 (MQ below (Qi r) av s 0 0 NoA) (F0 m 133 ls [.int t0]) := by
            intro H locs ls v3 v5 v10 t0 hl hS h
            rw [mo_pointsOf_J133] at h
            refine lv_istore hx hb dX12_pointsOf_133 hl (Nat.le_of_ble_eq_true rfl) (lv' := [(11, .int t0), (0, .long v0), (2, .int v2), (3, .int v3), (4, .int v4), (5, .int v5), (10, .int v10)]) rfl (fun ls hl => ?_)
            refine lv_iload_n hx hb dX12_pointsOf_135 rfl (lv_at hl 3 rfl) ?_
            refine lv_iload_n hx hb dX12_pointsOf_136 rfl (lv_at hl 2 rfl) ?_
            refine lv_if_ne hx hb dX12_pointsOf_137 (tgt := 163) rfl (fun hc => ?_) (fun hc => ?_)
            · replace h := ifn h hc
              refine lv_iload_n hx hb dX12_pointsOf_163 rfl (lv_at hl 2 rfl) ?_
              refine lv_iconst (v := 1) hx hb dX12_pointsOf_164 ki_1 ?_
              refine lv_icmp_ne hx hb dX12_pointsOf_165 (tgt := 182) rfl (fun hc => ?_) (fun hc => ?_)
              · replace h := ifn h hc
                refine lv_iload_n hx hb dX12_pointsOf_182 rfl (lv_at hl 2 rfl) ?_
                refine lv_iconst (v := 2) hx hb dX12_pointsOf_183 ki_2 ?_
                refine lv_icmp_ne hx hb dX12_pointsOf_184 (tgt := 200) rfl (fun hc => ?_) (fun hc => ?_)
                · replace h := ifn h hc
                  refine lv_iload hx hb dX12_pointsOf_200 (lv_at hl 6 rfl) ?_
                  refine lv_iconst (v := 4) hx hb dX12_pointsOf_202 ki_4 ?_
                  refine lv_icmp_ne hx hb dX12_pointsOf_203 (tgt := 210) rfl (fun hc => ?_) (fun hc => ?_)
                  · replace h := ifn h hc
                    refine lv_iconst (v := 0) hx hb dX12_pointsOf_210 ki_0 ?_
                    exact hJ211 _ _ _ v5 v3 0 (lv_sub hl [1, 2, 4, 5] rfl) hS h
                  · replace h := ifp h hc
                    refine lv_iconst (v := 1) hx hb dX12_pointsOf_206 ki_1 ?_
                    refine lv_goto hx hb dX12_pointsOf_207 (tgt := 211) rfl ?_
                    exact hJ211 _ _ _ v5 v3 1 (lv_sub hl [1, 2, 4, 5] rfl) hS h
                · replace h := ifp h hc
                  refine lv_iload hx hb dX12_pointsOf_187 (lv_at hl 0 rfl) ?_
                  refine lv_if_eq hx hb dX12_pointsOf_189 (tgt := 196) rfl (fun hc => ?_) (fun hc => ?_)
                  · replace h := ifp h hc
                    refine lv_iconst (v := 0) hx hb dX12_pointsOf_196 ki_0 ?_
                    refine lv_goto hx hb dX12_pointsOf_197 (tgt := 211) rfl ?_
                    exact hJ211 _ _ _ v5 v3 0 (lv_sub hl [1, 2, 4, 5] rfl) hS h
                  · replace h := ifn h hc
                    refine lv_iconst (v := 1) hx hb dX12_pointsOf_192 ki_1 ?_
                    refine lv_goto hx hb dX12_pointsOf_193 (tgt := 211) rfl ?_
                    exact hJ211 _ _ _ v5 v3 1 (lv_sub hl [1, 2, 4, 5] rfl) hS h
              · replace h := ifp h hc
                refine lv_iload hx hb dX12_pointsOf_168 (lv_at hl 6 rfl) ?_
                refine lv_iconst (v := 3) hx hb dX12_pointsOf_170 ki_3 ?_
                refine lv_icmp_ne hx hb dX12_pointsOf_171 (tgt := 178) rfl (fun hc => ?_) (fun hc => ?_)
                · replace h := ifn h hc
                  refine lv_iconst (v := 0) hx hb dX12_pointsOf_178 ki_0 ?_
                  refine lv_goto hx hb dX12_pointsOf_179 (tgt := 211) rfl ?_
                  exact hJ211 _ _ _ v5 v3 0 (lv_sub hl [1, 2, 4, 5] rfl) hS h
                · replace h := ifp h hc
                  refine lv_iconst (v := 1) hx hb dX12_pointsOf_174 ki_1 ?_
                  refine lv_goto hx hb dX12_pointsOf_175 (tgt := 211) rfl ?_
                  exact hJ211 _ _ _ v5 v3 1 (lv_sub hl [1, 2, 4, 5] rfl) hS h
            · replace h := ifp h hc
              refine lv_iload hx hb dX12_pointsOf_140 (lv_at hl 6 rfl) ?_
              refine lv_iconst (v := 1) hx hb dX12_pointsOf_142 ki_1 ?_
              refine lv_icmp_ne hx hb dX12_pointsOf_143 (tgt := 150) rfl (fun hc => ?_) (fun hc => ?_)
              · replace h := ifn h hc
                refine lv_iload hx hb dX12_pointsOf_150 (lv_at hl 0 rfl) ?_
                refine lv_if_eq hx hb dX12_pointsOf_152 (tgt := 159) rfl (fun hc => ?_) (fun hc => ?_)
                · replace h := ifp h hc
                  refine lv_iconst (v := 0) hx hb dX12_pointsOf_159 ki_0 ?_
                  refine lv_goto hx hb dX12_pointsOf_160 (tgt := 211) rfl ?_
                  exact hJ211 _ _ _ v5 v3 0 (lv_sub hl [1, 2, 4, 5] rfl) hS h
                · replace h := ifn h hc
                  refine lv_iconst (v := 2) hx hb dX12_pointsOf_155 ki_2 ?_
                  refine lv_goto hx hb dX12_pointsOf_156 (tgt := 211) rfl ?_
                  exact hJ211 _ _ _ v5 v3 2 (lv_sub hl [1, 2, 4, 5] rfl) hS h
              · replace h := ifp h hc
                refine lv_iconst (v := 1) hx hb dX12_pointsOf_146 ki_1 ?_
                refine lv_goto hx hb dX12_pointsOf_147 (tgt := 211) rfl ?_
                exact hJ211 _ _ _ v5 v3 1 (lv_sub hl [1, 2, 4, 5] rfl) hS h
          have hJ132 : ∀ (H : Heap) (locs : List Loc) (ls : Array Slot) (v3 : Int32) (v5 : Int32) (v10 : Int32) , lv_has ls 12 [(0, .long v0), (2, .int v2), (3, .int v3), (4, .int v4), (5, .int v5), (10, .int v10)] → va_S NoA s.heap H locs → mo_pointsOf_J132 k5 k15 v0 v2 v3 v4 v5 v10 = some r → W p l e (rmm 2 45) s m av below meth c H locs 0 0 (MQ below (Qi r) av s 0 0 NoA) (F0 m 132 ls []) := by
            intro H locs ls v3 v5 v10  hl hS h
            rw [mo_pointsOf_J132] at h
            refine lv_iconst (v := 0) hx hb dX12_pointsOf_132 ki_0 ?_
            exact hJ133 _ _ _ v3 v5 v10 0 (lv_sub hl [0, 1, 2, 3, 4, 5] rfl) hS h
          have hJ112 : ∀ (H : Heap) (locs : List Loc) (ls : Array Slot) (v3 : Int32) (v5 : Int32) (v6 : Int32) (v9 : Int32) (t0 : Int32) (t1 : Int32), lv_has ls 12 [(0, .long v0), (2, .int v2), (3, .int v3), (4, .int v4), (5, .int v5), (6, .int v6), (9, .int v9)] → va_S NoA s.heap H locs → mo_pointsOf_J112 k5 k15 v0 v2 v3 v4 v5 v6 v9 t0 t1 = some r → W p l e (rmm 2 45) s m av below meth c H locs 0 0 (MQ below (Qi r) av s 0 0 NoA) (F0 m 112 ls [.int t1, .int t0]) := by
            intro H locs ls v3 v5 v6 v9 t0 t1 hl hS h
            rw [mo_pointsOf_J112] at h
            refine lv_iadd hx hb dX12_pointsOf_112 ?_
            obtain ⟨v10_15, ev10_15, h⟩ := nm_s h
            refine nmI ev10_15 ?_
            refine lv_istore hx hb dX12_pointsOf_113 hl (Nat.le_of_ble_eq_true rfl) (lv' := [(10, .int v10_15), (0, .long v0), (2, .int v2), (3, .int v3), (4, .int v4), (5, .int v5), (6, .int v6), (9, .int v9)]) rfl (fun ls hl => ?_)
            refine lv_iload hx hb dX12_pointsOf_115 (lv_at hl 0 rfl) ?_
            refine lv_iconst (v := 2) hx hb dX12_pointsOf_117 ki_2 ?_
            refine lv_icmp_ne hx hb dX12_pointsOf_118 (tgt := 132) rfl (fun hc => ?_) (fun hc => ?_)
            · replace h := ifn h hc
              exact hJ132 _ _ _ v3 v5 v10_15 (lv_sub hl [1, 2, 3, 4, 5, 0] rfl) hS h
            · replace h := ifp h hc
              refine lv_iload hx hb dX12_pointsOf_121 (lv_at hl 6 rfl) ?_
              refine lv_iload hx hb dX12_pointsOf_123 (lv_at hl 7 rfl) ?_
              refine lv_icmp_ne hx hb dX12_pointsOf_125 (tgt := 132) rfl (fun hc => ?_) (fun hc => ?_)
              · replace h := ifn h hc
                exact hJ132 _ _ _ v3 v5 v10_15 (lv_sub hl [1, 2, 3, 4, 5, 0] rfl) hS h
              · replace h := ifp h hc
                refine lv_iconst (v := 1) hx hb dX12_pointsOf_128 ki_1 ?_
                refine lv_goto hx hb dX12_pointsOf_129 (tgt := 133) rfl ?_
                exact hJ133 _ _ _ v3 v5 v10_15 1 (lv_sub hl [1, 2, 3, 4, 5, 0] rfl) hS h
          have hJ101 : ∀ (H : Heap) (locs : List Loc) (ls : Array Slot) (v3 : Int32) (v5 : Int32) (v6 : Int32) (v9 : Int32) (t0 : Int32) (t1 : Int32), lv_has ls 12 [(0, .long v0), (2, .int v2), (3, .int v3), (4, .int v4), (5, .int v5), (6, .int v6), (9, .int v9)] → va_S NoA s.heap H locs → mo_pointsOf_J101 k5 k15 v0 v2 v3 v4 v5 v6 v9 t0 t1 = some r → W p l e (rmm 2 45) s m av below meth c H locs 0 0 (MQ below (Qi r) av s 0 0 NoA) (F0 m 101 ls [.int t1, .int t0]) := by
            intro H locs ls v3 v5 v6 v9 t0 t1 hl hS h
            rw [mo_pointsOf_J101] at h
            refine lv_iadd hx hb dX12_pointsOf_101 ?_
            refine lv_iload hx hb dX12_pointsOf_102 (lv_at hl 6 rfl) ?_
            refine lv_if_eq hx hb dX12_pointsOf_104 (tgt := 111) rfl (fun hc => ?_) (fun hc => ?_)
            · replace h := ifp h hc
              refine lv_iconst (v := 0) hx hb dX12_pointsOf_111 ki_0 ?_
              exact hJ112 _ _ _ v3 v5 v6 v9 (t0 + t1) 0 (lv_sub hl [0, 1, 2, 3, 4, 5, 6] rfl) hS h
            · replace h := ifn h hc
              refine lv_iconst (v := 1) hx hb dX12_pointsOf_107 ki_1 ?_
              refine lv_goto hx hb dX12_pointsOf_108 (tgt := 112) rfl ?_
              exact hJ112 _ _ _ v3 v5 v6 v9 (t0 + t1) 1 (lv_sub hl [0, 1, 2, 3, 4, 5, 6] rfl) hS h
          have hJ90 : ∀ (H : Heap) (locs : List Loc) (ls : Array Slot) (v3 : Int32) (v5 : Int32) (v6 : Int32) (v8 : Int32) (v9 : Int32) (t0 : Int32) (t1 : Int32), lv_has ls 12 [(0, .long v0), (2, .int v2), (3, .int v3), (4, .int v4), (5, .int v5), (6, .int v6), (8, .int v8), (9, .int v9)] → va_S NoA s.heap H locs → mo_pointsOf_J90 k5 k15 v0 v2 v3 v4 v5 v6 v8 v9 t0 t1 = some r → W p l e (rmm 2 45) s m av below meth c H locs 0 0 (MQ below (Qi r) av s 0 0 NoA) (F0 m 90 ls [.int t1, .int t0]) := by
            intro H locs ls v3 v5 v6 v8 v9 t0 t1 hl hS h
            rw [mo_pointsOf_J90] at h
            refine lv_iadd hx hb dX12_pointsOf_90 ?_
            refine lv_iload hx hb dX12_pointsOf_91 (lv_at hl 6 rfl) ?_
            refine lv_if_eq hx hb dX12_pointsOf_93 (tgt := 100) rfl (fun hc => ?_) (fun hc => ?_)
            · replace h := ifp h hc
              refine lv_iconst (v := 0) hx hb dX12_pointsOf_100 ki_0 ?_
              exact hJ101 _ _ _ v3 v5 v6 v9 (t0 + t1) 0 (lv_sub hl [0, 1, 2, 3, 4, 5, 7] rfl) hS h
            · replace h := ifn h hc
              refine lv_iconst (v := 1) hx hb dX12_pointsOf_96 ki_1 ?_
              refine lv_goto hx hb dX12_pointsOf_97 (tgt := 101) rfl ?_
              exact hJ101 _ _ _ v3 v5 v6 v9 (t0 + t1) 1 (lv_sub hl [0, 1, 2, 3, 4, 5, 7] rfl) hS h
          have hJ80 : ∀ (H : Heap) (locs : List Loc) (ls : Array Slot) (v3 : Int32) (v5 : Int32) (v6 : Int32) (v7 : Int32) (v8 : Int32) (v9 : Int32) (t0 : Int32), lv_has ls 12 [(0, .long v0), (2, .int v2), (3, .int v3), (4, .int v4), (5, .int v5), (6, .int v6), (7, .int v7), (8, .int v8), (9, .int v9)] → va_S NoA s.heap H locs → mo_pointsOf_J80 k5 k15 v0 v2 v3 v4 v5 v6 v7 v8 v9 t0 = some r → W p l e (rmm 2 45) s m av below meth c H locs 0 0 (MQ below (Qi r) av s 0 0 NoA) (F0 m 80 ls [.int t0]) := by
            intro H locs ls v3 v5 v6 v7 v8 v9 t0 hl hS h
            rw [mo_pointsOf_J80] at h
            refine lv_iload hx hb dX12_pointsOf_80 (lv_at hl 6 rfl) ?_
            refine lv_if_eq hx hb dX12_pointsOf_82 (tgt := 89) rfl (fun hc => ?_) (fun hc => ?_)
            · replace h := ifp h hc
              refine lv_iconst (v := 0) hx hb dX12_pointsOf_89 ki_0 ?_
              exact hJ90 _ _ _ v3 v5 v6 v8 v9 t0 0 (lv_sub hl [0, 1, 2, 3, 4, 5, 7, 8] rfl) hS h
            · replace h := ifn h hc
              refine lv_iconst (v := 1) hx hb dX12_pointsOf_85 ki_1 ?_
              refine lv_goto hx hb dX12_pointsOf_86 (tgt := 90) rfl ?_
              exact hJ90 _ _ _ v3 v5 v6 v8 v9 t0 1 (lv_sub hl [0, 1, 2, 3, 4, 5, 7, 8] rfl) hS h
          rw [mo_pointsOf_B15] at h
          refine lv_iload hx hb dX12_pointsOf_15 (lv_at hl 4 rfl) ?_
          refine lv_bipush (v := 8) hx hb dX12_pointsOf_17 kb_8 ?_
          refine lv_icmp_ge hx hb dX12_pointsOf_19 (tgt := 219) rfl (fun hc => ?_) (fun hc => ?_)
          · replace h := ifp h hc
            obtain ⟨v4_16, ev4_16, h⟩ := nm_s h
            refine lv_iinc hx hb dX12_pointsOf_219 hl (k := 3) rfl ev4_16.symm (Nat.le_of_ble_eq_true rfl) (lv' := [(4, .int v4_16), (0, .long v0), (2, .int v2), (3, .int v3), (5, .int v5)]) rfl (fun ls hl => ?_)
            refine lv_goto hx hb dX12_pointsOf_222 (tgt := 5) rfl ?_
            exact ih5 _ _ _ v3 v4_16 (lv_sub hl [1, 2, 3, 0] rfl) hS h
          · replace h := ifn h hc
            refine lv_lload_n hx hb dX12_pointsOf_22 rfl (lv_at hl 0 rfl) ?_
            refine lv_iload hx hb dX12_pointsOf_23 (lv_at hl 4 rfl) ?_
            refine lv_iconst (v := 1) hx hb dX12_pointsOf_25 ki_1 ?_
            refine lv_isub hx hb dX12_pointsOf_26 ?_
            refine lv_iload hx hb dX12_pointsOf_27 (lv_at hl 3 rfl) ?_
            refine lv_iconst (v := 1) hx hb dX12_pointsOf_29 ki_1 ?_
            refine lv_isub hx hb dX12_pointsOf_30 ?_
            obtain ⟨r_17, hr_18, h⟩ := bd1_s h
            refine sc_i hx hb hml hown hw hN (c_mo_isCell l v0 (v5 - 1) (v4 - 1) r_17 hr_18) g_RX12_142 hd_X12_isCell (rest := []) hl.1 hS dX12_pointsOf_31 rfl rfl ⟨Nat.le_of_ble_eq_true rfl, Nat.le_of_ble_eq_true rfl⟩ rfl rfl (Nat.le_of_ble_eq_true rfl) ⟨Nat.zero_le _, Nat.zero_le _⟩ (fun H locs hk hS => ?_)
            refine lv_istore hx hb dX12_pointsOf_34 hl (Nat.le_of_ble_eq_true rfl) (lv' := [(6, .int r_17), (0, .long v0), (2, .int v2), (3, .int v3), (4, .int v4), (5, .int v5)]) rfl (fun ls hl => ?_)
            refine lv_lload_n hx hb dX12_pointsOf_36 rfl (lv_at hl 1 rfl) ?_
            refine lv_iload hx hb dX12_pointsOf_37 (lv_at hl 5 rfl) ?_
            refine lv_iload hx hb dX12_pointsOf_39 (lv_at hl 4 rfl) ?_
            refine lv_iconst (v := 1) hx hb dX12_pointsOf_41 ki_1 ?_
            refine lv_isub hx hb dX12_pointsOf_42 ?_
            obtain ⟨r_19, hr_20, h⟩ := bd1_s h
            refine sc_i hx hb hml hown hw hN (c_mo_isCell l v0 v5 (v4 - 1) r_19 hr_20) g_RX12_142 hd_X12_isCell (rest := []) hl.1 hS dX12_pointsOf_43 rfl rfl ⟨Nat.le_of_ble_eq_true rfl, Nat.le_of_ble_eq_true rfl⟩ rfl rfl (Nat.le_of_ble_eq_true rfl) ⟨Nat.zero_le _, Nat.zero_le _⟩ (fun H locs hk hS => ?_)
            refine lv_istore hx hb dX12_pointsOf_46 hl (Nat.le_of_ble_eq_true rfl) (lv' := [(7, .int r_19), (6, .int r_17), (0, .long v0), (2, .int v2), (3, .int v3), (4, .int v4), (5, .int v5)]) rfl (fun ls hl => ?_)
            refine lv_lload_n hx hb dX12_pointsOf_48 rfl (lv_at hl 2 rfl) ?_
            refine lv_iload hx hb dX12_pointsOf_49 (lv_at hl 6 rfl) ?_
            refine lv_iconst (v := 1) hx hb dX12_pointsOf_51 ki_1 ?_
            refine lv_isub hx hb dX12_pointsOf_52 ?_
            refine lv_iload hx hb dX12_pointsOf_53 (lv_at hl 5 rfl) ?_
            obtain ⟨r_21, hr_22, h⟩ := bd1_s h
            refine sc_i hx hb hml hown hw hN (c_mo_isCell l v0 (v5 - 1) v4 r_21 hr_22) g_RX12_142 hd_X12_isCell (rest := []) hl.1 hS dX12_pointsOf_55 rfl rfl ⟨Nat.le_of_ble_eq_true rfl, Nat.le_of_ble_eq_true rfl⟩ rfl rfl (Nat.le_of_ble_eq_true rfl) ⟨Nat.zero_le _, Nat.zero_le _⟩ (fun H locs hk hS => ?_)
            refine lv_istore hx hb dX12_pointsOf_58 hl (Nat.le_of_ble_eq_true rfl) (lv' := [(8, .int r_21), (7, .int r_19), (6, .int r_17), (0, .long v0), (2, .int v2), (3, .int v3), (4, .int v4), (5, .int v5)]) rfl (fun ls hl => ?_)
            refine lv_lload_n hx hb dX12_pointsOf_60 rfl (lv_at hl 3 rfl) ?_
            refine lv_iload hx hb dX12_pointsOf_61 (lv_at hl 7 rfl) ?_
            refine lv_iload hx hb dX12_pointsOf_63 (lv_at hl 6 rfl) ?_
            obtain ⟨r_23, hr_24, h⟩ := bd1_s h
            refine sc_i hx hb hml hown hw hN (c_mo_isCell l v0 v5 v4 r_23 hr_24) g_RX12_142 hd_X12_isCell (rest := []) hl.1 hS dX12_pointsOf_65 rfl rfl ⟨Nat.le_of_ble_eq_true rfl, Nat.le_of_ble_eq_true rfl⟩ rfl rfl (Nat.le_of_ble_eq_true rfl) ⟨Nat.zero_le _, Nat.zero_le _⟩ (fun H locs hk hS => ?_)
            refine lv_istore hx hb dX12_pointsOf_68 hl (Nat.le_of_ble_eq_true rfl) (lv' := [(9, .int r_23), (8, .int r_21), (7, .int r_19), (6, .int r_17), (0, .long v0), (2, .int v2), (3, .int v3), (4, .int v4), (5, .int v5)]) rfl (fun ls hl => ?_)
            refine lv_iload hx hb dX12_pointsOf_70 (lv_at hl 3 rfl) ?_
            refine lv_if_eq hx hb dX12_pointsOf_72 (tgt := 79) rfl (fun hc => ?_) (fun hc => ?_)
            · replace h := ifp h hc
              refine lv_iconst (v := 0) hx hb dX12_pointsOf_79 ki_0 ?_
              exact hJ80 _ _ _ v3 v5 r_17 r_19 r_21 r_23 0 (lv_sub hl [4, 5, 6, 7, 8, 3, 2, 1, 0] rfl) hS h
            · replace h := ifn h hc
              refine lv_iconst (v := 1) hx hb dX12_pointsOf_75 ki_1 ?_
              refine lv_goto hx hb dX12_pointsOf_76 (tgt := 80) rfl ?_
              exact hJ80 _ _ _ v3 v5 r_17 r_19 r_21 r_23 1 (lv_sub hl [4, 5, 6, 7, 8, 3, 2, 1, 0] rfl) hS h
      rw [mo_pointsOf_B5] at h
      refine lv_iload hx hb dX12_pointsOf_5 (lv_at hl 3 rfl) ?_
      refine lv_bipush (v := 8) hx hb dX12_pointsOf_7 kb_8 ?_
      refine lv_icmp_ge hx hb dX12_pointsOf_9 (tgt := 225) rfl (fun hc => ?_) (fun hc => ?_)
      · replace h := ifp h hc
        refine lv_iload_n hx hb dX12_pointsOf_225 rfl (lv_at hl 2 rfl) ?_
        exact rt_i hx hb hr hlocks hS dX12_pointsOf_226 h
      · replace h := ifn h hc
        refine lv_iconst (v := 0) hx hb dX12_pointsOf_12 ki_0 ?_
        refine lv_istore hx hb dX12_pointsOf_13 hl (Nat.le_of_ble_eq_true rfl) (lv' := [(5, .int 0), (0, .long v0), (2, .int v2), (3, .int v3), (4, .int v4)]) rfl (fun ls hl => ?_)
        exact hL15 v4 FU _ _ _ v3 0 (lv_sub hl [1, 2, 3, 4, 0] rfl) hS h
  refine lv_iconst (v := 0) hx hb dX12_pointsOf_0 ki_0 ?_
  refine lv_istore_n hx hb dX12_pointsOf_1 rfl hl (Nat.le_of_ble_eq_true rfl) (lv' := [(3, .int 0), (0, .long v0), (2, .int v2)]) rfl (fun ls hl => ?_)
  refine lv_iconst (v := 0) hx hb dX12_pointsOf_2 ki_0 ?_
  refine lv_istore hx hb dX12_pointsOf_3 hl (Nat.le_of_ble_eq_true rfl) (lv' := [(4, .int 0), (3, .int 0), (0, .long v0), (2, .int v2)]) rfl (fun ls hl => ?_)
  exact hL5 v0 v2 FU _ _ _ 0 0 (lv_sub hl [2, 3, 1, 0] rfl) hS h
noncomputable def mo_rowWhole_J44 (k2 : Int32 → Option (Int32)) (v0 : Int64) (v2 : Int32)  : Option (Int32) :=
  nm (v2 + Int32.ofInt 1) fun v2_1 =>
  k2 v2_1
noncomputable def mo_rowWhole_B2 (v0 : Int64)  (k2 : Int32 → Option (Int32)) (v2 : Int32) : Option (Int32) :=
  if 7 ≤ v2 then (some 1) else
  nm ((ss v0 (8 * v2)) &&& (255 : Int64) : Int64) fun v3_2 =>
  nm (v3_2 &&& (-v3_2) : Int64) fun v5_3 =>
  if v3_2 = 0 then (mo_rowWhole_J44 k2 v0 v2) else
  if ((v3_2 + v5_3) &&& v3_2) = 0 then (mo_rowWhole_J44 k2 v0 v2) else
  some 0
noncomputable def mo_rowWhole (v0 : Int64) : Option (Int32) :=
  fl1 (mo_rowWhole_B2 v0) FU 0
set_option maxHeartbeats 4000000 in
set_option maxRecDepth 100000 in
theorem c_mo_rowWhole (l : Launch) (v0 : Int64) (r : Int32) (h : mo_rowWhole v0 = some r) : Met l yX12_rowWhole (wm yX12_rowWhole cX12_rowWhole 7 (some .int)) (rmm 0 0) (va_Pc [.long v0] NW) (Qi r) 0 0 NoA := by
  refine met_s (y := yX12_rowWhole) (rm := rmm 0 0) (by decide) (Nat.le_of_ble_eq_true rfl) ?_
  intro p e s m below meth c hx hb hr hw hown hlocks _ hml hN ls hl
  replace hl : lv_has ls 7 [(0, .long v0)] := hl
  have hS : va_S NoA s.heap s.heap [] := va_S.rf
  generalize (([.long v0] : List Value).toArray) = av at hw ⊢
  rw [mo_rowWhole] at h
  have hL2 : ∀ (v0 : Int64), ∀ (n2 : Nat) (H : Heap) (locs : List Loc) (ls : Array Slot) (v2 : Int32), lv_has ls 7 [(0, .long v0), (2, .int v2)] → va_S NoA s.heap H locs → fl1 (mo_rowWhole_B2 v0) n2 v2 = some r → W p l e (rmm 0 0) s m av below meth c H locs 0 0 (MQ below (Qi r) av s 0 0 NoA) (F0 m 2 ls []) := by
    intro v0 n2
    induction n2 with
    | zero => intro H locs ls v2 hl hS h; cases h
    | succ n2 ih2 =>
      intro H locs ls v2 hl hS h
      replace h : mo_rowWhole_B2 v0 (fl1 (mo_rowWhole_B2 v0) n2) v2 = some r := h
      generalize fl1 (mo_rowWhole_B2 v0) n2 = k2 at h ih2
      have hJ44 : ∀ (H : Heap) (locs : List Loc) (ls : Array Slot) (v2 : Int32) , lv_has ls 7 [(0, .long v0), (2, .int v2)] → va_S NoA s.heap H locs → mo_rowWhole_J44 k2 v0 v2 = some r → W p l e (rmm 0 0) s m av below meth c H locs 0 0 (MQ below (Qi r) av s 0 0 NoA) (F0 m 44 ls []) := by
        intro H locs ls v2  hl hS h
        rw [mo_rowWhole_J44] at h
        obtain ⟨v2_4, ev2_4, h⟩ := nm_s h
        refine lv_iinc hx hb dX12_rowWhole_44 hl (k := 1) rfl ev2_4.symm (Nat.le_of_ble_eq_true rfl) (lv' := [(2, .int v2_4), (0, .long v0)]) rfl (fun ls hl => ?_)
        refine lv_goto hx hb dX12_rowWhole_47 (tgt := 2) rfl ?_
        exact ih2 _ _ _ v2_4 (lv_sub hl [1, 0] rfl) hS h
      rw [mo_rowWhole_B2] at h
      refine lv_iload_n hx hb dX12_rowWhole_2 rfl (lv_at hl 1 rfl) ?_
      refine lv_bipush (v := 7) hx hb dX12_rowWhole_3 kb_7 ?_
      refine lv_icmp_ge hx hb dX12_rowWhole_5 (tgt := 50) rfl (fun hc => ?_) (fun hc => ?_)
      · replace h := ifp h hc
        refine lv_iconst (v := 1) hx hb dX12_rowWhole_50 ki_1 ?_
        exact rt_i hx hb hr hlocks hS dX12_rowWhole_51 h
      · replace h := ifn h hc
        refine lv_lload_n hx hb dX12_rowWhole_8 rfl (lv_at hl 0 rfl) ?_
        refine lv_bipush (v := 8) hx hb dX12_rowWhole_9 kb_8 ?_
        refine lv_iload_n hx hb dX12_rowWhole_11 rfl (lv_at hl 1 rfl) ?_
        refine lv_imul hx hb dX12_rowWhole_12 ?_
        refine lv_lshr hx hb (v := ss v0 (8 * v2)) dX12_rowWhole_13 rfl ?_
        refine lv_ldc2 hx hb hown (hw _ tw_7_21) dX12_rowWhole_14 ?_
        refine lv_land hx hb dX12_rowWhole_17 ?_
        obtain ⟨v3_5, ev3_5, h⟩ := nm_s h
        refine nmL ev3_5 ?_
        refine lv_lstore_n hx hb dX12_rowWhole_18 rfl hl (Nat.le_of_ble_eq_true rfl) (lv' := [(3, .long v3_5), (0, .long v0), (2, .int v2)]) rfl (fun ls hl => ?_)
        refine lv_lload_n hx hb dX12_rowWhole_19 rfl (lv_at hl 0 rfl) ?_
        refine lv_lload_n hx hb dX12_rowWhole_20 rfl (lv_at hl 0 rfl) ?_
        refine lv_lneg hx hb dX12_rowWhole_21 ?_
        refine lv_land hx hb dX12_rowWhole_22 ?_
        obtain ⟨v5_6, ev5_6, h⟩ := nm_s h
        refine nmL ev5_6 ?_
        refine lv_lstore hx hb dX12_rowWhole_23 hl (Nat.le_of_ble_eq_true rfl) (lv' := [(5, .long v5_6), (3, .long v3_5), (0, .long v0), (2, .int v2)]) rfl (fun ls hl => ?_)
        refine lv_lload_n hx hb dX12_rowWhole_25 rfl (lv_at hl 1 rfl) ?_
        refine lv_lconst (v := 0) hx hb dX12_rowWhole_26 kl_0 ?_
        refine W.lcmp hx hb dX12_rowWhole_27 ?_
        refine lv_if_eq hx hb dX12_rowWhole_28 (tgt := 44) rfl (fun hc => ?_) (fun hc => ?_)
        · replace h := ifp h ((lg_cmp_eq _ _).mp hc)
          exact hJ44 _ _ _ v2 (lv_sub hl [2, 3] rfl) hS h
        · replace h := ifn h (fun q => hc ((lg_cmp_eq _ _).mpr q))
          refine lv_lload_n hx hb dX12_rowWhole_31 rfl (lv_at hl 1 rfl) ?_
          refine lv_lload hx hb dX12_rowWhole_32 (lv_at hl 0 rfl) ?_
          refine lv_ladd hx hb dX12_rowWhole_34 ?_
          refine lv_lload_n hx hb dX12_rowWhole_35 rfl (lv_at hl 1 rfl) ?_
          refine lv_land hx hb dX12_rowWhole_36 ?_
          refine lv_lconst (v := 0) hx hb dX12_rowWhole_37 kl_0 ?_
          refine W.lcmp hx hb dX12_rowWhole_38 ?_
          refine lv_if_eq hx hb dX12_rowWhole_39 (tgt := 44) rfl (fun hc => ?_) (fun hc => ?_)
          · replace h := ifp h ((lg_cmp_eq _ _).mp hc)
            exact hJ44 _ _ _ v2 (lv_sub hl [2, 3] rfl) hS h
          · replace h := ifn h (fun q => hc ((lg_cmp_eq _ _).mpr q))
            refine lv_iconst (v := 0) hx hb dX12_rowWhole_42 ki_0 ?_
            exact rt_i hx hb hr hlocks hS dX12_rowWhole_43 h
  refine lv_iconst (v := 0) hx hb dX12_rowWhole_0 ki_0 ?_
  refine lv_istore_n hx hb dX12_rowWhole_1 rfl hl (Nat.le_of_ble_eq_true rfl) (lv' := [(2, .int 0), (0, .long v0)]) rfl (fun ls hl => ?_)
  exact hL2 v0 FU _ _ _ 0 (lv_sub hl [1, 0] rfl) hS h
noncomputable def mo_sameOf_J26 (k4 : Int32 → Int32 → Option (Int32)) (v0 : Int64) (v3 : Int32) (t0 : Int32) (t1 : Int32) : Option (Int32) :=
  nm (t0 + t1 : Int32) fun v2_1 =>
  nm (v3 + Int32.ofInt 1) fun v3_2 =>
  k4 v2_1 v3_2
noncomputable def mo_sameOf_B4 (v0 : Int64)  (k4 : Int32 → Int32 → Option (Int32)) (v2 : Int32) (v3 : Int32) : Option (Int32) :=
  if 8 ≤ v3 then (some v2) else
  bd1 (mo_turned v0 v3) fun r_3 =>
  if r_3 = v0 then (mo_sameOf_J26 k4 v0 v3 v2 1) else
  mo_sameOf_J26 k4 v0 v3 v2 0
noncomputable def mo_sameOf (v0 : Int64) : Option (Int32) :=
  fl2 (mo_sameOf_B4 v0) FU 0 0
set_option maxHeartbeats 4000000 in
set_option maxRecDepth 100000 in
theorem c_mo_sameOf (l : Launch) (v0 : Int64) (r : Int32) (h : mo_sameOf v0 = some r) : Met l yX12_sameOf (wm yX12_sameOf cX12_sameOf 4 (some .int)) (rmm 3 73) (va_Pc [.long v0] NW) (Qi r) 0 0 NoA := by
  refine met_s (y := yX12_sameOf) (rm := rmm 3 73) (by decide) (Nat.le_of_ble_eq_true rfl) ?_
  intro p e s m below meth c hx hb hr hw hown hlocks _ hml hN ls hl
  replace hl : lv_has ls 4 [(0, .long v0)] := hl
  have hS : va_S NoA s.heap s.heap [] := va_S.rf
  generalize (([.long v0] : List Value).toArray) = av at hw ⊢
  rw [mo_sameOf] at h
  have hL4 : ∀ (v0 : Int64), ∀ (n4 : Nat) (H : Heap) (locs : List Loc) (ls : Array Slot) (v2 : Int32) (v3 : Int32), lv_has ls 4 [(0, .long v0), (2, .int v2), (3, .int v3)] → va_S NoA s.heap H locs → fl2 (mo_sameOf_B4 v0) n4 v2 v3 = some r → W p l e (rmm 3 73) s m av below meth c H locs 0 0 (MQ below (Qi r) av s 0 0 NoA) (F0 m 4 ls []) := by
    intro v0 n4
    induction n4 with
    | zero => intro H locs ls v2 v3 hl hS h; cases h
    | succ n4 ih4 =>
      intro H locs ls v2 v3 hl hS h
      replace h : mo_sameOf_B4 v0 (fl2 (mo_sameOf_B4 v0) n4) v2 v3 = some r := h
      generalize fl2 (mo_sameOf_B4 v0) n4 = k4 at h ih4
      have hJ26 : ∀ (H : Heap) (locs : List Loc) (ls : Array Slot) (v3 : Int32) (t0 : Int32) (t1 : Int32), lv_has ls 4 [(0, .long v0), (3, .int v3)] → va_S NoA s.heap H locs → mo_sameOf_J26 k4 v0 v3 t0 t1 = some r → W p l e (rmm 3 73) s m av below meth c H locs 0 0 (MQ below (Qi r) av s 0 0 NoA) (F0 m 26 ls [.int t1, .int t0]) := by
        intro H locs ls v3 t0 t1 hl hS h
        rw [mo_sameOf_J26] at h
        refine lv_iadd hx hb dX12_sameOf_26 ?_
        obtain ⟨v2_5, ev2_5, h⟩ := nm_s h
        refine nmI ev2_5 ?_
        refine lv_istore_n hx hb dX12_sameOf_27 rfl hl (Nat.le_of_ble_eq_true rfl) (lv' := [(2, .int v2_5), (0, .long v0), (3, .int v3)]) rfl (fun ls hl => ?_)
        obtain ⟨v3_6, ev3_6, h⟩ := nm_s h
        refine lv_iinc hx hb dX12_sameOf_28 hl (k := 2) rfl ev3_6.symm (Nat.le_of_ble_eq_true rfl) (lv' := [(3, .int v3_6), (2, .int v2_5), (0, .long v0)]) rfl (fun ls hl => ?_)
        refine lv_goto hx hb dX12_sameOf_31 (tgt := 4) rfl ?_
        exact ih4 _ _ _ v2_5 v3_6 (lv_sub hl [2, 1, 0] rfl) hS h
      rw [mo_sameOf_B4] at h
      refine lv_iload_n hx hb dX12_sameOf_4 rfl (lv_at hl 2 rfl) ?_
      refine lv_bipush (v := 8) hx hb dX12_sameOf_5 kb_8 ?_
      refine lv_icmp_ge hx hb dX12_sameOf_7 (tgt := 34) rfl (fun hc => ?_) (fun hc => ?_)
      · replace h := ifp h hc
        refine lv_iload_n hx hb dX12_sameOf_34 rfl (lv_at hl 1 rfl) ?_
        exact rt_i hx hb hr hlocks hS dX12_sameOf_35 h
      · replace h := ifn h hc
        refine lv_iload_n hx hb dX12_sameOf_10 rfl (lv_at hl 1 rfl) ?_
        refine lv_lload_n hx hb dX12_sameOf_11 rfl (lv_at hl 0 rfl) ?_
        refine lv_iload_n hx hb dX12_sameOf_12 rfl (lv_at hl 2 rfl) ?_
        obtain ⟨r_7, hr_8, h⟩ := bd1_s h
        refine sc_l hx hb hml hown hw hN (c_mo_turned l v0 v3 r_7 hr_8) g_RX12_159 hd_X12_turned (rest := [.int v2]) hl.1 hS dX12_sameOf_13 rfl rfl ⟨Nat.le_of_ble_eq_true rfl, Nat.le_of_ble_eq_true rfl⟩ rfl rfl (Nat.le_of_ble_eq_true rfl) ⟨Nat.zero_le _, Nat.zero_le _⟩ (fun H locs hk hS => ?_)
        refine lv_lload_n hx hb dX12_sameOf_16 rfl (lv_at hl 0 rfl) ?_
        refine W.lcmp hx hb dX12_sameOf_17 ?_
        refine lv_if_ne hx hb dX12_sameOf_18 (tgt := 25) rfl (fun hc => ?_) (fun hc => ?_)
        · replace h := ifn h (fun q => hc ((lg_cmp_eq _ _).mpr q))
          refine lv_iconst (v := 0) hx hb dX12_sameOf_25 ki_0 ?_
          exact hJ26 _ _ _ v3 v2 0 (lv_sub hl [0, 2] rfl) hS h
        · replace h := ifp h ((lg_cmp_eq _ _).mp hc)
          refine lv_iconst (v := 1) hx hb dX12_sameOf_21 ki_1 ?_
          refine lv_goto hx hb dX12_sameOf_22 (tgt := 26) rfl ?_
          exact hJ26 _ _ _ v3 v2 1 (lv_sub hl [0, 2] rfl) hS h
  refine lv_iconst (v := 0) hx hb dX12_sameOf_0 ki_0 ?_
  refine lv_istore_n hx hb dX12_sameOf_1 rfl hl (Nat.le_of_ble_eq_true rfl) (lv' := [(2, .int 0), (0, .long v0)]) rfl (fun ls hl => ?_)
  refine lv_iconst (v := 0) hx hb dX12_sameOf_2 ki_0 ?_
  refine lv_istore_n hx hb dX12_sameOf_3 rfl hl (Nat.le_of_ble_eq_true rfl) (lv' := [(3, .int 0), (2, .int 0), (0, .long v0)]) rfl (fun ls hl => ?_)
  exact hL4 v0 FU _ _ _ 0 0 (lv_sub hl [2, 1, 0] rfl) hS h
noncomputable def mo_isKind (v0 : Int32) : Option (Int32) :=
  bd1 (mo_in v0 0 2) fun r_1 =>
  zb r_1 (some r_1)
set_option maxHeartbeats 4000000 in
set_option maxRecDepth 100000 in
theorem c_mo_isKind (l : Launch) (v0 : Int32) (r : Int32) (h : mo_isKind v0 = some r) : Met l yX12_isKind (wm yX12_isKind cX12_isKind 1 (some .boolean)) (rmm 1 22) (va_Pc [.int v0] NW) (Qi r) 0 0 NoA := by
  refine met_s (y := yX12_isKind) (rm := rmm 1 22) (by decide) (Nat.le_of_ble_eq_true rfl) ?_
  intro p e s m below meth c hx hb hr hw hown hlocks _ hml hN ls hl
  replace hl : lv_has ls 1 [(0, .int v0)] := hl
  have hS : va_S NoA s.heap s.heap [] := va_S.rf
  generalize (([.int v0] : List Value).toArray) = av at hw ⊢
  rw [mo_isKind] at h
  refine lv_iload_n hx hb dX12_isKind_0 rfl (lv_at hl 0 rfl) ?_
  refine lv_iconst (v := 0) hx hb dX12_isKind_1 ki_0 ?_
  refine lv_iconst (v := 2) hx hb dX12_isKind_2 ki_2 ?_
  obtain ⟨r_3, hr_4, h⟩ := bd1_s h
  refine sc_i hx hb hml hown hw hN (c_mo_in l v0 0 2 r_3 hr_4) g_RX12_82 hd_X12_in (rest := []) hl.1 hS dX12_isKind_3 rfl rfl ⟨Nat.le_of_ble_eq_true rfl, Nat.le_of_ble_eq_true rfl⟩ rfl rfl (Nat.le_of_ble_eq_true rfl) ⟨Nat.zero_le _, Nat.zero_le _⟩ (fun H locs hk hS => ?_)
  exact rt_z hx hb hr hlocks hS dX12_isKind_6 h
noncomputable def mo_isWithin_J44    : Option (Int32) :=
  zb 1 (some 1)
noncomputable def mo_isWithin_J22  (v0 : Int64) (v3 : Int32)  : Option (Int32) :=
  if v3 < 0 then (bd1 (mo_high v0) fun r_1 =>
  if 7 ≤ r_1 then (zb 0 (some 0)) else
  mo_isWithin_J44) else
  if 7 ≤ v3 then (zb 0 (some 0)) else
  mo_isWithin_J44
noncomputable def mo_isWithin (v0 : Int64) (v2 : Int32) (v3 : Int32) : Option (Int32) :=
  if v2 < 0 then (bd1 (mo_wide v0) fun r_3 =>
  if 7 ≤ r_3 then (zb 0 (some 0)) else
  mo_isWithin_J22 v0 v3) else
  if 7 ≤ v2 then (zb 0 (some 0)) else
  mo_isWithin_J22 v0 v3
set_option maxHeartbeats 4000000 in
set_option maxRecDepth 100000 in
theorem c_mo_isWithin (l : Launch) (v0 : Int64) (v2 : Int32) (v3 : Int32) (r : Int32) (h : mo_isWithin v0 v2 v3 = some r) : Met l yX12_isWithin (wm yX12_isWithin cX12_isWithin 4 (some .boolean)) (rmm 1 23) (va_Pc [.long v0, .int v2, .int v3] NW) (Qi r) 0 0 NoA := by
  refine met_s (y := yX12_isWithin) (rm := rmm 1 23) (by decide) (Nat.le_of_ble_eq_true rfl) ?_
  intro p e s m below meth c hx hb hr hw hown hlocks _ hml hN ls hl
  replace hl : lv_has ls 4 [(0, .long v0), (2, .int v2), (3, .int v3)] := hl
  have hS : va_S NoA s.heap s.heap [] := va_S.rf
  generalize (([.long v0, .int v2, .int v3] : List Value).toArray) = av at hw ⊢
  rw [mo_isWithin] at h
  have hJ44 : ∀ (H : Heap) (locs : List Loc) (ls : Array Slot)  , lv_has ls 4 [] → va_S NoA s.heap H locs → mo_isWithin_J44 = some r → W p l e (rmm 1 23) s m av below meth c H locs 0 0 (MQ below (Qi r) av s 0 0 NoA) (F0 m 44 ls []) := by
    intro H locs ls   hl hS h
    rw [mo_isWithin_J44] at h
    refine lv_iconst (v := 1) hx hb dX12_isWithin_44 ki_1 ?_
    refine lv_goto hx hb dX12_isWithin_45 (tgt := 49) rfl ?_
    exact rt_z hx hb hr hlocks hS dX12_isWithin_49 h
  have hJ22 : ∀ (H : Heap) (locs : List Loc) (ls : Array Slot) (v0 : Int64) (v3 : Int32) , lv_has ls 4 [(0, .long v0), (3, .int v3)] → va_S NoA s.heap H locs → mo_isWithin_J22 v0 v3 = some r → W p l e (rmm 1 23) s m av below meth c H locs 0 0 (MQ below (Qi r) av s 0 0 NoA) (F0 m 22 ls []) := by
    intro H locs ls v0 v3  hl hS h
    rw [mo_isWithin_J22] at h
    refine lv_iload_n hx hb dX12_isWithin_22 rfl (lv_at hl 1 rfl) ?_
    refine lv_if_lt hx hb dX12_isWithin_23 (tgt := 35) rfl (fun hc => ?_) (fun hc => ?_)
    · replace h := ifp h hc
      refine lv_lload_n hx hb dX12_isWithin_35 rfl (lv_at hl 0 rfl) ?_
      obtain ⟨r_5, hr_6, h⟩ := bd1_s h
      refine sc_i hx hb hml hown hw hN (c_mo_high l v0 r_5 hr_6) g_RX12_166 hd_X12_high (rest := []) hl.1 hS dX12_isWithin_36 rfl rfl ⟨Nat.le_of_ble_eq_true rfl, Nat.le_of_ble_eq_true rfl⟩ rfl rfl (Nat.le_of_ble_eq_true rfl) ⟨Nat.zero_le _, Nat.zero_le _⟩ (fun H locs hk hS => ?_)
      refine lv_bipush (v := 7) hx hb dX12_isWithin_39 kb_7 ?_
      refine lv_icmp_ge hx hb dX12_isWithin_41 (tgt := 48) rfl (fun hc => ?_) (fun hc => ?_)
      · replace h := ifp h hc
        refine lv_iconst (v := 0) hx hb dX12_isWithin_48 ki_0 ?_
        exact rt_z hx hb hr hlocks hS dX12_isWithin_49 h
      · replace h := ifn h hc
        exact hJ44 _ _ _  (lv_sub hl [] rfl) hS h
    · replace h := ifn h hc
      refine lv_iload_n hx hb dX12_isWithin_26 rfl (lv_at hl 1 rfl) ?_
      refine lv_bipush (v := 7) hx hb dX12_isWithin_27 kb_7 ?_
      refine lv_icmp_ge hx hb dX12_isWithin_29 (tgt := 48) rfl (fun hc => ?_) (fun hc => ?_)
      · replace h := ifp h hc
        refine lv_iconst (v := 0) hx hb dX12_isWithin_48 ki_0 ?_
        exact rt_z hx hb hr hlocks hS dX12_isWithin_49 h
      · replace h := ifn h hc
        refine lv_goto hx hb dX12_isWithin_32 (tgt := 44) rfl ?_
        exact hJ44 _ _ _  (lv_sub hl [] rfl) hS h
  refine lv_iload_n hx hb dX12_isWithin_0 rfl (lv_at hl 1 rfl) ?_
  refine lv_if_lt hx hb dX12_isWithin_1 (tgt := 13) rfl (fun hc => ?_) (fun hc => ?_)
  · replace h := ifp h hc
    refine lv_lload_n hx hb dX12_isWithin_13 rfl (lv_at hl 0 rfl) ?_
    obtain ⟨r_7, hr_8, h⟩ := bd1_s h
    refine sc_i hx hb hml hown hw hN (c_mo_wide l v0 r_7 hr_8) g_RX12_163 hd_X12_wide (rest := []) hl.1 hS dX12_isWithin_14 rfl rfl ⟨Nat.le_of_ble_eq_true rfl, Nat.le_of_ble_eq_true rfl⟩ rfl rfl (Nat.le_of_ble_eq_true rfl) ⟨Nat.zero_le _, Nat.zero_le _⟩ (fun H locs hk hS => ?_)
    refine lv_bipush (v := 7) hx hb dX12_isWithin_17 kb_7 ?_
    refine lv_icmp_ge hx hb dX12_isWithin_19 (tgt := 48) rfl (fun hc => ?_) (fun hc => ?_)
    · replace h := ifp h hc
      refine lv_iconst (v := 0) hx hb dX12_isWithin_48 ki_0 ?_
      exact rt_z hx hb hr hlocks hS dX12_isWithin_49 h
    · replace h := ifn h hc
      exact hJ22 _ _ _ v0 v3 (lv_sub hl [0, 2] rfl) hS h
  · replace h := ifn h hc
    refine lv_iload_n hx hb dX12_isWithin_4 rfl (lv_at hl 1 rfl) ?_
    refine lv_bipush (v := 7) hx hb dX12_isWithin_5 kb_7 ?_
    refine lv_icmp_ge hx hb dX12_isWithin_7 (tgt := 48) rfl (fun hc => ?_) (fun hc => ?_)
    · replace h := ifp h hc
      refine lv_iconst (v := 0) hx hb dX12_isWithin_48 ki_0 ?_
      exact rt_z hx hb hr hlocks hS dX12_isWithin_49 h
    · replace h := ifn h hc
      refine lv_goto hx hb dX12_isWithin_10 (tgt := 22) rfl ?_
      exact hJ22 _ _ _ v0 v3 (lv_sub hl [0, 2] rfl) hS h
noncomputable def mo_with_J49   (t0 : Int64) (t1 : Int32) (t2 : Int32) : Option (Int64) :=
  bd1 (mo_cellBit t1 t2) fun r_1 =>
  some (t0 ||| r_1)
noncomputable def mo_with_J40  (v3 : Int32) (t0 : Int64) (t1 : Int32) : Option (Int64) :=
  if 0 ≤ v3 then (mo_with_J49 t0 t1 v3) else
  mo_with_J49 t0 t1 0
noncomputable def mo_with_J27  (v2 : Int32) (v3 : Int32) (t0 : Int64) : Option (Int64) :=
  if 0 ≤ v2 then (mo_with_J40 v3 t0 v2) else
  mo_with_J40 v3 t0 0
noncomputable def mo_with_J11  (v2 : Int32) (v3 : Int32) (t0 : Int64) : Option (Int64) :=
  if 0 ≤ v3 then (mo_with_J27 v2 v3 t0) else
  mo_with_J27 v2 v3 (sl t0 8)
noncomputable def mo_with (v0 : Int64) (v2 : Int32) (v3 : Int32) : Option (Int64) :=
  if 0 ≤ v2 then (mo_with_J11 v2 v3 v0) else
  mo_with_J11 v2 v3 (sl v0 1)
set_option maxHeartbeats 4000000 in
set_option maxRecDepth 100000 in
theorem c_mo_with (l : Launch) (v0 : Int64) (v2 : Int32) (v3 : Int32) (r : Int64) (h : mo_with v0 v2 v3 = some r) : Met l yX12_with (wm yX12_with cX12_with 6 (some .long)) (rmm 1 21) (va_Pc [.long v0, .int v2, .int v3] NW) (Ql r) 0 0 NoA := by
  refine met_s (y := yX12_with) (rm := rmm 1 21) (by decide) (Nat.le_of_ble_eq_true rfl) ?_
  intro p e s m below meth c hx hb hr hw hown hlocks _ hml hN ls hl
  replace hl : lv_has ls 6 [(0, .long v0), (2, .int v2), (3, .int v3)] := hl
  have hS : va_S NoA s.heap s.heap [] := va_S.rf
  generalize (([.long v0, .int v2, .int v3] : List Value).toArray) = av at hw ⊢
  rw [mo_with] at h
  have hJ49 : ∀ (H : Heap) (locs : List Loc) (ls : Array Slot)  (t0 : Int64) (t1 : Int32) (t2 : Int32), lv_has ls 6 [] → va_S NoA s.heap H locs → mo_with_J49 t0 t1 t2 = some r → W p l e (rmm 1 21) s m av below meth c H locs 0 0 (MQ below (Ql r) av s 0 0 NoA) (F0 m 49 ls [.int t2, .int t1, .long t0]) := by
    intro H locs ls  t0 t1 t2 hl hS h
    rw [mo_with_J49] at h
    obtain ⟨r_3, hr_4, h⟩ := bd1_s h
    refine sc_l hx hb hml hown hw hN (c_mo_cellBit l t1 t2 r_3 hr_4) g_RX12_117 hd_X12_cellBit (rest := [.long t0]) hl.1 hS dX12_with_49 rfl rfl ⟨Nat.le_of_ble_eq_true rfl, Nat.le_of_ble_eq_true rfl⟩ rfl rfl (Nat.le_of_ble_eq_true rfl) ⟨Nat.zero_le _, Nat.zero_le _⟩ (fun H locs hk hS => ?_)
    refine lv_lor hx hb dX12_with_52 ?_
    exact rt_l hx hb hr hlocks hS dX12_with_53 h
  have hJ40 : ∀ (H : Heap) (locs : List Loc) (ls : Array Slot) (v3 : Int32) (t0 : Int64) (t1 : Int32), lv_has ls 6 [(3, .int v3)] → va_S NoA s.heap H locs → mo_with_J40 v3 t0 t1 = some r → W p l e (rmm 1 21) s m av below meth c H locs 0 0 (MQ below (Ql r) av s 0 0 NoA) (F0 m 40 ls [.int t1, .long t0]) := by
    intro H locs ls v3 t0 t1 hl hS h
    rw [mo_with_J40] at h
    refine lv_iload_n hx hb dX12_with_40 rfl (lv_at hl 0 rfl) ?_
    refine lv_if_ge hx hb dX12_with_41 (tgt := 48) rfl (fun hc => ?_) (fun hc => ?_)
    · replace h := ifp h hc
      refine lv_iload_n hx hb dX12_with_48 rfl (lv_at hl 0 rfl) ?_
      exact hJ49 _ _ _ t0 t1 v3 (lv_sub hl [] rfl) hS h
    · replace h := ifn h hc
      refine lv_iconst (v := 0) hx hb dX12_with_44 ki_0 ?_
      refine lv_goto hx hb dX12_with_45 (tgt := 49) rfl ?_
      exact hJ49 _ _ _ t0 t1 0 (lv_sub hl [] rfl) hS h
  have hJ27 : ∀ (H : Heap) (locs : List Loc) (ls : Array Slot) (v2 : Int32) (v3 : Int32) (t0 : Int64), lv_has ls 6 [(2, .int v2), (3, .int v3)] → va_S NoA s.heap H locs → mo_with_J27 v2 v3 t0 = some r → W p l e (rmm 1 21) s m av below meth c H locs 0 0 (MQ below (Ql r) av s 0 0 NoA) (F0 m 27 ls [.long t0]) := by
    intro H locs ls v2 v3 t0 hl hS h
    rw [mo_with_J27] at h
    refine lv_lstore hx hb dX12_with_27 hl (Nat.le_of_ble_eq_true rfl) (lv' := [(4, .long t0), (2, .int v2), (3, .int v3)]) rfl (fun ls hl => ?_)
    refine lv_lload hx hb dX12_with_29 (lv_at hl 0 rfl) ?_
    refine lv_iload_n hx hb dX12_with_31 rfl (lv_at hl 1 rfl) ?_
    refine lv_if_ge hx hb dX12_with_32 (tgt := 39) rfl (fun hc => ?_) (fun hc => ?_)
    · replace h := ifp h hc
      refine lv_iload_n hx hb dX12_with_39 rfl (lv_at hl 1 rfl) ?_
      exact hJ40 _ _ _ v3 t0 v2 (lv_sub hl [2] rfl) hS h
    · replace h := ifn h hc
      refine lv_iconst (v := 0) hx hb dX12_with_35 ki_0 ?_
      refine lv_goto hx hb dX12_with_36 (tgt := 40) rfl ?_
      exact hJ40 _ _ _ v3 t0 0 (lv_sub hl [2] rfl) hS h
  have hJ11 : ∀ (H : Heap) (locs : List Loc) (ls : Array Slot) (v2 : Int32) (v3 : Int32) (t0 : Int64), lv_has ls 6 [(2, .int v2), (3, .int v3)] → va_S NoA s.heap H locs → mo_with_J11 v2 v3 t0 = some r → W p l e (rmm 1 21) s m av below meth c H locs 0 0 (MQ below (Ql r) av s 0 0 NoA) (F0 m 11 ls [.long t0]) := by
    intro H locs ls v2 v3 t0 hl hS h
    rw [mo_with_J11] at h
    refine lv_lstore hx hb dX12_with_11 hl (Nat.le_of_ble_eq_true rfl) (lv' := [(4, .long t0), (2, .int v2), (3, .int v3)]) rfl (fun ls hl => ?_)
    refine lv_iload_n hx hb dX12_with_13 rfl (lv_at hl 2 rfl) ?_
    refine lv_if_ge hx hb dX12_with_14 (tgt := 25) rfl (fun hc => ?_) (fun hc => ?_)
    · replace h := ifp h hc
      refine lv_lload hx hb dX12_with_25 (lv_at hl 0 rfl) ?_
      exact hJ27 _ _ _ v2 v3 t0 (lv_sub hl [1, 2] rfl) hS h
    · replace h := ifn h hc
      refine lv_lload hx hb dX12_with_17 (lv_at hl 0 rfl) ?_
      refine lv_bipush (v := 8) hx hb dX12_with_19 kb_8 ?_
      refine lv_lshl hx hb (v := sl t0 8) dX12_with_21 rfl ?_
      refine lv_goto hx hb dX12_with_22 (tgt := 27) rfl ?_
      exact hJ27 _ _ _ v2 v3 (sl t0 8) (lv_sub hl [1, 2] rfl) hS h
  refine lv_iload_n hx hb dX12_with_0 rfl (lv_at hl 1 rfl) ?_
  refine lv_if_ge hx hb dX12_with_1 (tgt := 10) rfl (fun hc => ?_) (fun hc => ?_)
  · replace h := ifp h hc
    refine lv_lload_n hx hb dX12_with_10 rfl (lv_at hl 0 rfl) ?_
    exact hJ11 _ _ _ v2 v3 v0 (lv_sub hl [1, 2] rfl) hS h
  · replace h := ifn h hc
    refine lv_lload_n hx hb dX12_with_4 rfl (lv_at hl 0 rfl) ?_
    refine lv_iconst (v := 1) hx hb dX12_with_5 ki_1 ?_
    refine lv_lshl hx hb (v := sl v0 1) dX12_with_6 rfl ?_
    refine lv_goto hx hb dX12_with_7 (tgt := 11) rfl ?_
    exact hJ11 _ _ _ v2 v3 (sl v0 1) (lv_sub hl [1, 2] rfl) hS h
noncomputable def mo_stepX (v0 : Int32) : Option (Int32) :=
  if v0 = 0 then (some 1) else
  if v0 = 2 then (some (-1)) else
  some 0
set_option maxHeartbeats 4000000 in
set_option maxRecDepth 100000 in
theorem c_mo_stepX (l : Launch) (v0 : Int32) (r : Int32) (h : mo_stepX v0 = some r) : Met l yX12_stepX (wm yX12_stepX cX12_stepX 1 (some .int)) (rmm 0 0) (va_Pc [.int v0] NW) (Qi r) 0 0 NoA := by
  refine met_s (y := yX12_stepX) (rm := rmm 0 0) (by decide) (Nat.le_of_ble_eq_true rfl) ?_
  intro p e s m below meth c hx hb hr hw hown hlocks _ hml hN ls hl
  replace hl : lv_has ls 1 [(0, .int v0)] := hl
  have hS : va_S NoA s.heap s.heap [] := va_S.rf
  generalize (([.int v0] : List Value).toArray) = av at hw ⊢
  rw [mo_stepX] at h
  refine lv_iload_n hx hb dX12_stepX_0 rfl (lv_at hl 0 rfl) ?_
  refine lv_if_ne hx hb dX12_stepX_1 (tgt := 8) rfl (fun hc => ?_) (fun hc => ?_)
  · replace h := ifn h hc
    refine lv_iload_n hx hb dX12_stepX_8 rfl (lv_at hl 0 rfl) ?_
    refine lv_iconst (v := 2) hx hb dX12_stepX_9 ki_2 ?_
    refine lv_icmp_ne hx hb dX12_stepX_10 (tgt := 17) rfl (fun hc => ?_) (fun hc => ?_)
    · replace h := ifn h hc
      refine lv_iconst (v := 0) hx hb dX12_stepX_17 ki_0 ?_
      exact rt_i hx hb hr hlocks hS dX12_stepX_18 h
    · replace h := ifp h hc
      refine lv_iconst (v := (-1)) hx hb dX12_stepX_13 ki_m1 ?_
      refine lv_goto hx hb dX12_stepX_14 (tgt := 18) rfl ?_
      exact rt_i hx hb hr hlocks hS dX12_stepX_18 h
  · replace h := ifp h hc
    refine lv_iconst (v := 1) hx hb dX12_stepX_4 ki_1 ?_
    refine lv_goto hx hb dX12_stepX_5 (tgt := 18) rfl ?_
    exact rt_i hx hb hr hlocks hS dX12_stepX_18 h
noncomputable def mo_stepY (v0 : Int32) : Option (Int32) :=
  if v0 = 1 then (some 1) else
  if v0 = 3 then (some (-1)) else
  some 0
set_option maxHeartbeats 4000000 in
set_option maxRecDepth 100000 in
theorem c_mo_stepY (l : Launch) (v0 : Int32) (r : Int32) (h : mo_stepY v0 = some r) : Met l yX12_stepY (wm yX12_stepY cX12_stepY 1 (some .int)) (rmm 0 0) (va_Pc [.int v0] NW) (Qi r) 0 0 NoA := by
  refine met_s (y := yX12_stepY) (rm := rmm 0 0) (by decide) (Nat.le_of_ble_eq_true rfl) ?_
  intro p e s m below meth c hx hb hr hw hown hlocks _ hml hN ls hl
  replace hl : lv_has ls 1 [(0, .int v0)] := hl
  have hS : va_S NoA s.heap s.heap [] := va_S.rf
  generalize (([.int v0] : List Value).toArray) = av at hw ⊢
  rw [mo_stepY] at h
  refine lv_iload_n hx hb dX12_stepY_0 rfl (lv_at hl 0 rfl) ?_
  refine lv_iconst (v := 1) hx hb dX12_stepY_1 ki_1 ?_
  refine lv_icmp_ne hx hb dX12_stepY_2 (tgt := 9) rfl (fun hc => ?_) (fun hc => ?_)
  · replace h := ifn h hc
    refine lv_iload_n hx hb dX12_stepY_9 rfl (lv_at hl 0 rfl) ?_
    refine lv_iconst (v := 3) hx hb dX12_stepY_10 ki_3 ?_
    refine lv_icmp_ne hx hb dX12_stepY_11 (tgt := 18) rfl (fun hc => ?_) (fun hc => ?_)
    · replace h := ifn h hc
      refine lv_iconst (v := 0) hx hb dX12_stepY_18 ki_0 ?_
      exact rt_i hx hb hr hlocks hS dX12_stepY_19 h
    · replace h := ifp h hc
      refine lv_iconst (v := (-1)) hx hb dX12_stepY_14 ki_m1 ?_
      refine lv_goto hx hb dX12_stepY_15 (tgt := 19) rfl ?_
      exact rt_i hx hb hr hlocks hS dX12_stepY_19 h
  · replace h := ifp h hc
    refine lv_iconst (v := 1) hx hb dX12_stepY_5 ki_1 ?_
    refine lv_goto hx hb dX12_stepY_6 (tgt := 19) rfl ?_
    exact rt_i hx hb hr hlocks hS dX12_stepY_19 h
noncomputable def mo_isSide (v0 : Int64) (v2 : Int32) (v3 : Int32) (v4 : Int32) : Option (Int32) :=
  if v4 = 0 then (bd1 (mo_isCell v0 v2 v3) fun r_1 =>
  if r_1 = 0 then (zb 0 (some 0)) else
  bd1 (mo_isCell v0 v2 (v3 - 1)) fun r_3 =>
  if r_3 = 0 then (zb 1 (some 1)) else
  zb 0 (some 0)) else
  if v4 = 1 then (bd1 (mo_isCell v0 (v2 - 1) v3) fun r_5 =>
  if r_5 = 0 then (zb 0 (some 0)) else
  bd1 (mo_isCell v0 v2 v3) fun r_7 =>
  if r_7 = 0 then (zb 1 (some 1)) else
  zb 0 (some 0)) else
  if v4 = 2 then (bd1 (mo_isCell v0 (v2 - 1) (v3 - 1)) fun r_9 =>
  if r_9 = 0 then (zb 0 (some 0)) else
  bd1 (mo_isCell v0 (v2 - 1) v3) fun r_11 =>
  if r_11 = 0 then (zb 1 (some 1)) else
  zb 0 (some 0)) else
  bd1 (mo_isCell v0 v2 (v3 - 1)) fun r_13 =>
  if r_13 = 0 then (zb 0 (some 0)) else
  bd1 (mo_isCell v0 (v2 - 1) (v3 - 1)) fun r_15 =>
  if r_15 = 0 then (zb 1 (some 1)) else
  zb 0 (some 0)
set_option maxHeartbeats 4000000 in
set_option maxRecDepth 100000 in
theorem c_mo_isSide (l : Launch) (v0 : Int64) (v2 : Int32) (v3 : Int32) (v4 : Int32) (r : Int32) (h : mo_isSide v0 v2 v3 v4 = some r) : Met l yX12_isSide (wm yX12_isSide cX12_isSide 5 (some .boolean)) (rmm 2 45) (va_Pc [.long v0, .int v2, .int v3, .int v4] NW) (Qi r) 0 0 NoA := by
  refine met_s (y := yX12_isSide) (rm := rmm 2 45) (by decide) (Nat.le_of_ble_eq_true rfl) ?_
  intro p e s m below meth c hx hb hr hw hown hlocks _ hml hN ls hl
  replace hl : lv_has ls 5 [(0, .long v0), (2, .int v2), (3, .int v3), (4, .int v4)] := hl
  have hS : va_S NoA s.heap s.heap [] := va_S.rf
  generalize (([.long v0, .int v2, .int v3, .int v4] : List Value).toArray) = av at hw ⊢
  rw [mo_isSide] at h
  refine lv_iload hx hb dX12_isSide_0 (lv_at hl 3 rfl) ?_
  by_cases hc0 : v4 = 0
  · replace h := ifp h hc0
    refine lv_tableIn hx hb dX12_isSide_2 (by rw [hc0]; decide) (by rw [hc0]; decide) (by rw [hc0]; rfl) (tgt := 28) rfl ?_
    refine lv_lload_n hx hb dX12_isSide_28 rfl (lv_at hl 0 rfl) ?_
    refine lv_iload_n hx hb dX12_isSide_29 rfl (lv_at hl 1 rfl) ?_
    refine lv_iload_n hx hb dX12_isSide_30 rfl (lv_at hl 2 rfl) ?_
    obtain ⟨r_17, hr_18, h⟩ := bd1_s h
    refine sc_i hx hb hml hown hw hN (c_mo_isCell l v0 v2 v3 r_17 hr_18) g_RX12_142 hd_X12_isCell (rest := []) hl.1 hS dX12_isSide_31 rfl rfl ⟨Nat.le_of_ble_eq_true rfl, Nat.le_of_ble_eq_true rfl⟩ rfl rfl (Nat.le_of_ble_eq_true rfl) ⟨Nat.zero_le _, Nat.zero_le _⟩ (fun H locs hk hS => ?_)
    refine lv_if_eq hx hb dX12_isSide_34 (tgt := 52) rfl (fun hc => ?_) (fun hc => ?_)
    · replace h := ifp h hc
      refine lv_iconst (v := 0) hx hb dX12_isSide_52 ki_0 ?_
      exact rt_z hx hb hr hlocks hS dX12_isSide_53 h
    · replace h := ifn h hc
      refine lv_lload_n hx hb dX12_isSide_37 rfl (lv_at hl 0 rfl) ?_
      refine lv_iload_n hx hb dX12_isSide_38 rfl (lv_at hl 1 rfl) ?_
      refine lv_iload_n hx hb dX12_isSide_39 rfl (lv_at hl 2 rfl) ?_
      refine lv_iconst (v := 1) hx hb dX12_isSide_40 ki_1 ?_
      refine lv_isub hx hb dX12_isSide_41 ?_
      obtain ⟨r_19, hr_20, h⟩ := bd1_s h
      refine sc_i hx hb hml hown hw hN (c_mo_isCell l v0 v2 (v3 - 1) r_19 hr_20) g_RX12_142 hd_X12_isCell (rest := []) hl.1 hS dX12_isSide_42 rfl rfl ⟨Nat.le_of_ble_eq_true rfl, Nat.le_of_ble_eq_true rfl⟩ rfl rfl (Nat.le_of_ble_eq_true rfl) ⟨Nat.zero_le _, Nat.zero_le _⟩ (fun H locs hk hS => ?_)
      refine lv_if_ne hx hb dX12_isSide_45 (tgt := 52) rfl (fun hc => ?_) (fun hc => ?_)
      · replace h := ifn h hc
        refine lv_iconst (v := 0) hx hb dX12_isSide_52 ki_0 ?_
        exact rt_z hx hb hr hlocks hS dX12_isSide_53 h
      · replace h := ifp h hc
        refine lv_iconst (v := 1) hx hb dX12_isSide_48 ki_1 ?_
        refine lv_goto hx hb dX12_isSide_49 (tgt := 53) rfl ?_
        exact rt_z hx hb hr hlocks hS dX12_isSide_53 h
  replace h := ifn h hc0
  by_cases hc1 : v4 = 1
  · replace h := ifp h hc1
    refine lv_tableIn hx hb dX12_isSide_2 (by rw [hc1]; decide) (by rw [hc1]; decide) (by rw [hc1]; rfl) (tgt := 54) rfl ?_
    refine lv_lload_n hx hb dX12_isSide_54 rfl (lv_at hl 0 rfl) ?_
    refine lv_iload_n hx hb dX12_isSide_55 rfl (lv_at hl 1 rfl) ?_
    refine lv_iconst (v := 1) hx hb dX12_isSide_56 ki_1 ?_
    refine lv_isub hx hb dX12_isSide_57 ?_
    refine lv_iload_n hx hb dX12_isSide_58 rfl (lv_at hl 2 rfl) ?_
    obtain ⟨r_21, hr_22, h⟩ := bd1_s h
    refine sc_i hx hb hml hown hw hN (c_mo_isCell l v0 (v2 - 1) v3 r_21 hr_22) g_RX12_142 hd_X12_isCell (rest := []) hl.1 hS dX12_isSide_59 rfl rfl ⟨Nat.le_of_ble_eq_true rfl, Nat.le_of_ble_eq_true rfl⟩ rfl rfl (Nat.le_of_ble_eq_true rfl) ⟨Nat.zero_le _, Nat.zero_le _⟩ (fun H locs hk hS => ?_)
    refine lv_if_eq hx hb dX12_isSide_62 (tgt := 78) rfl (fun hc => ?_) (fun hc => ?_)
    · replace h := ifp h hc
      refine lv_iconst (v := 0) hx hb dX12_isSide_78 ki_0 ?_
      exact rt_z hx hb hr hlocks hS dX12_isSide_79 h
    · replace h := ifn h hc
      refine lv_lload_n hx hb dX12_isSide_65 rfl (lv_at hl 0 rfl) ?_
      refine lv_iload_n hx hb dX12_isSide_66 rfl (lv_at hl 1 rfl) ?_
      refine lv_iload_n hx hb dX12_isSide_67 rfl (lv_at hl 2 rfl) ?_
      obtain ⟨r_23, hr_24, h⟩ := bd1_s h
      refine sc_i hx hb hml hown hw hN (c_mo_isCell l v0 v2 v3 r_23 hr_24) g_RX12_142 hd_X12_isCell (rest := []) hl.1 hS dX12_isSide_68 rfl rfl ⟨Nat.le_of_ble_eq_true rfl, Nat.le_of_ble_eq_true rfl⟩ rfl rfl (Nat.le_of_ble_eq_true rfl) ⟨Nat.zero_le _, Nat.zero_le _⟩ (fun H locs hk hS => ?_)
      refine lv_if_ne hx hb dX12_isSide_71 (tgt := 78) rfl (fun hc => ?_) (fun hc => ?_)
      · replace h := ifn h hc
        refine lv_iconst (v := 0) hx hb dX12_isSide_78 ki_0 ?_
        exact rt_z hx hb hr hlocks hS dX12_isSide_79 h
      · replace h := ifp h hc
        refine lv_iconst (v := 1) hx hb dX12_isSide_74 ki_1 ?_
        refine lv_goto hx hb dX12_isSide_75 (tgt := 79) rfl ?_
        exact rt_z hx hb hr hlocks hS dX12_isSide_79 h
  replace h := ifn h hc1
  by_cases hc2 : v4 = 2
  · replace h := ifp h hc2
    refine lv_tableIn hx hb dX12_isSide_2 (by rw [hc2]; decide) (by rw [hc2]; decide) (by rw [hc2]; rfl) (tgt := 80) rfl ?_
    refine lv_lload_n hx hb dX12_isSide_80 rfl (lv_at hl 0 rfl) ?_
    refine lv_iload_n hx hb dX12_isSide_81 rfl (lv_at hl 1 rfl) ?_
    refine lv_iconst (v := 1) hx hb dX12_isSide_82 ki_1 ?_
    refine lv_isub hx hb dX12_isSide_83 ?_
    refine lv_iload_n hx hb dX12_isSide_84 rfl (lv_at hl 2 rfl) ?_
    refine lv_iconst (v := 1) hx hb dX12_isSide_85 ki_1 ?_
    refine lv_isub hx hb dX12_isSide_86 ?_
    obtain ⟨r_25, hr_26, h⟩ := bd1_s h
    refine sc_i hx hb hml hown hw hN (c_mo_isCell l v0 (v2 - 1) (v3 - 1) r_25 hr_26) g_RX12_142 hd_X12_isCell (rest := []) hl.1 hS dX12_isSide_87 rfl rfl ⟨Nat.le_of_ble_eq_true rfl, Nat.le_of_ble_eq_true rfl⟩ rfl rfl (Nat.le_of_ble_eq_true rfl) ⟨Nat.zero_le _, Nat.zero_le _⟩ (fun H locs hk hS => ?_)
    refine lv_if_eq hx hb dX12_isSide_90 (tgt := 108) rfl (fun hc => ?_) (fun hc => ?_)
    · replace h := ifp h hc
      refine lv_iconst (v := 0) hx hb dX12_isSide_108 ki_0 ?_
      exact rt_z hx hb hr hlocks hS dX12_isSide_109 h
    · replace h := ifn h hc
      refine lv_lload_n hx hb dX12_isSide_93 rfl (lv_at hl 0 rfl) ?_
      refine lv_iload_n hx hb dX12_isSide_94 rfl (lv_at hl 1 rfl) ?_
      refine lv_iconst (v := 1) hx hb dX12_isSide_95 ki_1 ?_
      refine lv_isub hx hb dX12_isSide_96 ?_
      refine lv_iload_n hx hb dX12_isSide_97 rfl (lv_at hl 2 rfl) ?_
      obtain ⟨r_27, hr_28, h⟩ := bd1_s h
      refine sc_i hx hb hml hown hw hN (c_mo_isCell l v0 (v2 - 1) v3 r_27 hr_28) g_RX12_142 hd_X12_isCell (rest := []) hl.1 hS dX12_isSide_98 rfl rfl ⟨Nat.le_of_ble_eq_true rfl, Nat.le_of_ble_eq_true rfl⟩ rfl rfl (Nat.le_of_ble_eq_true rfl) ⟨Nat.zero_le _, Nat.zero_le _⟩ (fun H locs hk hS => ?_)
      refine lv_if_ne hx hb dX12_isSide_101 (tgt := 108) rfl (fun hc => ?_) (fun hc => ?_)
      · replace h := ifn h hc
        refine lv_iconst (v := 0) hx hb dX12_isSide_108 ki_0 ?_
        exact rt_z hx hb hr hlocks hS dX12_isSide_109 h
      · replace h := ifp h hc
        refine lv_iconst (v := 1) hx hb dX12_isSide_104 ki_1 ?_
        refine lv_goto hx hb dX12_isSide_105 (tgt := 109) rfl ?_
        exact rt_z hx hb hr hlocks hS dX12_isSide_109 h
  replace h := ifn h hc2
  have q0 := lv_neT (k := 0) hc0 (a := 0) (by decide)
  have q1 := lv_neT (k := 1) hc1 (a := 1) (by decide)
  have q2 := lv_neT (k := 2) hc2 (a := 2) (by decide)
  refine lv_tableOut hx hb dX12_isSide_2 (by omega) (tgt := 110) rfl ?_
  refine lv_lload_n hx hb dX12_isSide_110 rfl (lv_at hl 0 rfl) ?_
  refine lv_iload_n hx hb dX12_isSide_111 rfl (lv_at hl 1 rfl) ?_
  refine lv_iload_n hx hb dX12_isSide_112 rfl (lv_at hl 2 rfl) ?_
  refine lv_iconst (v := 1) hx hb dX12_isSide_113 ki_1 ?_
  refine lv_isub hx hb dX12_isSide_114 ?_
  obtain ⟨r_29, hr_30, h⟩ := bd1_s h
  refine sc_i hx hb hml hown hw hN (c_mo_isCell l v0 v2 (v3 - 1) r_29 hr_30) g_RX12_142 hd_X12_isCell (rest := []) hl.1 hS dX12_isSide_115 rfl rfl ⟨Nat.le_of_ble_eq_true rfl, Nat.le_of_ble_eq_true rfl⟩ rfl rfl (Nat.le_of_ble_eq_true rfl) ⟨Nat.zero_le _, Nat.zero_le _⟩ (fun H locs hk hS => ?_)
  refine lv_if_eq hx hb dX12_isSide_118 (tgt := 138) rfl (fun hc => ?_) (fun hc => ?_)
  · replace h := ifp h hc
    refine lv_iconst (v := 0) hx hb dX12_isSide_138 ki_0 ?_
    exact rt_z hx hb hr hlocks hS dX12_isSide_139 h
  · replace h := ifn h hc
    refine lv_lload_n hx hb dX12_isSide_121 rfl (lv_at hl 0 rfl) ?_
    refine lv_iload_n hx hb dX12_isSide_122 rfl (lv_at hl 1 rfl) ?_
    refine lv_iconst (v := 1) hx hb dX12_isSide_123 ki_1 ?_
    refine lv_isub hx hb dX12_isSide_124 ?_
    refine lv_iload_n hx hb dX12_isSide_125 rfl (lv_at hl 2 rfl) ?_
    refine lv_iconst (v := 1) hx hb dX12_isSide_126 ki_1 ?_
    refine lv_isub hx hb dX12_isSide_127 ?_
    obtain ⟨r_31, hr_32, h⟩ := bd1_s h
    refine sc_i hx hb hml hown hw hN (c_mo_isCell l v0 (v2 - 1) (v3 - 1) r_31 hr_32) g_RX12_142 hd_X12_isCell (rest := []) hl.1 hS dX12_isSide_128 rfl rfl ⟨Nat.le_of_ble_eq_true rfl, Nat.le_of_ble_eq_true rfl⟩ rfl rfl (Nat.le_of_ble_eq_true rfl) ⟨Nat.zero_le _, Nat.zero_le _⟩ (fun H locs hk hS => ?_)
    refine lv_if_ne hx hb dX12_isSide_131 (tgt := 138) rfl (fun hc => ?_) (fun hc => ?_)
    · replace h := ifn h hc
      refine lv_iconst (v := 0) hx hb dX12_isSide_138 ki_0 ?_
      exact rt_z hx hb hr hlocks hS dX12_isSide_139 h
    · replace h := ifp h hc
      refine lv_iconst (v := 1) hx hb dX12_isSide_134 ki_1 ?_
      refine lv_goto hx hb dX12_isSide_135 (tgt := 139) rfl ?_
      exact rt_z hx hb hr hlocks hS dX12_isSide_139 h
noncomputable def mo_putAt (v0 : Int64) (v2 : Int32) (v3 : Int32) : Option (Int64) :=
  if v2 < 0 then (some 0) else
  if v3 < 0 then (some 0) else
  bd1 (mo_wide v0) fun r_1 =>
  if 7 < (v2 + r_1) then (some 0) else
  bd1 (mo_high v0) fun r_3 =>
  if (v3 + r_3) ≤ 7 then (some (sl v0 ((8 * v3) + v2))) else
  some 0
set_option maxHeartbeats 4000000 in
set_option maxRecDepth 100000 in
theorem c_mo_putAt (l : Launch) (v0 : Int64) (v2 : Int32) (v3 : Int32) (r : Int64) (h : mo_putAt v0 v2 v3 = some r) : Met l yX12_putAt (wm yX12_putAt cX12_putAt 4 (some .long)) (rmm 1 23) (va_Pc [.long v0, .int v2, .int v3] NW) (Ql r) 0 0 NoA := by
  refine met_s (y := yX12_putAt) (rm := rmm 1 23) (by decide) (Nat.le_of_ble_eq_true rfl) ?_
  intro p e s m below meth c hx hb hr hw hown hlocks _ hml hN ls hl
  replace hl : lv_has ls 4 [(0, .long v0), (2, .int v2), (3, .int v3)] := hl
  have hS : va_S NoA s.heap s.heap [] := va_S.rf
  generalize (([.long v0, .int v2, .int v3] : List Value).toArray) = av at hw ⊢
  rw [mo_putAt] at h
  refine lv_iload_n hx hb dX12_putAt_0 rfl (lv_at hl 1 rfl) ?_
  refine lv_if_lt hx hb dX12_putAt_1 (tgt := 30) rfl (fun hc => ?_) (fun hc => ?_)
  · replace h := ifp h hc
    refine lv_lconst (v := 0) hx hb dX12_putAt_30 kl_0 ?_
    exact rt_l hx hb hr hlocks hS dX12_putAt_31 h
  · replace h := ifn h hc
    refine lv_iload_n hx hb dX12_putAt_4 rfl (lv_at hl 2 rfl) ?_
    refine lv_if_lt hx hb dX12_putAt_5 (tgt := 30) rfl (fun hc => ?_) (fun hc => ?_)
    · replace h := ifp h hc
      refine lv_lconst (v := 0) hx hb dX12_putAt_30 kl_0 ?_
      exact rt_l hx hb hr hlocks hS dX12_putAt_31 h
    · replace h := ifn h hc
      refine lv_iload_n hx hb dX12_putAt_8 rfl (lv_at hl 1 rfl) ?_
      refine lv_lload_n hx hb dX12_putAt_9 rfl (lv_at hl 0 rfl) ?_
      obtain ⟨r_5, hr_6, h⟩ := bd1_s h
      refine sc_i hx hb hml hown hw hN (c_mo_wide l v0 r_5 hr_6) g_RX12_163 hd_X12_wide (rest := [.int v2]) hl.1 hS dX12_putAt_10 rfl rfl ⟨Nat.le_of_ble_eq_true rfl, Nat.le_of_ble_eq_true rfl⟩ rfl rfl (Nat.le_of_ble_eq_true rfl) ⟨Nat.zero_le _, Nat.zero_le _⟩ (fun H locs hk hS => ?_)
      refine lv_iadd hx hb dX12_putAt_13 ?_
      refine lv_bipush (v := 7) hx hb dX12_putAt_14 kb_7 ?_
      refine lv_icmp_gt hx hb dX12_putAt_16 (tgt := 30) rfl (fun hc => ?_) (fun hc => ?_)
      · replace h := ifp h hc
        refine lv_lconst (v := 0) hx hb dX12_putAt_30 kl_0 ?_
        exact rt_l hx hb hr hlocks hS dX12_putAt_31 h
      · replace h := ifn h hc
        refine lv_iload_n hx hb dX12_putAt_19 rfl (lv_at hl 2 rfl) ?_
        refine lv_lload_n hx hb dX12_putAt_20 rfl (lv_at hl 0 rfl) ?_
        obtain ⟨r_7, hr_8, h⟩ := bd1_s h
        refine sc_i hx hb hml hown hw hN (c_mo_high l v0 r_7 hr_8) g_RX12_166 hd_X12_high (rest := [.int v3]) hl.1 hS dX12_putAt_21 rfl rfl ⟨Nat.le_of_ble_eq_true rfl, Nat.le_of_ble_eq_true rfl⟩ rfl rfl (Nat.le_of_ble_eq_true rfl) ⟨Nat.zero_le _, Nat.zero_le _⟩ (fun H locs hk hS => ?_)
        refine lv_iadd hx hb dX12_putAt_24 ?_
        refine lv_bipush (v := 7) hx hb dX12_putAt_25 kb_7 ?_
        refine lv_icmp_le hx hb dX12_putAt_27 (tgt := 32) rfl (fun hc => ?_) (fun hc => ?_)
        · replace h := ifp h hc
          refine lv_lload_n hx hb dX12_putAt_32 rfl (lv_at hl 0 rfl) ?_
          refine lv_bipush (v := 8) hx hb dX12_putAt_33 kb_8 ?_
          refine lv_iload_n hx hb dX12_putAt_35 rfl (lv_at hl 2 rfl) ?_
          refine lv_imul hx hb dX12_putAt_36 ?_
          refine lv_iload_n hx hb dX12_putAt_37 rfl (lv_at hl 1 rfl) ?_
          refine lv_iadd hx hb dX12_putAt_38 ?_
          refine lv_lshl hx hb (v := sl v0 ((8 * v3) + v2)) dX12_putAt_39 rfl ?_
          exact rt_l hx hb hr hlocks hS dX12_putAt_40 h
        · replace h := ifn h hc
          refine lv_lconst (v := 0) hx hb dX12_putAt_30 kl_0 ?_
          exact rt_l hx hb hr hlocks hS dX12_putAt_31 h
noncomputable def mo_liesIn_J59 (k6 : Int32 → Int32 → Option (Int32)) (k16 : Int32 → Int32 → Option (Int32)) (v0 : Int64) (v2 : Int64) (v4 : Int32) (v5 : Int32) (v6 : Int32)  : Option (Int32) :=
  nm (v6 + Int32.ofInt 1) fun v6_1 =>
  k16 v4 v6_1
noncomputable def mo_liesIn_B16 (v0 : Int64) (v2 : Int64) (v5 : Int32) (k6 : Int32 → Int32 → Option (Int32)) (k16 : Int32 → Int32 → Option (Int32)) (v4 : Int32) (v6 : Int32) : Option (Int32) :=
  if 7 ≤ v6 then (nm (v5 + Int32.ofInt 1) fun v5_2 =>
  k6 v4 v5_2) else
  bd1 (mo_putAt v0 v6 v5) fun r_3 =>
  if r_3 = 0 then (mo_liesIn_J59 k6 k16 v0 v2 v4 v5 v6) else
  if (r_3 &&& (v2 ^^^ (((-1) : Int64)))) = 0 then (nm (v4 + 1 : Int32) fun v4_5 =>
  mo_liesIn_J59 k6 k16 v0 v2 v4_5 v5 v6) else
  mo_liesIn_J59 k6 k16 v0 v2 v4 v5 v6
noncomputable def mo_liesIn_B6 (v0 : Int64) (v2 : Int64)  (k6 : Int32 → Int32 → Option (Int32)) (v4 : Int32) (v5 : Int32) : Option (Int32) :=
  if 7 ≤ v5 then (some v4) else
  fl2 (mo_liesIn_B16 v0 v2 v5 k6) FU v4 0
noncomputable def mo_liesIn (v0 : Int64) (v2 : Int64) : Option (Int32) :=
  fl2 (mo_liesIn_B6 v0 v2) FU 0 0
set_option maxHeartbeats 4000000 in
set_option maxRecDepth 100000 in
theorem c_mo_liesIn (l : Launch) (v0 : Int64) (v2 : Int64) (r : Int32) (h : mo_liesIn v0 v2 = some r) : Met l yX12_liesIn (wm yX12_liesIn cX12_liesIn 9 (some .int)) (rmm 2 46) (va_Pc [.long v0, .long v2] NW) (Qi r) 0 0 NoA := by
  refine met_s (y := yX12_liesIn) (rm := rmm 2 46) (by decide) (Nat.le_of_ble_eq_true rfl) ?_
  intro p e s m below meth c hx hb hr hw hown hlocks _ hml hN ls hl
  replace hl : lv_has ls 9 [(0, .long v0), (2, .long v2)] := hl
  have hS : va_S NoA s.heap s.heap [] := va_S.rf
  generalize (([.long v0, .long v2] : List Value).toArray) = av at hw ⊢
  rw [mo_liesIn] at h
  have hL6 : ∀ (v0 : Int64), ∀ (v2 : Int64), ∀ (n6 : Nat) (H : Heap) (locs : List Loc) (ls : Array Slot) (v4 : Int32) (v5 : Int32), lv_has ls 9 [(0, .long v0), (2, .long v2), (4, .int v4), (5, .int v5)] → va_S NoA s.heap H locs → fl2 (mo_liesIn_B6 v0 v2) n6 v4 v5 = some r → W p l e (rmm 2 46) s m av below meth c H locs 0 0 (MQ below (Qi r) av s 0 0 NoA) (F0 m 6 ls []) := by
    intro v0 v2 n6
    induction n6 with
    | zero => intro H locs ls v4 v5 hl hS h; cases h
    | succ n6 ih6 =>
      intro H locs ls v4 v5 hl hS h
      replace h : mo_liesIn_B6 v0 v2 (fl2 (mo_liesIn_B6 v0 v2) n6) v4 v5 = some r := h
      generalize fl2 (mo_liesIn_B6 v0 v2) n6 = k6 at h ih6
      have hL16 : ∀ (v5 : Int32), ∀ (n16 : Nat) (H : Heap) (locs : List Loc) (ls : Array Slot) (v4 : Int32) (v6 : Int32), lv_has ls 9 [(0, .long v0), (2, .long v2), (4, .int v4), (5, .int v5), (6, .int v6)] → va_S NoA s.heap H locs → fl2 (mo_liesIn_B16 v0 v2 v5 k6) n16 v4 v6 = some r → W p l e (rmm 2 46) s m av below meth c H locs 0 0 (MQ below (Qi r) av s 0 0 NoA) (F0 m 16 ls []) := by
        intro v5 n16
        induction n16 with
        | zero => intro H locs ls v4 v6 hl hS h; cases h
        | succ n16 ih16 =>
          intro H locs ls v4 v6 hl hS h
          replace h : mo_liesIn_B16 v0 v2 v5 k6 (fl2 (mo_liesIn_B16 v0 v2 v5 k6) n16) v4 v6 = some r := h
          generalize fl2 (mo_liesIn_B16 v0 v2 v5 k6) n16 = k16 at h ih16
          have hJ59 : ∀ (H : Heap) (locs : List Loc) (ls : Array Slot) (v4 : Int32) (v6 : Int32) , lv_has ls 9 [(0, .long v0), (2, .long v2), (4, .int v4), (5, .int v5), (6, .int v6)] → va_S NoA s.heap H locs → mo_liesIn_J59 k6 k16 v0 v2 v4 v5 v6 = some r → W p l e (rmm 2 46) s m av below meth c H locs 0 0 (MQ below (Qi r) av s 0 0 NoA) (F0 m 59 ls []) := by
            intro H locs ls v4 v6  hl hS h
            rw [mo_liesIn_J59] at h
            obtain ⟨v6_6, ev6_6, h⟩ := nm_s h
            refine lv_iinc hx hb dX12_liesIn_59 hl (k := 4) rfl ev6_6.symm (Nat.le_of_ble_eq_true rfl) (lv' := [(6, .int v6_6), (0, .long v0), (2, .long v2), (4, .int v4), (5, .int v5)]) rfl (fun ls hl => ?_)
            refine lv_goto hx hb dX12_liesIn_62 (tgt := 16) rfl ?_
            exact ih16 _ _ _ v4 v6_6 (lv_sub hl [1, 2, 3, 4, 0] rfl) hS h
          rw [mo_liesIn_B16] at h
          refine lv_iload hx hb dX12_liesIn_16 (lv_at hl 4 rfl) ?_
          refine lv_bipush (v := 7) hx hb dX12_liesIn_18 kb_7 ?_
          refine lv_icmp_ge hx hb dX12_liesIn_20 (tgt := 65) rfl (fun hc => ?_) (fun hc => ?_)
          · replace h := ifp h hc
            obtain ⟨v5_7, ev5_7, h⟩ := nm_s h
            refine lv_iinc hx hb dX12_liesIn_65 hl (k := 3) rfl ev5_7.symm (Nat.le_of_ble_eq_true rfl) (lv' := [(5, .int v5_7), (0, .long v0), (2, .long v2), (4, .int v4), (6, .int v6)]) rfl (fun ls hl => ?_)
            refine lv_goto hx hb dX12_liesIn_68 (tgt := 6) rfl ?_
            exact ih6 _ _ _ v4 v5_7 (lv_sub hl [1, 2, 3, 0] rfl) hS h
          · replace h := ifn h hc
            refine lv_lload_n hx hb dX12_liesIn_23 rfl (lv_at hl 0 rfl) ?_
            refine lv_iload hx hb dX12_liesIn_24 (lv_at hl 4 rfl) ?_
            refine lv_iload hx hb dX12_liesIn_26 (lv_at hl 3 rfl) ?_
            obtain ⟨r_8, hr_9, h⟩ := bd1_s h
            refine sc_l hx hb hml hown hw hN (c_mo_putAt l v0 v6 v5 r_8 hr_9) g_RX12_336 hd_X12_putAt (rest := []) hl.1 hS dX12_liesIn_28 rfl rfl ⟨Nat.le_of_ble_eq_true rfl, Nat.le_of_ble_eq_true rfl⟩ rfl rfl (Nat.le_of_ble_eq_true rfl) ⟨Nat.zero_le _, Nat.zero_le _⟩ (fun H locs hk hS => ?_)
            refine lv_lstore hx hb dX12_liesIn_31 hl (Nat.le_of_ble_eq_true rfl) (lv' := [(7, .long r_8), (0, .long v0), (2, .long v2), (4, .int v4), (5, .int v5), (6, .int v6)]) rfl (fun ls hl => ?_)
            refine lv_lload hx hb dX12_liesIn_33 (lv_at hl 0 rfl) ?_
            refine lv_lconst (v := 0) hx hb dX12_liesIn_35 kl_0 ?_
            refine W.lcmp hx hb dX12_liesIn_36 ?_
            refine lv_if_eq hx hb dX12_liesIn_37 (tgt := 59) rfl (fun hc => ?_) (fun hc => ?_)
            · replace h := ifp h ((lg_cmp_eq _ _).mp hc)
              exact hJ59 _ _ _ v4 v6 (lv_sub hl [1, 2, 3, 4, 5] rfl) hS h
            · replace h := ifn h (fun q => hc ((lg_cmp_eq _ _).mpr q))
              refine lv_lload hx hb dX12_liesIn_40 (lv_at hl 0 rfl) ?_
              refine lv_lload_n hx hb dX12_liesIn_42 rfl (lv_at hl 2 rfl) ?_
              refine lv_ldc2 hx hb hown (hw _ tw_12_20) dX12_liesIn_43 ?_
              refine lv_lxor hx hb dX12_liesIn_46 ?_
              refine lv_land hx hb dX12_liesIn_47 ?_
              refine lv_lconst (v := 0) hx hb dX12_liesIn_48 kl_0 ?_
              refine W.lcmp hx hb dX12_liesIn_49 ?_
              refine lv_if_ne hx hb dX12_liesIn_50 (tgt := 59) rfl (fun hc => ?_) (fun hc => ?_)
              · replace h := ifn h (fun q => hc ((lg_cmp_eq _ _).mpr q))
                exact hJ59 _ _ _ v4 v6 (lv_sub hl [1, 2, 3, 4, 5] rfl) hS h
              · replace h := ifp h ((lg_cmp_eq _ _).mp hc)
                refine lv_iload hx hb dX12_liesIn_53 (lv_at hl 3 rfl) ?_
                refine lv_iconst (v := 1) hx hb dX12_liesIn_55 ki_1 ?_
                refine lv_iadd hx hb dX12_liesIn_56 ?_
                obtain ⟨v4_10, ev4_10, h⟩ := nm_s h
                refine nmI ev4_10 ?_
                refine lv_istore hx hb dX12_liesIn_57 hl (Nat.le_of_ble_eq_true rfl) (lv' := [(4, .int v4_10), (7, .long r_8), (0, .long v0), (2, .long v2), (5, .int v5), (6, .int v6)]) rfl (fun ls hl => ?_)
                exact hJ59 _ _ _ v4_10 v6 (lv_sub hl [2, 3, 0, 4, 5] rfl) hS h
      rw [mo_liesIn_B6] at h
      refine lv_iload hx hb dX12_liesIn_6 (lv_at hl 3 rfl) ?_
      refine lv_bipush (v := 7) hx hb dX12_liesIn_8 kb_7 ?_
      refine lv_icmp_ge hx hb dX12_liesIn_10 (tgt := 71) rfl (fun hc => ?_) (fun hc => ?_)
      · replace h := ifp h hc
        refine lv_iload hx hb dX12_liesIn_71 (lv_at hl 2 rfl) ?_
        exact rt_i hx hb hr hlocks hS dX12_liesIn_73 h
      · replace h := ifn h hc
        refine lv_iconst (v := 0) hx hb dX12_liesIn_13 ki_0 ?_
        refine lv_istore hx hb dX12_liesIn_14 hl (Nat.le_of_ble_eq_true rfl) (lv' := [(6, .int 0), (0, .long v0), (2, .long v2), (4, .int v4), (5, .int v5)]) rfl (fun ls hl => ?_)
        exact hL16 v5 FU _ _ _ v4 0 (lv_sub hl [1, 2, 3, 4, 0] rfl) hS h
  refine lv_iconst (v := 0) hx hb dX12_liesIn_0 ki_0 ?_
  refine lv_istore hx hb dX12_liesIn_1 hl (Nat.le_of_ble_eq_true rfl) (lv' := [(4, .int 0), (0, .long v0), (2, .long v2)]) rfl (fun ls hl => ?_)
  refine lv_iconst (v := 0) hx hb dX12_liesIn_3 ki_0 ?_
  refine lv_istore hx hb dX12_liesIn_4 hl (Nat.le_of_ble_eq_true rfl) (lv' := [(5, .int 0), (4, .int 0), (0, .long v0), (2, .long v2)]) rfl (fun ls hl => ?_)
  exact hL6 v0 v2 FU _ _ _ 0 0 (lv_sub hl [2, 3, 1, 0] rfl) hS h
noncomputable def mo_shared_J139 (k6 : Int32 → Int32 → Option (Int32)) (v0 : Int64) (v2 : Int64) (v4 : Int32) (v5 : Int32) (v6 : Int32) (v7 : Int32)  : Option (Int32) :=
  nm (v7 + Int32.ofInt 1) fun v7_1 =>
  k6 v6 v7_1
noncomputable def mo_shared_J136 (k6 : Int32 → Int32 → Option (Int32)) (v0 : Int64) (v2 : Int64) (v4 : Int32) (v5 : Int32) (v7 : Int32) (t0 : Int32) (t1 : Int32) : Option (Int32) :=
  nm (t0 + t1 : Int32) fun v6_2 =>
  mo_shared_J139 k6 v0 v2 v4 v5 v6_2 v7
noncomputable def mo_shared_J117 (k6 : Int32 → Int32 → Option (Int32)) (v0 : Int64) (v2 : Int64) (v4 : Int32) (v5 : Int32) (v7 : Int32) (v8 : Int32) (v9 : Int32) (t0 : Int32) (t1 : Int32) : Option (Int32) :=
  bd1 (mo_isCell v0 v8 (v9 - 1)) fun r_3 =>
  if r_3 = 0 then (mo_shared_J136 k6 v0 v2 v4 v5 v7 (t0 + t1) 0) else
  mo_shared_J136 k6 v0 v2 v4 v5 v7 (t0 + t1) 1
noncomputable def mo_shared_J98 (k6 : Int32 → Int32 → Option (Int32)) (v0 : Int64) (v2 : Int64) (v4 : Int32) (v5 : Int32) (v7 : Int32) (v8 : Int32) (v9 : Int32) (t0 : Int32) (t1 : Int32) : Option (Int32) :=
  bd1 (mo_isCell v0 v8 (v9 + 1)) fun r_5 =>
  if r_5 = 0 then (mo_shared_J117 k6 v0 v2 v4 v5 v7 v8 v9 (t0 + t1) 0) else
  mo_shared_J117 k6 v0 v2 v4 v5 v7 v8 v9 (t0 + t1) 1
noncomputable def mo_shared_J79 (k6 : Int32 → Int32 → Option (Int32)) (v0 : Int64) (v2 : Int64) (v4 : Int32) (v5 : Int32) (v7 : Int32) (v8 : Int32) (v9 : Int32) (t0 : Int32) (t1 : Int32) : Option (Int32) :=
  bd1 (mo_isCell v0 (v8 - 1) v9) fun r_7 =>
  if r_7 = 0 then (mo_shared_J98 k6 v0 v2 v4 v5 v7 v8 v9 (t0 + t1) 0) else
  mo_shared_J98 k6 v0 v2 v4 v5 v7 v8 v9 (t0 + t1) 1
noncomputable def mo_shared_B6 (v0 : Int64) (v2 : Int64) (v4 : Int32) (v5 : Int32)  (k6 : Int32 → Int32 → Option (Int32)) (v6 : Int32) (v7 : Int32) : Option (Int32) :=
  if 64 ≤ v7 then (some v6) else
  bd1 (mo_has v2 v7) fun r_9 =>
  if r_9 = 0 then (mo_shared_J139 k6 v0 v2 v4 v5 v6 v7) else
  dzI 8 <|
  nm ((remI v7 8) + v4 : Int32) fun v8_11 =>
  dzI 8 <|
  nm ((v7 / 8) + v5 : Int32) fun v9_12 =>
  bd1 (mo_isCell v0 v8_11 v9_12) fun r_13 =>
  if r_13 = 0 then (bd1 (mo_isCell v0 (v8_11 + 1) v9_12) fun r_15 =>
  if r_15 = 0 then (mo_shared_J79 k6 v0 v2 v4 v5 v7 v8_11 v9_12 v6 0) else
  mo_shared_J79 k6 v0 v2 v4 v5 v7 v8_11 v9_12 v6 1) else
  some (-3)
noncomputable def mo_shared (v0 : Int64) (v2 : Int64) (v4 : Int32) (v5 : Int32) : Option (Int32) :=
  fl2 (mo_shared_B6 v0 v2 v4 v5) FU 0 0
set_option maxHeartbeats 4000000 in
set_option maxRecDepth 100000 in
theorem c_mo_shared (l : Launch) (v0 : Int64) (v2 : Int64) (v4 : Int32) (v5 : Int32) (r : Int32) (h : mo_shared v0 v2 v4 v5 = some r) : Met l yX12_shared (wm yX12_shared cX12_shared 10 (some .int)) (rmm 2 45) (va_Pc [.long v0, .long v2, .int v4, .int v5] NW) (Qi r) 0 0 NoA := by
  refine met_s (y := yX12_shared) (rm := rmm 2 45) (by decide) (Nat.le_of_ble_eq_true rfl) ?_
  intro p e s m below meth c hx hb hr hw hown hlocks _ hml hN ls hl
  replace hl : lv_has ls 10 [(0, .long v0), (2, .long v2), (4, .int v4), (5, .int v5)] := hl
  have hS : va_S NoA s.heap s.heap [] := va_S.rf
  generalize (([.long v0, .long v2, .int v4, .int v5] : List Value).toArray) = av at hw ⊢
  rw [mo_shared] at h
  have hL6 : ∀ (v0 : Int64), ∀ (v2 : Int64), ∀ (v4 : Int32), ∀ (v5 : Int32), ∀ (n6 : Nat) (H : Heap) (locs : List Loc) (ls : Array Slot) (v6 : Int32) (v7 : Int32), lv_has ls 10 [(0, .long v0), (2, .long v2), (4, .int v4), (5, .int v5), (6, .int v6), (7, .int v7)] → va_S NoA s.heap H locs → fl2 (mo_shared_B6 v0 v2 v4 v5) n6 v6 v7 = some r → W p l e (rmm 2 45) s m av below meth c H locs 0 0 (MQ below (Qi r) av s 0 0 NoA) (F0 m 6 ls []) := by
    intro v0 v2 v4 v5 n6
    induction n6 with
    | zero => intro H locs ls v6 v7 hl hS h; cases h
    | succ n6 ih6 =>
      intro H locs ls v6 v7 hl hS h
      replace h : mo_shared_B6 v0 v2 v4 v5 (fl2 (mo_shared_B6 v0 v2 v4 v5) n6) v6 v7 = some r := h
      generalize fl2 (mo_shared_B6 v0 v2 v4 v5) n6 = k6 at h ih6
      have hJ139 : ∀ (H : Heap) (locs : List Loc) (ls : Array Slot) (v6 : Int32) (v7 : Int32) , lv_has ls 10 [(0, .long v0), (2, .long v2), (4, .int v4), (5, .int v5), (6, .int v6), (7, .int v7)] → va_S NoA s.heap H locs → mo_shared_J139 k6 v0 v2 v4 v5 v6 v7 = some r → W p l e (rmm 2 45) s m av below meth c H locs 0 0 (MQ below (Qi r) av s 0 0 NoA) (F0 m 139 ls []) := by
        intro H locs ls v6 v7  hl hS h
        rw [mo_shared_J139] at h
        obtain ⟨v7_17, ev7_17, h⟩ := nm_s h
        refine lv_iinc hx hb dX12_shared_139 hl (k := 5) rfl ev7_17.symm (Nat.le_of_ble_eq_true rfl) (lv' := [(7, .int v7_17), (0, .long v0), (2, .long v2), (4, .int v4), (5, .int v5), (6, .int v6)]) rfl (fun ls hl => ?_)
        refine lv_goto hx hb dX12_shared_142 (tgt := 6) rfl ?_
        exact ih6 _ _ _ v6 v7_17 (lv_sub hl [1, 2, 3, 4, 5, 0] rfl) hS h
      have hJ136 : ∀ (H : Heap) (locs : List Loc) (ls : Array Slot) (v7 : Int32) (t0 : Int32) (t1 : Int32), lv_has ls 10 [(0, .long v0), (2, .long v2), (4, .int v4), (5, .int v5), (7, .int v7)] → va_S NoA s.heap H locs → mo_shared_J136 k6 v0 v2 v4 v5 v7 t0 t1 = some r → W p l e (rmm 2 45) s m av below meth c H locs 0 0 (MQ below (Qi r) av s 0 0 NoA) (F0 m 136 ls [.int t1, .int t0]) := by
        intro H locs ls v7 t0 t1 hl hS h
        rw [mo_shared_J136] at h
        refine lv_iadd hx hb dX12_shared_136 ?_
        obtain ⟨v6_18, ev6_18, h⟩ := nm_s h
        refine nmI ev6_18 ?_
        refine lv_istore hx hb dX12_shared_137 hl (Nat.le_of_ble_eq_true rfl) (lv' := [(6, .int v6_18), (0, .long v0), (2, .long v2), (4, .int v4), (5, .int v5), (7, .int v7)]) rfl (fun ls hl => ?_)
        exact hJ139 _ _ _ v6_18 v7 (lv_sub hl [1, 2, 3, 4, 0, 5] rfl) hS h
      have hJ117 : ∀ (H : Heap) (locs : List Loc) (ls : Array Slot) (v7 : Int32) (v8 : Int32) (v9 : Int32) (t0 : Int32) (t1 : Int32), lv_has ls 10 [(0, .long v0), (2, .long v2), (4, .int v4), (5, .int v5), (7, .int v7), (8, .int v8), (9, .int v9)] → va_S NoA s.heap H locs → mo_shared_J117 k6 v0 v2 v4 v5 v7 v8 v9 t0 t1 = some r → W p l e (rmm 2 45) s m av below meth c H locs 0 0 (MQ below (Qi r) av s 0 0 NoA) (F0 m 117 ls [.int t1, .int t0]) := by
        intro H locs ls v7 v8 v9 t0 t1 hl hS h
        rw [mo_shared_J117] at h
        refine lv_iadd hx hb dX12_shared_117 ?_
        refine lv_lload_n hx hb dX12_shared_118 rfl (lv_at hl 0 rfl) ?_
        refine lv_iload hx hb dX12_shared_119 (lv_at hl 5 rfl) ?_
        refine lv_iload hx hb dX12_shared_121 (lv_at hl 6 rfl) ?_
        refine lv_iconst (v := 1) hx hb dX12_shared_123 ki_1 ?_
        refine lv_isub hx hb dX12_shared_124 ?_
        obtain ⟨r_19, hr_20, h⟩ := bd1_s h
        refine sc_i hx hb hml hown hw hN (c_mo_isCell l v0 v8 (v9 - 1) r_19 hr_20) g_RX12_142 hd_X12_isCell (rest := [.int (t0 + t1)]) hl.1 hS dX12_shared_125 rfl rfl ⟨Nat.le_of_ble_eq_true rfl, Nat.le_of_ble_eq_true rfl⟩ rfl rfl (Nat.le_of_ble_eq_true rfl) ⟨Nat.zero_le _, Nat.zero_le _⟩ (fun H locs hk hS => ?_)
        refine lv_if_eq hx hb dX12_shared_128 (tgt := 135) rfl (fun hc => ?_) (fun hc => ?_)
        · replace h := ifp h hc
          refine lv_iconst (v := 0) hx hb dX12_shared_135 ki_0 ?_
          exact hJ136 _ _ _ v7 (t0 + t1) 0 (lv_sub hl [0, 1, 2, 3, 4] rfl) hS h
        · replace h := ifn h hc
          refine lv_iconst (v := 1) hx hb dX12_shared_131 ki_1 ?_
          refine lv_goto hx hb dX12_shared_132 (tgt := 136) rfl ?_
          exact hJ136 _ _ _ v7 (t0 + t1) 1 (lv_sub hl [0, 1, 2, 3, 4] rfl) hS h
      have hJ98 : ∀ (H : Heap) (locs : List Loc) (ls : Array Slot) (v7 : Int32) (v8 : Int32) (v9 : Int32) (t0 : Int32) (t1 : Int32), lv_has ls 10 [(0, .long v0), (2, .long v2), (4, .int v4), (5, .int v5), (7, .int v7), (8, .int v8), (9, .int v9)] → va_S NoA s.heap H locs → mo_shared_J98 k6 v0 v2 v4 v5 v7 v8 v9 t0 t1 = some r → W p l e (rmm 2 45) s m av below meth c H locs 0 0 (MQ below (Qi r) av s 0 0 NoA) (F0 m 98 ls [.int t1, .int t0]) := by
        intro H locs ls v7 v8 v9 t0 t1 hl hS h
        rw [mo_shared_J98] at h
        refine lv_iadd hx hb dX12_shared_98 ?_
        refine lv_lload_n hx hb dX12_shared_99 rfl (lv_at hl 0 rfl) ?_
        refine lv_iload hx hb dX12_shared_100 (lv_at hl 5 rfl) ?_
        refine lv_iload hx hb dX12_shared_102 (lv_at hl 6 rfl) ?_
        refine lv_iconst (v := 1) hx hb dX12_shared_104 ki_1 ?_
        refine lv_iadd hx hb dX12_shared_105 ?_
        obtain ⟨r_21, hr_22, h⟩ := bd1_s h
        refine sc_i hx hb hml hown hw hN (c_mo_isCell l v0 v8 (v9 + 1) r_21 hr_22) g_RX12_142 hd_X12_isCell (rest := [.int (t0 + t1)]) hl.1 hS dX12_shared_106 rfl rfl ⟨Nat.le_of_ble_eq_true rfl, Nat.le_of_ble_eq_true rfl⟩ rfl rfl (Nat.le_of_ble_eq_true rfl) ⟨Nat.zero_le _, Nat.zero_le _⟩ (fun H locs hk hS => ?_)
        refine lv_if_eq hx hb dX12_shared_109 (tgt := 116) rfl (fun hc => ?_) (fun hc => ?_)
        · replace h := ifp h hc
          refine lv_iconst (v := 0) hx hb dX12_shared_116 ki_0 ?_
          exact hJ117 _ _ _ v7 v8 v9 (t0 + t1) 0 (lv_sub hl [0, 1, 2, 3, 4, 5, 6] rfl) hS h
        · replace h := ifn h hc
          refine lv_iconst (v := 1) hx hb dX12_shared_112 ki_1 ?_
          refine lv_goto hx hb dX12_shared_113 (tgt := 117) rfl ?_
          exact hJ117 _ _ _ v7 v8 v9 (t0 + t1) 1 (lv_sub hl [0, 1, 2, 3, 4, 5, 6] rfl) hS h
      have hJ79 : ∀ (H : Heap) (locs : List Loc) (ls : Array Slot) (v7 : Int32) (v8 : Int32) (v9 : Int32) (t0 : Int32) (t1 : Int32), lv_has ls 10 [(0, .long v0), (2, .long v2), (4, .int v4), (5, .int v5), (7, .int v7), (8, .int v8), (9, .int v9)] → va_S NoA s.heap H locs → mo_shared_J79 k6 v0 v2 v4 v5 v7 v8 v9 t0 t1 = some r → W p l e (rmm 2 45) s m av below meth c H locs 0 0 (MQ below (Qi r) av s 0 0 NoA) (F0 m 79 ls [.int t1, .int t0]) := by
        intro H locs ls v7 v8 v9 t0 t1 hl hS h
        rw [mo_shared_J79] at h
        refine lv_iadd hx hb dX12_shared_79 ?_
        refine lv_lload_n hx hb dX12_shared_80 rfl (lv_at hl 0 rfl) ?_
        refine lv_iload hx hb dX12_shared_81 (lv_at hl 5 rfl) ?_
        refine lv_iconst (v := 1) hx hb dX12_shared_83 ki_1 ?_
        refine lv_isub hx hb dX12_shared_84 ?_
        refine lv_iload hx hb dX12_shared_85 (lv_at hl 6 rfl) ?_
        obtain ⟨r_23, hr_24, h⟩ := bd1_s h
        refine sc_i hx hb hml hown hw hN (c_mo_isCell l v0 (v8 - 1) v9 r_23 hr_24) g_RX12_142 hd_X12_isCell (rest := [.int (t0 + t1)]) hl.1 hS dX12_shared_87 rfl rfl ⟨Nat.le_of_ble_eq_true rfl, Nat.le_of_ble_eq_true rfl⟩ rfl rfl (Nat.le_of_ble_eq_true rfl) ⟨Nat.zero_le _, Nat.zero_le _⟩ (fun H locs hk hS => ?_)
        refine lv_if_eq hx hb dX12_shared_90 (tgt := 97) rfl (fun hc => ?_) (fun hc => ?_)
        · replace h := ifp h hc
          refine lv_iconst (v := 0) hx hb dX12_shared_97 ki_0 ?_
          exact hJ98 _ _ _ v7 v8 v9 (t0 + t1) 0 (lv_sub hl [0, 1, 2, 3, 4, 5, 6] rfl) hS h
        · replace h := ifn h hc
          refine lv_iconst (v := 1) hx hb dX12_shared_93 ki_1 ?_
          refine lv_goto hx hb dX12_shared_94 (tgt := 98) rfl ?_
          exact hJ98 _ _ _ v7 v8 v9 (t0 + t1) 1 (lv_sub hl [0, 1, 2, 3, 4, 5, 6] rfl) hS h
      rw [mo_shared_B6] at h
      refine lv_iload hx hb dX12_shared_6 (lv_at hl 5 rfl) ?_
      refine lv_bipush (v := 64) hx hb dX12_shared_8 kb_64 ?_
      refine lv_icmp_ge hx hb dX12_shared_10 (tgt := 145) rfl (fun hc => ?_) (fun hc => ?_)
      · replace h := ifp h hc
        refine lv_iload hx hb dX12_shared_145 (lv_at hl 4 rfl) ?_
        exact rt_i hx hb hr hlocks hS dX12_shared_147 h
      · replace h := ifn h hc
        refine lv_lload_n hx hb dX12_shared_13 rfl (lv_at hl 1 rfl) ?_
        refine lv_iload hx hb dX12_shared_14 (lv_at hl 5 rfl) ?_
        obtain ⟨r_25, hr_26, h⟩ := bd1_s h
        refine sc_i hx hb hml hown hw hN (c_mo_has l v2 v7 r_25 hr_26) g_RX12_86 hd_X12_has (rest := []) hl.1 hS dX12_shared_16 rfl rfl ⟨Nat.le_of_ble_eq_true rfl, Nat.le_of_ble_eq_true rfl⟩ rfl rfl (Nat.le_of_ble_eq_true rfl) ⟨Nat.zero_le _, Nat.zero_le _⟩ (fun H locs hk hS => ?_)
        refine lv_if_ne hx hb dX12_shared_19 (tgt := 25) rfl (fun hc => ?_) (fun hc => ?_)
        · replace h := ifn h hc
          refine lv_iload hx hb dX12_shared_25 (lv_at hl 5 rfl) ?_
          refine lv_bipush (v := 8) hx hb dX12_shared_27 kb_8 ?_
          obtain ⟨hne, h⟩ := dzI_s h
          refine lv_irem hx hb dX12_shared_29 hne ?_
          refine nmI (v := remI v7 8) rfl ?_
          refine lv_iload hx hb dX12_shared_30 (lv_at hl 2 rfl) ?_
          refine lv_iadd hx hb dX12_shared_32 ?_
          obtain ⟨v8_27, ev8_27, h⟩ := nm_s h
          refine nmI ev8_27 ?_
          refine lv_istore hx hb dX12_shared_33 hl (Nat.le_of_ble_eq_true rfl) (lv' := [(8, .int v8_27), (0, .long v0), (2, .long v2), (4, .int v4), (5, .int v5), (6, .int v6), (7, .int v7)]) rfl (fun ls hl => ?_)
          refine lv_iload hx hb dX12_shared_35 (lv_at hl 6 rfl) ?_
          refine lv_bipush (v := 8) hx hb dX12_shared_37 kb_8 ?_
          obtain ⟨hne, h⟩ := dzI_s h
          refine lv_idiv hx hb dX12_shared_39 hne ?_
          refine lv_iload hx hb dX12_shared_40 (lv_at hl 4 rfl) ?_
          refine lv_iadd hx hb dX12_shared_42 ?_
          obtain ⟨v9_28, ev9_28, h⟩ := nm_s h
          refine nmI ev9_28 ?_
          refine lv_istore hx hb dX12_shared_43 hl (Nat.le_of_ble_eq_true rfl) (lv' := [(9, .int v9_28), (8, .int v8_27), (0, .long v0), (2, .long v2), (4, .int v4), (5, .int v5), (6, .int v6), (7, .int v7)]) rfl (fun ls hl => ?_)
          refine lv_lload_n hx hb dX12_shared_45 rfl (lv_at hl 2 rfl) ?_
          refine lv_iload hx hb dX12_shared_46 (lv_at hl 1 rfl) ?_
          refine lv_iload hx hb dX12_shared_48 (lv_at hl 0 rfl) ?_
          obtain ⟨r_29, hr_30, h⟩ := bd1_s h
          refine sc_i hx hb hml hown hw hN (c_mo_isCell l v0 v8_27 v9_28 r_29 hr_30) g_RX12_142 hd_X12_isCell (rest := []) hl.1 hS dX12_shared_50 rfl rfl ⟨Nat.le_of_ble_eq_true rfl, Nat.le_of_ble_eq_true rfl⟩ rfl rfl (Nat.le_of_ble_eq_true rfl) ⟨Nat.zero_le _, Nat.zero_le _⟩ (fun H locs hk hS => ?_)
          refine lv_if_eq hx hb dX12_shared_53 (tgt := 59) rfl (fun hc => ?_) (fun hc => ?_)
          · replace h := ifp h hc
            refine lv_iload hx hb dX12_shared_59 (lv_at hl 6 rfl) ?_
            refine lv_lload_n hx hb dX12_shared_61 rfl (lv_at hl 2 rfl) ?_
            refine lv_iload hx hb dX12_shared_62 (lv_at hl 1 rfl) ?_
            refine lv_iconst (v := 1) hx hb dX12_shared_64 ki_1 ?_
            refine lv_iadd hx hb dX12_shared_65 ?_
            refine lv_iload hx hb dX12_shared_66 (lv_at hl 0 rfl) ?_
            obtain ⟨r_31, hr_32, h⟩ := bd1_s h
            refine sc_i hx hb hml hown hw hN (c_mo_isCell l v0 (v8_27 + 1) v9_28 r_31 hr_32) g_RX12_142 hd_X12_isCell (rest := [.int v6]) hl.1 hS dX12_shared_68 rfl rfl ⟨Nat.le_of_ble_eq_true rfl, Nat.le_of_ble_eq_true rfl⟩ rfl rfl (Nat.le_of_ble_eq_true rfl) ⟨Nat.zero_le _, Nat.zero_le _⟩ (fun H locs hk hS => ?_)
            refine lv_if_eq hx hb dX12_shared_71 (tgt := 78) rfl (fun hc => ?_) (fun hc => ?_)
            · replace h := ifp h hc
              refine lv_iconst (v := 0) hx hb dX12_shared_78 ki_0 ?_
              exact hJ79 _ _ _ v7 v8_27 v9_28 v6 0 (lv_sub hl [2, 3, 4, 5, 7, 1, 0] rfl) hS h
            · replace h := ifn h hc
              refine lv_iconst (v := 1) hx hb dX12_shared_74 ki_1 ?_
              refine lv_goto hx hb dX12_shared_75 (tgt := 79) rfl ?_
              exact hJ79 _ _ _ v7 v8_27 v9_28 v6 1 (lv_sub hl [2, 3, 4, 5, 7, 1, 0] rfl) hS h
          · replace h := ifn h hc
            refine lv_bipush (v := (-3)) hx hb dX12_shared_56 kb_m3 ?_
            exact rt_i hx hb hr hlocks hS dX12_shared_58 h
        · replace h := ifp h hc
          refine lv_goto hx hb dX12_shared_22 (tgt := 139) rfl ?_
          exact hJ139 _ _ _ v6 v7 (lv_sub hl [0, 1, 2, 3, 4, 5] rfl) hS h
  refine lv_iconst (v := 0) hx hb dX12_shared_0 ki_0 ?_
  refine lv_istore hx hb dX12_shared_1 hl (Nat.le_of_ble_eq_true rfl) (lv' := [(6, .int 0), (0, .long v0), (2, .long v2), (4, .int v4), (5, .int v5)]) rfl (fun ls hl => ?_)
  refine lv_iconst (v := 0) hx hb dX12_shared_3 ki_0 ?_
  refine lv_istore hx hb dX12_shared_4 hl (Nat.le_of_ble_eq_true rfl) (lv' := [(7, .int 0), (6, .int 0), (0, .long v0), (2, .long v2), (4, .int v4), (5, .int v5)]) rfl (fun ls hl => ?_)
  exact hL6 v0 v2 v4 v5 FU _ _ _ 0 0 (lv_sub hl [2, 3, 4, 5, 1, 0] rfl) hS h
noncomputable def mo_spans_J9  (v0 : Int32) (v1 : Int32) (v2 : Int32) (t0 : Int32) : Option (Int32) :=
  if (v2 + v1) ≤ v0 then (some (v0 - t0)) else
  nm (v2 + v1 : Int32) fun v4_1 =>
  some (v4_1 - t0)
noncomputable def mo_spans (v0 : Int32) (v1 : Int32) (v2 : Int32) : Option (Int32) :=
  if 0 ≤ v2 then (mo_spans_J9 v0 v1 v2 0) else
  mo_spans_J9 v0 v1 v2 v2
set_option maxHeartbeats 4000000 in
set_option maxRecDepth 100000 in
theorem c_mo_spans (l : Launch) (v0 : Int32) (v1 : Int32) (v2 : Int32) (r : Int32) (h : mo_spans v0 v1 v2 = some r) : Met l yX12_spans (wm yX12_spans cX12_spans 5 (some .int)) (rmm 0 0) (va_Pc [.int v0, .int v1, .int v2] NW) (Qi r) 0 0 NoA := by
  refine met_s (y := yX12_spans) (rm := rmm 0 0) (by decide) (Nat.le_of_ble_eq_true rfl) ?_
  intro p e s m below meth c hx hb hr hw hown hlocks _ hml hN ls hl
  replace hl : lv_has ls 5 [(0, .int v0), (1, .int v1), (2, .int v2)] := hl
  have hS : va_S NoA s.heap s.heap [] := va_S.rf
  generalize (([.int v0, .int v1, .int v2] : List Value).toArray) = av at hw ⊢
  rw [mo_spans] at h
  have hJ9 : ∀ (H : Heap) (locs : List Loc) (ls : Array Slot) (v0 : Int32) (v1 : Int32) (v2 : Int32) (t0 : Int32), lv_has ls 5 [(0, .int v0), (1, .int v1), (2, .int v2)] → va_S NoA s.heap H locs → mo_spans_J9 v0 v1 v2 t0 = some r → W p l e (rmm 0 0) s m av below meth c H locs 0 0 (MQ below (Qi r) av s 0 0 NoA) (F0 m 9 ls [.int t0]) := by
    intro H locs ls v0 v1 v2 t0 hl hS h
    rw [mo_spans_J9] at h
    refine lv_istore_n hx hb dX12_spans_9 rfl hl (Nat.le_of_ble_eq_true rfl) (lv' := [(3, .int t0), (0, .int v0), (1, .int v1), (2, .int v2)]) rfl (fun ls hl => ?_)
    refine lv_iload_n hx hb dX12_spans_10 rfl (lv_at hl 3 rfl) ?_
    refine lv_iload_n hx hb dX12_spans_11 rfl (lv_at hl 2 rfl) ?_
    refine lv_iadd hx hb dX12_spans_12 ?_
    refine lv_iload_n hx hb dX12_spans_13 rfl (lv_at hl 1 rfl) ?_
    refine lv_icmp_le hx hb dX12_spans_14 (tgt := 23) rfl (fun hc => ?_) (fun hc => ?_)
    · replace h := ifp h hc
      refine lv_iload_n hx hb dX12_spans_23 rfl (lv_at hl 1 rfl) ?_
      refine lv_istore hx hb dX12_spans_24 hl (Nat.le_of_ble_eq_true rfl) (lv' := [(4, .int v0), (3, .int t0), (0, .int v0), (1, .int v1), (2, .int v2)]) rfl (fun ls hl => ?_)
      refine lv_iload hx hb dX12_spans_26 (lv_at hl 0 rfl) ?_
      refine lv_iload_n hx hb dX12_spans_28 rfl (lv_at hl 1 rfl) ?_
      refine lv_isub hx hb dX12_spans_29 ?_
      exact rt_i hx hb hr hlocks hS dX12_spans_30 h
    · replace h := ifn h hc
      refine lv_iload_n hx hb dX12_spans_17 rfl (lv_at hl 3 rfl) ?_
      refine lv_iload_n hx hb dX12_spans_18 rfl (lv_at hl 2 rfl) ?_
      refine lv_iadd hx hb dX12_spans_19 ?_
      refine lv_goto hx hb dX12_spans_20 (tgt := 24) rfl ?_
      obtain ⟨v4_2, ev4_2, h⟩ := nm_s h
      refine nmI ev4_2 ?_
      refine lv_istore hx hb dX12_spans_24 hl (Nat.le_of_ble_eq_true rfl) (lv' := [(4, .int v4_2), (3, .int t0), (0, .int v0), (1, .int v1), (2, .int v2)]) rfl (fun ls hl => ?_)
      refine lv_iload hx hb dX12_spans_26 (lv_at hl 0 rfl) ?_
      refine lv_iload_n hx hb dX12_spans_28 rfl (lv_at hl 1 rfl) ?_
      refine lv_isub hx hb dX12_spans_29 ?_
      exact rt_i hx hb hr hlocks hS dX12_spans_30 h
  refine lv_iload_n hx hb dX12_spans_0 rfl (lv_at hl 2 rfl) ?_
  refine lv_if_ge hx hb dX12_spans_1 (tgt := 8) rfl (fun hc => ?_) (fun hc => ?_)
  · replace h := ifp h hc
    refine lv_iconst (v := 0) hx hb dX12_spans_8 ki_0 ?_
    exact hJ9 _ _ _ v0 v1 v2 0 (lv_sub hl [0, 1, 2] rfl) hS h
  · replace h := ifn h hc
    refine lv_iload_n hx hb dX12_spans_4 rfl (lv_at hl 2 rfl) ?_
    refine lv_goto hx hb dX12_spans_5 (tgt := 9) rfl ?_
    exact hJ9 _ _ _ v0 v1 v2 v2 (lv_sub hl [0, 1, 2] rfl) hS h
