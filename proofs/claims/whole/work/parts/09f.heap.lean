noncomputable def mo_unlike_J42 (k4 : Int32 → Int32 → Option (Int64)) (y_cells : Int32) (a_cellAt : Nat → Int32) (v2 : Int32) (t0 : Int32) (t1 : Int32) : Option (Int64) :=
  nm (t0 + t1 : Int32) fun v1_1 =>
  nm (v2 + Int32.ofInt 1) fun v2_2 =>
  k4 v1_1 v2_2
noncomputable def mo_unlike_B4 (y_cells : Int32) (a_cellAt : Nat → Int32)  (k4 : Int32 → Int32 → Option (Int64)) (v1 : Int32) (v2 : Int32) : Option (Int64) :=
  if y_cells ≤ v2 then (if 0 ≤ v1 then (some (v1.toInt64)) else
  some ((-v1).toInt64)) else
  ck v2 12 <|
  dzI 8 <|
  ck v2 12 <|
  dzI 8 <|
  dzI 2 <|
  if (remI ((remI (a_cellAt v2.toNatClampNeg) 8) + ((a_cellAt v2.toNatClampNeg) / 8)) 2) = 0 then (mo_unlike_J42 k4 y_cells a_cellAt v2 v1 1) else
  mo_unlike_J42 k4 y_cells a_cellAt v2 v1 (-1)
noncomputable def mo_unlike (y_cells : Int32) (a_cellAt : Nat → Int32) : Option (Int64) :=
  fl2 (mo_unlike_B4 y_cells a_cellAt) FU 0 0
set_option maxHeartbeats 4000000 in
set_option maxRecDepth 100000 in
theorem c_mo_unlike (l : Launch) (D : va_G) (ct : Nat → ClassId) (ad : Nat → Nat) (hI : mI ad) {y_km y_tp y_goes y_kin y_qd y_sides y_cuts y_flat y_cp y_cA y_cB y_1X y_1Y y_2X y_2Y y_tm y_cells : Int32} {a_mtape a_flood a_going a_field a_from a_mcrowds a_steps a_queue a_letter a_lineX a_lineY a_triedAt a_cellAt a_besideIn a_apart : Nat → Int32} {a_drawer a_mkept a_listed a_mkin a_tried a_takenAt a_waysOf : Nat → Int64}  (r : Int64)  (h : mo_unlike y_cells a_cellAt = some (r)) : Met l yX12_unlike (wm yX12_unlike cX12_unlike 3 (some .long)) (rmm 0 0) (va_Pc [.ref (ad 0)] (mB D ct ad y_km y_tp y_goes y_kin y_qd y_sides y_cuts y_flat y_cp y_cA y_cB y_1X y_1Y y_2X y_2Y y_tm y_cells a_mtape a_flood a_going a_field a_from a_mcrowds a_steps a_queue a_letter a_lineX a_lineY a_triedAt a_cellAt a_besideIn a_apart a_drawer a_mkept a_listed a_mkin a_tried a_takenAt a_waysOf)) (va_Ql (fun z (_ : Unit) => z = r) (fun _ t => mP D ct ad y_km y_tp y_goes y_kin y_qd y_sides y_cuts y_flat y_cp y_cA y_cB y_1X y_1Y y_2X y_2Y y_tm y_cells a_mtape a_flood a_going a_field a_from a_mcrowds a_steps a_queue a_letter a_lineX a_lineY a_triedAt a_cellAt a_besideIn a_apart a_drawer a_mkept a_listed a_mkin a_tried a_takenAt a_waysOf t.heap) (mA ad)) 0 0 (mA ad) := by
  refine met_s (y := yX12_unlike) (rm := rmm 0 0) (by decide) (Nat.le_of_ble_eq_true rfl) ?_
  intro p e s m below meth c hx hb hr hw hown hlocks _ hml hB ls hl
  obtain ⟨hN, hK, hP⟩ := hB
  replace hl : lv_has ls 3 [(0, .ref (ad 0))] := hl
  have hS : va_S (mA ad) s.heap s.heap [] := va_S.rf
  generalize (([.ref (ad 0)] : List Value).toArray) = av at hw ⊢
  rw [mo_unlike] at h
  have hL4 : ∀ (y_cells : Int32), ∀ (a_cellAt : Nat → Int32), ∀ (n4 : Nat) (H : Heap) (locs : List Loc) (ls : Array Slot) (v1 : Int32) (v2 : Int32), lv_has ls 3 [(0, .ref (ad 0)), (1, .int v1), (2, .int v2)] → mP D ct ad y_km y_tp y_goes y_kin y_qd y_sides y_cuts y_flat y_cp y_cA y_cB y_1X y_1Y y_2X y_2Y y_tm y_cells a_mtape a_flood a_going a_field a_from a_mcrowds a_steps a_queue a_letter a_lineX a_lineY a_triedAt a_cellAt a_besideIn a_apart a_drawer a_mkept a_listed a_mkin a_tried a_takenAt a_waysOf H → va_S (mA ad) s.heap H locs → fl2 (mo_unlike_B4 y_cells a_cellAt) n4 v1 v2 = some (r) → W p l e (rmm 0 0) s m av below meth c H locs 0 0 (MQ below (va_Ql (fun z (_ : Unit) => z = r) (fun _ t => mP D ct ad y_km y_tp y_goes y_kin y_qd y_sides y_cuts y_flat y_cp y_cA y_cB y_1X y_1Y y_2X y_2Y y_tm y_cells a_mtape a_flood a_going a_field a_from a_mcrowds a_steps a_queue a_letter a_lineX a_lineY a_triedAt a_cellAt a_besideIn a_apart a_drawer a_mkept a_listed a_mkin a_tried a_takenAt a_waysOf t.heap) (mA ad)) av s 0 0 (mA ad)) (F0 m 4 ls []) := by
    intro y_cells a_cellAt n4
    induction n4 with
    | zero => intro H locs ls v1 v2 hl hP hS h; cases h
    | succ n4 ih4 =>
      intro H locs ls v1 v2 hl hP hS h
      replace h : mo_unlike_B4 y_cells a_cellAt (fl2 (mo_unlike_B4 y_cells a_cellAt) n4) v1 v2 = some (r) := h
      generalize fl2 (mo_unlike_B4 y_cells a_cellAt) n4 = k4 at h ih4
      have hJ42 : ∀ (H : Heap) (locs : List Loc) (ls : Array Slot) (v2 : Int32) (t0 : Int32) (t1 : Int32), lv_has ls 3 [(0, .ref (ad 0)), (2, .int v2)] → mP D ct ad y_km y_tp y_goes y_kin y_qd y_sides y_cuts y_flat y_cp y_cA y_cB y_1X y_1Y y_2X y_2Y y_tm y_cells a_mtape a_flood a_going a_field a_from a_mcrowds a_steps a_queue a_letter a_lineX a_lineY a_triedAt a_cellAt a_besideIn a_apart a_drawer a_mkept a_listed a_mkin a_tried a_takenAt a_waysOf H → va_S (mA ad) s.heap H locs → mo_unlike_J42 k4 y_cells a_cellAt v2 t0 t1 = some (r) → W p l e (rmm 0 0) s m av below meth c H locs 0 0 (MQ below (va_Ql (fun z (_ : Unit) => z = r) (fun _ t => mP D ct ad y_km y_tp y_goes y_kin y_qd y_sides y_cuts y_flat y_cp y_cA y_cB y_1X y_1Y y_2X y_2Y y_tm y_cells a_mtape a_flood a_going a_field a_from a_mcrowds a_steps a_queue a_letter a_lineX a_lineY a_triedAt a_cellAt a_besideIn a_apart a_drawer a_mkept a_listed a_mkin a_tried a_takenAt a_waysOf t.heap) (mA ad)) av s 0 0 (mA ad)) (F0 m 42 ls [.int t1, .int t0]) := by
        intro H locs ls v2 t0 t1 hl hP hS h
        rw [mo_unlike_J42] at h
        refine lv_iadd hx hb dX12_unlike_42 ?_
        obtain ⟨v1_3, ev1_3, h⟩ := nm_s h
        refine nmI ev1_3 ?_
        refine lv_istore_n hx hb dX12_unlike_43 rfl hl (Nat.le_of_ble_eq_true rfl) (lv' := [(1, .int v1_3), (0, .ref (ad 0)), (2, .int v2)]) rfl (fun ls hl => ?_)
        obtain ⟨v2_4, ev2_4, h⟩ := nm_s h
        refine lv_iinc hx hb dX12_unlike_44 hl (k := 2) rfl ev2_4.symm (Nat.le_of_ble_eq_true rfl) (lv' := [(2, .int v2_4), (1, .int v1_3), (0, .ref (ad 0))]) rfl (fun ls hl => ?_)
        refine lv_goto hx hb dX12_unlike_47 (tgt := 4) rfl ?_
        exact ih4 _ _ _ v1_3 v2_4 (lv_sub hl [2, 1, 0] rfl) hP hS h
      rw [mo_unlike_B4] at h
      refine lv_iload_n hx hb dX12_unlike_4 rfl (lv_at hl 2 rfl) ?_
      refine lv_aload_n hx hb dX12_unlike_5 rfl (lv_at hl 0 rfl) ?_
      refine mg_MO_38 hx hb hw hown hK hP dX12_unlike_6 ?_
      refine lv_icmp_ge hx hb dX12_unlike_9 (tgt := 50) rfl (fun hc => ?_) (fun hc => ?_)
      · replace h := ifp h hc
        refine lv_iload_n hx hb dX12_unlike_50 rfl (lv_at hl 1 rfl) ?_
        refine lv_if_ge hx hb dX12_unlike_51 (tgt := 60) rfl (fun hc => ?_) (fun hc => ?_)
        · replace h := ifp h hc
          refine lv_iload_n hx hb dX12_unlike_60 rfl (lv_at hl 1 rfl) ?_
          refine lv_i2l hx hb (v := v1.toInt64) dX12_unlike_61 rfl ?_
          replace h := Option.some.inj h
          subst h
          exact rc_l hx hb hr hlocks hS dX12_unlike_62 rfl hP
        · replace h := ifn h hc
          refine lv_iload_n hx hb dX12_unlike_54 rfl (lv_at hl 1 rfl) ?_
          refine lv_ineg hx hb dX12_unlike_55 ?_
          refine lv_i2l hx hb (v := (-v1).toInt64) dX12_unlike_56 rfl ?_
          refine lv_goto hx hb dX12_unlike_57 (tgt := 62) rfl ?_
          replace h := Option.some.inj h
          subst h
          exact rc_l hx hb hr hlocks hS dX12_unlike_62 rfl hP
      · replace h := ifn h hc
        refine lv_iload_n hx hb dX12_unlike_12 rfl (lv_at hl 1 rfl) ?_
        refine lv_aload_n hx hb dX12_unlike_13 rfl (lv_at hl 0 rfl) ?_
        refine mg_MO_34 hx hb hw hown hK hP dX12_unlike_14 ?_
        refine lv_iload_n hx hb dX12_unlike_17 rfl (lv_at hl 2 rfl) ?_
        obtain ⟨hin, h⟩ := ck_s h
        refine md_cellAt hx hb hK hP hin dX12_unlike_18 ?_
        refine lv_bipush (v := 8) hx hb dX12_unlike_19 kb_8 ?_
        obtain ⟨hne, h⟩ := dzI_s h
        refine lv_irem hx hb dX12_unlike_21 hne ?_
        refine nmI (v := remI (a_cellAt v2.toNatClampNeg) 8) rfl ?_
        refine lv_aload_n hx hb dX12_unlike_22 rfl (lv_at hl 0 rfl) ?_
        refine mg_MO_34 hx hb hw hown hK hP dX12_unlike_23 ?_
        refine lv_iload_n hx hb dX12_unlike_26 rfl (lv_at hl 2 rfl) ?_
        obtain ⟨hin, h⟩ := ck_s h
        refine md_cellAt hx hb hK hP hin dX12_unlike_27 ?_
        refine lv_bipush (v := 8) hx hb dX12_unlike_28 kb_8 ?_
        obtain ⟨hne, h⟩ := dzI_s h
        refine lv_idiv hx hb dX12_unlike_30 hne ?_
        refine lv_iadd hx hb dX12_unlike_31 ?_
        refine lv_iconst (v := 2) hx hb dX12_unlike_32 ki_2 ?_
        obtain ⟨hne, h⟩ := dzI_s h
        refine lv_irem hx hb dX12_unlike_33 hne ?_
        refine nmI (v := remI ((remI (a_cellAt v2.toNatClampNeg) 8) + ((a_cellAt v2.toNatClampNeg) / 8)) 2) rfl ?_
        refine lv_if_ne hx hb dX12_unlike_34 (tgt := 41) rfl (fun hc => ?_) (fun hc => ?_)
        · replace h := ifn h hc
          refine lv_iconst (v := (-1)) hx hb dX12_unlike_41 ki_m1 ?_
          exact hJ42 _ _ _ v2 v1 (-1) (lv_sub hl [0, 2] rfl) hP hS h
        · replace h := ifp h hc
          refine lv_iconst (v := 1) hx hb dX12_unlike_37 ki_1 ?_
          refine lv_goto hx hb dX12_unlike_38 (tgt := 42) rfl ?_
          exact hJ42 _ _ _ v2 v1 1 (lv_sub hl [0, 2] rfl) hP hS h
  refine lv_iconst (v := 0) hx hb dX12_unlike_0 ki_0 ?_
  refine lv_istore_n hx hb dX12_unlike_1 rfl hl (Nat.le_of_ble_eq_true rfl) (lv' := [(1, .int 0), (0, .ref (ad 0))]) rfl (fun ls hl => ?_)
  refine lv_iconst (v := 0) hx hb dX12_unlike_2 ki_0 ?_
  refine lv_istore_n hx hb dX12_unlike_3 rfl hl (Nat.le_of_ble_eq_true rfl) (lv' := [(2, .int 0), (1, .int 0), (0, .ref (ad 0))]) rfl (fun ls hl => ?_)
  exact hL4 y_cells a_cellAt FU _ _ _ 0 0 (lv_sub hl [2, 1, 0] rfl) hP hS h
noncomputable def mo_part_J98  (a_drawer : Nat → Int64) (v2 : Int32) (y_cells : Int32) (a_cellAt : Nat → Int32) (a_besideIn : Nat → Int32) (a_apart : Nat → Int32) (a_waysOf : Nat → Int64)  : Option (Int64 × Int32 × (Nat → Int32) × (Nat → Int32) × (Nat → Int32) × (Nat → Int64)) :=
  bd1 (mo_halved (v2 - 2) y_cells a_cellAt) fun r_1 =>
  some (r_1, y_cells, a_cellAt, a_besideIn, a_apart, a_waysOf)
noncomputable def mo_part (v1 : Int32) (v2 : Int32) (y_cells : Int32) (a_drawer : Nat → Int64) (a_cellAt : Nat → Int32) (a_besideIn : Nat → Int32) (a_apart : Nat → Int32) (a_waysOf : Nat → Int64) : Option (Int64 × Int32 × (Nat → Int32) × (Nat → Int32) × (Nat → Int32) × (Nat → Int64)) :=
  bd1 (mo_isDrawer v1) fun r_3 =>
  if r_3 = 0 then (some (((-1) : Int64), y_cells, a_cellAt, a_besideIn, a_apart, a_waysOf)) else
  bd1 (mo_in v2 0 7) fun r_5 =>
  if r_5 = 0 then (some (((-1) : Int64), y_cells, a_cellAt, a_besideIn, a_apart, a_waysOf)) else
  ck v1 8 <|
  if (a_drawer v1.toNatClampNeg) = 0 then (some (((-2) : Int64), y_cells, a_cellAt, a_besideIn, a_apart, a_waysOf)) else
  ck v1 8 <|
  bd3 (mo_laysCells (a_drawer v1.toNatClampNeg) y_cells a_cellAt a_besideIn) fun y_cells_7 a_cellAt_8 a_besideIn_9 =>
  if v2 = 0 then (bd2 (mo_orders y_cells_7 a_besideIn_9 a_waysOf) fun r_11 a_waysOf_12 =>
  some (r_11, y_cells_7, a_cellAt_8, a_besideIn_9, a_apart, a_waysOf_12)) else
  if v2 = 1 then (bd2 (mo_paired y_cells_7 a_besideIn_9 a_waysOf) fun r_14 a_waysOf_15 =>
  some (r_14, y_cells_7, a_cellAt_8, a_besideIn_9, a_apart, a_waysOf_15)) else
  if v2 = 2 then (mo_part_J98 a_drawer v2 y_cells_7 a_cellAt_8 a_besideIn_9 a_apart a_waysOf) else
  if v2 = 3 then (mo_part_J98 a_drawer v2 y_cells_7 a_cellAt_8 a_besideIn_9 a_apart a_waysOf) else
  if v2 = 4 then (mo_part_J98 a_drawer v2 y_cells_7 a_cellAt_8 a_besideIn_9 a_apart a_waysOf) else
  if v2 = 5 then (bd1 (mo_across y_cells_7 a_besideIn_9) fun r_17 =>
  some (r_17, y_cells_7, a_cellAt_8, a_besideIn_9, a_apart, a_waysOf)) else
  if v2 = 6 then (bd2 (mo_trees y_cells_7 a_besideIn_9 a_apart) fun r_19 a_apart_20 =>
  some (r_19, y_cells_7, a_cellAt_8, a_besideIn_9, a_apart_20, a_waysOf)) else
  bd1 (mo_unlike y_cells_7 a_cellAt_8) fun r_22 =>
  some (r_22, y_cells_7, a_cellAt_8, a_besideIn_9, a_apart, a_waysOf)
set_option maxHeartbeats 4000000 in
set_option maxRecDepth 100000 in
theorem c_mo_part (l : Launch) (D : va_G) (ct : Nat → ClassId) (ad : Nat → Nat) (hI : mI ad) {y_km y_tp y_goes y_kin y_qd y_sides y_cuts y_flat y_cp y_cA y_cB y_1X y_1Y y_2X y_2Y y_tm y_cells : Int32} {a_mtape a_flood a_going a_field a_from a_mcrowds a_steps a_queue a_letter a_lineX a_lineY a_triedAt a_cellAt a_besideIn a_apart : Nat → Int32} {a_drawer a_mkept a_listed a_mkin a_tried a_takenAt a_waysOf : Nat → Int64} (v1 : Int32) (v2 : Int32) (r : Int64) (z_y_cells : Int32) (z_a_cellAt : Nat → Int32) (z_a_besideIn : Nat → Int32) (z_a_apart : Nat → Int32) (z_a_waysOf : Nat → Int64) (h : mo_part v1 v2 y_cells a_drawer a_cellAt a_besideIn a_apart a_waysOf = some (r, z_y_cells, z_a_cellAt, z_a_besideIn, z_a_apart, z_a_waysOf)) : Met l yX12_part (wm yX12_part cX12_part 3 (some .long)) (rmm 4 103) (va_Pc [.ref (ad 0), .int v1, .int v2] (mB D ct ad y_km y_tp y_goes y_kin y_qd y_sides y_cuts y_flat y_cp y_cA y_cB y_1X y_1Y y_2X y_2Y y_tm y_cells a_mtape a_flood a_going a_field a_from a_mcrowds a_steps a_queue a_letter a_lineX a_lineY a_triedAt a_cellAt a_besideIn a_apart a_drawer a_mkept a_listed a_mkin a_tried a_takenAt a_waysOf)) (va_Ql (fun z (_ : Unit) => z = r) (fun _ t => mP D ct ad y_km y_tp y_goes y_kin y_qd y_sides y_cuts y_flat y_cp y_cA y_cB y_1X y_1Y y_2X y_2Y y_tm z_y_cells a_mtape a_flood a_going a_field a_from a_mcrowds a_steps a_queue a_letter a_lineX a_lineY a_triedAt z_a_cellAt z_a_besideIn z_a_apart a_drawer a_mkept a_listed a_mkin a_tried a_takenAt z_a_waysOf t.heap) (mA ad)) 0 0 (mA ad) := by
  refine met_s (y := yX12_part) (rm := rmm 4 103) (by decide) (Nat.le_of_ble_eq_true rfl) ?_
  intro p e s m below meth c hx hb hr hw hown hlocks _ hml hB ls hl
  obtain ⟨hN, hK, hP⟩ := hB
  replace hl : lv_has ls 3 [(0, .ref (ad 0)), (1, .int v1), (2, .int v2)] := hl
  have hS : va_S (mA ad) s.heap s.heap [] := va_S.rf
  generalize (([.ref (ad 0), .int v1, .int v2] : List Value).toArray) = av at hw ⊢
  rw [mo_part] at h
  have hJ98 : ∀ (H : Heap) (locs : List Loc) (ls : Array Slot) (a_drawer : Nat → Int64) (v2 : Int32) (y_cells : Int32) (a_cellAt : Nat → Int32) (a_besideIn : Nat → Int32) (a_apart : Nat → Int32) (a_waysOf : Nat → Int64) , lv_has ls 3 [(0, .ref (ad 0)), (2, .int v2)] → mP D ct ad y_km y_tp y_goes y_kin y_qd y_sides y_cuts y_flat y_cp y_cA y_cB y_1X y_1Y y_2X y_2Y y_tm y_cells a_mtape a_flood a_going a_field a_from a_mcrowds a_steps a_queue a_letter a_lineX a_lineY a_triedAt a_cellAt a_besideIn a_apart a_drawer a_mkept a_listed a_mkin a_tried a_takenAt a_waysOf H → va_S (mA ad) s.heap H locs → mo_part_J98 a_drawer v2 y_cells a_cellAt a_besideIn a_apart a_waysOf = some (r, z_y_cells, z_a_cellAt, z_a_besideIn, z_a_apart, z_a_waysOf) → W p l e (rmm 4 103) s m av below meth c H locs 0 0 (MQ below (va_Ql (fun z (_ : Unit) => z = r) (fun _ t => mP D ct ad y_km y_tp y_goes y_kin y_qd y_sides y_cuts y_flat y_cp y_cA y_cB y_1X y_1Y y_2X y_2Y y_tm z_y_cells a_mtape a_flood a_going a_field a_from a_mcrowds a_steps a_queue a_letter a_lineX a_lineY a_triedAt z_a_cellAt z_a_besideIn z_a_apart a_drawer a_mkept a_listed a_mkin a_tried a_takenAt z_a_waysOf t.heap) (mA ad)) av s 0 0 (mA ad)) (F0 m 98 ls []) := by
    intro H locs ls a_drawer v2 y_cells a_cellAt a_besideIn a_apart a_waysOf  hl hP hS h
    rw [mo_part_J98] at h
    refine lv_aload_n hx hb dX12_part_98 rfl (lv_at hl 0 rfl) ?_
    refine lv_iload_n hx hb dX12_part_99 rfl (lv_at hl 1 rfl) ?_
    refine lv_iconst (v := 2) hx hb dX12_part_100 ki_2 ?_
    refine lv_isub hx hb dX12_part_101 ?_
    obtain ⟨r_24, hr_25, h⟩ := bd1_s h
    refine hv_l hx hb hml hown hw mB_bl (mB_of hN hK hP) (mr_MO hK hP) (c_mo_halved l D ct ad hI (v2 - 2) r_24 hr_25) g_RX12_358 ⟨rfl, hd_X12_halved⟩ (rest := []) hl.1 hS (fun q h => h) dX12_part_102 rfl rfl ⟨Nat.le_of_ble_eq_true rfl, Nat.le_of_ble_eq_true rfl⟩ rfl rfl (Nat.le_of_ble_eq_true rfl) ⟨Nat.zero_le _, Nat.zero_le _⟩ (fun H locs hP _ hS => ?_)
    simp only [Option.some.injEq, Prod.mk.injEq] at h
    obtain ⟨rfl, rfl, rfl, rfl, rfl, rfl⟩ := h
    exact rc_l hx hb hr hlocks hS dX12_part_105 rfl hP
  refine lv_iload_n hx hb dX12_part_0 rfl (lv_at hl 1 rfl) ?_
  obtain ⟨r_26, hr_27, h⟩ := bd1_s h
  refine sc_i hx hb hml hown hw hN (c_mo_isDrawer l v1 r_26 hr_27) g_RX12_135 hd_X12_isDrawer (rest := []) hl.1 hS dX12_part_1 rfl rfl ⟨Nat.le_of_ble_eq_true rfl, Nat.le_of_ble_eq_true rfl⟩ rfl rfl (Nat.le_of_ble_eq_true rfl) ⟨Nat.zero_le _, Nat.zero_le _⟩ (fun H locs hk hS => ?_)
  have hP := mP_kept hP hk
  refine lv_if_eq hx hb dX12_part_4 (tgt := 17) rfl (fun hc => ?_) (fun hc => ?_)
  · replace h := ifp h hc
    refine lv_ldc2 hx hb hown (hw _ tw_12_20) dX12_part_17 ?_
    simp only [Option.some.injEq, Prod.mk.injEq] at h
    obtain ⟨rfl, rfl, rfl, rfl, rfl, rfl⟩ := h
    exact rc_l hx hb hr hlocks hS dX12_part_20 rfl hP
  · replace h := ifn h hc
    refine lv_iload_n hx hb dX12_part_7 rfl (lv_at hl 2 rfl) ?_
    refine lv_iconst (v := 0) hx hb dX12_part_8 ki_0 ?_
    refine lv_bipush (v := 7) hx hb dX12_part_9 kb_7 ?_
    obtain ⟨r_28, hr_29, h⟩ := bd1_s h
    refine sc_i hx hb hml hown hw hN (c_mo_in l v2 0 7 r_28 hr_29) g_RX12_82 hd_X12_in (rest := []) hl.1 hS dX12_part_11 rfl rfl ⟨Nat.le_of_ble_eq_true rfl, Nat.le_of_ble_eq_true rfl⟩ rfl rfl (Nat.le_of_ble_eq_true rfl) ⟨Nat.zero_le _, Nat.zero_le _⟩ (fun H locs hk hS => ?_)
    have hP := mP_kept hP hk
    refine lv_if_ne hx hb dX12_part_14 (tgt := 21) rfl (fun hc => ?_) (fun hc => ?_)
    · replace h := ifn h hc
      refine lv_aload_n hx hb dX12_part_21 rfl (lv_at hl 0 rfl) ?_
      refine mg_MO_0 hx hb hw hown hK hP dX12_part_22 ?_
      refine lv_iload_n hx hb dX12_part_25 rfl (lv_at hl 1 rfl) ?_
      obtain ⟨hin, h⟩ := ck_s h
      refine md_drawer hx hb hK hP hin dX12_part_26 ?_
      refine lv_lconst (v := 0) hx hb dX12_part_27 kl_0 ?_
      refine W.lcmp hx hb dX12_part_28 ?_
      refine lv_if_ne hx hb dX12_part_29 (tgt := 36) rfl (fun hc => ?_) (fun hc => ?_)
      · replace h := ifn h (fun q => hc ((lg_cmp_eq _ _).mpr q))
        refine lv_aload_n hx hb dX12_part_36 rfl (lv_at hl 0 rfl) ?_
        refine lv_aload_n hx hb dX12_part_37 rfl (lv_at hl 0 rfl) ?_
        refine mg_MO_0 hx hb hw hown hK hP dX12_part_38 ?_
        refine lv_iload_n hx hb dX12_part_41 rfl (lv_at hl 1 rfl) ?_
        obtain ⟨hin, h⟩ := ck_s h
        refine md_drawer hx hb hK hP hin dX12_part_42 ?_
        obtain ⟨y_cells_30, a_cellAt_31, a_besideIn_32, hr_33, h⟩ := bd3_s h
        refine hv_v hx hb hml hown hw mB_bl (mB_of hN hK hP) (mr_MO hK hP) (c_mo_laysCells l D ct ad hI (a_drawer v1.toNatClampNeg) y_cells_30 a_cellAt_31 a_besideIn_32 hr_33) g_RX12_349 ⟨rfl, hd_X12_laysCells⟩ (rest := []) hl.1 hS (fun q h => h) dX12_part_43 rfl rfl ⟨Nat.le_of_ble_eq_true rfl, Nat.le_of_ble_eq_true rfl⟩ rfl rfl (Nat.le_of_ble_eq_true rfl) ⟨Nat.zero_le _, Nat.zero_le _⟩ (fun H locs hP _ hS => ?_)
        refine lv_iload_n hx hb dX12_part_46 rfl (lv_at hl 2 rfl) ?_
        by_cases hc0 : v2 = 0
        · replace h := ifp h hc0
          refine lv_tableIn hx hb dX12_part_47 (by rw [hc0]; decide) (by rw [hc0]; decide) (by rw [hc0]; rfl) (tgt := 88) rfl ?_
          refine lv_aload_n hx hb dX12_part_88 rfl (lv_at hl 0 rfl) ?_
          obtain ⟨r_34, a_waysOf_35, hr_36, h⟩ := bd2_s h
          refine hv_l hx hb hml hown hw mB_bl (mB_of hN hK hP) (mr_MO hK hP) (c_mo_orders l D ct ad hI r_34 a_waysOf_35 hr_36) g_RX12_352 ⟨rfl, hd_X12_orders⟩ (rest := []) hl.1 hS (fun q h => h) dX12_part_89 rfl rfl ⟨Nat.le_of_ble_eq_true rfl, Nat.le_of_ble_eq_true rfl⟩ rfl rfl (Nat.le_of_ble_eq_true rfl) ⟨Nat.zero_le _, Nat.zero_le _⟩ (fun H locs hP _ hS => ?_)
          simp only [Option.some.injEq, Prod.mk.injEq] at h
          obtain ⟨rfl, rfl, rfl, rfl, rfl, rfl⟩ := h
          exact rc_l hx hb hr hlocks hS dX12_part_92 rfl hP
        replace h := ifn h hc0
        by_cases hc1 : v2 = 1
        · replace h := ifp h hc1
          refine lv_tableIn hx hb dX12_part_47 (by rw [hc1]; decide) (by rw [hc1]; decide) (by rw [hc1]; rfl) (tgt := 93) rfl ?_
          refine lv_aload_n hx hb dX12_part_93 rfl (lv_at hl 0 rfl) ?_
          obtain ⟨r_37, a_waysOf_38, hr_39, h⟩ := bd2_s h
          refine hv_l hx hb hml hown hw mB_bl (mB_of hN hK hP) (mr_MO hK hP) (c_mo_paired l D ct ad hI r_37 a_waysOf_38 hr_39) g_RX12_355 ⟨rfl, hd_X12_paired⟩ (rest := []) hl.1 hS (fun q h => h) dX12_part_94 rfl rfl ⟨Nat.le_of_ble_eq_true rfl, Nat.le_of_ble_eq_true rfl⟩ rfl rfl (Nat.le_of_ble_eq_true rfl) ⟨Nat.zero_le _, Nat.zero_le _⟩ (fun H locs hP _ hS => ?_)
          simp only [Option.some.injEq, Prod.mk.injEq] at h
          obtain ⟨rfl, rfl, rfl, rfl, rfl, rfl⟩ := h
          exact rc_l hx hb hr hlocks hS dX12_part_97 rfl hP
        replace h := ifn h hc1
        by_cases hc2 : v2 = 2
        · replace h := ifp h hc2
          refine lv_tableIn hx hb dX12_part_47 (by rw [hc2]; decide) (by rw [hc2]; decide) (by rw [hc2]; rfl) (tgt := 98) rfl ?_
          exact hJ98 _ _ _ a_drawer v2 y_cells_30 a_cellAt_31 a_besideIn_32 a_apart a_waysOf (lv_sub hl [0, 2] rfl) hP hS h
        replace h := ifn h hc2
        by_cases hc3 : v2 = 3
        · replace h := ifp h hc3
          refine lv_tableIn hx hb dX12_part_47 (by rw [hc3]; decide) (by rw [hc3]; decide) (by rw [hc3]; rfl) (tgt := 98) rfl ?_
          exact hJ98 _ _ _ a_drawer v2 y_cells_30 a_cellAt_31 a_besideIn_32 a_apart a_waysOf (lv_sub hl [0, 2] rfl) hP hS h
        replace h := ifn h hc3
        by_cases hc4 : v2 = 4
        · replace h := ifp h hc4
          refine lv_tableIn hx hb dX12_part_47 (by rw [hc4]; decide) (by rw [hc4]; decide) (by rw [hc4]; rfl) (tgt := 98) rfl ?_
          exact hJ98 _ _ _ a_drawer v2 y_cells_30 a_cellAt_31 a_besideIn_32 a_apart a_waysOf (lv_sub hl [0, 2] rfl) hP hS h
        replace h := ifn h hc4
        by_cases hc5 : v2 = 5
        · replace h := ifp h hc5
          refine lv_tableIn hx hb dX12_part_47 (by rw [hc5]; decide) (by rw [hc5]; decide) (by rw [hc5]; rfl) (tgt := 106) rfl ?_
          refine lv_aload_n hx hb dX12_part_106 rfl (lv_at hl 0 rfl) ?_
          obtain ⟨r_40, hr_41, h⟩ := bd1_s h
          refine hv_l hx hb hml hown hw mB_bl (mB_of hN hK hP) (mr_MO hK hP) (c_mo_across l D ct ad hI r_40 hr_41) g_RX12_361 ⟨rfl, hd_X12_across⟩ (rest := []) hl.1 hS (fun q h => h) dX12_part_107 rfl rfl ⟨Nat.le_of_ble_eq_true rfl, Nat.le_of_ble_eq_true rfl⟩ rfl rfl (Nat.le_of_ble_eq_true rfl) ⟨Nat.zero_le _, Nat.zero_le _⟩ (fun H locs hP _ hS => ?_)
          simp only [Option.some.injEq, Prod.mk.injEq] at h
          obtain ⟨rfl, rfl, rfl, rfl, rfl, rfl⟩ := h
          exact rc_l hx hb hr hlocks hS dX12_part_110 rfl hP
        replace h := ifn h hc5
        by_cases hc6 : v2 = 6
        · replace h := ifp h hc6
          refine lv_tableIn hx hb dX12_part_47 (by rw [hc6]; decide) (by rw [hc6]; decide) (by rw [hc6]; rfl) (tgt := 111) rfl ?_
          refine lv_aload_n hx hb dX12_part_111 rfl (lv_at hl 0 rfl) ?_
          obtain ⟨r_42, a_apart_43, hr_44, h⟩ := bd2_s h
          refine hv_l hx hb hml hown hw mB_bl (mB_of hN hK hP) (mr_MO hK hP) (c_mo_trees l D ct ad hI r_42 a_apart_43 hr_44) g_RX12_364 ⟨rfl, hd_X12_trees⟩ (rest := []) hl.1 hS (fun q h => h) dX12_part_112 rfl rfl ⟨Nat.le_of_ble_eq_true rfl, Nat.le_of_ble_eq_true rfl⟩ rfl rfl (Nat.le_of_ble_eq_true rfl) ⟨Nat.zero_le _, Nat.zero_le _⟩ (fun H locs hP _ hS => ?_)
          simp only [Option.some.injEq, Prod.mk.injEq] at h
          obtain ⟨rfl, rfl, rfl, rfl, rfl, rfl⟩ := h
          exact rc_l hx hb hr hlocks hS dX12_part_115 rfl hP
        replace h := ifn h hc6
        have q0 := lv_neT (k := 0) hc0 (a := 0) (by decide)
        have q1 := lv_neT (k := 1) hc1 (a := 1) (by decide)
        have q2 := lv_neT (k := 2) hc2 (a := 2) (by decide)
        have q3 := lv_neT (k := 3) hc3 (a := 3) (by decide)
        have q4 := lv_neT (k := 4) hc4 (a := 4) (by decide)
        have q5 := lv_neT (k := 5) hc5 (a := 5) (by decide)
        have q6 := lv_neT (k := 6) hc6 (a := 6) (by decide)
        refine lv_tableOut hx hb dX12_part_47 (by omega) (tgt := 116) rfl ?_
        refine lv_aload_n hx hb dX12_part_116 rfl (lv_at hl 0 rfl) ?_
        obtain ⟨r_45, hr_46, h⟩ := bd1_s h
        refine hv_l hx hb hml hown hw mB_bl (mB_of hN hK hP) (mr_MO hK hP) (c_mo_unlike l D ct ad hI r_45 hr_46) g_RX12_367 ⟨rfl, hd_X12_unlike⟩ (rest := []) hl.1 hS (fun q h => h) dX12_part_117 rfl rfl ⟨Nat.le_of_ble_eq_true rfl, Nat.le_of_ble_eq_true rfl⟩ rfl rfl (Nat.le_of_ble_eq_true rfl) ⟨Nat.zero_le _, Nat.zero_le _⟩ (fun H locs hP _ hS => ?_)
        simp only [Option.some.injEq, Prod.mk.injEq] at h
        obtain ⟨rfl, rfl, rfl, rfl, rfl, rfl⟩ := h
        exact rc_l hx hb hr hlocks hS dX12_part_120 rfl hP
      · replace h := ifp h ((lg_cmp_eq _ _).mp hc)
        refine lv_ldc2 hx hb hown (hw _ tw_20_10) dX12_part_32 ?_
        simp only [Option.some.injEq, Prod.mk.injEq] at h
        obtain ⟨rfl, rfl, rfl, rfl, rfl, rfl⟩ := h
        exact rc_l hx hb hr hlocks hS dX12_part_35 rfl hP
    · replace h := ifp h hc
      refine lv_ldc2 hx hb hown (hw _ tw_12_20) dX12_part_17 ?_
      simp only [Option.some.injEq, Prod.mk.injEq] at h
      obtain ⟨rfl, rfl, rfl, rfl, rfl, rfl⟩ := h
      exact rc_l hx hb hr hlocks hS dX12_part_20 rfl hP
noncomputable def mo_inside_B103 (v2 : Int32) (y_tm : Int32) (a_drawer : Nat → Int64) (a_tried : Nat → Int64)  (k103 : Int32 → Int32 → Option (Int32 × Int32 × (Nat → Int64))) (v4 : Int32) (v5 : Int32) : Option (Int32 × Int32 × (Nat → Int64)) :=
  if y_tm ≤ v5 then (some (v4, y_tm, a_tried)) else
  ck v5 64 <|
  ck v2 8 <|
  bd1 (mo_liesIn (a_tried v5.toNatClampNeg) (a_drawer v2.toNatClampNeg)) fun r_1 =>
  nm (v4 + r_1 : Int32) fun v4_3 =>
  nm (v5 + Int32.ofInt 1) fun v5_4 =>
  k103 v4_3 v5_4
noncomputable def mo_inside_J61 (k49 : Int32 → Int32 → (Nat → Int64) → Option (Int32 × Int32 × (Nat → Int64))) (a_drawer : Nat → Int64) (v1 : Int32) (v2 : Int32) (v3 : Int32) (v4 : Int32) (y_tm : Int32) (a_tried : Nat → Int64) (t0 : Int32) (t1 : Int32) : Option (Int32 × Int32 × (Nat → Int64)) :=
  if t1 ≤ t0 then (fl2 (mo_inside_B103 v2 y_tm a_drawer a_tried) FU 0 0) else
  ck v1 8 <|
  bd1 (mo_turned (a_drawer v1.toNatClampNeg) v4) fun r_5 =>
  bd2 (mo_comesIn_tried 0 y_tm r_5 a_tried) fun r_7 a_tried_8 =>
  nm (v4 + Int32.ofInt 1) fun v4_10 =>
  k49 v4_10 r_7 a_tried_8
noncomputable def mo_inside_B49 (v1 : Int32) (v2 : Int32) (v3 : Int32) (a_drawer : Nat → Int64)  (k49 : Int32 → Int32 → (Nat → Int64) → Option (Int32 × Int32 × (Nat → Int64))) (v4 : Int32) (y_tm : Int32) (a_tried : Nat → Int64) : Option (Int32 × Int32 × (Nat → Int64)) :=
  if v3 = 0 then (mo_inside_J61 k49 a_drawer v1 v2 v3 v4 y_tm a_tried v4 1) else
  mo_inside_J61 k49 a_drawer v1 v2 v3 v4 y_tm a_tried v4 8
noncomputable def mo_inside (v1 : Int32) (v2 : Int32) (v3 : Int32) (y_tm : Int32) (a_drawer : Nat → Int64) (a_tried : Nat → Int64) : Option (Int32 × Int32 × (Nat → Int64)) :=
  bd1 (mo_isDrawer v1) fun r_11 =>
  if r_11 = 0 then (some ((-1), y_tm, a_tried)) else
  bd1 (mo_isDrawer v2) fun r_13 =>
  if r_13 = 0 then (some ((-1), y_tm, a_tried)) else
  ck v1 8 <|
  if (a_drawer v1.toNatClampNeg) = 0 then (some ((-2), y_tm, a_tried)) else
  ck v2 8 <|
  if (a_drawer v2.toNatClampNeg) = 0 then (some ((-2), y_tm, a_tried)) else
  fl3 (mo_inside_B49 v1 v2 v3 a_drawer) FU 0 0 a_tried
set_option maxHeartbeats 4000000 in
set_option maxRecDepth 100000 in
theorem c_mo_inside (l : Launch) (D : va_G) (ct : Nat → ClassId) (ad : Nat → Nat) (hI : mI ad) {y_km y_tp y_goes y_kin y_qd y_sides y_cuts y_flat y_cp y_cA y_cB y_1X y_1Y y_2X y_2Y y_tm y_cells : Int32} {a_mtape a_flood a_going a_field a_from a_mcrowds a_steps a_queue a_letter a_lineX a_lineY a_triedAt a_cellAt a_besideIn a_apart : Nat → Int32} {a_drawer a_mkept a_listed a_mkin a_tried a_takenAt a_waysOf : Nat → Int64} (v1 : Int32) (v2 : Int32) (v3 : Int32) (r : Int32) (z_y_tm : Int32) (z_a_tried : Nat → Int64) (h : mo_inside v1 v2 v3 y_tm a_drawer a_tried = some (r, z_y_tm, z_a_tried)) : Met l yX12_inside (wm yX12_inside cX12_inside 6 (some .int)) (rmm 3 74) (va_Pc [.ref (ad 0), .int v1, .int v2, .int v3] (mB D ct ad y_km y_tp y_goes y_kin y_qd y_sides y_cuts y_flat y_cp y_cA y_cB y_1X y_1Y y_2X y_2Y y_tm y_cells a_mtape a_flood a_going a_field a_from a_mcrowds a_steps a_queue a_letter a_lineX a_lineY a_triedAt a_cellAt a_besideIn a_apart a_drawer a_mkept a_listed a_mkin a_tried a_takenAt a_waysOf)) (va_Qi (fun z (_ : Unit) => z = r) (fun _ t => mP D ct ad y_km y_tp y_goes y_kin y_qd y_sides y_cuts y_flat y_cp y_cA y_cB y_1X y_1Y y_2X y_2Y z_y_tm y_cells a_mtape a_flood a_going a_field a_from a_mcrowds a_steps a_queue a_letter a_lineX a_lineY a_triedAt a_cellAt a_besideIn a_apart a_drawer a_mkept a_listed a_mkin z_a_tried a_takenAt a_waysOf t.heap) (mA ad)) 0 0 (mA ad) := by
  refine met_s (y := yX12_inside) (rm := rmm 3 74) (by decide) (Nat.le_of_ble_eq_true rfl) ?_
  intro p e s m below meth c hx hb hr hw hown hlocks _ hml hB ls hl
  obtain ⟨hN, hK, hP⟩ := hB
  replace hl : lv_has ls 6 [(0, .ref (ad 0)), (1, .int v1), (2, .int v2), (3, .int v3)] := hl
  have hS : va_S (mA ad) s.heap s.heap [] := va_S.rf
  generalize (([.ref (ad 0), .int v1, .int v2, .int v3] : List Value).toArray) = av at hw ⊢
  rw [mo_inside] at h
  have hL103 : ∀ (v2 : Int32), ∀ (y_tm : Int32), ∀ (a_drawer : Nat → Int64), ∀ (a_tried : Nat → Int64), ∀ (n103 : Nat) (H : Heap) (locs : List Loc) (ls : Array Slot) (v4 : Int32) (v5 : Int32), lv_has ls 6 [(0, .ref (ad 0)), (2, .int v2), (4, .int v4), (5, .int v5)] → mP D ct ad y_km y_tp y_goes y_kin y_qd y_sides y_cuts y_flat y_cp y_cA y_cB y_1X y_1Y y_2X y_2Y y_tm y_cells a_mtape a_flood a_going a_field a_from a_mcrowds a_steps a_queue a_letter a_lineX a_lineY a_triedAt a_cellAt a_besideIn a_apart a_drawer a_mkept a_listed a_mkin a_tried a_takenAt a_waysOf H → va_S (mA ad) s.heap H locs → fl2 (mo_inside_B103 v2 y_tm a_drawer a_tried) n103 v4 v5 = some (r, z_y_tm, z_a_tried) → W p l e (rmm 3 74) s m av below meth c H locs 0 0 (MQ below (va_Qi (fun z (_ : Unit) => z = r) (fun _ t => mP D ct ad y_km y_tp y_goes y_kin y_qd y_sides y_cuts y_flat y_cp y_cA y_cB y_1X y_1Y y_2X y_2Y z_y_tm y_cells a_mtape a_flood a_going a_field a_from a_mcrowds a_steps a_queue a_letter a_lineX a_lineY a_triedAt a_cellAt a_besideIn a_apart a_drawer a_mkept a_listed a_mkin z_a_tried a_takenAt a_waysOf t.heap) (mA ad)) av s 0 0 (mA ad)) (F0 m 103 ls []) := by
    intro v2 y_tm a_drawer a_tried n103
    induction n103 with
    | zero => intro H locs ls v4 v5 hl hP hS h; cases h
    | succ n103 ih103 =>
      intro H locs ls v4 v5 hl hP hS h
      replace h : mo_inside_B103 v2 y_tm a_drawer a_tried (fl2 (mo_inside_B103 v2 y_tm a_drawer a_tried) n103) v4 v5 = some (r, z_y_tm, z_a_tried) := h
      generalize fl2 (mo_inside_B103 v2 y_tm a_drawer a_tried) n103 = k103 at h ih103
      rw [mo_inside_B103] at h
      refine lv_iload hx hb dX12_inside_103 (lv_at hl 3 rfl) ?_
      refine lv_aload_n hx hb dX12_inside_105 rfl (lv_at hl 0 rfl) ?_
      refine mg_MO_33 hx hb hw hown hK hP dX12_inside_106 ?_
      refine lv_icmp_ge hx hb dX12_inside_109 (tgt := 139) rfl (fun hc => ?_) (fun hc => ?_)
      · replace h := ifp h hc
        refine lv_iload hx hb dX12_inside_139 (lv_at hl 2 rfl) ?_
        simp only [Option.some.injEq, Prod.mk.injEq] at h
        obtain ⟨rfl, rfl, rfl⟩ := h
        exact rc_i hx hb hr hlocks hS dX12_inside_141 rfl hP
      · replace h := ifn h hc
        refine lv_iload hx hb dX12_inside_112 (lv_at hl 2 rfl) ?_
        refine lv_aload_n hx hb dX12_inside_114 rfl (lv_at hl 0 rfl) ?_
        refine mg_MO_30 hx hb hw hown hK hP dX12_inside_115 ?_
        refine lv_iload hx hb dX12_inside_118 (lv_at hl 3 rfl) ?_
        obtain ⟨hin, h⟩ := ck_s h
        refine md_tried hx hb hK hP hin dX12_inside_120 ?_
        refine lv_aload_n hx hb dX12_inside_121 rfl (lv_at hl 0 rfl) ?_
        refine mg_MO_0 hx hb hw hown hK hP dX12_inside_122 ?_
        refine lv_iload_n hx hb dX12_inside_125 rfl (lv_at hl 1 rfl) ?_
        obtain ⟨hin, h⟩ := ck_s h
        refine md_drawer hx hb hK hP hin dX12_inside_126 ?_
        obtain ⟨r_15, hr_16, h⟩ := bd1_s h
        refine sc_i hx hb hml hown hw hN (c_mo_liesIn l (a_tried v5.toNatClampNeg) (a_drawer v2.toNatClampNeg) r_15 hr_16) g_RX12_370 hd_X12_liesIn (rest := [.int v4]) hl.1 hS dX12_inside_127 rfl rfl ⟨Nat.le_of_ble_eq_true rfl, Nat.le_of_ble_eq_true rfl⟩ rfl rfl (Nat.le_of_ble_eq_true rfl) ⟨Nat.zero_le _, Nat.zero_le _⟩ (fun H locs hk hS => ?_)
        have hP := mP_kept hP hk
        refine lv_iadd hx hb dX12_inside_130 ?_
        obtain ⟨v4_17, ev4_17, h⟩ := nm_s h
        refine nmI ev4_17 ?_
        refine lv_istore hx hb dX12_inside_131 hl (Nat.le_of_ble_eq_true rfl) (lv' := [(4, .int v4_17), (0, .ref (ad 0)), (2, .int v2), (5, .int v5)]) rfl (fun ls hl => ?_)
        obtain ⟨v5_18, ev5_18, h⟩ := nm_s h
        refine lv_iinc hx hb dX12_inside_133 hl (k := 3) rfl ev5_18.symm (Nat.le_of_ble_eq_true rfl) (lv' := [(5, .int v5_18), (4, .int v4_17), (0, .ref (ad 0)), (2, .int v2)]) rfl (fun ls hl => ?_)
        refine lv_goto hx hb dX12_inside_136 (tgt := 103) rfl ?_
        exact ih103 _ _ _ v4_17 v5_18 (lv_sub hl [2, 3, 1, 0] rfl) hP hS h
  have hL49 : ∀ (v1 : Int32), ∀ (v2 : Int32), ∀ (v3 : Int32), ∀ (a_drawer : Nat → Int64), ∀ (n49 : Nat) (H : Heap) (locs : List Loc) (ls : Array Slot) (v4 : Int32) (y_tm : Int32) (a_tried : Nat → Int64), lv_has ls 6 [(0, .ref (ad 0)), (1, .int v1), (2, .int v2), (3, .int v3), (4, .int v4)] → mP D ct ad y_km y_tp y_goes y_kin y_qd y_sides y_cuts y_flat y_cp y_cA y_cB y_1X y_1Y y_2X y_2Y y_tm y_cells a_mtape a_flood a_going a_field a_from a_mcrowds a_steps a_queue a_letter a_lineX a_lineY a_triedAt a_cellAt a_besideIn a_apart a_drawer a_mkept a_listed a_mkin a_tried a_takenAt a_waysOf H → va_S (mA ad) s.heap H locs → fl3 (mo_inside_B49 v1 v2 v3 a_drawer) n49 v4 y_tm a_tried = some (r, z_y_tm, z_a_tried) → W p l e (rmm 3 74) s m av below meth c H locs 0 0 (MQ below (va_Qi (fun z (_ : Unit) => z = r) (fun _ t => mP D ct ad y_km y_tp y_goes y_kin y_qd y_sides y_cuts y_flat y_cp y_cA y_cB y_1X y_1Y y_2X y_2Y z_y_tm y_cells a_mtape a_flood a_going a_field a_from a_mcrowds a_steps a_queue a_letter a_lineX a_lineY a_triedAt a_cellAt a_besideIn a_apart a_drawer a_mkept a_listed a_mkin z_a_tried a_takenAt a_waysOf t.heap) (mA ad)) av s 0 0 (mA ad)) (F0 m 49 ls []) := by
    intro v1 v2 v3 a_drawer n49
    induction n49 with
    | zero => intro H locs ls v4 y_tm a_tried hl hP hS h; cases h
    | succ n49 ih49 =>
      intro H locs ls v4 y_tm a_tried hl hP hS h
      replace h : mo_inside_B49 v1 v2 v3 a_drawer (fl3 (mo_inside_B49 v1 v2 v3 a_drawer) n49) v4 y_tm a_tried = some (r, z_y_tm, z_a_tried) := h
      generalize fl3 (mo_inside_B49 v1 v2 v3 a_drawer) n49 = k49 at h ih49
      have hJ61 : ∀ (H : Heap) (locs : List Loc) (ls : Array Slot) (v4 : Int32) (y_tm : Int32) (a_tried : Nat → Int64) (t0 : Int32) (t1 : Int32), lv_has ls 6 [(0, .ref (ad 0)), (1, .int v1), (2, .int v2), (3, .int v3), (4, .int v4)] → mP D ct ad y_km y_tp y_goes y_kin y_qd y_sides y_cuts y_flat y_cp y_cA y_cB y_1X y_1Y y_2X y_2Y y_tm y_cells a_mtape a_flood a_going a_field a_from a_mcrowds a_steps a_queue a_letter a_lineX a_lineY a_triedAt a_cellAt a_besideIn a_apart a_drawer a_mkept a_listed a_mkin a_tried a_takenAt a_waysOf H → va_S (mA ad) s.heap H locs → mo_inside_J61 k49 a_drawer v1 v2 v3 v4 y_tm a_tried t0 t1 = some (r, z_y_tm, z_a_tried) → W p l e (rmm 3 74) s m av below meth c H locs 0 0 (MQ below (va_Qi (fun z (_ : Unit) => z = r) (fun _ t => mP D ct ad y_km y_tp y_goes y_kin y_qd y_sides y_cuts y_flat y_cp y_cA y_cB y_1X y_1Y y_2X y_2Y z_y_tm y_cells a_mtape a_flood a_going a_field a_from a_mcrowds a_steps a_queue a_letter a_lineX a_lineY a_triedAt a_cellAt a_besideIn a_apart a_drawer a_mkept a_listed a_mkin z_a_tried a_takenAt a_waysOf t.heap) (mA ad)) av s 0 0 (mA ad)) (F0 m 61 ls [.int t1, .int t0]) := by
        intro H locs ls v4 y_tm a_tried t0 t1 hl hP hS h
        rw [mo_inside_J61] at h
        refine lv_icmp_ge hx hb dX12_inside_61 (tgt := 97) rfl (fun hc => ?_) (fun hc => ?_)
        · replace h := ifp h hc
          refine lv_iconst (v := 0) hx hb dX12_inside_97 ki_0 ?_
          refine lv_istore hx hb dX12_inside_98 hl (Nat.le_of_ble_eq_true rfl) (lv' := [(4, .int 0), (0, .ref (ad 0)), (1, .int v1), (2, .int v2), (3, .int v3)]) rfl (fun ls hl => ?_)
          refine lv_iconst (v := 0) hx hb dX12_inside_100 ki_0 ?_
          refine lv_istore hx hb dX12_inside_101 hl (Nat.le_of_ble_eq_true rfl) (lv' := [(5, .int 0), (4, .int 0), (0, .ref (ad 0)), (1, .int v1), (2, .int v2), (3, .int v3)]) rfl (fun ls hl => ?_)
          exact hL103 v2 y_tm a_drawer a_tried FU _ _ _ 0 0 (lv_sub hl [2, 4, 1, 0] rfl) hP hS h
        · replace h := ifn h hc
          refine lv_aload_n hx hb dX12_inside_64 rfl (lv_at hl 0 rfl) ?_
          refine lv_aload_n hx hb dX12_inside_65 rfl (lv_at hl 0 rfl) ?_
          refine mg_MO_30 hx hb hw hown hK hP dX12_inside_66 ?_
          refine lv_iconst (v := 0) hx hb dX12_inside_69 ki_0 ?_
          refine lv_aload_n hx hb dX12_inside_70 rfl (lv_at hl 0 rfl) ?_
          refine mg_MO_33 hx hb hw hown hK hP dX12_inside_71 ?_
          refine lv_aload_n hx hb dX12_inside_74 rfl (lv_at hl 0 rfl) ?_
          refine mg_MO_0 hx hb hw hown hK hP dX12_inside_75 ?_
          refine lv_iload_n hx hb dX12_inside_78 rfl (lv_at hl 1 rfl) ?_
          obtain ⟨hin, h⟩ := ck_s h
          refine md_drawer hx hb hK hP hin dX12_inside_79 ?_
          refine lv_iload hx hb dX12_inside_80 (lv_at hl 4 rfl) ?_
          obtain ⟨r_19, hr_20, h⟩ := bd1_s h
          refine sc_l hx hb hml hown hw hN (c_mo_turned l (a_drawer v1.toNatClampNeg) v4 r_19 hr_20) g_RX12_159 hd_X12_turned (rest := [.int y_tm, .int 0, .ref (ad 16), .ref (ad 0)]) hl.1 hS dX12_inside_82 rfl rfl ⟨Nat.le_of_ble_eq_true rfl, Nat.le_of_ble_eq_true rfl⟩ rfl rfl (Nat.le_of_ble_eq_true rfl) ⟨Nat.zero_le _, Nat.zero_le _⟩ (fun H locs hk hS => ?_)
          have hP := mP_kept hP hk
          obtain ⟨r_21, a_tried_22, hr_23, h⟩ := bd2_s h
          refine hs_i hx hb hml hown hw mB_bl (mB_of hN hK hP) (c_mo_comesIn_tried l D ct ad hI 0 y_tm r_19 r_21 a_tried_22 hr_23) g_RX12_232 hd_X12_comesIn (rest := [.ref (ad 0)]) hl.1 hS (fun q h => h) dX12_inside_85 rfl rfl ⟨Nat.le_of_ble_eq_true rfl, Nat.le_of_ble_eq_true rfl⟩ rfl rfl (Nat.le_of_ble_eq_true rfl) ⟨Nat.zero_le _, Nat.zero_le _⟩ (fun H locs hP _ hS => ?_)
          refine mp_MO_33 hx hb hw hown hK hP hI hS dX12_inside_88 (fun H locs hP hS => ?_)
          obtain ⟨v4_24, ev4_24, h⟩ := nm_s h
          refine lv_iinc hx hb dX12_inside_91 hl (k := 4) rfl ev4_24.symm (Nat.le_of_ble_eq_true rfl) (lv' := [(4, .int v4_24), (0, .ref (ad 0)), (1, .int v1), (2, .int v2), (3, .int v3)]) rfl (fun ls hl => ?_)
          refine lv_goto hx hb dX12_inside_94 (tgt := 49) rfl ?_
          exact ih49 _ _ _ v4_24 r_21 a_tried_22 (lv_sub hl [1, 2, 3, 4, 0] rfl) hP hS h
      rw [mo_inside_B49] at h
      refine lv_iload hx hb dX12_inside_49 (lv_at hl 4 rfl) ?_
      refine lv_iload_n hx hb dX12_inside_51 rfl (lv_at hl 3 rfl) ?_
      refine lv_if_eq hx hb dX12_inside_52 (tgt := 60) rfl (fun hc => ?_) (fun hc => ?_)
      · replace h := ifp h hc
        refine lv_iconst (v := 1) hx hb dX12_inside_60 ki_1 ?_
        exact hJ61 _ _ _ v4 y_tm a_tried v4 1 (lv_sub hl [0, 1, 2, 3, 4] rfl) hP hS h
      · replace h := ifn h hc
        refine lv_bipush (v := 8) hx hb dX12_inside_55 kb_8 ?_
        refine lv_goto hx hb dX12_inside_57 (tgt := 61) rfl ?_
        exact hJ61 _ _ _ v4 y_tm a_tried v4 8 (lv_sub hl [0, 1, 2, 3, 4] rfl) hP hS h
  refine lv_iload_n hx hb dX12_inside_0 rfl (lv_at hl 1 rfl) ?_
  obtain ⟨r_25, hr_26, h⟩ := bd1_s h
  refine sc_i hx hb hml hown hw hN (c_mo_isDrawer l v1 r_25 hr_26) g_RX12_135 hd_X12_isDrawer (rest := []) hl.1 hS dX12_inside_1 rfl rfl ⟨Nat.le_of_ble_eq_true rfl, Nat.le_of_ble_eq_true rfl⟩ rfl rfl (Nat.le_of_ble_eq_true rfl) ⟨Nat.zero_le _, Nat.zero_le _⟩ (fun H locs hk hS => ?_)
  have hP := mP_kept hP hk
  refine lv_if_eq hx hb dX12_inside_4 (tgt := 14) rfl (fun hc => ?_) (fun hc => ?_)
  · replace h := ifp h hc
    refine lv_iconst (v := (-1)) hx hb dX12_inside_14 ki_m1 ?_
    simp only [Option.some.injEq, Prod.mk.injEq] at h
    obtain ⟨rfl, rfl, rfl⟩ := h
    exact rc_i hx hb hr hlocks hS dX12_inside_15 rfl hP
  · replace h := ifn h hc
    refine lv_iload_n hx hb dX12_inside_7 rfl (lv_at hl 2 rfl) ?_
    obtain ⟨r_27, hr_28, h⟩ := bd1_s h
    refine sc_i hx hb hml hown hw hN (c_mo_isDrawer l v2 r_27 hr_28) g_RX12_135 hd_X12_isDrawer (rest := []) hl.1 hS dX12_inside_8 rfl rfl ⟨Nat.le_of_ble_eq_true rfl, Nat.le_of_ble_eq_true rfl⟩ rfl rfl (Nat.le_of_ble_eq_true rfl) ⟨Nat.zero_le _, Nat.zero_le _⟩ (fun H locs hk hS => ?_)
    have hP := mP_kept hP hk
    refine lv_if_ne hx hb dX12_inside_11 (tgt := 16) rfl (fun hc => ?_) (fun hc => ?_)
    · replace h := ifn h hc
      refine lv_aload_n hx hb dX12_inside_16 rfl (lv_at hl 0 rfl) ?_
      refine mg_MO_0 hx hb hw hown hK hP dX12_inside_17 ?_
      refine lv_iload_n hx hb dX12_inside_20 rfl (lv_at hl 1 rfl) ?_
      obtain ⟨hin, h⟩ := ck_s h
      refine md_drawer hx hb hK hP hin dX12_inside_21 ?_
      refine lv_lconst (v := 0) hx hb dX12_inside_22 kl_0 ?_
      refine W.lcmp hx hb dX12_inside_23 ?_
      refine lv_if_eq hx hb dX12_inside_24 (tgt := 38) rfl (fun hc => ?_) (fun hc => ?_)
      · replace h := ifp h ((lg_cmp_eq _ _).mp hc)
        refine lv_bipush (v := (-2)) hx hb dX12_inside_38 kb_m2 ?_
        simp only [Option.some.injEq, Prod.mk.injEq] at h
        obtain ⟨rfl, rfl, rfl⟩ := h
        exact rc_i hx hb hr hlocks hS dX12_inside_40 rfl hP
      · replace h := ifn h (fun q => hc ((lg_cmp_eq _ _).mpr q))
        refine lv_aload_n hx hb dX12_inside_27 rfl (lv_at hl 0 rfl) ?_
        refine mg_MO_0 hx hb hw hown hK hP dX12_inside_28 ?_
        refine lv_iload_n hx hb dX12_inside_31 rfl (lv_at hl 2 rfl) ?_
        obtain ⟨hin, h⟩ := ck_s h
        refine md_drawer hx hb hK hP hin dX12_inside_32 ?_
        refine lv_lconst (v := 0) hx hb dX12_inside_33 kl_0 ?_
        refine W.lcmp hx hb dX12_inside_34 ?_
        refine lv_if_ne hx hb dX12_inside_35 (tgt := 41) rfl (fun hc => ?_) (fun hc => ?_)
        · replace h := ifn h (fun q => hc ((lg_cmp_eq _ _).mpr q))
          refine lv_aload_n hx hb dX12_inside_41 rfl (lv_at hl 0 rfl) ?_
          refine lv_iconst (v := 0) hx hb dX12_inside_42 ki_0 ?_
          refine mp_MO_33 hx hb hw hown hK hP hI hS dX12_inside_43 (fun H locs hP hS => ?_)
          refine lv_iconst (v := 0) hx hb dX12_inside_46 ki_0 ?_
          refine lv_istore hx hb dX12_inside_47 hl (Nat.le_of_ble_eq_true rfl) (lv' := [(4, .int 0), (0, .ref (ad 0)), (1, .int v1), (2, .int v2), (3, .int v3)]) rfl (fun ls hl => ?_)
          exact hL49 v1 v2 v3 a_drawer FU _ _ _ 0 0 a_tried (lv_sub hl [1, 2, 3, 4, 0] rfl) hP hS h
        · replace h := ifp h ((lg_cmp_eq _ _).mp hc)
          refine lv_bipush (v := (-2)) hx hb dX12_inside_38 kb_m2 ?_
          simp only [Option.some.injEq, Prod.mk.injEq] at h
          obtain ⟨rfl, rfl, rfl⟩ := h
          exact rc_i hx hb hr hlocks hS dX12_inside_40 rfl hP
    · replace h := ifp h hc
      refine lv_iconst (v := (-1)) hx hb dX12_inside_14 ki_m1 ?_
      simp only [Option.some.injEq, Prod.mk.injEq] at h
      obtain ⟨rfl, rfl, rfl⟩ := h
      exact rc_i hx hb hr hlocks hS dX12_inside_15 rfl hP
noncomputable def mo_common_J168 (k56 : Int32 → Int32 → Option (Int32 × Int32 × (Nat → Int32) × (Nat → Int32))) (a_drawer : Nat → Int64) (v2 : Int32) (v3 : Int32) (v4 : Int32) (y_cells : Int32) (a_cellAt : Nat → Int32) (a_besideIn : Nat → Int32)  : Option (Int32 × Int32 × (Nat → Int32) × (Nat → Int32)) :=
  nm (v4 + Int32.ofInt 1) fun v4_1 =>
  k56 v3 v4_1
noncomputable def mo_common_J167 (k56 : Int32 → Int32 → Option (Int32 × Int32 × (Nat → Int32) × (Nat → Int32))) (a_drawer : Nat → Int64) (v2 : Int32) (v4 : Int32) (y_cells : Int32) (a_cellAt : Nat → Int32) (a_besideIn : Nat → Int32) (t0 : Int32) : Option (Int32 × Int32 × (Nat → Int32) × (Nat → Int32)) :=
  mo_common_J168 k56 a_drawer v2 t0 v4 y_cells a_cellAt a_besideIn
noncomputable def mo_common_J152 (k56 : Int32 → Int32 → Option (Int32 × Int32 × (Nat → Int32) × (Nat → Int32))) (a_drawer : Nat → Int64) (v2 : Int32) (v3 : Int32) (v4 : Int32) (v7 : Int32) (y_cells : Int32) (a_cellAt : Nat → Int32) (a_besideIn : Nat → Int32)  : Option (Int32 × Int32 × (Nat → Int32) × (Nat → Int32)) :=
  if v7 = 0 then (mo_common_J167 k56 a_drawer v2 v4 y_cells a_cellAt a_besideIn v3) else
  bd1 (mo_bits (v4.toInt64)) fun r_2 =>
  mo_common_J167 k56 a_drawer v2 v4 y_cells a_cellAt a_besideIn r_2
noncomputable def mo_common_J144 (k56 : Int32 → Int32 → Option (Int32 × Int32 × (Nat → Int32) × (Nat → Int32))) (k105 : Int32 → Int32 → Option (Int32 × Int32 × (Nat → Int32) × (Nat → Int32))) (a_drawer : Nat → Int64) (v2 : Int32) (v3 : Int32) (v4 : Int32) (v5 : Int64) (v8 : Int32) (y_cells : Int32) (a_cellAt : Nat → Int32) (a_besideIn : Nat → Int32) (t0 : Int32) : Option (Int32 × Int32 × (Nat → Int32) × (Nat → Int32)) :=
  nm (v8 + Int32.ofInt 1) fun v8_4 =>
  k105 t0 v8_4
noncomputable def mo_common_B105 (v2 : Int32) (v3 : Int32) (v4 : Int32) (v5 : Int64) (y_cells : Int32) (a_drawer : Nat → Int64) (a_cellAt : Nat → Int32) (a_besideIn : Nat → Int32) (k56 : Int32 → Int32 → Option (Int32 × Int32 × (Nat → Int32) × (Nat → Int32))) (k105 : Int32 → Int32 → Option (Int32 × Int32 × (Nat → Int32) × (Nat → Int32))) (v7 : Int32) (v8 : Int32) : Option (Int32 × Int32 × (Nat → Int32) × (Nat → Int32)) :=
  if 8 ≤ v8 then (mo_common_J152 k56 a_drawer v2 v3 v4 v7 y_cells a_cellAt a_besideIn) else
  if v7 = 0 then (bd1 (mo_moved v5) fun r_5 =>
  bd1 (mo_turned r_5 v8) fun r_7 =>
  ck v2 8 <|
  bd1 (mo_liesIn r_7 (a_drawer v2.toNatClampNeg)) fun r_9 =>
  if r_9 ≤ 0 then (mo_common_J144 k56 k105 a_drawer v2 v3 v4 v5 v8 y_cells a_cellAt a_besideIn 0) else
  mo_common_J144 k56 k105 a_drawer v2 v3 v4 v5 v8 y_cells a_cellAt a_besideIn 1) else
  mo_common_J152 k56 a_drawer v2 v3 v4 v7 y_cells a_cellAt a_besideIn
noncomputable def mo_common_B56 (v2 : Int32) (y_cells : Int32) (a_drawer : Nat → Int64) (a_cellAt : Nat → Int32) (a_besideIn : Nat → Int32)  (k56 : Int32 → Int32 → Option (Int32 × Int32 × (Nat → Int32) × (Nat → Int32))) (v3 : Int32) (v4 : Int32) : Option (Int32 × Int32 × (Nat → Int32) × (Nat → Int32)) :=
  if (il 1 y_cells) ≤ v4 then (some (v3, y_cells, a_cellAt, a_besideIn)) else
  bd1 (mo_bits (v4.toInt64)) fun r_11 =>
  if v3 < r_11 then (bd1 (mo_figureOf v4 y_cells a_cellAt) fun r_13 =>
  bd1 (mo_hangs r_13) fun r_15 =>
  if r_15 = 0 then (mo_common_J168 k56 a_drawer v2 v3 v4 y_cells a_cellAt a_besideIn) else
  fl2 (mo_common_B105 v2 v3 v4 r_13 y_cells a_drawer a_cellAt a_besideIn k56) FU 0 0) else
  mo_common_J168 k56 a_drawer v2 v3 v4 y_cells a_cellAt a_besideIn
noncomputable def mo_common (v1 : Int32) (v2 : Int32) (y_cells : Int32) (a_drawer : Nat → Int64) (a_cellAt : Nat → Int32) (a_besideIn : Nat → Int32) : Option (Int32 × Int32 × (Nat → Int32) × (Nat → Int32)) :=
  bd1 (mo_isDrawer v1) fun r_17 =>
  if r_17 = 0 then (some ((-1), y_cells, a_cellAt, a_besideIn)) else
  bd1 (mo_isDrawer v2) fun r_19 =>
  if r_19 = 0 then (some ((-1), y_cells, a_cellAt, a_besideIn)) else
  ck v1 8 <|
  if (a_drawer v1.toNatClampNeg) = 0 then (some ((-2), y_cells, a_cellAt, a_besideIn)) else
  ck v2 8 <|
  if (a_drawer v2.toNatClampNeg) = 0 then (some ((-2), y_cells, a_cellAt, a_besideIn)) else
  ck v1 8 <|
  bd3 (mo_laysCells (a_drawer v1.toNatClampNeg) y_cells a_cellAt a_besideIn) fun y_cells_21 a_cellAt_22 a_besideIn_23 =>
  fl2 (mo_common_B56 v2 y_cells_21 a_drawer a_cellAt_22 a_besideIn_23) FU 0 1
set_option maxHeartbeats 4000000 in
set_option maxRecDepth 100000 in
theorem c_mo_common (l : Launch) (D : va_G) (ct : Nat → ClassId) (ad : Nat → Nat) (hI : mI ad) {y_km y_tp y_goes y_kin y_qd y_sides y_cuts y_flat y_cp y_cA y_cB y_1X y_1Y y_2X y_2Y y_tm y_cells : Int32} {a_mtape a_flood a_going a_field a_from a_mcrowds a_steps a_queue a_letter a_lineX a_lineY a_triedAt a_cellAt a_besideIn a_apart : Nat → Int32} {a_drawer a_mkept a_listed a_mkin a_tried a_takenAt a_waysOf : Nat → Int64} (v1 : Int32) (v2 : Int32) (r : Int32) (z_y_cells : Int32) (z_a_cellAt : Nat → Int32) (z_a_besideIn : Nat → Int32) (h : mo_common v1 v2 y_cells a_drawer a_cellAt a_besideIn = some (r, z_y_cells, z_a_cellAt, z_a_besideIn)) : Met l yX12_common (wm yX12_common cX12_common 9 (some .int)) (rmm 3 74) (va_Pc [.ref (ad 0), .int v1, .int v2] (mB D ct ad y_km y_tp y_goes y_kin y_qd y_sides y_cuts y_flat y_cp y_cA y_cB y_1X y_1Y y_2X y_2Y y_tm y_cells a_mtape a_flood a_going a_field a_from a_mcrowds a_steps a_queue a_letter a_lineX a_lineY a_triedAt a_cellAt a_besideIn a_apart a_drawer a_mkept a_listed a_mkin a_tried a_takenAt a_waysOf)) (va_Qi (fun z (_ : Unit) => z = r) (fun _ t => mP D ct ad y_km y_tp y_goes y_kin y_qd y_sides y_cuts y_flat y_cp y_cA y_cB y_1X y_1Y y_2X y_2Y y_tm z_y_cells a_mtape a_flood a_going a_field a_from a_mcrowds a_steps a_queue a_letter a_lineX a_lineY a_triedAt z_a_cellAt z_a_besideIn a_apart a_drawer a_mkept a_listed a_mkin a_tried a_takenAt a_waysOf t.heap) (mA ad)) 0 0 (mA ad) := by
  refine met_s (y := yX12_common) (rm := rmm 3 74) (by decide) (Nat.le_of_ble_eq_true rfl) ?_
  intro p e s m below meth c hx hb hr hw hown hlocks _ hml hB ls hl
  obtain ⟨hN, hK, hP⟩ := hB
  replace hl : lv_has ls 9 [(0, .ref (ad 0)), (1, .int v1), (2, .int v2)] := hl
  have hS : va_S (mA ad) s.heap s.heap [] := va_S.rf
  generalize (([.ref (ad 0), .int v1, .int v2] : List Value).toArray) = av at hw ⊢
  rw [mo_common] at h
  have hL56 : ∀ (v2 : Int32), ∀ (y_cells : Int32), ∀ (a_drawer : Nat → Int64), ∀ (a_cellAt : Nat → Int32), ∀ (a_besideIn : Nat → Int32), ∀ (n56 : Nat) (H : Heap) (locs : List Loc) (ls : Array Slot) (v3 : Int32) (v4 : Int32), lv_has ls 9 [(0, .ref (ad 0)), (2, .int v2), (3, .int v3), (4, .int v4)] → mP D ct ad y_km y_tp y_goes y_kin y_qd y_sides y_cuts y_flat y_cp y_cA y_cB y_1X y_1Y y_2X y_2Y y_tm y_cells a_mtape a_flood a_going a_field a_from a_mcrowds a_steps a_queue a_letter a_lineX a_lineY a_triedAt a_cellAt a_besideIn a_apart a_drawer a_mkept a_listed a_mkin a_tried a_takenAt a_waysOf H → va_S (mA ad) s.heap H locs → fl2 (mo_common_B56 v2 y_cells a_drawer a_cellAt a_besideIn) n56 v3 v4 = some (r, z_y_cells, z_a_cellAt, z_a_besideIn) → W p l e (rmm 3 74) s m av below meth c H locs 0 0 (MQ below (va_Qi (fun z (_ : Unit) => z = r) (fun _ t => mP D ct ad y_km y_tp y_goes y_kin y_qd y_sides y_cuts y_flat y_cp y_cA y_cB y_1X y_1Y y_2X y_2Y y_tm z_y_cells a_mtape a_flood a_going a_field a_from a_mcrowds a_steps a_queue a_letter a_lineX a_lineY a_triedAt z_a_cellAt z_a_besideIn a_apart a_drawer a_mkept a_listed a_mkin a_tried a_takenAt a_waysOf t.heap) (mA ad)) av s 0 0 (mA ad)) (F0 m 56 ls []) := by
    intro v2 y_cells a_drawer a_cellAt a_besideIn n56
    induction n56 with
    | zero => intro H locs ls v3 v4 hl hP hS h; cases h
    | succ n56 ih56 =>
      intro H locs ls v3 v4 hl hP hS h
      replace h : mo_common_B56 v2 y_cells a_drawer a_cellAt a_besideIn (fl2 (mo_common_B56 v2 y_cells a_drawer a_cellAt a_besideIn) n56) v3 v4 = some (r, z_y_cells, z_a_cellAt, z_a_besideIn) := h
      generalize fl2 (mo_common_B56 v2 y_cells a_drawer a_cellAt a_besideIn) n56 = k56 at h ih56
      have hJ168 : ∀ (H : Heap) (locs : List Loc) (ls : Array Slot) (v3 : Int32) (v4 : Int32) , lv_has ls 9 [(0, .ref (ad 0)), (2, .int v2), (3, .int v3), (4, .int v4)] → mP D ct ad y_km y_tp y_goes y_kin y_qd y_sides y_cuts y_flat y_cp y_cA y_cB y_1X y_1Y y_2X y_2Y y_tm y_cells a_mtape a_flood a_going a_field a_from a_mcrowds a_steps a_queue a_letter a_lineX a_lineY a_triedAt a_cellAt a_besideIn a_apart a_drawer a_mkept a_listed a_mkin a_tried a_takenAt a_waysOf H → va_S (mA ad) s.heap H locs → mo_common_J168 k56 a_drawer v2 v3 v4 y_cells a_cellAt a_besideIn = some (r, z_y_cells, z_a_cellAt, z_a_besideIn) → W p l e (rmm 3 74) s m av below meth c H locs 0 0 (MQ below (va_Qi (fun z (_ : Unit) => z = r) (fun _ t => mP D ct ad y_km y_tp y_goes y_kin y_qd y_sides y_cuts y_flat y_cp y_cA y_cB y_1X y_1Y y_2X y_2Y y_tm z_y_cells a_mtape a_flood a_going a_field a_from a_mcrowds a_steps a_queue a_letter a_lineX a_lineY a_triedAt z_a_cellAt z_a_besideIn a_apart a_drawer a_mkept a_listed a_mkin a_tried a_takenAt a_waysOf t.heap) (mA ad)) av s 0 0 (mA ad)) (F0 m 168 ls []) := by
        intro H locs ls v3 v4  hl hP hS h
        rw [mo_common_J168] at h
        obtain ⟨v4_25, ev4_25, h⟩ := nm_s h
        refine lv_iinc hx hb dX12_common_168 hl (k := 3) rfl ev4_25.symm (Nat.le_of_ble_eq_true rfl) (lv' := [(4, .int v4_25), (0, .ref (ad 0)), (2, .int v2), (3, .int v3)]) rfl (fun ls hl => ?_)
        refine lv_goto hx hb dX12_common_171 (tgt := 56) rfl ?_
        exact ih56 _ _ _ v3 v4_25 (lv_sub hl [1, 2, 3, 0] rfl) hP hS h
      have hJ167 : ∀ (H : Heap) (locs : List Loc) (ls : Array Slot) (v4 : Int32) (t0 : Int32), lv_has ls 9 [(0, .ref (ad 0)), (2, .int v2), (4, .int v4)] → mP D ct ad y_km y_tp y_goes y_kin y_qd y_sides y_cuts y_flat y_cp y_cA y_cB y_1X y_1Y y_2X y_2Y y_tm y_cells a_mtape a_flood a_going a_field a_from a_mcrowds a_steps a_queue a_letter a_lineX a_lineY a_triedAt a_cellAt a_besideIn a_apart a_drawer a_mkept a_listed a_mkin a_tried a_takenAt a_waysOf H → va_S (mA ad) s.heap H locs → mo_common_J167 k56 a_drawer v2 v4 y_cells a_cellAt a_besideIn t0 = some (r, z_y_cells, z_a_cellAt, z_a_besideIn) → W p l e (rmm 3 74) s m av below meth c H locs 0 0 (MQ below (va_Qi (fun z (_ : Unit) => z = r) (fun _ t => mP D ct ad y_km y_tp y_goes y_kin y_qd y_sides y_cuts y_flat y_cp y_cA y_cB y_1X y_1Y y_2X y_2Y y_tm z_y_cells a_mtape a_flood a_going a_field a_from a_mcrowds a_steps a_queue a_letter a_lineX a_lineY a_triedAt z_a_cellAt z_a_besideIn a_apart a_drawer a_mkept a_listed a_mkin a_tried a_takenAt a_waysOf t.heap) (mA ad)) av s 0 0 (mA ad)) (F0 m 167 ls [.int t0]) := by
        intro H locs ls v4 t0 hl hP hS h
        rw [mo_common_J167] at h
        refine lv_istore_n hx hb dX12_common_167 rfl hl (Nat.le_of_ble_eq_true rfl) (lv' := [(3, .int t0), (0, .ref (ad 0)), (2, .int v2), (4, .int v4)]) rfl (fun ls hl => ?_)
        exact hJ168 _ _ _ t0 v4 (lv_sub hl [1, 2, 0, 3] rfl) hP hS h
      have hJ152 : ∀ (H : Heap) (locs : List Loc) (ls : Array Slot) (v3 : Int32) (v4 : Int32) (v7 : Int32) , lv_has ls 9 [(0, .ref (ad 0)), (2, .int v2), (3, .int v3), (4, .int v4), (7, .int v7)] → mP D ct ad y_km y_tp y_goes y_kin y_qd y_sides y_cuts y_flat y_cp y_cA y_cB y_1X y_1Y y_2X y_2Y y_tm y_cells a_mtape a_flood a_going a_field a_from a_mcrowds a_steps a_queue a_letter a_lineX a_lineY a_triedAt a_cellAt a_besideIn a_apart a_drawer a_mkept a_listed a_mkin a_tried a_takenAt a_waysOf H → va_S (mA ad) s.heap H locs → mo_common_J152 k56 a_drawer v2 v3 v4 v7 y_cells a_cellAt a_besideIn = some (r, z_y_cells, z_a_cellAt, z_a_besideIn) → W p l e (rmm 3 74) s m av below meth c H locs 0 0 (MQ below (va_Qi (fun z (_ : Unit) => z = r) (fun _ t => mP D ct ad y_km y_tp y_goes y_kin y_qd y_sides y_cuts y_flat y_cp y_cA y_cB y_1X y_1Y y_2X y_2Y y_tm z_y_cells a_mtape a_flood a_going a_field a_from a_mcrowds a_steps a_queue a_letter a_lineX a_lineY a_triedAt z_a_cellAt z_a_besideIn a_apart a_drawer a_mkept a_listed a_mkin a_tried a_takenAt a_waysOf t.heap) (mA ad)) av s 0 0 (mA ad)) (F0 m 152 ls []) := by
        intro H locs ls v3 v4 v7  hl hP hS h
        rw [mo_common_J152] at h
        refine lv_iload hx hb dX12_common_152 (lv_at hl 4 rfl) ?_
        refine lv_if_eq hx hb dX12_common_154 (tgt := 166) rfl (fun hc => ?_) (fun hc => ?_)
        · replace h := ifp h hc
          refine lv_iload_n hx hb dX12_common_166 rfl (lv_at hl 2 rfl) ?_
          exact hJ167 _ _ _ v4 v3 (lv_sub hl [0, 1, 3] rfl) hP hS h
        · replace h := ifn h hc
          refine lv_iload hx hb dX12_common_157 (lv_at hl 3 rfl) ?_
          refine lv_i2l hx hb (v := v4.toInt64) dX12_common_159 rfl ?_
          obtain ⟨r_26, hr_27, h⟩ := bd1_s h
          refine sc_i hx hb hml hown hw hN (c_mo_bits l (v4.toInt64) r_26 hr_27) g_RX12_106 hd_X12_bits (rest := []) hl.1 hS dX12_common_160 rfl rfl ⟨Nat.le_of_ble_eq_true rfl, Nat.le_of_ble_eq_true rfl⟩ rfl rfl (Nat.le_of_ble_eq_true rfl) ⟨Nat.zero_le _, Nat.zero_le _⟩ (fun H locs hk hS => ?_)
          have hP := mP_kept hP hk
          refine lv_goto hx hb dX12_common_163 (tgt := 167) rfl ?_
          exact hJ167 _ _ _ v4 r_26 (lv_sub hl [0, 1, 3] rfl) hP hS h
      have hL105 : ∀ (v3 : Int32), ∀ (v4 : Int32), ∀ (v5 : Int64), ∀ (n105 : Nat) (H : Heap) (locs : List Loc) (ls : Array Slot) (v7 : Int32) (v8 : Int32), lv_has ls 9 [(0, .ref (ad 0)), (2, .int v2), (3, .int v3), (4, .int v4), (5, .long v5), (7, .int v7), (8, .int v8)] → mP D ct ad y_km y_tp y_goes y_kin y_qd y_sides y_cuts y_flat y_cp y_cA y_cB y_1X y_1Y y_2X y_2Y y_tm y_cells a_mtape a_flood a_going a_field a_from a_mcrowds a_steps a_queue a_letter a_lineX a_lineY a_triedAt a_cellAt a_besideIn a_apart a_drawer a_mkept a_listed a_mkin a_tried a_takenAt a_waysOf H → va_S (mA ad) s.heap H locs → fl2 (mo_common_B105 v2 v3 v4 v5 y_cells a_drawer a_cellAt a_besideIn k56) n105 v7 v8 = some (r, z_y_cells, z_a_cellAt, z_a_besideIn) → W p l e (rmm 3 74) s m av below meth c H locs 0 0 (MQ below (va_Qi (fun z (_ : Unit) => z = r) (fun _ t => mP D ct ad y_km y_tp y_goes y_kin y_qd y_sides y_cuts y_flat y_cp y_cA y_cB y_1X y_1Y y_2X y_2Y y_tm z_y_cells a_mtape a_flood a_going a_field a_from a_mcrowds a_steps a_queue a_letter a_lineX a_lineY a_triedAt z_a_cellAt z_a_besideIn a_apart a_drawer a_mkept a_listed a_mkin a_tried a_takenAt a_waysOf t.heap) (mA ad)) av s 0 0 (mA ad)) (F0 m 105 ls []) := by
        intro v3 v4 v5 n105
        induction n105 with
        | zero => intro H locs ls v7 v8 hl hP hS h; cases h
        | succ n105 ih105 =>
          intro H locs ls v7 v8 hl hP hS h
          replace h : mo_common_B105 v2 v3 v4 v5 y_cells a_drawer a_cellAt a_besideIn k56 (fl2 (mo_common_B105 v2 v3 v4 v5 y_cells a_drawer a_cellAt a_besideIn k56) n105) v7 v8 = some (r, z_y_cells, z_a_cellAt, z_a_besideIn) := h
          generalize fl2 (mo_common_B105 v2 v3 v4 v5 y_cells a_drawer a_cellAt a_besideIn k56) n105 = k105 at h ih105
          have hJ144 : ∀ (H : Heap) (locs : List Loc) (ls : Array Slot) (v8 : Int32) (t0 : Int32), lv_has ls 9 [(0, .ref (ad 0)), (2, .int v2), (3, .int v3), (4, .int v4), (5, .long v5), (8, .int v8)] → mP D ct ad y_km y_tp y_goes y_kin y_qd y_sides y_cuts y_flat y_cp y_cA y_cB y_1X y_1Y y_2X y_2Y y_tm y_cells a_mtape a_flood a_going a_field a_from a_mcrowds a_steps a_queue a_letter a_lineX a_lineY a_triedAt a_cellAt a_besideIn a_apart a_drawer a_mkept a_listed a_mkin a_tried a_takenAt a_waysOf H → va_S (mA ad) s.heap H locs → mo_common_J144 k56 k105 a_drawer v2 v3 v4 v5 v8 y_cells a_cellAt a_besideIn t0 = some (r, z_y_cells, z_a_cellAt, z_a_besideIn) → W p l e (rmm 3 74) s m av below meth c H locs 0 0 (MQ below (va_Qi (fun z (_ : Unit) => z = r) (fun _ t => mP D ct ad y_km y_tp y_goes y_kin y_qd y_sides y_cuts y_flat y_cp y_cA y_cB y_1X y_1Y y_2X y_2Y y_tm z_y_cells a_mtape a_flood a_going a_field a_from a_mcrowds a_steps a_queue a_letter a_lineX a_lineY a_triedAt z_a_cellAt z_a_besideIn a_apart a_drawer a_mkept a_listed a_mkin a_tried a_takenAt a_waysOf t.heap) (mA ad)) av s 0 0 (mA ad)) (F0 m 144 ls [.int t0]) := by
            intro H locs ls v8 t0 hl hP hS h
            rw [mo_common_J144] at h
            refine lv_istore hx hb dX12_common_144 hl (Nat.le_of_ble_eq_true rfl) (lv' := [(7, .int t0), (0, .ref (ad 0)), (2, .int v2), (3, .int v3), (4, .int v4), (5, .long v5), (8, .int v8)]) rfl (fun ls hl => ?_)
            obtain ⟨v8_28, ev8_28, h⟩ := nm_s h
            refine lv_iinc hx hb dX12_common_146 hl (k := 6) rfl ev8_28.symm (Nat.le_of_ble_eq_true rfl) (lv' := [(8, .int v8_28), (7, .int t0), (0, .ref (ad 0)), (2, .int v2), (3, .int v3), (4, .int v4), (5, .long v5)]) rfl (fun ls hl => ?_)
            refine lv_goto hx hb dX12_common_149 (tgt := 105) rfl ?_
            exact ih105 _ _ _ t0 v8_28 (lv_sub hl [2, 3, 4, 5, 6, 1, 0] rfl) hP hS h
          rw [mo_common_B105] at h
          refine lv_iload hx hb dX12_common_105 (lv_at hl 6 rfl) ?_
          refine lv_bipush (v := 8) hx hb dX12_common_107 kb_8 ?_
          refine lv_icmp_ge hx hb dX12_common_109 (tgt := 152) rfl (fun hc => ?_) (fun hc => ?_)
          · replace h := ifp h hc
            exact hJ152 _ _ _ v3 v4 v7 (lv_sub hl [0, 1, 2, 3, 5] rfl) hP hS h
          · replace h := ifn h hc
            refine lv_iload hx hb dX12_common_112 (lv_at hl 5 rfl) ?_
            refine lv_if_ne hx hb dX12_common_114 (tgt := 152) rfl (fun hc => ?_) (fun hc => ?_)
            · replace h := ifn h hc
              exact hJ152 _ _ _ v3 v4 v7 (lv_sub hl [0, 1, 2, 3, 5] rfl) hP hS h
            · replace h := ifp h hc
              refine lv_lload hx hb dX12_common_117 (lv_at hl 4 rfl) ?_
              obtain ⟨r_29, hr_30, h⟩ := bd1_s h
              refine sc_l hx hb hml hown hw hN (c_mo_moved l v5 r_29 hr_30) g_RX12_114 hd_X12_moved (rest := []) hl.1 hS dX12_common_119 rfl rfl ⟨Nat.le_of_ble_eq_true rfl, Nat.le_of_ble_eq_true rfl⟩ rfl rfl (Nat.le_of_ble_eq_true rfl) ⟨Nat.zero_le _, Nat.zero_le _⟩ (fun H locs hk hS => ?_)
              have hP := mP_kept hP hk
              refine lv_iload hx hb dX12_common_122 (lv_at hl 6 rfl) ?_
              obtain ⟨r_31, hr_32, h⟩ := bd1_s h
              refine sc_l hx hb hml hown hw hN (c_mo_turned l r_29 v8 r_31 hr_32) g_RX12_159 hd_X12_turned (rest := []) hl.1 hS dX12_common_124 rfl rfl ⟨Nat.le_of_ble_eq_true rfl, Nat.le_of_ble_eq_true rfl⟩ rfl rfl (Nat.le_of_ble_eq_true rfl) ⟨Nat.zero_le _, Nat.zero_le _⟩ (fun H locs hk hS => ?_)
              have hP := mP_kept hP hk
              refine lv_aload_n hx hb dX12_common_127 rfl (lv_at hl 0 rfl) ?_
              refine mg_MO_0 hx hb hw hown hK hP dX12_common_128 ?_
              refine lv_iload_n hx hb dX12_common_131 rfl (lv_at hl 1 rfl) ?_
              obtain ⟨hin, h⟩ := ck_s h
              refine md_drawer hx hb hK hP hin dX12_common_132 ?_
              obtain ⟨r_33, hr_34, h⟩ := bd1_s h
              refine sc_i hx hb hml hown hw hN (c_mo_liesIn l r_31 (a_drawer v2.toNatClampNeg) r_33 hr_34) g_RX12_370 hd_X12_liesIn (rest := []) hl.1 hS dX12_common_133 rfl rfl ⟨Nat.le_of_ble_eq_true rfl, Nat.le_of_ble_eq_true rfl⟩ rfl rfl (Nat.le_of_ble_eq_true rfl) ⟨Nat.zero_le _, Nat.zero_le _⟩ (fun H locs hk hS => ?_)
              have hP := mP_kept hP hk
              refine lv_if_le hx hb dX12_common_136 (tgt := 143) rfl (fun hc => ?_) (fun hc => ?_)
              · replace h := ifp h hc
                refine lv_iconst (v := 0) hx hb dX12_common_143 ki_0 ?_
                exact hJ144 _ _ _ v8 0 (lv_sub hl [0, 1, 2, 3, 4, 6] rfl) hP hS h
              · replace h := ifn h hc
                refine lv_iconst (v := 1) hx hb dX12_common_139 ki_1 ?_
                refine lv_goto hx hb dX12_common_140 (tgt := 144) rfl ?_
                exact hJ144 _ _ _ v8 1 (lv_sub hl [0, 1, 2, 3, 4, 6] rfl) hP hS h
      rw [mo_common_B56] at h
      refine lv_iload hx hb dX12_common_56 (lv_at hl 3 rfl) ?_
      refine lv_iconst (v := 1) hx hb dX12_common_58 ki_1 ?_
      refine lv_aload_n hx hb dX12_common_59 rfl (lv_at hl 0 rfl) ?_
      refine mg_MO_38 hx hb hw hown hK hP dX12_common_60 ?_
      refine lv_ishl hx hb dX12_common_63 ?_
      refine nmI (v := il 1 y_cells) rfl ?_
      refine lv_icmp_ge hx hb dX12_common_64 (tgt := 174) rfl (fun hc => ?_) (fun hc => ?_)
      · replace h := ifp h hc
        refine lv_iload_n hx hb dX12_common_174 rfl (lv_at hl 2 rfl) ?_
        simp only [Option.some.injEq, Prod.mk.injEq] at h
        obtain ⟨rfl, rfl, rfl, rfl⟩ := h
        exact rc_i hx hb hr hlocks hS dX12_common_175 rfl hP
      · replace h := ifn h hc
        refine lv_iload hx hb dX12_common_67 (lv_at hl 3 rfl) ?_
        refine lv_i2l hx hb (v := v4.toInt64) dX12_common_69 rfl ?_
        obtain ⟨r_35, hr_36, h⟩ := bd1_s h
        refine sc_i hx hb hml hown hw hN (c_mo_bits l (v4.toInt64) r_35 hr_36) g_RX12_106 hd_X12_bits (rest := []) hl.1 hS dX12_common_70 rfl rfl ⟨Nat.le_of_ble_eq_true rfl, Nat.le_of_ble_eq_true rfl⟩ rfl rfl (Nat.le_of_ble_eq_true rfl) ⟨Nat.zero_le _, Nat.zero_le _⟩ (fun H locs hk hS => ?_)
        have hP := mP_kept hP hk
        refine lv_iload_n hx hb dX12_common_73 rfl (lv_at hl 2 rfl) ?_
        refine lv_icmp_gt hx hb dX12_common_74 (tgt := 80) rfl (fun hc => ?_) (fun hc => ?_)
        · replace h := ifp h hc
          refine lv_aload_n hx hb dX12_common_80 rfl (lv_at hl 0 rfl) ?_
          refine lv_iload hx hb dX12_common_81 (lv_at hl 3 rfl) ?_
          obtain ⟨r_37, hr_38, h⟩ := bd1_s h
          refine hv_l hx hb hml hown hw mB_bl (mB_of hN hK hP) (mr_MO hK hP) (c_mo_figureOf l D ct ad hI v4 r_37 hr_38) g_RX12_345 ⟨rfl, hd_X12_figureOf⟩ (rest := []) hl.1 hS (fun q h => h) dX12_common_83 rfl rfl ⟨Nat.le_of_ble_eq_true rfl, Nat.le_of_ble_eq_true rfl⟩ rfl rfl (Nat.le_of_ble_eq_true rfl) ⟨Nat.zero_le _, Nat.zero_le _⟩ (fun H locs hP _ hS => ?_)
          refine lv_lstore hx hb dX12_common_86 hl (Nat.le_of_ble_eq_true rfl) (lv' := [(5, .long r_37), (0, .ref (ad 0)), (2, .int v2), (3, .int v3), (4, .int v4)]) rfl (fun ls hl => ?_)
          refine lv_lload hx hb dX12_common_88 (lv_at hl 0 rfl) ?_
          obtain ⟨r_39, hr_40, h⟩ := bd1_s h
          refine sc_i hx hb hml hown hw hN (c_mo_hangs l r_37 r_39 hr_40) g_RX12_110 hd_X12_hangs (rest := []) hl.1 hS dX12_common_90 rfl rfl ⟨Nat.le_of_ble_eq_true rfl, Nat.le_of_ble_eq_true rfl⟩ rfl rfl (Nat.le_of_ble_eq_true rfl) ⟨Nat.zero_le _, Nat.zero_le _⟩ (fun H locs hk hS => ?_)
          have hP := mP_kept hP hk
          refine lv_if_ne hx hb dX12_common_93 (tgt := 99) rfl (fun hc => ?_) (fun hc => ?_)
          · replace h := ifn h hc
            refine lv_iconst (v := 0) hx hb dX12_common_99 ki_0 ?_
            refine lv_istore hx hb dX12_common_100 hl (Nat.le_of_ble_eq_true rfl) (lv' := [(7, .int 0), (5, .long r_37), (0, .ref (ad 0)), (2, .int v2), (3, .int v3), (4, .int v4)]) rfl (fun ls hl => ?_)
            refine lv_iconst (v := 0) hx hb dX12_common_102 ki_0 ?_
            refine lv_istore hx hb dX12_common_103 hl (Nat.le_of_ble_eq_true rfl) (lv' := [(8, .int 0), (7, .int 0), (5, .long r_37), (0, .ref (ad 0)), (2, .int v2), (3, .int v3), (4, .int v4)]) rfl (fun ls hl => ?_)
            exact hL105 v3 v4 r_37 FU _ _ _ 0 0 (lv_sub hl [3, 4, 5, 6, 2, 1, 0] rfl) hP hS h
          · replace h := ifp h hc
            refine lv_goto hx hb dX12_common_96 (tgt := 168) rfl ?_
            exact hJ168 _ _ _ v3 v4 (lv_sub hl [1, 2, 3, 4] rfl) hP hS h
        · replace h := ifn h hc
          refine lv_goto hx hb dX12_common_77 (tgt := 168) rfl ?_
          exact hJ168 _ _ _ v3 v4 (lv_sub hl [0, 1, 2, 3] rfl) hP hS h
  refine lv_iload_n hx hb dX12_common_0 rfl (lv_at hl 1 rfl) ?_
  obtain ⟨r_41, hr_42, h⟩ := bd1_s h
  refine sc_i hx hb hml hown hw hN (c_mo_isDrawer l v1 r_41 hr_42) g_RX12_135 hd_X12_isDrawer (rest := []) hl.1 hS dX12_common_1 rfl rfl ⟨Nat.le_of_ble_eq_true rfl, Nat.le_of_ble_eq_true rfl⟩ rfl rfl (Nat.le_of_ble_eq_true rfl) ⟨Nat.zero_le _, Nat.zero_le _⟩ (fun H locs hk hS => ?_)
  have hP := mP_kept hP hk
  refine lv_if_eq hx hb dX12_common_4 (tgt := 14) rfl (fun hc => ?_) (fun hc => ?_)
  · replace h := ifp h hc
    refine lv_iconst (v := (-1)) hx hb dX12_common_14 ki_m1 ?_
    simp only [Option.some.injEq, Prod.mk.injEq] at h
    obtain ⟨rfl, rfl, rfl, rfl⟩ := h
    exact rc_i hx hb hr hlocks hS dX12_common_15 rfl hP
  · replace h := ifn h hc
    refine lv_iload_n hx hb dX12_common_7 rfl (lv_at hl 2 rfl) ?_
    obtain ⟨r_43, hr_44, h⟩ := bd1_s h
    refine sc_i hx hb hml hown hw hN (c_mo_isDrawer l v2 r_43 hr_44) g_RX12_135 hd_X12_isDrawer (rest := []) hl.1 hS dX12_common_8 rfl rfl ⟨Nat.le_of_ble_eq_true rfl, Nat.le_of_ble_eq_true rfl⟩ rfl rfl (Nat.le_of_ble_eq_true rfl) ⟨Nat.zero_le _, Nat.zero_le _⟩ (fun H locs hk hS => ?_)
    have hP := mP_kept hP hk
    refine lv_if_ne hx hb dX12_common_11 (tgt := 16) rfl (fun hc => ?_) (fun hc => ?_)
    · replace h := ifn h hc
      refine lv_aload_n hx hb dX12_common_16 rfl (lv_at hl 0 rfl) ?_
      refine mg_MO_0 hx hb hw hown hK hP dX12_common_17 ?_
      refine lv_iload_n hx hb dX12_common_20 rfl (lv_at hl 1 rfl) ?_
      obtain ⟨hin, h⟩ := ck_s h
      refine md_drawer hx hb hK hP hin dX12_common_21 ?_
      refine lv_lconst (v := 0) hx hb dX12_common_22 kl_0 ?_
      refine W.lcmp hx hb dX12_common_23 ?_
      refine lv_if_eq hx hb dX12_common_24 (tgt := 38) rfl (fun hc => ?_) (fun hc => ?_)
      · replace h := ifp h ((lg_cmp_eq _ _).mp hc)
        refine lv_bipush (v := (-2)) hx hb dX12_common_38 kb_m2 ?_
        simp only [Option.some.injEq, Prod.mk.injEq] at h
        obtain ⟨rfl, rfl, rfl, rfl⟩ := h
        exact rc_i hx hb hr hlocks hS dX12_common_40 rfl hP
      · replace h := ifn h (fun q => hc ((lg_cmp_eq _ _).mpr q))
        refine lv_aload_n hx hb dX12_common_27 rfl (lv_at hl 0 rfl) ?_
        refine mg_MO_0 hx hb hw hown hK hP dX12_common_28 ?_
        refine lv_iload_n hx hb dX12_common_31 rfl (lv_at hl 2 rfl) ?_
        obtain ⟨hin, h⟩ := ck_s h
        refine md_drawer hx hb hK hP hin dX12_common_32 ?_
        refine lv_lconst (v := 0) hx hb dX12_common_33 kl_0 ?_
        refine W.lcmp hx hb dX12_common_34 ?_
        refine lv_if_ne hx hb dX12_common_35 (tgt := 41) rfl (fun hc => ?_) (fun hc => ?_)
        · replace h := ifn h (fun q => hc ((lg_cmp_eq _ _).mpr q))
          refine lv_aload_n hx hb dX12_common_41 rfl (lv_at hl 0 rfl) ?_
          refine lv_aload_n hx hb dX12_common_42 rfl (lv_at hl 0 rfl) ?_
          refine mg_MO_0 hx hb hw hown hK hP dX12_common_43 ?_
          refine lv_iload_n hx hb dX12_common_46 rfl (lv_at hl 1 rfl) ?_
          obtain ⟨hin, h⟩ := ck_s h
          refine md_drawer hx hb hK hP hin dX12_common_47 ?_
          obtain ⟨y_cells_45, a_cellAt_46, a_besideIn_47, hr_48, h⟩ := bd3_s h
          refine hv_v hx hb hml hown hw mB_bl (mB_of hN hK hP) (mr_MO hK hP) (c_mo_laysCells l D ct ad hI (a_drawer v1.toNatClampNeg) y_cells_45 a_cellAt_46 a_besideIn_47 hr_48) g_RX12_349 ⟨rfl, hd_X12_laysCells⟩ (rest := []) hl.1 hS (fun q h => h) dX12_common_48 rfl rfl ⟨Nat.le_of_ble_eq_true rfl, Nat.le_of_ble_eq_true rfl⟩ rfl rfl (Nat.le_of_ble_eq_true rfl) ⟨Nat.zero_le _, Nat.zero_le _⟩ (fun H locs hP _ hS => ?_)
          refine lv_iconst (v := 0) hx hb dX12_common_51 ki_0 ?_
          refine lv_istore_n hx hb dX12_common_52 rfl hl (Nat.le_of_ble_eq_true rfl) (lv' := [(3, .int 0), (0, .ref (ad 0)), (1, .int v1), (2, .int v2)]) rfl (fun ls hl => ?_)
          refine lv_iconst (v := 1) hx hb dX12_common_53 ki_1 ?_
          refine lv_istore hx hb dX12_common_54 hl (Nat.le_of_ble_eq_true rfl) (lv' := [(4, .int 1), (3, .int 0), (0, .ref (ad 0)), (1, .int v1), (2, .int v2)]) rfl (fun ls hl => ?_)
          exact hL56 v2 y_cells_45 a_drawer a_cellAt_46 a_besideIn_47 FU _ _ _ 0 1 (lv_sub hl [2, 4, 1, 0] rfl) hP hS h
        · replace h := ifp h ((lg_cmp_eq _ _).mp hc)
          refine lv_bipush (v := (-2)) hx hb dX12_common_38 kb_m2 ?_
          simp only [Option.some.injEq, Prod.mk.injEq] at h
          obtain ⟨rfl, rfl, rfl, rfl⟩ := h
          exact rc_i hx hb hr hlocks hS dX12_common_40 rfl hP
    · replace h := ifp h hc
      refine lv_iconst (v := (-1)) hx hb dX12_common_14 ki_m1 ?_
      simp only [Option.some.injEq, Prod.mk.injEq] at h
      obtain ⟨rfl, rfl, rfl, rfl⟩ := h
      exact rc_i hx hb hr hlocks hS dX12_common_15 rfl hP
noncomputable def mo_share_J61  (a_drawer : Nat → Int64)  : Option (Int32) :=
  some ((-2))
noncomputable def mo_share (v1 : Int32) (v2 : Int32) (v3 : Int32) (v4 : Int32) (a_drawer : Nat → Int64) : Option (Int32) :=
  bd1 (mo_isDrawer v1) fun r_1 =>
  if r_1 = 0 then (some ((-1))) else
  bd1 (mo_isDrawer v2) fun r_3 =>
  if r_3 = 0 then (some ((-1))) else
  bd1 (mo_in v3 (-7) 7) fun r_5 =>
  if r_5 = 0 then (some ((-1))) else
  bd1 (mo_in v4 (-7) 7) fun r_7 =>
  if r_7 = 0 then (some ((-1))) else
  ck v1 8 <|
  if (a_drawer v1.toNatClampNeg) = 0 then (mo_share_J61 a_drawer) else
  ck v2 8 <|
  if (a_drawer v2.toNatClampNeg) = 0 then (mo_share_J61 a_drawer) else
  ck v1 8 <|
  ck v2 8 <|
  bd1 (mo_shared (a_drawer v1.toNatClampNeg) (a_drawer v2.toNatClampNeg) v3 v4) fun r_9 =>
  some (r_9)
set_option maxHeartbeats 4000000 in
set_option maxRecDepth 100000 in
theorem c_mo_share (l : Launch) (D : va_G) (ct : Nat → ClassId) (ad : Nat → Nat) (hI : mI ad) {y_km y_tp y_goes y_kin y_qd y_sides y_cuts y_flat y_cp y_cA y_cB y_1X y_1Y y_2X y_2Y y_tm y_cells : Int32} {a_mtape a_flood a_going a_field a_from a_mcrowds a_steps a_queue a_letter a_lineX a_lineY a_triedAt a_cellAt a_besideIn a_apart : Nat → Int32} {a_drawer a_mkept a_listed a_mkin a_tried a_takenAt a_waysOf : Nat → Int64} (v1 : Int32) (v2 : Int32) (v3 : Int32) (v4 : Int32) (r : Int32)  (h : mo_share v1 v2 v3 v4 a_drawer = some (r)) : Met l yX12_share (wm yX12_share cX12_share 5 (some .int)) (rmm 3 74) (va_Pc [.ref (ad 0), .int v1, .int v2, .int v3, .int v4] (mB D ct ad y_km y_tp y_goes y_kin y_qd y_sides y_cuts y_flat y_cp y_cA y_cB y_1X y_1Y y_2X y_2Y y_tm y_cells a_mtape a_flood a_going a_field a_from a_mcrowds a_steps a_queue a_letter a_lineX a_lineY a_triedAt a_cellAt a_besideIn a_apart a_drawer a_mkept a_listed a_mkin a_tried a_takenAt a_waysOf)) (va_Qi (fun z (_ : Unit) => z = r) (fun _ t => mP D ct ad y_km y_tp y_goes y_kin y_qd y_sides y_cuts y_flat y_cp y_cA y_cB y_1X y_1Y y_2X y_2Y y_tm y_cells a_mtape a_flood a_going a_field a_from a_mcrowds a_steps a_queue a_letter a_lineX a_lineY a_triedAt a_cellAt a_besideIn a_apart a_drawer a_mkept a_listed a_mkin a_tried a_takenAt a_waysOf t.heap) (mA ad)) 0 0 (mA ad) := by
  refine met_s (y := yX12_share) (rm := rmm 3 74) (by decide) (Nat.le_of_ble_eq_true rfl) ?_
  intro p e s m below meth c hx hb hr hw hown hlocks _ hml hB ls hl
  obtain ⟨hN, hK, hP⟩ := hB
  replace hl : lv_has ls 5 [(0, .ref (ad 0)), (1, .int v1), (2, .int v2), (3, .int v3), (4, .int v4)] := hl
  have hS : va_S (mA ad) s.heap s.heap [] := va_S.rf
  generalize (([.ref (ad 0), .int v1, .int v2, .int v3, .int v4] : List Value).toArray) = av at hw ⊢
  rw [mo_share] at h
  have hJ61 : ∀ (H : Heap) (locs : List Loc) (ls : Array Slot) (a_drawer : Nat → Int64) , lv_has ls 5 [] → mP D ct ad y_km y_tp y_goes y_kin y_qd y_sides y_cuts y_flat y_cp y_cA y_cB y_1X y_1Y y_2X y_2Y y_tm y_cells a_mtape a_flood a_going a_field a_from a_mcrowds a_steps a_queue a_letter a_lineX a_lineY a_triedAt a_cellAt a_besideIn a_apart a_drawer a_mkept a_listed a_mkin a_tried a_takenAt a_waysOf H → va_S (mA ad) s.heap H locs → mo_share_J61 a_drawer = some (r) → W p l e (rmm 3 74) s m av below meth c H locs 0 0 (MQ below (va_Qi (fun z (_ : Unit) => z = r) (fun _ t => mP D ct ad y_km y_tp y_goes y_kin y_qd y_sides y_cuts y_flat y_cp y_cA y_cB y_1X y_1Y y_2X y_2Y y_tm y_cells a_mtape a_flood a_going a_field a_from a_mcrowds a_steps a_queue a_letter a_lineX a_lineY a_triedAt a_cellAt a_besideIn a_apart a_drawer a_mkept a_listed a_mkin a_tried a_takenAt a_waysOf t.heap) (mA ad)) av s 0 0 (mA ad)) (F0 m 61 ls []) := by
    intro H locs ls a_drawer  hl hP hS h
    rw [mo_share_J61] at h
    refine lv_bipush (v := (-2)) hx hb dX12_share_61 kb_m2 ?_
    refine lv_goto hx hb dX12_share_63 (tgt := 84) rfl ?_
    replace h := Option.some.inj h
    subst h
    exact rc_i hx hb hr hlocks hS dX12_share_84 rfl hP
  refine lv_iload_n hx hb dX12_share_0 rfl (lv_at hl 1 rfl) ?_
  obtain ⟨r_11, hr_12, h⟩ := bd1_s h
  refine sc_i hx hb hml hown hw hN (c_mo_isDrawer l v1 r_11 hr_12) g_RX12_135 hd_X12_isDrawer (rest := []) hl.1 hS dX12_share_1 rfl rfl ⟨Nat.le_of_ble_eq_true rfl, Nat.le_of_ble_eq_true rfl⟩ rfl rfl (Nat.le_of_ble_eq_true rfl) ⟨Nat.zero_le _, Nat.zero_le _⟩ (fun H locs hk hS => ?_)
  have hP := mP_kept hP hk
  refine lv_if_eq hx hb dX12_share_4 (tgt := 37) rfl (fun hc => ?_) (fun hc => ?_)
  · replace h := ifp h hc
    refine lv_iconst (v := (-1)) hx hb dX12_share_37 ki_m1 ?_
    replace h := Option.some.inj h
    subst h
    exact rc_i hx hb hr hlocks hS dX12_share_38 rfl hP
  · replace h := ifn h hc
    refine lv_iload_n hx hb dX12_share_7 rfl (lv_at hl 2 rfl) ?_
    obtain ⟨r_13, hr_14, h⟩ := bd1_s h
    refine sc_i hx hb hml hown hw hN (c_mo_isDrawer l v2 r_13 hr_14) g_RX12_135 hd_X12_isDrawer (rest := []) hl.1 hS dX12_share_8 rfl rfl ⟨Nat.le_of_ble_eq_true rfl, Nat.le_of_ble_eq_true rfl⟩ rfl rfl (Nat.le_of_ble_eq_true rfl) ⟨Nat.zero_le _, Nat.zero_le _⟩ (fun H locs hk hS => ?_)
    have hP := mP_kept hP hk
    refine lv_if_eq hx hb dX12_share_11 (tgt := 37) rfl (fun hc => ?_) (fun hc => ?_)
    · replace h := ifp h hc
      refine lv_iconst (v := (-1)) hx hb dX12_share_37 ki_m1 ?_
      replace h := Option.some.inj h
      subst h
      exact rc_i hx hb hr hlocks hS dX12_share_38 rfl hP
    · replace h := ifn h hc
      refine lv_iload_n hx hb dX12_share_14 rfl (lv_at hl 3 rfl) ?_
      refine lv_bipush (v := (-7)) hx hb dX12_share_15 kb_m7 ?_
      refine lv_bipush (v := 7) hx hb dX12_share_17 kb_7 ?_
      obtain ⟨r_15, hr_16, h⟩ := bd1_s h
      refine sc_i hx hb hml hown hw hN (c_mo_in l v3 (-7) 7 r_15 hr_16) g_RX12_82 hd_X12_in (rest := []) hl.1 hS dX12_share_19 rfl rfl ⟨Nat.le_of_ble_eq_true rfl, Nat.le_of_ble_eq_true rfl⟩ rfl rfl (Nat.le_of_ble_eq_true rfl) ⟨Nat.zero_le _, Nat.zero_le _⟩ (fun H locs hk hS => ?_)
      have hP := mP_kept hP hk
      refine lv_if_eq hx hb dX12_share_22 (tgt := 37) rfl (fun hc => ?_) (fun hc => ?_)
      · replace h := ifp h hc
        refine lv_iconst (v := (-1)) hx hb dX12_share_37 ki_m1 ?_
        replace h := Option.some.inj h
        subst h
        exact rc_i hx hb hr hlocks hS dX12_share_38 rfl hP
      · replace h := ifn h hc
        refine lv_iload hx hb dX12_share_25 (lv_at hl 4 rfl) ?_
        refine lv_bipush (v := (-7)) hx hb dX12_share_27 kb_m7 ?_
        refine lv_bipush (v := 7) hx hb dX12_share_29 kb_7 ?_
        obtain ⟨r_17, hr_18, h⟩ := bd1_s h
        refine sc_i hx hb hml hown hw hN (c_mo_in l v4 (-7) 7 r_17 hr_18) g_RX12_82 hd_X12_in (rest := []) hl.1 hS dX12_share_31 rfl rfl ⟨Nat.le_of_ble_eq_true rfl, Nat.le_of_ble_eq_true rfl⟩ rfl rfl (Nat.le_of_ble_eq_true rfl) ⟨Nat.zero_le _, Nat.zero_le _⟩ (fun H locs hk hS => ?_)
        have hP := mP_kept hP hk
        refine lv_if_ne hx hb dX12_share_34 (tgt := 39) rfl (fun hc => ?_) (fun hc => ?_)
        · replace h := ifn h hc
          refine lv_aload_n hx hb dX12_share_39 rfl (lv_at hl 0 rfl) ?_
          refine mg_MO_0 hx hb hw hown hK hP dX12_share_40 ?_
          refine lv_iload_n hx hb dX12_share_43 rfl (lv_at hl 1 rfl) ?_
          obtain ⟨hin, h⟩ := ck_s h
          refine md_drawer hx hb hK hP hin dX12_share_44 ?_
          refine lv_lconst (v := 0) hx hb dX12_share_45 kl_0 ?_
          refine W.lcmp hx hb dX12_share_46 ?_
          refine lv_if_eq hx hb dX12_share_47 (tgt := 61) rfl (fun hc => ?_) (fun hc => ?_)
          · replace h := ifp h ((lg_cmp_eq _ _).mp hc)
            exact hJ61 _ _ _ a_drawer (lv_sub hl [] rfl) hP hS h
          · replace h := ifn h (fun q => hc ((lg_cmp_eq _ _).mpr q))
            refine lv_aload_n hx hb dX12_share_50 rfl (lv_at hl 0 rfl) ?_
            refine mg_MO_0 hx hb hw hown hK hP dX12_share_51 ?_
            refine lv_iload_n hx hb dX12_share_54 rfl (lv_at hl 2 rfl) ?_
            obtain ⟨hin, h⟩ := ck_s h
            refine md_drawer hx hb hK hP hin dX12_share_55 ?_
            refine lv_lconst (v := 0) hx hb dX12_share_56 kl_0 ?_
            refine W.lcmp hx hb dX12_share_57 ?_
            refine lv_if_ne hx hb dX12_share_58 (tgt := 66) rfl (fun hc => ?_) (fun hc => ?_)
            · replace h := ifn h (fun q => hc ((lg_cmp_eq _ _).mpr q))
              refine lv_aload_n hx hb dX12_share_66 rfl (lv_at hl 0 rfl) ?_
              refine mg_MO_0 hx hb hw hown hK hP dX12_share_67 ?_
              refine lv_iload_n hx hb dX12_share_70 rfl (lv_at hl 1 rfl) ?_
              obtain ⟨hin, h⟩ := ck_s h
              refine md_drawer hx hb hK hP hin dX12_share_71 ?_
              refine lv_aload_n hx hb dX12_share_72 rfl (lv_at hl 0 rfl) ?_
              refine mg_MO_0 hx hb hw hown hK hP dX12_share_73 ?_
              refine lv_iload_n hx hb dX12_share_76 rfl (lv_at hl 2 rfl) ?_
              obtain ⟨hin, h⟩ := ck_s h
              refine md_drawer hx hb hK hP hin dX12_share_77 ?_
              refine lv_iload_n hx hb dX12_share_78 rfl (lv_at hl 3 rfl) ?_
              refine lv_iload hx hb dX12_share_79 (lv_at hl 4 rfl) ?_
              obtain ⟨r_19, hr_20, h⟩ := bd1_s h
              refine sc_i hx hb hml hown hw hN (c_mo_shared l (a_drawer v1.toNatClampNeg) (a_drawer v2.toNatClampNeg) v3 v4 r_19 hr_20) g_RX12_374 hd_X12_shared (rest := []) hl.1 hS dX12_share_81 rfl rfl ⟨Nat.le_of_ble_eq_true rfl, Nat.le_of_ble_eq_true rfl⟩ rfl rfl (Nat.le_of_ble_eq_true rfl) ⟨Nat.zero_le _, Nat.zero_le _⟩ (fun H locs hk hS => ?_)
              have hP := mP_kept hP hk
              replace h := Option.some.inj h
              subst h
              exact rc_i hx hb hr hlocks hS dX12_share_84 rfl hP
            · replace h := ifp h ((lg_cmp_eq _ _).mp hc)
              exact hJ61 _ _ _ a_drawer (lv_sub hl [] rfl) hP hS h
        · replace h := ifp h hc
          refine lv_iconst (v := (-1)) hx hb dX12_share_37 ki_m1 ?_
          replace h := Option.some.inj h
          subst h
          exact rc_i hx hb hr hlocks hS dX12_share_38 rfl hP
noncomputable def mo_touch_J218 (k90 : Int32 → Int32 → Int32 → Int32 → Int32 → Int32 → Int32 → Option (Int32)) (k101 : Int32 → Int32 → Int32 → Int32 → Int32 → Int32 → Int32 → Option (Int32)) (a_drawer : Nat → Int64) (v3 : Int32) (v4 : Int64) (v6 : Int64) (v8 : Int32) (v9 : Int32) (v10 : Int32) (v11 : Int32) (v12 : Int32) (v13 : Int32) (v14 : Int32) (v15 : Int32)  : Option (Int32) :=
  nm (v15 + Int32.ofInt 1) fun v15_1 =>
  k101 v8 v9 v10 v11 v12 v13 v15_1
noncomputable def mo_touch_J216 (k90 : Int32 → Int32 → Int32 → Int32 → Int32 → Int32 → Int32 → Option (Int32)) (k101 : Int32 → Int32 → Int32 → Int32 → Int32 → Int32 → Int32 → Option (Int32)) (a_drawer : Nat → Int64) (v3 : Int32) (v4 : Int64) (v6 : Int64) (v8 : Int32) (v9 : Int32) (v10 : Int32) (v11 : Int32) (v12 : Int32) (v14 : Int32) (v15 : Int32) (t0 : Int32) : Option (Int32) :=
  mo_touch_J218 k90 k101 a_drawer v3 v4 v6 v8 v9 v10 v11 v12 t0 v14 v15
noncomputable def mo_touch_J169 (k90 : Int32 → Int32 → Int32 → Int32 → Int32 → Int32 → Int32 → Option (Int32)) (k101 : Int32 → Int32 → Int32 → Int32 → Int32 → Int32 → Int32 → Option (Int32)) (a_drawer : Nat → Int64) (v3 : Int32) (v4 : Int64) (v6 : Int64) (v8 : Int32) (v9 : Int32) (v10 : Int32) (v11 : Int32) (v12 : Int32) (v13 : Int32) (v14 : Int32) (v15 : Int32)  : Option (Int32) :=
  bd1 (mo_wide v4) fun r_2 =>
  bd1 (mo_wide v6) fun r_4 =>
  bd1 (mo_spans r_2 r_4 v15) fun r_6 =>
  bd1 (mo_high v4) fun r_8 =>
  bd1 (mo_high v6) fun r_10 =>
  bd1 (mo_spans r_8 r_10 v14) fun r_12 =>
  nm (r_6 * r_12 : Int32) fun v17_14 =>
  if v13 ≤ v17_14 then (mo_touch_J216 k90 k101 a_drawer v3 v4 v6 v8 v9 v10 v11 v12 v14 v15 v13) else
  mo_touch_J216 k90 k101 a_drawer v3 v4 v6 v8 v9 v10 v11 v12 v14 v15 v17_14
noncomputable def mo_touch_J147 (k90 : Int32 → Int32 → Int32 → Int32 → Int32 → Int32 → Int32 → Option (Int32)) (k101 : Int32 → Int32 → Int32 → Int32 → Int32 → Int32 → Int32 → Option (Int32)) (a_drawer : Nat → Int64) (v3 : Int32) (v4 : Int64) (v6 : Int64) (v8 : Int32) (v10 : Int32) (v11 : Int32) (v12 : Int32) (v13 : Int32) (v14 : Int32) (v15 : Int32) (v16 : Int32) (t0 : Int32) (t1 : Int32) : Option (Int32) :=
  nm (t0 + t1 : Int32) fun v9_15 =>
  if v16 ≤ v10 then (mo_touch_J169 k90 k101 a_drawer v3 v4 v6 v8 v9_15 v10 v11 v12 v13 v14 v15) else
  mo_touch_J169 k90 k101 a_drawer v3 v4 v6 v8 v9_15 v16 v15 v14 v13 v14 v15
noncomputable def mo_touch_B101 (v3 : Int32) (v4 : Int64) (v6 : Int64) (v14 : Int32) (a_drawer : Nat → Int64) (k90 : Int32 → Int32 → Int32 → Int32 → Int32 → Int32 → Int32 → Option (Int32)) (k101 : Int32 → Int32 → Int32 → Int32 → Int32 → Int32 → Int32 → Option (Int32)) (v8 : Int32) (v9 : Int32) (v10 : Int32) (v11 : Int32) (v12 : Int32) (v13 : Int32) (v15 : Int32) : Option (Int32) :=
  if 8 ≤ v15 then (nm (v14 + Int32.ofInt 1) fun v14_16 =>
  k90 v8 v9 v10 v11 v12 v13 v14_16) else
  bd1 (mo_shared v4 v6 v15 v14) fun r_17 =>
  if 0 ≤ r_17 then (if r_17 ≤ 0 then (mo_touch_J147 k90 k101 a_drawer v3 v4 v6 v8 v10 v11 v12 v13 v14 v15 r_17 v9 0) else
  mo_touch_J147 k90 k101 a_drawer v3 v4 v6 v8 v10 v11 v12 v13 v14 v15 r_17 v9 1) else
  nm (v8 + 1 : Int32) fun v8_19 =>
  mo_touch_J218 k90 k101 a_drawer v3 v4 v6 v8_19 v9 v10 v11 v12 v13 v14 v15
noncomputable def mo_touch_B90 (v3 : Int32) (v4 : Int64) (v6 : Int64) (a_drawer : Nat → Int64)  (k90 : Int32 → Int32 → Int32 → Int32 → Int32 → Int32 → Int32 → Option (Int32)) (v8 : Int32) (v9 : Int32) (v10 : Int32) (v11 : Int32) (v12 : Int32) (v13 : Int32) (v14 : Int32) : Option (Int32) :=
  if 8 ≤ v14 then (if v3 = 0 then (some (v8)) else
  if v3 = 1 then (some (v9)) else
  if v3 = 2 then (some (v10)) else
  if v3 = 3 then (some (v11 + 10)) else
  if v3 = 4 then (some (v12 + 10)) else
  some (v13)) else
  fl7 (mo_touch_B101 v3 v4 v6 v14 a_drawer k90) FU v8 v9 v10 v11 v12 v13 (-7)
noncomputable def mo_touch (v1 : Int32) (v2 : Int32) (v3 : Int32) (a_drawer : Nat → Int64) : Option (Int32) :=
  bd1 (mo_isDrawer v1) fun r_20 =>
  if r_20 = 0 then (some ((-1))) else
  bd1 (mo_isDrawer v2) fun r_22 =>
  if r_22 = 0 then (some ((-1))) else
  bd1 (mo_in v3 0 5) fun r_24 =>
  if r_24 = 0 then (some ((-1))) else
  ck v1 8 <|
  if (a_drawer v1.toNatClampNeg) = 0 then (some ((-2))) else
  ck v2 8 <|
  if (a_drawer v2.toNatClampNeg) = 0 then (some ((-2))) else
  ck v1 8 <|
  nm (a_drawer v1.toNatClampNeg : Int64) fun v4_26 =>
  ck v2 8 <|
  nm (a_drawer v2.toNatClampNeg : Int64) fun v6_27 =>
  fl7 (mo_touch_B90 v3 v4_26 v6_27 a_drawer) FU 0 0 (-1) 0 0 10000 (-7)
set_option maxHeartbeats 4000000 in
set_option maxRecDepth 100000 in
theorem c_mo_touch (l : Launch) (D : va_G) (ct : Nat → ClassId) (ad : Nat → Nat) (hI : mI ad) {y_km y_tp y_goes y_kin y_qd y_sides y_cuts y_flat y_cp y_cA y_cB y_1X y_1Y y_2X y_2Y y_tm y_cells : Int32} {a_mtape a_flood a_going a_field a_from a_mcrowds a_steps a_queue a_letter a_lineX a_lineY a_triedAt a_cellAt a_besideIn a_apart : Nat → Int32} {a_drawer a_mkept a_listed a_mkin a_tried a_takenAt a_waysOf : Nat → Int64} (v1 : Int32) (v2 : Int32) (v3 : Int32) (r : Int32)  (h : mo_touch v1 v2 v3 a_drawer = some (r)) : Met l yX12_touch (wm yX12_touch cX12_touch 18 (some .int)) (rmm 3 74) (va_Pc [.ref (ad 0), .int v1, .int v2, .int v3] (mB D ct ad y_km y_tp y_goes y_kin y_qd y_sides y_cuts y_flat y_cp y_cA y_cB y_1X y_1Y y_2X y_2Y y_tm y_cells a_mtape a_flood a_going a_field a_from a_mcrowds a_steps a_queue a_letter a_lineX a_lineY a_triedAt a_cellAt a_besideIn a_apart a_drawer a_mkept a_listed a_mkin a_tried a_takenAt a_waysOf)) (va_Qi (fun z (_ : Unit) => z = r) (fun _ t => mP D ct ad y_km y_tp y_goes y_kin y_qd y_sides y_cuts y_flat y_cp y_cA y_cB y_1X y_1Y y_2X y_2Y y_tm y_cells a_mtape a_flood a_going a_field a_from a_mcrowds a_steps a_queue a_letter a_lineX a_lineY a_triedAt a_cellAt a_besideIn a_apart a_drawer a_mkept a_listed a_mkin a_tried a_takenAt a_waysOf t.heap) (mA ad)) 0 0 (mA ad) := by
  refine met_s (y := yX12_touch) (rm := rmm 3 74) (by decide) (Nat.le_of_ble_eq_true rfl) ?_
  intro p e s m below meth c hx hb hr hw hown hlocks _ hml hB ls hl
  obtain ⟨hN, hK, hP⟩ := hB
  replace hl : lv_has ls 18 [(0, .ref (ad 0)), (1, .int v1), (2, .int v2), (3, .int v3)] := hl
  have hS : va_S (mA ad) s.heap s.heap [] := va_S.rf
  generalize (([.ref (ad 0), .int v1, .int v2, .int v3] : List Value).toArray) = av at hw ⊢
  rw [mo_touch] at h
  have hL90 : ∀ (v3 : Int32), ∀ (v4 : Int64), ∀ (v6 : Int64), ∀ (a_drawer : Nat → Int64), ∀ (n90 : Nat) (H : Heap) (locs : List Loc) (ls : Array Slot) (v8 : Int32) (v9 : Int32) (v10 : Int32) (v11 : Int32) (v12 : Int32) (v13 : Int32) (v14 : Int32), lv_has ls 18 [(3, .int v3), (4, .long v4), (6, .long v6), (8, .int v8), (9, .int v9), (10, .int v10), (11, .int v11), (12, .int v12), (13, .int v13), (14, .int v14)] → mP D ct ad y_km y_tp y_goes y_kin y_qd y_sides y_cuts y_flat y_cp y_cA y_cB y_1X y_1Y y_2X y_2Y y_tm y_cells a_mtape a_flood a_going a_field a_from a_mcrowds a_steps a_queue a_letter a_lineX a_lineY a_triedAt a_cellAt a_besideIn a_apart a_drawer a_mkept a_listed a_mkin a_tried a_takenAt a_waysOf H → va_S (mA ad) s.heap H locs → fl7 (mo_touch_B90 v3 v4 v6 a_drawer) n90 v8 v9 v10 v11 v12 v13 v14 = some (r) → W p l e (rmm 3 74) s m av below meth c H locs 0 0 (MQ below (va_Qi (fun z (_ : Unit) => z = r) (fun _ t => mP D ct ad y_km y_tp y_goes y_kin y_qd y_sides y_cuts y_flat y_cp y_cA y_cB y_1X y_1Y y_2X y_2Y y_tm y_cells a_mtape a_flood a_going a_field a_from a_mcrowds a_steps a_queue a_letter a_lineX a_lineY a_triedAt a_cellAt a_besideIn a_apart a_drawer a_mkept a_listed a_mkin a_tried a_takenAt a_waysOf t.heap) (mA ad)) av s 0 0 (mA ad)) (F0 m 90 ls []) := by
    intro v3 v4 v6 a_drawer n90
    induction n90 with
    | zero => intro H locs ls v8 v9 v10 v11 v12 v13 v14 hl hP hS h; cases h
    | succ n90 ih90 =>
      intro H locs ls v8 v9 v10 v11 v12 v13 v14 hl hP hS h
      replace h : mo_touch_B90 v3 v4 v6 a_drawer (fl7 (mo_touch_B90 v3 v4 v6 a_drawer) n90) v8 v9 v10 v11 v12 v13 v14 = some (r) := h
      generalize fl7 (mo_touch_B90 v3 v4 v6 a_drawer) n90 = k90 at h ih90
      have hL101 : ∀ (v14 : Int32), ∀ (n101 : Nat) (H : Heap) (locs : List Loc) (ls : Array Slot) (v8 : Int32) (v9 : Int32) (v10 : Int32) (v11 : Int32) (v12 : Int32) (v13 : Int32) (v15 : Int32), lv_has ls 18 [(3, .int v3), (4, .long v4), (6, .long v6), (8, .int v8), (9, .int v9), (10, .int v10), (11, .int v11), (12, .int v12), (13, .int v13), (14, .int v14), (15, .int v15)] → mP D ct ad y_km y_tp y_goes y_kin y_qd y_sides y_cuts y_flat y_cp y_cA y_cB y_1X y_1Y y_2X y_2Y y_tm y_cells a_mtape a_flood a_going a_field a_from a_mcrowds a_steps a_queue a_letter a_lineX a_lineY a_triedAt a_cellAt a_besideIn a_apart a_drawer a_mkept a_listed a_mkin a_tried a_takenAt a_waysOf H → va_S (mA ad) s.heap H locs → fl7 (mo_touch_B101 v3 v4 v6 v14 a_drawer k90) n101 v8 v9 v10 v11 v12 v13 v15 = some (r) → W p l e (rmm 3 74) s m av below meth c H locs 0 0 (MQ below (va_Qi (fun z (_ : Unit) => z = r) (fun _ t => mP D ct ad y_km y_tp y_goes y_kin y_qd y_sides y_cuts y_flat y_cp y_cA y_cB y_1X y_1Y y_2X y_2Y y_tm y_cells a_mtape a_flood a_going a_field a_from a_mcrowds a_steps a_queue a_letter a_lineX a_lineY a_triedAt a_cellAt a_besideIn a_apart a_drawer a_mkept a_listed a_mkin a_tried a_takenAt a_waysOf t.heap) (mA ad)) av s 0 0 (mA ad)) (F0 m 101 ls []) := by
        intro v14 n101
        induction n101 with
        | zero => intro H locs ls v8 v9 v10 v11 v12 v13 v15 hl hP hS h; cases h
        | succ n101 ih101 =>
          intro H locs ls v8 v9 v10 v11 v12 v13 v15 hl hP hS h
          replace h : mo_touch_B101 v3 v4 v6 v14 a_drawer k90 (fl7 (mo_touch_B101 v3 v4 v6 v14 a_drawer k90) n101) v8 v9 v10 v11 v12 v13 v15 = some (r) := h
          generalize fl7 (mo_touch_B101 v3 v4 v6 v14 a_drawer k90) n101 = k101 at h ih101
          have hJ218 : ∀ (H : Heap) (locs : List Loc) (ls : Array Slot) (v8 : Int32) (v9 : Int32) (v10 : Int32) (v11 : Int32) (v12 : Int32) (v13 : Int32) (v15 : Int32) , lv_has ls 18 [(3, .int v3), (4, .long v4), (6, .long v6), (8, .int v8), (9, .int v9), (10, .int v10), (11, .int v11), (12, .int v12), (13, .int v13), (14, .int v14), (15, .int v15)] → mP D ct ad y_km y_tp y_goes y_kin y_qd y_sides y_cuts y_flat y_cp y_cA y_cB y_1X y_1Y y_2X y_2Y y_tm y_cells a_mtape a_flood a_going a_field a_from a_mcrowds a_steps a_queue a_letter a_lineX a_lineY a_triedAt a_cellAt a_besideIn a_apart a_drawer a_mkept a_listed a_mkin a_tried a_takenAt a_waysOf H → va_S (mA ad) s.heap H locs → mo_touch_J218 k90 k101 a_drawer v3 v4 v6 v8 v9 v10 v11 v12 v13 v14 v15 = some (r) → W p l e (rmm 3 74) s m av below meth c H locs 0 0 (MQ below (va_Qi (fun z (_ : Unit) => z = r) (fun _ t => mP D ct ad y_km y_tp y_goes y_kin y_qd y_sides y_cuts y_flat y_cp y_cA y_cB y_1X y_1Y y_2X y_2Y y_tm y_cells a_mtape a_flood a_going a_field a_from a_mcrowds a_steps a_queue a_letter a_lineX a_lineY a_triedAt a_cellAt a_besideIn a_apart a_drawer a_mkept a_listed a_mkin a_tried a_takenAt a_waysOf t.heap) (mA ad)) av s 0 0 (mA ad)) (F0 m 218 ls []) := by
            intro H locs ls v8 v9 v10 v11 v12 v13 v15  hl hP hS h
            rw [mo_touch_J218] at h
            obtain ⟨v15_28, ev15_28, h⟩ := nm_s h
            refine lv_iinc hx hb dX12_touch_218 hl (k := 10) rfl ev15_28.symm (Nat.le_of_ble_eq_true rfl) (lv' := [(15, .int v15_28), (3, .int v3), (4, .long v4), (6, .long v6), (8, .int v8), (9, .int v9), (10, .int v10), (11, .int v11), (12, .int v12), (13, .int v13), (14, .int v14)]) rfl (fun ls hl => ?_)
            refine lv_goto hx hb dX12_touch_221 (tgt := 101) rfl ?_
            exact ih101 _ _ _ v8 v9 v10 v11 v12 v13 v15_28 (lv_sub hl [1, 2, 3, 4, 5, 6, 7, 8, 9, 10, 0] rfl) hP hS h
          have hJ216 : ∀ (H : Heap) (locs : List Loc) (ls : Array Slot) (v8 : Int32) (v9 : Int32) (v10 : Int32) (v11 : Int32) (v12 : Int32) (v15 : Int32) (t0 : Int32), lv_has ls 18 [(3, .int v3), (4, .long v4), (6, .long v6), (8, .int v8), (9, .int v9), (10, .int v10), (11, .int v11), (12, .int v12), (14, .int v14), (15, .int v15)] → mP D ct ad y_km y_tp y_goes y_kin y_qd y_sides y_cuts y_flat y_cp y_cA y_cB y_1X y_1Y y_2X y_2Y y_tm y_cells a_mtape a_flood a_going a_field a_from a_mcrowds a_steps a_queue a_letter a_lineX a_lineY a_triedAt a_cellAt a_besideIn a_apart a_drawer a_mkept a_listed a_mkin a_tried a_takenAt a_waysOf H → va_S (mA ad) s.heap H locs → mo_touch_J216 k90 k101 a_drawer v3 v4 v6 v8 v9 v10 v11 v12 v14 v15 t0 = some (r) → W p l e (rmm 3 74) s m av below meth c H locs 0 0 (MQ below (va_Qi (fun z (_ : Unit) => z = r) (fun _ t => mP D ct ad y_km y_tp y_goes y_kin y_qd y_sides y_cuts y_flat y_cp y_cA y_cB y_1X y_1Y y_2X y_2Y y_tm y_cells a_mtape a_flood a_going a_field a_from a_mcrowds a_steps a_queue a_letter a_lineX a_lineY a_triedAt a_cellAt a_besideIn a_apart a_drawer a_mkept a_listed a_mkin a_tried a_takenAt a_waysOf t.heap) (mA ad)) av s 0 0 (mA ad)) (F0 m 216 ls [.int t0]) := by
            intro H locs ls v8 v9 v10 v11 v12 v15 t0 hl hP hS h
            rw [mo_touch_J216] at h
            refine lv_istore hx hb dX12_touch_216 hl (Nat.le_of_ble_eq_true rfl) (lv' := [(13, .int t0), (3, .int v3), (4, .long v4), (6, .long v6), (8, .int v8), (9, .int v9), (10, .int v10), (11, .int v11), (12, .int v12), (14, .int v14), (15, .int v15)]) rfl (fun ls hl => ?_)
            exact hJ218 _ _ _ v8 v9 v10 v11 v12 t0 v15 (lv_sub hl [1, 2, 3, 4, 5, 6, 7, 8, 0, 9, 10] rfl) hP hS h
          have hJ169 : ∀ (H : Heap) (locs : List Loc) (ls : Array Slot) (v8 : Int32) (v9 : Int32) (v10 : Int32) (v11 : Int32) (v12 : Int32) (v13 : Int32) (v15 : Int32) , lv_has ls 18 [(3, .int v3), (4, .long v4), (6, .long v6), (8, .int v8), (9, .int v9), (10, .int v10), (11, .int v11), (12, .int v12), (13, .int v13), (14, .int v14), (15, .int v15)] → mP D ct ad y_km y_tp y_goes y_kin y_qd y_sides y_cuts y_flat y_cp y_cA y_cB y_1X y_1Y y_2X y_2Y y_tm y_cells a_mtape a_flood a_going a_field a_from a_mcrowds a_steps a_queue a_letter a_lineX a_lineY a_triedAt a_cellAt a_besideIn a_apart a_drawer a_mkept a_listed a_mkin a_tried a_takenAt a_waysOf H → va_S (mA ad) s.heap H locs → mo_touch_J169 k90 k101 a_drawer v3 v4 v6 v8 v9 v10 v11 v12 v13 v14 v15 = some (r) → W p l e (rmm 3 74) s m av below meth c H locs 0 0 (MQ below (va_Qi (fun z (_ : Unit) => z = r) (fun _ t => mP D ct ad y_km y_tp y_goes y_kin y_qd y_sides y_cuts y_flat y_cp y_cA y_cB y_1X y_1Y y_2X y_2Y y_tm y_cells a_mtape a_flood a_going a_field a_from a_mcrowds a_steps a_queue a_letter a_lineX a_lineY a_triedAt a_cellAt a_besideIn a_apart a_drawer a_mkept a_listed a_mkin a_tried a_takenAt a_waysOf t.heap) (mA ad)) av s 0 0 (mA ad)) (F0 m 169 ls []) := by
            intro H locs ls v8 v9 v10 v11 v12 v13 v15  hl hP hS h
            rw [mo_touch_J169] at h
            refine lv_lload hx hb dX12_touch_169 (lv_at hl 1 rfl) ?_
            obtain ⟨r_29, hr_30, h⟩ := bd1_s h
            refine sc_i hx hb hml hown hw hN (c_mo_wide l v4 r_29 hr_30) g_RX12_163 hd_X12_wide (rest := []) hl.1 hS dX12_touch_171 rfl rfl ⟨Nat.le_of_ble_eq_true rfl, Nat.le_of_ble_eq_true rfl⟩ rfl rfl (Nat.le_of_ble_eq_true rfl) ⟨Nat.zero_le _, Nat.zero_le _⟩ (fun H locs hk hS => ?_)
            have hP := mP_kept hP hk
            refine lv_lload hx hb dX12_touch_174 (lv_at hl 2 rfl) ?_
            obtain ⟨r_31, hr_32, h⟩ := bd1_s h
            refine sc_i hx hb hml hown hw hN (c_mo_wide l v6 r_31 hr_32) g_RX12_163 hd_X12_wide (rest := [.int r_29]) hl.1 hS dX12_touch_176 rfl rfl ⟨Nat.le_of_ble_eq_true rfl, Nat.le_of_ble_eq_true rfl⟩ rfl rfl (Nat.le_of_ble_eq_true rfl) ⟨Nat.zero_le _, Nat.zero_le _⟩ (fun H locs hk hS => ?_)
            have hP := mP_kept hP hk
            refine lv_iload hx hb dX12_touch_179 (lv_at hl 10 rfl) ?_
            obtain ⟨r_33, hr_34, h⟩ := bd1_s h
            refine sc_i hx hb hml hown hw hN (c_mo_spans l r_29 r_31 v15 r_33 hr_34) g_RX12_378 hd_X12_spans (rest := []) hl.1 hS dX12_touch_181 rfl rfl ⟨Nat.le_of_ble_eq_true rfl, Nat.le_of_ble_eq_true rfl⟩ rfl rfl (Nat.le_of_ble_eq_true rfl) ⟨Nat.zero_le _, Nat.zero_le _⟩ (fun H locs hk hS => ?_)
            have hP := mP_kept hP hk
            refine lv_lload hx hb dX12_touch_184 (lv_at hl 1 rfl) ?_
            obtain ⟨r_35, hr_36, h⟩ := bd1_s h
            refine sc_i hx hb hml hown hw hN (c_mo_high l v4 r_35 hr_36) g_RX12_166 hd_X12_high (rest := [.int r_33]) hl.1 hS dX12_touch_186 rfl rfl ⟨Nat.le_of_ble_eq_true rfl, Nat.le_of_ble_eq_true rfl⟩ rfl rfl (Nat.le_of_ble_eq_true rfl) ⟨Nat.zero_le _, Nat.zero_le _⟩ (fun H locs hk hS => ?_)
            have hP := mP_kept hP hk
            refine lv_lload hx hb dX12_touch_189 (lv_at hl 2 rfl) ?_
            obtain ⟨r_37, hr_38, h⟩ := bd1_s h
            refine sc_i hx hb hml hown hw hN (c_mo_high l v6 r_37 hr_38) g_RX12_166 hd_X12_high (rest := [.int r_35, .int r_33]) hl.1 hS dX12_touch_191 rfl rfl ⟨Nat.le_of_ble_eq_true rfl, Nat.le_of_ble_eq_true rfl⟩ rfl rfl (Nat.le_of_ble_eq_true rfl) ⟨Nat.zero_le _, Nat.zero_le _⟩ (fun H locs hk hS => ?_)
            have hP := mP_kept hP hk
            refine lv_iload hx hb dX12_touch_194 (lv_at hl 9 rfl) ?_
            obtain ⟨r_39, hr_40, h⟩ := bd1_s h
            refine sc_i hx hb hml hown hw hN (c_mo_spans l r_35 r_37 v14 r_39 hr_40) g_RX12_378 hd_X12_spans (rest := [.int r_33]) hl.1 hS dX12_touch_196 rfl rfl ⟨Nat.le_of_ble_eq_true rfl, Nat.le_of_ble_eq_true rfl⟩ rfl rfl (Nat.le_of_ble_eq_true rfl) ⟨Nat.zero_le _, Nat.zero_le _⟩ (fun H locs hk hS => ?_)
            have hP := mP_kept hP hk
            refine lv_imul hx hb dX12_touch_199 ?_
            obtain ⟨v17_41, ev17_41, h⟩ := nm_s h
            refine nmI ev17_41 ?_
            refine lv_istore hx hb dX12_touch_200 hl (Nat.le_of_ble_eq_true rfl) (lv' := [(17, .int v17_41), (3, .int v3), (4, .long v4), (6, .long v6), (8, .int v8), (9, .int v9), (10, .int v10), (11, .int v11), (12, .int v12), (13, .int v13), (14, .int v14), (15, .int v15)]) rfl (fun ls hl => ?_)
            refine lv_iload hx hb dX12_touch_202 (lv_at hl 0 rfl) ?_
            refine lv_iload hx hb dX12_touch_204 (lv_at hl 9 rfl) ?_
            refine lv_icmp_ge hx hb dX12_touch_206 (tgt := 214) rfl (fun hc => ?_) (fun hc => ?_)
            · replace h := ifp h hc
              refine lv_iload hx hb dX12_touch_214 (lv_at hl 9 rfl) ?_
              exact hJ216 _ _ _ v8 v9 v10 v11 v12 v15 v13 (lv_sub hl [1, 2, 3, 4, 5, 6, 7, 8, 10, 11] rfl) hP hS h
            · replace h := ifn h hc
              refine lv_iload hx hb dX12_touch_209 (lv_at hl 0 rfl) ?_
              refine lv_goto hx hb dX12_touch_211 (tgt := 216) rfl ?_
              exact hJ216 _ _ _ v8 v9 v10 v11 v12 v15 v17_41 (lv_sub hl [1, 2, 3, 4, 5, 6, 7, 8, 10, 11] rfl) hP hS h
          have hJ147 : ∀ (H : Heap) (locs : List Loc) (ls : Array Slot) (v8 : Int32) (v10 : Int32) (v11 : Int32) (v12 : Int32) (v13 : Int32) (v15 : Int32) (v16 : Int32) (t0 : Int32) (t1 : Int32), lv_has ls 18 [(3, .int v3), (4, .long v4), (6, .long v6), (8, .int v8), (10, .int v10), (11, .int v11), (12, .int v12), (13, .int v13), (14, .int v14), (15, .int v15), (16, .int v16)] → mP D ct ad y_km y_tp y_goes y_kin y_qd y_sides y_cuts y_flat y_cp y_cA y_cB y_1X y_1Y y_2X y_2Y y_tm y_cells a_mtape a_flood a_going a_field a_from a_mcrowds a_steps a_queue a_letter a_lineX a_lineY a_triedAt a_cellAt a_besideIn a_apart a_drawer a_mkept a_listed a_mkin a_tried a_takenAt a_waysOf H → va_S (mA ad) s.heap H locs → mo_touch_J147 k90 k101 a_drawer v3 v4 v6 v8 v10 v11 v12 v13 v14 v15 v16 t0 t1 = some (r) → W p l e (rmm 3 74) s m av below meth c H locs 0 0 (MQ below (va_Qi (fun z (_ : Unit) => z = r) (fun _ t => mP D ct ad y_km y_tp y_goes y_kin y_qd y_sides y_cuts y_flat y_cp y_cA y_cB y_1X y_1Y y_2X y_2Y y_tm y_cells a_mtape a_flood a_going a_field a_from a_mcrowds a_steps a_queue a_letter a_lineX a_lineY a_triedAt a_cellAt a_besideIn a_apart a_drawer a_mkept a_listed a_mkin a_tried a_takenAt a_waysOf t.heap) (mA ad)) av s 0 0 (mA ad)) (F0 m 147 ls [.int t1, .int t0]) := by
            intro H locs ls v8 v10 v11 v12 v13 v15 v16 t0 t1 hl hP hS h
            rw [mo_touch_J147] at h
            refine lv_iadd hx hb dX12_touch_147 ?_
            obtain ⟨v9_42, ev9_42, h⟩ := nm_s h
            refine nmI ev9_42 ?_
            refine lv_istore hx hb dX12_touch_148 hl (Nat.le_of_ble_eq_true rfl) (lv' := [(9, .int v9_42), (3, .int v3), (4, .long v4), (6, .long v6), (8, .int v8), (10, .int v10), (11, .int v11), (12, .int v12), (13, .int v13), (14, .int v14), (15, .int v15), (16, .int v16)]) rfl (fun ls hl => ?_)
            refine lv_iload hx hb dX12_touch_150 (lv_at hl 11 rfl) ?_
            refine lv_iload hx hb dX12_touch_152 (lv_at hl 5 rfl) ?_
            refine lv_icmp_le hx hb dX12_touch_154 (tgt := 169) rfl (fun hc => ?_) (fun hc => ?_)
            · replace h := ifp h hc
              exact hJ169 _ _ _ v8 v9_42 v10 v11 v12 v13 v15 (lv_sub hl [1, 2, 3, 4, 0, 5, 6, 7, 8, 9, 10] rfl) hP hS h
            · replace h := ifn h hc
              refine lv_iload hx hb dX12_touch_157 (lv_at hl 11 rfl) ?_
              refine lv_istore hx hb dX12_touch_159 hl (Nat.le_of_ble_eq_true rfl) (lv' := [(10, .int v16), (9, .int v9_42), (3, .int v3), (4, .long v4), (6, .long v6), (8, .int v8), (11, .int v11), (12, .int v12), (13, .int v13), (14, .int v14), (15, .int v15), (16, .int v16)]) rfl (fun ls hl => ?_)
              refine lv_iload hx hb dX12_touch_161 (lv_at hl 10 rfl) ?_
              refine lv_istore hx hb dX12_touch_163 hl (Nat.le_of_ble_eq_true rfl) (lv' := [(11, .int v15), (10, .int v16), (9, .int v9_42), (3, .int v3), (4, .long v4), (6, .long v6), (8, .int v8), (12, .int v12), (13, .int v13), (14, .int v14), (15, .int v15), (16, .int v16)]) rfl (fun ls hl => ?_)
              refine lv_iload hx hb dX12_touch_165 (lv_at hl 9 rfl) ?_
              refine lv_istore hx hb dX12_touch_167 hl (Nat.le_of_ble_eq_true rfl) (lv' := [(12, .int v14), (11, .int v15), (10, .int v16), (9, .int v9_42), (3, .int v3), (4, .long v4), (6, .long v6), (8, .int v8), (13, .int v13), (14, .int v14), (15, .int v15), (16, .int v16)]) rfl (fun ls hl => ?_)
              exact hJ169 _ _ _ v8 v9_42 v16 v15 v14 v13 v15 (lv_sub hl [4, 5, 6, 7, 3, 2, 1, 0, 8, 9, 10] rfl) hP hS h
          rw [mo_touch_B101] at h
          refine lv_iload hx hb dX12_touch_101 (lv_at hl 10 rfl) ?_
          refine lv_bipush (v := 8) hx hb dX12_touch_103 kb_8 ?_
          refine lv_icmp_ge hx hb dX12_touch_105 (tgt := 224) rfl (fun hc => ?_) (fun hc => ?_)
          · replace h := ifp h hc
            obtain ⟨v14_43, ev14_43, h⟩ := nm_s h
            refine lv_iinc hx hb dX12_touch_224 hl (k := 9) rfl ev14_43.symm (Nat.le_of_ble_eq_true rfl) (lv' := [(14, .int v14_43), (3, .int v3), (4, .long v4), (6, .long v6), (8, .int v8), (9, .int v9), (10, .int v10), (11, .int v11), (12, .int v12), (13, .int v13), (15, .int v15)]) rfl (fun ls hl => ?_)
            refine lv_goto hx hb dX12_touch_227 (tgt := 90) rfl ?_
            exact ih90 _ _ _ v8 v9 v10 v11 v12 v13 v14_43 (lv_sub hl [1, 2, 3, 4, 5, 6, 7, 8, 9, 0] rfl) hP hS h
          · replace h := ifn h hc
            refine lv_lload hx hb dX12_touch_108 (lv_at hl 1 rfl) ?_
            refine lv_lload hx hb dX12_touch_110 (lv_at hl 2 rfl) ?_
            refine lv_iload hx hb dX12_touch_112 (lv_at hl 10 rfl) ?_
            refine lv_iload hx hb dX12_touch_114 (lv_at hl 9 rfl) ?_
            obtain ⟨r_44, hr_45, h⟩ := bd1_s h
            refine sc_i hx hb hml hown hw hN (c_mo_shared l v4 v6 v15 v14 r_44 hr_45) g_RX12_374 hd_X12_shared (rest := []) hl.1 hS dX12_touch_116 rfl rfl ⟨Nat.le_of_ble_eq_true rfl, Nat.le_of_ble_eq_true rfl⟩ rfl rfl (Nat.le_of_ble_eq_true rfl) ⟨Nat.zero_le _, Nat.zero_le _⟩ (fun H locs hk hS => ?_)
            have hP := mP_kept hP hk
            refine lv_istore hx hb dX12_touch_119 hl (Nat.le_of_ble_eq_true rfl) (lv' := [(16, .int r_44), (3, .int v3), (4, .long v4), (6, .long v6), (8, .int v8), (9, .int v9), (10, .int v10), (11, .int v11), (12, .int v12), (13, .int v13), (14, .int v14), (15, .int v15)]) rfl (fun ls hl => ?_)
            refine lv_iload hx hb dX12_touch_121 (lv_at hl 0 rfl) ?_
            refine lv_if_ge hx hb dX12_touch_123 (tgt := 135) rfl (fun hc => ?_) (fun hc => ?_)
            · replace h := ifp h hc
              refine lv_iload hx hb dX12_touch_135 (lv_at hl 5 rfl) ?_
              refine lv_iload hx hb dX12_touch_137 (lv_at hl 0 rfl) ?_
              refine lv_if_le hx hb dX12_touch_139 (tgt := 146) rfl (fun hc => ?_) (fun hc => ?_)
              · replace h := ifp h hc
                refine lv_iconst (v := 0) hx hb dX12_touch_146 ki_0 ?_
                exact hJ147 _ _ _ v8 v10 v11 v12 v13 v15 r_44 v9 0 (lv_sub hl [1, 2, 3, 4, 6, 7, 8, 9, 10, 11, 0] rfl) hP hS h
              · replace h := ifn h hc
                refine lv_iconst (v := 1) hx hb dX12_touch_142 ki_1 ?_
                refine lv_goto hx hb dX12_touch_143 (tgt := 147) rfl ?_
                exact hJ147 _ _ _ v8 v10 v11 v12 v13 v15 r_44 v9 1 (lv_sub hl [1, 2, 3, 4, 6, 7, 8, 9, 10, 11, 0] rfl) hP hS h
            · replace h := ifn h hc
              refine lv_iload hx hb dX12_touch_126 (lv_at hl 4 rfl) ?_
              refine lv_iconst (v := 1) hx hb dX12_touch_128 ki_1 ?_
              refine lv_iadd hx hb dX12_touch_129 ?_
              obtain ⟨v8_46, ev8_46, h⟩ := nm_s h
              refine nmI ev8_46 ?_
              refine lv_istore hx hb dX12_touch_130 hl (Nat.le_of_ble_eq_true rfl) (lv' := [(8, .int v8_46), (16, .int r_44), (3, .int v3), (4, .long v4), (6, .long v6), (9, .int v9), (10, .int v10), (11, .int v11), (12, .int v12), (13, .int v13), (14, .int v14), (15, .int v15)]) rfl (fun ls hl => ?_)
              refine lv_goto hx hb dX12_touch_132 (tgt := 218) rfl ?_
              exact hJ218 _ _ _ v8_46 v9 v10 v11 v12 v13 v15 (lv_sub hl [2, 3, 4, 0, 5, 6, 7, 8, 9, 10, 11] rfl) hP hS h
      rw [mo_touch_B90] at h
      refine lv_iload hx hb dX12_touch_90 (lv_at hl 9 rfl) ?_
      refine lv_bipush (v := 8) hx hb dX12_touch_92 kb_8 ?_
      refine lv_icmp_ge hx hb dX12_touch_94 (tgt := 230) rfl (fun hc => ?_) (fun hc => ?_)
      · replace h := ifp h hc
        refine lv_iload_n hx hb dX12_touch_230 rfl (lv_at hl 0 rfl) ?_
        refine lv_if_ne hx hb dX12_touch_231 (tgt := 239) rfl (fun hc => ?_) (fun hc => ?_)
        · replace h := ifn h hc
          refine lv_iload_n hx hb dX12_touch_239 rfl (lv_at hl 0 rfl) ?_
          refine lv_iconst (v := 1) hx hb dX12_touch_240 ki_1 ?_
          refine lv_icmp_ne hx hb dX12_touch_241 (tgt := 249) rfl (fun hc => ?_) (fun hc => ?_)
          · replace h := ifn h hc
            refine lv_iload_n hx hb dX12_touch_249 rfl (lv_at hl 0 rfl) ?_
            refine lv_iconst (v := 2) hx hb dX12_touch_250 ki_2 ?_
            refine lv_icmp_ne hx hb dX12_touch_251 (tgt := 259) rfl (fun hc => ?_) (fun hc => ?_)
            · replace h := ifn h hc
              refine lv_iload_n hx hb dX12_touch_259 rfl (lv_at hl 0 rfl) ?_
              refine lv_iconst (v := 3) hx hb dX12_touch_260 ki_3 ?_
              refine lv_icmp_ne hx hb dX12_touch_261 (tgt := 272) rfl (fun hc => ?_) (fun hc => ?_)
              · replace h := ifn h hc
                refine lv_iload_n hx hb dX12_touch_272 rfl (lv_at hl 0 rfl) ?_
                refine lv_iconst (v := 4) hx hb dX12_touch_273 ki_4 ?_
                refine lv_icmp_ne hx hb dX12_touch_274 (tgt := 285) rfl (fun hc => ?_) (fun hc => ?_)
                · replace h := ifn h hc
                  refine lv_iload hx hb dX12_touch_285 (lv_at hl 8 rfl) ?_
                  replace h := Option.some.inj h
                  subst h
                  exact rc_i hx hb hr hlocks hS dX12_touch_287 rfl hP
                · replace h := ifp h hc
                  refine lv_iload hx hb dX12_touch_277 (lv_at hl 7 rfl) ?_
                  refine lv_bipush (v := 10) hx hb dX12_touch_279 kb_10 ?_
                  refine lv_iadd hx hb dX12_touch_281 ?_
                  refine lv_goto hx hb dX12_touch_282 (tgt := 287) rfl ?_
                  replace h := Option.some.inj h
                  subst h
                  exact rc_i hx hb hr hlocks hS dX12_touch_287 rfl hP
              · replace h := ifp h hc
                refine lv_iload hx hb dX12_touch_264 (lv_at hl 6 rfl) ?_
                refine lv_bipush (v := 10) hx hb dX12_touch_266 kb_10 ?_
                refine lv_iadd hx hb dX12_touch_268 ?_
                refine lv_goto hx hb dX12_touch_269 (tgt := 287) rfl ?_
                replace h := Option.some.inj h
                subst h
                exact rc_i hx hb hr hlocks hS dX12_touch_287 rfl hP
            · replace h := ifp h hc
              refine lv_iload hx hb dX12_touch_254 (lv_at hl 5 rfl) ?_
              refine lv_goto hx hb dX12_touch_256 (tgt := 287) rfl ?_
              replace h := Option.some.inj h
              subst h
              exact rc_i hx hb hr hlocks hS dX12_touch_287 rfl hP
          · replace h := ifp h hc
            refine lv_iload hx hb dX12_touch_244 (lv_at hl 4 rfl) ?_
            refine lv_goto hx hb dX12_touch_246 (tgt := 287) rfl ?_
            replace h := Option.some.inj h
            subst h
            exact rc_i hx hb hr hlocks hS dX12_touch_287 rfl hP
        · replace h := ifp h hc
          refine lv_iload hx hb dX12_touch_234 (lv_at hl 3 rfl) ?_
          refine lv_goto hx hb dX12_touch_236 (tgt := 287) rfl ?_
          replace h := Option.some.inj h
          subst h
          exact rc_i hx hb hr hlocks hS dX12_touch_287 rfl hP
      · replace h := ifn h hc
        refine lv_bipush (v := (-7)) hx hb dX12_touch_97 kb_m7 ?_
        refine lv_istore hx hb dX12_touch_99 hl (Nat.le_of_ble_eq_true rfl) (lv' := [(15, .int (-7)), (3, .int v3), (4, .long v4), (6, .long v6), (8, .int v8), (9, .int v9), (10, .int v10), (11, .int v11), (12, .int v12), (13, .int v13), (14, .int v14)]) rfl (fun ls hl => ?_)
        exact hL101 v14 FU _ _ _ v8 v9 v10 v11 v12 v13 (-7) (lv_sub hl [1, 2, 3, 4, 5, 6, 7, 8, 9, 10, 0] rfl) hP hS h
  refine lv_iload_n hx hb dX12_touch_0 rfl (lv_at hl 1 rfl) ?_
  obtain ⟨r_47, hr_48, h⟩ := bd1_s h
  refine sc_i hx hb hml hown hw hN (c_mo_isDrawer l v1 r_47 hr_48) g_RX12_135 hd_X12_isDrawer (rest := []) hl.1 hS dX12_touch_1 rfl rfl ⟨Nat.le_of_ble_eq_true rfl, Nat.le_of_ble_eq_true rfl⟩ rfl rfl (Nat.le_of_ble_eq_true rfl) ⟨Nat.zero_le _, Nat.zero_le _⟩ (fun H locs hk hS => ?_)
  have hP := mP_kept hP hk
  refine lv_if_eq hx hb dX12_touch_4 (tgt := 23) rfl (fun hc => ?_) (fun hc => ?_)
  · replace h := ifp h hc
    refine lv_iconst (v := (-1)) hx hb dX12_touch_23 ki_m1 ?_
    replace h := Option.some.inj h
    subst h
    exact rc_i hx hb hr hlocks hS dX12_touch_24 rfl hP
  · replace h := ifn h hc
    refine lv_iload_n hx hb dX12_touch_7 rfl (lv_at hl 2 rfl) ?_
    obtain ⟨r_49, hr_50, h⟩ := bd1_s h
    refine sc_i hx hb hml hown hw hN (c_mo_isDrawer l v2 r_49 hr_50) g_RX12_135 hd_X12_isDrawer (rest := []) hl.1 hS dX12_touch_8 rfl rfl ⟨Nat.le_of_ble_eq_true rfl, Nat.le_of_ble_eq_true rfl⟩ rfl rfl (Nat.le_of_ble_eq_true rfl) ⟨Nat.zero_le _, Nat.zero_le _⟩ (fun H locs hk hS => ?_)
    have hP := mP_kept hP hk
    refine lv_if_eq hx hb dX12_touch_11 (tgt := 23) rfl (fun hc => ?_) (fun hc => ?_)
    · replace h := ifp h hc
      refine lv_iconst (v := (-1)) hx hb dX12_touch_23 ki_m1 ?_
      replace h := Option.some.inj h
      subst h
      exact rc_i hx hb hr hlocks hS dX12_touch_24 rfl hP
    · replace h := ifn h hc
      refine lv_iload_n hx hb dX12_touch_14 rfl (lv_at hl 3 rfl) ?_
      refine lv_iconst (v := 0) hx hb dX12_touch_15 ki_0 ?_
      refine lv_iconst (v := 5) hx hb dX12_touch_16 ki_5 ?_
      obtain ⟨r_51, hr_52, h⟩ := bd1_s h
      refine sc_i hx hb hml hown hw hN (c_mo_in l v3 0 5 r_51 hr_52) g_RX12_82 hd_X12_in (rest := []) hl.1 hS dX12_touch_17 rfl rfl ⟨Nat.le_of_ble_eq_true rfl, Nat.le_of_ble_eq_true rfl⟩ rfl rfl (Nat.le_of_ble_eq_true rfl) ⟨Nat.zero_le _, Nat.zero_le _⟩ (fun H locs hk hS => ?_)
      have hP := mP_kept hP hk
      refine lv_if_ne hx hb dX12_touch_20 (tgt := 25) rfl (fun hc => ?_) (fun hc => ?_)
      · replace h := ifn h hc
        refine lv_aload_n hx hb dX12_touch_25 rfl (lv_at hl 0 rfl) ?_
        refine mg_MO_0 hx hb hw hown hK hP dX12_touch_26 ?_
        refine lv_iload_n hx hb dX12_touch_29 rfl (lv_at hl 1 rfl) ?_
        obtain ⟨hin, h⟩ := ck_s h
        refine md_drawer hx hb hK hP hin dX12_touch_30 ?_
        refine lv_lconst (v := 0) hx hb dX12_touch_31 kl_0 ?_
        refine W.lcmp hx hb dX12_touch_32 ?_
        refine lv_if_eq hx hb dX12_touch_33 (tgt := 47) rfl (fun hc => ?_) (fun hc => ?_)
        · replace h := ifp h ((lg_cmp_eq _ _).mp hc)
          refine lv_bipush (v := (-2)) hx hb dX12_touch_47 kb_m2 ?_
          replace h := Option.some.inj h
          subst h
          exact rc_i hx hb hr hlocks hS dX12_touch_49 rfl hP
        · replace h := ifn h (fun q => hc ((lg_cmp_eq _ _).mpr q))
          refine lv_aload_n hx hb dX12_touch_36 rfl (lv_at hl 0 rfl) ?_
          refine mg_MO_0 hx hb hw hown hK hP dX12_touch_37 ?_
          refine lv_iload_n hx hb dX12_touch_40 rfl (lv_at hl 2 rfl) ?_
          obtain ⟨hin, h⟩ := ck_s h
          refine md_drawer hx hb hK hP hin dX12_touch_41 ?_
          refine lv_lconst (v := 0) hx hb dX12_touch_42 kl_0 ?_
          refine W.lcmp hx hb dX12_touch_43 ?_
          refine lv_if_ne hx hb dX12_touch_44 (tgt := 50) rfl (fun hc => ?_) (fun hc => ?_)
          · replace h := ifn h (fun q => hc ((lg_cmp_eq _ _).mpr q))
            refine lv_aload_n hx hb dX12_touch_50 rfl (lv_at hl 0 rfl) ?_
            refine mg_MO_0 hx hb hw hown hK hP dX12_touch_51 ?_
            refine lv_iload_n hx hb dX12_touch_54 rfl (lv_at hl 1 rfl) ?_
            obtain ⟨hin, h⟩ := ck_s h
            refine md_drawer hx hb hK hP hin dX12_touch_55 ?_
            obtain ⟨v4_53, ev4_53, h⟩ := nm_s h
            refine nmL ev4_53 ?_
            refine lv_lstore hx hb dX12_touch_56 hl (Nat.le_of_ble_eq_true rfl) (lv' := [(4, .long v4_53), (0, .ref (ad 0)), (1, .int v1), (2, .int v2), (3, .int v3)]) rfl (fun ls hl => ?_)
            refine lv_aload_n hx hb dX12_touch_58 rfl (lv_at hl 1 rfl) ?_
            refine mg_MO_0 hx hb hw hown hK hP dX12_touch_59 ?_
            refine lv_iload_n hx hb dX12_touch_62 rfl (lv_at hl 3 rfl) ?_
            obtain ⟨hin, h⟩ := ck_s h
            refine md_drawer hx hb hK hP hin dX12_touch_63 ?_
            obtain ⟨v6_54, ev6_54, h⟩ := nm_s h
            refine nmL ev6_54 ?_
            refine lv_lstore hx hb dX12_touch_64 hl (Nat.le_of_ble_eq_true rfl) (lv' := [(6, .long v6_54), (4, .long v4_53), (0, .ref (ad 0)), (1, .int v1), (2, .int v2), (3, .int v3)]) rfl (fun ls hl => ?_)
            refine lv_iconst (v := 0) hx hb dX12_touch_66 ki_0 ?_
            refine lv_istore hx hb dX12_touch_67 hl (Nat.le_of_ble_eq_true rfl) (lv' := [(8, .int 0), (6, .long v6_54), (4, .long v4_53), (0, .ref (ad 0)), (1, .int v1), (2, .int v2), (3, .int v3)]) rfl (fun ls hl => ?_)
            refine lv_iconst (v := 0) hx hb dX12_touch_69 ki_0 ?_
            refine lv_istore hx hb dX12_touch_70 hl (Nat.le_of_ble_eq_true rfl) (lv' := [(9, .int 0), (8, .int 0), (6, .long v6_54), (4, .long v4_53), (0, .ref (ad 0)), (1, .int v1), (2, .int v2), (3, .int v3)]) rfl (fun ls hl => ?_)
            refine lv_iconst (v := (-1)) hx hb dX12_touch_72 ki_m1 ?_
            refine lv_istore hx hb dX12_touch_73 hl (Nat.le_of_ble_eq_true rfl) (lv' := [(10, .int (-1)), (9, .int 0), (8, .int 0), (6, .long v6_54), (4, .long v4_53), (0, .ref (ad 0)), (1, .int v1), (2, .int v2), (3, .int v3)]) rfl (fun ls hl => ?_)
            refine lv_iconst (v := 0) hx hb dX12_touch_75 ki_0 ?_
            refine lv_istore hx hb dX12_touch_76 hl (Nat.le_of_ble_eq_true rfl) (lv' := [(11, .int 0), (10, .int (-1)), (9, .int 0), (8, .int 0), (6, .long v6_54), (4, .long v4_53), (0, .ref (ad 0)), (1, .int v1), (2, .int v2), (3, .int v3)]) rfl (fun ls hl => ?_)
            refine lv_iconst (v := 0) hx hb dX12_touch_78 ki_0 ?_
            refine lv_istore hx hb dX12_touch_79 hl (Nat.le_of_ble_eq_true rfl) (lv' := [(12, .int 0), (11, .int 0), (10, .int (-1)), (9, .int 0), (8, .int 0), (6, .long v6_54), (4, .long v4_53), (0, .ref (ad 0)), (1, .int v1), (2, .int v2), (3, .int v3)]) rfl (fun ls hl => ?_)
            refine lv_sipush (v := 10000) hx hb dX12_touch_81 ks_10000 ?_
            refine lv_istore hx hb dX12_touch_84 hl (Nat.le_of_ble_eq_true rfl) (lv' := [(13, .int 10000), (12, .int 0), (11, .int 0), (10, .int (-1)), (9, .int 0), (8, .int 0), (6, .long v6_54), (4, .long v4_53), (0, .ref (ad 0)), (1, .int v1), (2, .int v2), (3, .int v3)]) rfl (fun ls hl => ?_)
            refine lv_bipush (v := (-7)) hx hb dX12_touch_86 kb_m7 ?_
            refine lv_istore hx hb dX12_touch_88 hl (Nat.le_of_ble_eq_true rfl) (lv' := [(14, .int (-7)), (13, .int 10000), (12, .int 0), (11, .int 0), (10, .int (-1)), (9, .int 0), (8, .int 0), (6, .long v6_54), (4, .long v4_53), (0, .ref (ad 0)), (1, .int v1), (2, .int v2), (3, .int v3)]) rfl (fun ls hl => ?_)
            exact hL90 v3 v4_53 v6_54 a_drawer FU _ _ _ 0 0 (-1) 0 0 10000 (-7) (lv_sub hl [12, 8, 7, 6, 5, 4, 3, 2, 1, 0] rfl) hP hS h
          · replace h := ifp h ((lg_cmp_eq _ _).mp hc)
            refine lv_bipush (v := (-2)) hx hb dX12_touch_47 kb_m2 ?_
            replace h := Option.some.inj h
            subst h
            exact rc_i hx hb hr hlocks hS dX12_touch_49 rfl hP
      · replace h := ifp h hc
        refine lv_iconst (v := (-1)) hx hb dX12_touch_23 ki_m1 ?_
        replace h := Option.some.inj h
        subst h
        exact rc_i hx hb hr hlocks hS dX12_touch_24 rfl hP
