noncomputable def mo_farthest_J139 (k61 : Int32 → Int32 → Int32 → Option (Int32 × Int32 × (Nat → Int32) × (Nat → Int32))) (a_drawer : Nat → Int64) (a_listed : Nat → Int64) (a_from : Nat → Int32) (v2 : Int32) (v3 : Int32) (v4 : Int32) (v6 : Int32) (y_qd : Int32) (a_steps : Nat → Int32) (a_queue : Nat → Int32) (t0 : Int32) (t1 : Int32) : Option (Int32 × Int32 × (Nat → Int32) × (Nat → Int32)) :=
  nm (t0 + t1 : Int32) fun v5_1 =>
  nm (v6 + Int32.ofInt 1) fun v6_2 =>
  k61 v4 v5_1 v6_2
noncomputable def mo_farthest_J118 (k61 : Int32 → Int32 → Int32 → Option (Int32 × Int32 × (Nat → Int32) × (Nat → Int32))) (a_drawer : Nat → Int64) (a_listed : Nat → Int64) (a_from : Nat → Int32) (v2 : Int32) (v3 : Int32) (v5 : Int32) (v6 : Int32) (y_qd : Int32) (a_steps : Nat → Int32) (a_queue : Nat → Int32) (t0 : Int32) : Option (Int32 × Int32 × (Nat → Int32) × (Nat → Int32)) :=
  ck v6 110 <|
  if (a_steps v6.toNatClampNeg) = t0 then (mo_farthest_J139 k61 a_drawer a_listed a_from v2 v3 t0 v6 y_qd a_steps a_queue v5 1) else
  mo_farthest_J139 k61 a_drawer a_listed a_from v2 v3 t0 v6 y_qd a_steps a_queue v5 0
noncomputable def mo_farthest_J94 (k61 : Int32 → Int32 → Int32 → Option (Int32 × Int32 × (Nat → Int32) × (Nat → Int32))) (a_drawer : Nat → Int64) (a_listed : Nat → Int64) (a_from : Nat → Int32) (v2 : Int32) (v3 : Int32) (v4 : Int32) (v5 : Int32) (v6 : Int32) (y_qd : Int32) (a_steps : Nat → Int32) (a_queue : Nat → Int32)  : Option (Int32 × Int32 × (Nat → Int32) × (Nat → Int32)) :=
  ck v6 110 <|
  if (a_steps v6.toNatClampNeg) ≤ v4 then (mo_farthest_J118 k61 a_drawer a_listed a_from v2 v3 v5 v6 y_qd a_steps a_queue v4) else
  ck v6 110 <|
  mo_farthest_J118 k61 a_drawer a_listed a_from v2 v3 v5 v6 y_qd a_steps a_queue (a_steps v6.toNatClampNeg)
noncomputable def mo_farthest_B61 (v2 : Int32) (v3 : Int32) (y_qd : Int32) (a_drawer : Nat → Int64) (a_listed : Nat → Int64) (a_from : Nat → Int32) (a_steps : Nat → Int32) (a_queue : Nat → Int32)  (k61 : Int32 → Int32 → Int32 → Option (Int32 × Int32 × (Nat → Int32) × (Nat → Int32))) (v4 : Int32) (v5 : Int32) (v6 : Int32) : Option (Int32 × Int32 × (Nat → Int32) × (Nat → Int32)) :=
  bd1 (mo_end v3 2 a_from) fun r_3 =>
  bd1 (mo_begin v3 2 a_from) fun r_5 =>
  if (r_3 - r_5) ≤ v6 then (if v2 = 0 then (some (v5, y_qd, a_steps, a_queue)) else
  some (v4, y_qd, a_steps, a_queue)) else
  ck v6 110 <|
  if (a_steps v6.toNatClampNeg) ≤ v4 then (mo_farthest_J94 k61 a_drawer a_listed a_from v2 v3 v4 v5 v6 y_qd a_steps a_queue) else
  mo_farthest_J94 k61 a_drawer a_listed a_from v2 v3 v4 0 v6 y_qd a_steps a_queue
noncomputable def mo_farthest (v1 : Int32) (v2 : Int32) (y_qd : Int32) (a_drawer : Nat → Int64) (a_listed : Nat → Int64) (a_from : Nat → Int32) (a_steps : Nat → Int32) (a_queue : Nat → Int32) : Option (Int32 × Int32 × (Nat → Int32) × (Nat → Int32)) :=
  bd1 (mo_isDrawer v1) fun r_7 =>
  if r_7 = 0 then (some ((-1), y_qd, a_steps, a_queue)) else
  ck v1 8 <|
  if (a_drawer v1.toNatClampNeg) = 0 then (some ((-2), y_qd, a_steps, a_queue)) else
  ck v1 8 <|
  bd1 (mo_bits (a_drawer v1.toNatClampNeg)) fun r_9 =>
  if r_9 ≤ 6 then (ck v1 8 <|
  bd3 (mo_laysSteps (a_drawer v1.toNatClampNeg) y_qd a_listed a_from a_steps a_queue) fun y_qd_11 a_steps_12 a_queue_13 =>
  fl3 (mo_farthest_B61 v2 r_9 y_qd_11 a_drawer a_listed a_from a_steps_12 a_queue_13) FU 0 0 0) else
  some ((-3), y_qd, a_steps, a_queue)
set_option maxHeartbeats 4000000 in
set_option maxRecDepth 100000 in
theorem c_mo_farthest (l : Launch) (D : va_G) (ct : Nat → ClassId) (ad : Nat → Nat) (hI : mI ad) {y_km y_tp y_goes y_kin y_qd y_sides y_cuts y_flat y_cp y_cA y_cB y_1X y_1Y y_2X y_2Y y_tm y_cells : Int32} {a_mtape a_flood a_going a_field a_from a_mcrowds a_steps a_queue a_letter a_lineX a_lineY a_triedAt a_cellAt a_besideIn a_apart : Nat → Int32} {a_drawer a_mkept a_listed a_mkin a_tried a_takenAt a_waysOf : Nat → Int64} (v1 : Int32) (v2 : Int32) (r : Int32) (z_y_qd : Int32) (z_a_steps : Nat → Int32) (z_a_queue : Nat → Int32) (h : mo_farthest v1 v2 y_qd a_drawer a_listed a_from a_steps a_queue = some (r, z_y_qd, z_a_steps, z_a_queue)) : Met l yX12_farthest (wm yX12_farthest cX12_farthest 7 (some .int)) (rmm 5 138) (va_Pc [.ref (ad 0), .int v1, .int v2] (mB D ct ad y_km y_tp y_goes y_kin y_qd y_sides y_cuts y_flat y_cp y_cA y_cB y_1X y_1Y y_2X y_2Y y_tm y_cells a_mtape a_flood a_going a_field a_from a_mcrowds a_steps a_queue a_letter a_lineX a_lineY a_triedAt a_cellAt a_besideIn a_apart a_drawer a_mkept a_listed a_mkin a_tried a_takenAt a_waysOf)) (va_Qi (fun z (_ : Unit) => z = r) (fun _ t => mP D ct ad y_km y_tp y_goes y_kin z_y_qd y_sides y_cuts y_flat y_cp y_cA y_cB y_1X y_1Y y_2X y_2Y y_tm y_cells a_mtape a_flood a_going a_field a_from a_mcrowds z_a_steps z_a_queue a_letter a_lineX a_lineY a_triedAt a_cellAt a_besideIn a_apart a_drawer a_mkept a_listed a_mkin a_tried a_takenAt a_waysOf t.heap) (mA ad)) 0 0 (mA ad) := by
  refine met_s (y := yX12_farthest) (rm := rmm 5 138) (by decide) (Nat.le_of_ble_eq_true rfl) ?_
  intro p e s m below meth c hx hb hr hw hown hlocks _ hml hB ls hl
  obtain ⟨hN, hK, hP⟩ := hB
  replace hl : lv_has ls 7 [(0, .ref (ad 0)), (1, .int v1), (2, .int v2)] := hl
  have hS : va_S (mA ad) s.heap s.heap [] := va_S.rf
  generalize (([.ref (ad 0), .int v1, .int v2] : List Value).toArray) = av at hw ⊢
  rw [mo_farthest] at h
  have hL61 : ∀ (v2 : Int32), ∀ (v3 : Int32), ∀ (y_qd : Int32), ∀ (a_drawer : Nat → Int64), ∀ (a_listed : Nat → Int64), ∀ (a_from : Nat → Int32), ∀ (a_steps : Nat → Int32), ∀ (a_queue : Nat → Int32), ∀ (n61 : Nat) (H : Heap) (locs : List Loc) (ls : Array Slot) (v4 : Int32) (v5 : Int32) (v6 : Int32), lv_has ls 7 [(0, .ref (ad 0)), (2, .int v2), (3, .int v3), (4, .int v4), (5, .int v5), (6, .int v6)] → mP D ct ad y_km y_tp y_goes y_kin y_qd y_sides y_cuts y_flat y_cp y_cA y_cB y_1X y_1Y y_2X y_2Y y_tm y_cells a_mtape a_flood a_going a_field a_from a_mcrowds a_steps a_queue a_letter a_lineX a_lineY a_triedAt a_cellAt a_besideIn a_apart a_drawer a_mkept a_listed a_mkin a_tried a_takenAt a_waysOf H → va_S (mA ad) s.heap H locs → fl3 (mo_farthest_B61 v2 v3 y_qd a_drawer a_listed a_from a_steps a_queue) n61 v4 v5 v6 = some (r, z_y_qd, z_a_steps, z_a_queue) → W p l e (rmm 5 138) s m av below meth c H locs 0 0 (MQ below (va_Qi (fun z (_ : Unit) => z = r) (fun _ t => mP D ct ad y_km y_tp y_goes y_kin z_y_qd y_sides y_cuts y_flat y_cp y_cA y_cB y_1X y_1Y y_2X y_2Y y_tm y_cells a_mtape a_flood a_going a_field a_from a_mcrowds z_a_steps z_a_queue a_letter a_lineX a_lineY a_triedAt a_cellAt a_besideIn a_apart a_drawer a_mkept a_listed a_mkin a_tried a_takenAt a_waysOf t.heap) (mA ad)) av s 0 0 (mA ad)) (F0 m 61 ls []) := by
    intro v2 v3 y_qd a_drawer a_listed a_from a_steps a_queue n61
    induction n61 with
    | zero => intro H locs ls v4 v5 v6 hl hP hS h; cases h
    | succ n61 ih61 =>
      intro H locs ls v4 v5 v6 hl hP hS h
      replace h : mo_farthest_B61 v2 v3 y_qd a_drawer a_listed a_from a_steps a_queue (fl3 (mo_farthest_B61 v2 v3 y_qd a_drawer a_listed a_from a_steps a_queue) n61) v4 v5 v6 = some (r, z_y_qd, z_a_steps, z_a_queue) := h
      generalize fl3 (mo_farthest_B61 v2 v3 y_qd a_drawer a_listed a_from a_steps a_queue) n61 = k61 at h ih61
      have hJ139 : ∀ (H : Heap) (locs : List Loc) (ls : Array Slot) (v4 : Int32) (v6 : Int32) (t0 : Int32) (t1 : Int32), lv_has ls 7 [(0, .ref (ad 0)), (2, .int v2), (3, .int v3), (4, .int v4), (6, .int v6)] → mP D ct ad y_km y_tp y_goes y_kin y_qd y_sides y_cuts y_flat y_cp y_cA y_cB y_1X y_1Y y_2X y_2Y y_tm y_cells a_mtape a_flood a_going a_field a_from a_mcrowds a_steps a_queue a_letter a_lineX a_lineY a_triedAt a_cellAt a_besideIn a_apart a_drawer a_mkept a_listed a_mkin a_tried a_takenAt a_waysOf H → va_S (mA ad) s.heap H locs → mo_farthest_J139 k61 a_drawer a_listed a_from v2 v3 v4 v6 y_qd a_steps a_queue t0 t1 = some (r, z_y_qd, z_a_steps, z_a_queue) → W p l e (rmm 5 138) s m av below meth c H locs 0 0 (MQ below (va_Qi (fun z (_ : Unit) => z = r) (fun _ t => mP D ct ad y_km y_tp y_goes y_kin z_y_qd y_sides y_cuts y_flat y_cp y_cA y_cB y_1X y_1Y y_2X y_2Y y_tm y_cells a_mtape a_flood a_going a_field a_from a_mcrowds z_a_steps z_a_queue a_letter a_lineX a_lineY a_triedAt a_cellAt a_besideIn a_apart a_drawer a_mkept a_listed a_mkin a_tried a_takenAt a_waysOf t.heap) (mA ad)) av s 0 0 (mA ad)) (F0 m 139 ls [.int t1, .int t0]) := by
        intro H locs ls v4 v6 t0 t1 hl hP hS h
        rw [mo_farthest_J139] at h
        refine lv_iadd hx hb dX12_farthest_139 ?_
        obtain ⟨v5_15, ev5_15, h⟩ := nm_s h
        refine nmI ev5_15 ?_
        refine lv_istore hx hb dX12_farthest_140 hl (Nat.le_of_ble_eq_true rfl) (lv' := [(5, .int v5_15), (0, .ref (ad 0)), (2, .int v2), (3, .int v3), (4, .int v4), (6, .int v6)]) rfl (fun ls hl => ?_)
        obtain ⟨v6_16, ev6_16, h⟩ := nm_s h
        refine lv_iinc hx hb dX12_farthest_142 hl (k := 5) rfl ev6_16.symm (Nat.le_of_ble_eq_true rfl) (lv' := [(6, .int v6_16), (5, .int v5_15), (0, .ref (ad 0)), (2, .int v2), (3, .int v3), (4, .int v4)]) rfl (fun ls hl => ?_)
        refine lv_goto hx hb dX12_farthest_145 (tgt := 61) rfl ?_
        exact ih61 _ _ _ v4 v5_15 v6_16 (lv_sub hl [2, 3, 4, 5, 1, 0] rfl) hP hS h
      have hJ118 : ∀ (H : Heap) (locs : List Loc) (ls : Array Slot) (v5 : Int32) (v6 : Int32) (t0 : Int32), lv_has ls 7 [(0, .ref (ad 0)), (2, .int v2), (3, .int v3), (5, .int v5), (6, .int v6)] → mP D ct ad y_km y_tp y_goes y_kin y_qd y_sides y_cuts y_flat y_cp y_cA y_cB y_1X y_1Y y_2X y_2Y y_tm y_cells a_mtape a_flood a_going a_field a_from a_mcrowds a_steps a_queue a_letter a_lineX a_lineY a_triedAt a_cellAt a_besideIn a_apart a_drawer a_mkept a_listed a_mkin a_tried a_takenAt a_waysOf H → va_S (mA ad) s.heap H locs → mo_farthest_J118 k61 a_drawer a_listed a_from v2 v3 v5 v6 y_qd a_steps a_queue t0 = some (r, z_y_qd, z_a_steps, z_a_queue) → W p l e (rmm 5 138) s m av below meth c H locs 0 0 (MQ below (va_Qi (fun z (_ : Unit) => z = r) (fun _ t => mP D ct ad y_km y_tp y_goes y_kin z_y_qd y_sides y_cuts y_flat y_cp y_cA y_cB y_1X y_1Y y_2X y_2Y y_tm y_cells a_mtape a_flood a_going a_field a_from a_mcrowds z_a_steps z_a_queue a_letter a_lineX a_lineY a_triedAt a_cellAt a_besideIn a_apart a_drawer a_mkept a_listed a_mkin a_tried a_takenAt a_waysOf t.heap) (mA ad)) av s 0 0 (mA ad)) (F0 m 118 ls [.int t0]) := by
        intro H locs ls v5 v6 t0 hl hP hS h
        rw [mo_farthest_J118] at h
        refine lv_istore hx hb dX12_farthest_118 hl (Nat.le_of_ble_eq_true rfl) (lv' := [(4, .int t0), (0, .ref (ad 0)), (2, .int v2), (3, .int v3), (5, .int v5), (6, .int v6)]) rfl (fun ls hl => ?_)
        refine lv_iload hx hb dX12_farthest_120 (lv_at hl 4 rfl) ?_
        refine lv_aload_n hx hb dX12_farthest_122 rfl (lv_at hl 1 rfl) ?_
        refine mg_MO_14 hx hb hw hown hK hP dX12_farthest_123 ?_
        refine lv_iload hx hb dX12_farthest_126 (lv_at hl 5 rfl) ?_
        obtain ⟨hin, h⟩ := ck_s h
        refine md_steps hx hb hK hP hin dX12_farthest_128 ?_
        refine lv_iload hx hb dX12_farthest_129 (lv_at hl 0 rfl) ?_
        refine lv_icmp_ne hx hb dX12_farthest_131 (tgt := 138) rfl (fun hc => ?_) (fun hc => ?_)
        · replace h := ifn h hc
          refine lv_iconst (v := 0) hx hb dX12_farthest_138 ki_0 ?_
          exact hJ139 _ _ _ t0 v6 v5 0 (lv_sub hl [1, 2, 3, 0, 5] rfl) hP hS h
        · replace h := ifp h hc
          refine lv_iconst (v := 1) hx hb dX12_farthest_134 ki_1 ?_
          refine lv_goto hx hb dX12_farthest_135 (tgt := 139) rfl ?_
          exact hJ139 _ _ _ t0 v6 v5 1 (lv_sub hl [1, 2, 3, 0, 5] rfl) hP hS h
      have hJ94 : ∀ (H : Heap) (locs : List Loc) (ls : Array Slot) (v4 : Int32) (v5 : Int32) (v6 : Int32) , lv_has ls 7 [(0, .ref (ad 0)), (2, .int v2), (3, .int v3), (4, .int v4), (5, .int v5), (6, .int v6)] → mP D ct ad y_km y_tp y_goes y_kin y_qd y_sides y_cuts y_flat y_cp y_cA y_cB y_1X y_1Y y_2X y_2Y y_tm y_cells a_mtape a_flood a_going a_field a_from a_mcrowds a_steps a_queue a_letter a_lineX a_lineY a_triedAt a_cellAt a_besideIn a_apart a_drawer a_mkept a_listed a_mkin a_tried a_takenAt a_waysOf H → va_S (mA ad) s.heap H locs → mo_farthest_J94 k61 a_drawer a_listed a_from v2 v3 v4 v5 v6 y_qd a_steps a_queue = some (r, z_y_qd, z_a_steps, z_a_queue) → W p l e (rmm 5 138) s m av below meth c H locs 0 0 (MQ below (va_Qi (fun z (_ : Unit) => z = r) (fun _ t => mP D ct ad y_km y_tp y_goes y_kin z_y_qd y_sides y_cuts y_flat y_cp y_cA y_cB y_1X y_1Y y_2X y_2Y y_tm y_cells a_mtape a_flood a_going a_field a_from a_mcrowds z_a_steps z_a_queue a_letter a_lineX a_lineY a_triedAt a_cellAt a_besideIn a_apart a_drawer a_mkept a_listed a_mkin a_tried a_takenAt a_waysOf t.heap) (mA ad)) av s 0 0 (mA ad)) (F0 m 94 ls []) := by
        intro H locs ls v4 v5 v6  hl hP hS h
        rw [mo_farthest_J94] at h
        refine lv_aload_n hx hb dX12_farthest_94 rfl (lv_at hl 0 rfl) ?_
        refine mg_MO_14 hx hb hw hown hK hP dX12_farthest_95 ?_
        refine lv_iload hx hb dX12_farthest_98 (lv_at hl 5 rfl) ?_
        obtain ⟨hin, h⟩ := ck_s h
        refine md_steps hx hb hK hP hin dX12_farthest_100 ?_
        refine lv_iload hx hb dX12_farthest_101 (lv_at hl 3 rfl) ?_
        refine lv_icmp_le hx hb dX12_farthest_103 (tgt := 116) rfl (fun hc => ?_) (fun hc => ?_)
        · replace h := ifp h hc
          refine lv_iload hx hb dX12_farthest_116 (lv_at hl 3 rfl) ?_
          exact hJ118 _ _ _ v5 v6 v4 (lv_sub hl [0, 1, 2, 4, 5] rfl) hP hS h
        · replace h := ifn h hc
          refine lv_aload_n hx hb dX12_farthest_106 rfl (lv_at hl 0 rfl) ?_
          refine mg_MO_14 hx hb hw hown hK hP dX12_farthest_107 ?_
          refine lv_iload hx hb dX12_farthest_110 (lv_at hl 5 rfl) ?_
          obtain ⟨hin, h⟩ := ck_s h
          refine md_steps hx hb hK hP hin dX12_farthest_112 ?_
          refine lv_goto hx hb dX12_farthest_113 (tgt := 118) rfl ?_
          exact hJ118 _ _ _ v5 v6 (a_steps v6.toNatClampNeg) (lv_sub hl [0, 1, 2, 4, 5] rfl) hP hS h
      rw [mo_farthest_B61] at h
      refine lv_iload hx hb dX12_farthest_61 (lv_at hl 5 rfl) ?_
      refine lv_aload_n hx hb dX12_farthest_63 rfl (lv_at hl 0 rfl) ?_
      refine lv_iload_n hx hb dX12_farthest_64 rfl (lv_at hl 2 rfl) ?_
      refine lv_iconst (v := 2) hx hb dX12_farthest_65 ki_2 ?_
      obtain ⟨r_17, hr_18, h⟩ := bd1_s h
      refine hv_i hx hb hml hown hw mB_bl (mB_of hN hK hP) (mr_MO hK hP) (c_mo_end l D ct ad hI v3 2 r_17 hr_18) g_RX12_240 ⟨rfl, hd_X12_end⟩ (rest := [.int v6]) hl.1 hS (fun q h => h) dX12_farthest_66 rfl rfl ⟨Nat.le_of_ble_eq_true rfl, Nat.le_of_ble_eq_true rfl⟩ rfl rfl (Nat.le_of_ble_eq_true rfl) ⟨Nat.zero_le _, Nat.zero_le _⟩ (fun H locs hP _ hS => ?_)
      refine lv_aload_n hx hb dX12_farthest_69 rfl (lv_at hl 0 rfl) ?_
      refine lv_iload_n hx hb dX12_farthest_70 rfl (lv_at hl 2 rfl) ?_
      refine lv_iconst (v := 2) hx hb dX12_farthest_71 ki_2 ?_
      obtain ⟨r_19, hr_20, h⟩ := bd1_s h
      refine hv_i hx hb hml hown hw mB_bl (mB_of hN hK hP) (mr_MO hK hP) (c_mo_begin l D ct ad hI v3 2 r_19 hr_20) g_RX12_244 ⟨rfl, hd_X12_begin⟩ (rest := [.int r_17, .int v6]) hl.1 hS (fun q h => h) dX12_farthest_72 rfl rfl ⟨Nat.le_of_ble_eq_true rfl, Nat.le_of_ble_eq_true rfl⟩ rfl rfl (Nat.le_of_ble_eq_true rfl) ⟨Nat.zero_le _, Nat.zero_le _⟩ (fun H locs hP _ hS => ?_)
      refine lv_isub hx hb dX12_farthest_75 ?_
      refine lv_icmp_ge hx hb dX12_farthest_76 (tgt := 148) rfl (fun hc => ?_) (fun hc => ?_)
      · replace h := ifp h hc
        refine lv_iload_n hx hb dX12_farthest_148 rfl (lv_at hl 1 rfl) ?_
        refine lv_if_eq hx hb dX12_farthest_149 (tgt := 157) rfl (fun hc => ?_) (fun hc => ?_)
        · replace h := ifp h hc
          refine lv_iload hx hb dX12_farthest_157 (lv_at hl 4 rfl) ?_
          simp only [Option.some.injEq, Prod.mk.injEq] at h
          obtain ⟨rfl, rfl, rfl, rfl⟩ := h
          exact rc_i hx hb hr hlocks hS dX12_farthest_159 rfl hP
        · replace h := ifn h hc
          refine lv_iload hx hb dX12_farthest_152 (lv_at hl 3 rfl) ?_
          refine lv_goto hx hb dX12_farthest_154 (tgt := 159) rfl ?_
          simp only [Option.some.injEq, Prod.mk.injEq] at h
          obtain ⟨rfl, rfl, rfl, rfl⟩ := h
          exact rc_i hx hb hr hlocks hS dX12_farthest_159 rfl hP
      · replace h := ifn h hc
        refine lv_aload_n hx hb dX12_farthest_79 rfl (lv_at hl 0 rfl) ?_
        refine mg_MO_14 hx hb hw hown hK hP dX12_farthest_80 ?_
        refine lv_iload hx hb dX12_farthest_83 (lv_at hl 5 rfl) ?_
        obtain ⟨hin, h⟩ := ck_s h
        refine md_steps hx hb hK hP hin dX12_farthest_85 ?_
        refine lv_iload hx hb dX12_farthest_86 (lv_at hl 3 rfl) ?_
        refine lv_icmp_le hx hb dX12_farthest_88 (tgt := 94) rfl (fun hc => ?_) (fun hc => ?_)
        · replace h := ifp h hc
          exact hJ94 _ _ _ v4 v5 v6 (lv_sub hl [0, 1, 2, 3, 4, 5] rfl) hP hS h
        · replace h := ifn h hc
          refine lv_iconst (v := 0) hx hb dX12_farthest_91 ki_0 ?_
          refine lv_istore hx hb dX12_farthest_92 hl (Nat.le_of_ble_eq_true rfl) (lv' := [(5, .int 0), (0, .ref (ad 0)), (2, .int v2), (3, .int v3), (4, .int v4), (6, .int v6)]) rfl (fun ls hl => ?_)
          exact hJ94 _ _ _ v4 0 v6 (lv_sub hl [1, 2, 3, 4, 0, 5] rfl) hP hS h
  refine lv_iload_n hx hb dX12_farthest_0 rfl (lv_at hl 1 rfl) ?_
  obtain ⟨r_21, hr_22, h⟩ := bd1_s h
  refine sc_i hx hb hml hown hw hN (c_mo_isDrawer l v1 r_21 hr_22) g_RX12_135 hd_X12_isDrawer (rest := []) hl.1 hS dX12_farthest_1 rfl rfl ⟨Nat.le_of_ble_eq_true rfl, Nat.le_of_ble_eq_true rfl⟩ rfl rfl (Nat.le_of_ble_eq_true rfl) ⟨Nat.zero_le _, Nat.zero_le _⟩ (fun H locs hk hS => ?_)
  have hP := mP_kept hP hk
  refine lv_if_ne hx hb dX12_farthest_4 (tgt := 9) rfl (fun hc => ?_) (fun hc => ?_)
  · replace h := ifn h hc
    refine lv_aload_n hx hb dX12_farthest_9 rfl (lv_at hl 0 rfl) ?_
    refine mg_MO_0 hx hb hw hown hK hP dX12_farthest_10 ?_
    refine lv_iload_n hx hb dX12_farthest_13 rfl (lv_at hl 1 rfl) ?_
    obtain ⟨hin, h⟩ := ck_s h
    refine md_drawer hx hb hK hP hin dX12_farthest_14 ?_
    refine lv_lconst (v := 0) hx hb dX12_farthest_15 kl_0 ?_
    refine W.lcmp hx hb dX12_farthest_16 ?_
    refine lv_if_ne hx hb dX12_farthest_17 (tgt := 23) rfl (fun hc => ?_) (fun hc => ?_)
    · replace h := ifn h (fun q => hc ((lg_cmp_eq _ _).mpr q))
      refine lv_aload_n hx hb dX12_farthest_23 rfl (lv_at hl 0 rfl) ?_
      refine mg_MO_0 hx hb hw hown hK hP dX12_farthest_24 ?_
      refine lv_iload_n hx hb dX12_farthest_27 rfl (lv_at hl 1 rfl) ?_
      obtain ⟨hin, h⟩ := ck_s h
      refine md_drawer hx hb hK hP hin dX12_farthest_28 ?_
      obtain ⟨r_23, hr_24, h⟩ := bd1_s h
      refine sc_i hx hb hml hown hw hN (c_mo_bits l (a_drawer v1.toNatClampNeg) r_23 hr_24) g_RX12_106 hd_X12_bits (rest := []) hl.1 hS dX12_farthest_29 rfl rfl ⟨Nat.le_of_ble_eq_true rfl, Nat.le_of_ble_eq_true rfl⟩ rfl rfl (Nat.le_of_ble_eq_true rfl) ⟨Nat.zero_le _, Nat.zero_le _⟩ (fun H locs hk hS => ?_)
      have hP := mP_kept hP hk
      refine lv_istore_n hx hb dX12_farthest_32 rfl hl (Nat.le_of_ble_eq_true rfl) (lv' := [(3, .int r_23), (0, .ref (ad 0)), (1, .int v1), (2, .int v2)]) rfl (fun ls hl => ?_)
      refine lv_iload_n hx hb dX12_farthest_33 rfl (lv_at hl 0 rfl) ?_
      refine lv_bipush (v := 6) hx hb dX12_farthest_34 kb_6 ?_
      refine lv_icmp_le hx hb dX12_farthest_36 (tgt := 42) rfl (fun hc => ?_) (fun hc => ?_)
      · replace h := ifp h hc
        refine lv_aload_n hx hb dX12_farthest_42 rfl (lv_at hl 1 rfl) ?_
        refine lv_aload_n hx hb dX12_farthest_43 rfl (lv_at hl 1 rfl) ?_
        refine mg_MO_0 hx hb hw hown hK hP dX12_farthest_44 ?_
        refine lv_iload_n hx hb dX12_farthest_47 rfl (lv_at hl 2 rfl) ?_
        obtain ⟨hin, h⟩ := ck_s h
        refine md_drawer hx hb hK hP hin dX12_farthest_48 ?_
        obtain ⟨y_qd_25, a_steps_26, a_queue_27, hr_28, h⟩ := bd3_s h
        refine hv_v hx hb hml hown hw mB_bl (mB_of hN hK hP) (mr_MO hK hP) (c_mo_laysSteps l D ct ad hI (a_drawer v1.toNatClampNeg) y_qd_25 a_steps_26 a_queue_27 hr_28) g_RX12_263 ⟨rfl, hd_X12_laysSteps⟩ (rest := []) hl.1 hS (fun q h => h) dX12_farthest_49 rfl rfl ⟨Nat.le_of_ble_eq_true rfl, Nat.le_of_ble_eq_true rfl⟩ rfl rfl (Nat.le_of_ble_eq_true rfl) ⟨Nat.zero_le _, Nat.zero_le _⟩ (fun H locs hP _ hS => ?_)
        refine lv_iconst (v := 0) hx hb dX12_farthest_52 ki_0 ?_
        refine lv_istore hx hb dX12_farthest_53 hl (Nat.le_of_ble_eq_true rfl) (lv' := [(4, .int 0), (3, .int r_23), (0, .ref (ad 0)), (1, .int v1), (2, .int v2)]) rfl (fun ls hl => ?_)
        refine lv_iconst (v := 0) hx hb dX12_farthest_55 ki_0 ?_
        refine lv_istore hx hb dX12_farthest_56 hl (Nat.le_of_ble_eq_true rfl) (lv' := [(5, .int 0), (4, .int 0), (3, .int r_23), (0, .ref (ad 0)), (1, .int v1), (2, .int v2)]) rfl (fun ls hl => ?_)
        refine lv_iconst (v := 0) hx hb dX12_farthest_58 ki_0 ?_
        refine lv_istore hx hb dX12_farthest_59 hl (Nat.le_of_ble_eq_true rfl) (lv' := [(6, .int 0), (5, .int 0), (4, .int 0), (3, .int r_23), (0, .ref (ad 0)), (1, .int v1), (2, .int v2)]) rfl (fun ls hl => ?_)
        exact hL61 v2 r_23 y_qd_25 a_drawer a_listed a_from a_steps_26 a_queue_27 FU _ _ _ 0 0 0 (lv_sub hl [4, 6, 3, 2, 1, 0] rfl) hP hS h
      · replace h := ifn h hc
        refine lv_bipush (v := (-3)) hx hb dX12_farthest_39 kb_m3 ?_
        simp only [Option.some.injEq, Prod.mk.injEq] at h
        obtain ⟨rfl, rfl, rfl, rfl⟩ := h
        exact rc_i hx hb hr hlocks hS dX12_farthest_41 rfl hP
    · replace h := ifp h ((lg_cmp_eq _ _).mp hc)
      refine lv_bipush (v := (-2)) hx hb dX12_farthest_20 kb_m2 ?_
      simp only [Option.some.injEq, Prod.mk.injEq] at h
      obtain ⟨rfl, rfl, rfl, rfl⟩ := h
      exact rc_i hx hb hr hlocks hS dX12_farthest_22 rfl hP
  · replace h := ifp h hc
    refine lv_iconst (v := (-1)) hx hb dX12_farthest_7 ki_m1 ?_
    simp only [Option.some.injEq, Prod.mk.injEq] at h
    obtain ⟨rfl, rfl, rfl, rfl⟩ := h
    exact rc_i hx hb hr hlocks hS dX12_farthest_8 rfl hP
noncomputable def mo_hasLine_J153 (k38 : Int32 → Int32 → Int32 → Int32 → (Nat → Int32) → (Nat → Int32) → (Nat → Int32) → Option (Int32 × Int32 × Int32 × (Nat → Int32) × (Nat → Int32) × (Nat → Int32) × (Nat → Int32) × (Nat → Int32))) (v1 : Int64) (v3 : Int32) (v4 : Int32) (y_goes : Int32) (y_sides : Int32) (a_flood : Nat → Int32) (a_going : Nat → Int32) (a_letter : Nat → Int32) (a_lineX : Nat → Int32) (a_lineY : Nat → Int32) (t0 : Int32) : Option (Int32 × Int32 × Int32 × (Nat → Int32) × (Nat → Int32) × (Nat → Int32) × (Nat → Int32) × (Nat → Int32)) :=
  k38 v3 v4 t0 y_sides a_letter a_lineX a_lineY
noncomputable def mo_hasLine_J148 (k38 : Int32 → Int32 → Int32 → Int32 → (Nat → Int32) → (Nat → Int32) → (Nat → Int32) → Option (Int32 × Int32 × Int32 × (Nat → Int32) × (Nat → Int32) × (Nat → Int32) × (Nat → Int32) × (Nat → Int32))) (v1 : Int64) (v3 : Int32) (v4 : Int32) (y_goes : Int32) (y_sides : Int32) (a_flood : Nat → Int32) (a_going : Nat → Int32) (a_letter : Nat → Int32) (a_lineX : Nat → Int32) (a_lineY : Nat → Int32)  : Option (Int32 × Int32 × Int32 × (Nat → Int32) × (Nat → Int32) × (Nat → Int32) × (Nat → Int32) × (Nat → Int32)) :=
  mo_hasLine_J153 k38 v1 v3 v4 y_goes y_sides a_flood a_going a_letter a_lineX a_lineY 1
noncomputable def mo_hasLine_B46 (v1 : Int64) (v3 : Int32) (v4 : Int32) (y_goes : Int32) (y_sides : Int32) (a_flood : Nat → Int32) (a_going : Nat → Int32) (a_letter : Nat → Int32) (a_lineX : Nat → Int32) (a_lineY : Nat → Int32) (k38 : Int32 → Int32 → Int32 → Int32 → (Nat → Int32) → (Nat → Int32) → (Nat → Int32) → Option (Int32 × Int32 × Int32 × (Nat → Int32) × (Nat → Int32) × (Nat → Int32) × (Nat → Int32) × (Nat → Int32))) (k46 : Int32 → Option (Int32 × Int32 × Int32 × (Nat → Int32) × (Nat → Int32) × (Nat → Int32) × (Nat → Int32) × (Nat → Int32))) (v6 : Int32) : Option (Int32 × Int32 × Int32 × (Nat → Int32) × (Nat → Int32) × (Nat → Int32) × (Nat → Int32) × (Nat → Int32)) :=
  bd1 (mo_isSide v1 v3 v4 v6) fun r_1 =>
  if r_1 = 0 then (nm (v6 + 1 : Int32) fun v6_13 =>
  k46 v6_13) else
  ck y_sides 60 <|
  nm (upd a_letter y_sides.toNatClampNeg v6) fun a_letter_3 =>
  ck y_sides 61 <|
  nm (upd a_lineX y_sides.toNatClampNeg v3) fun a_lineX_4 =>
  ck y_sides 61 <|
  nm (upd a_lineY y_sides.toNatClampNeg v4) fun a_lineY_5 =>
  nm (y_sides + 1 : Int32) fun y_sides_6 =>
  bd1 (mo_stepX v6) fun r_7 =>
  nm (v3 + r_7 : Int32) fun v3_9 =>
  bd1 (mo_stepY v6) fun r_10 =>
  nm (v4 + r_10 : Int32) fun v4_12 =>
  ck 0 61 <|
  if v3_9 = (a_lineX_4 (0 : Int32).toNatClampNeg) then (ck 0 61 <|
  if v4_12 = (a_lineY_5 (0 : Int32).toNatClampNeg) then (mo_hasLine_J153 k38 v1 v3_9 v4_12 y_goes y_sides_6 a_flood a_going a_letter_3 a_lineX_4 a_lineY_5 0) else
  mo_hasLine_J148 k38 v1 v3_9 v4_12 y_goes y_sides_6 a_flood a_going a_letter_3 a_lineX_4 a_lineY_5) else
  mo_hasLine_J148 k38 v1 v3_9 v4_12 y_goes y_sides_6 a_flood a_going a_letter_3 a_lineX_4 a_lineY_5
noncomputable def mo_hasLine_B38 (v1 : Int64) (y_goes : Int32) (a_flood : Nat → Int32) (a_going : Nat → Int32)  (k38 : Int32 → Int32 → Int32 → Int32 → (Nat → Int32) → (Nat → Int32) → (Nat → Int32) → Option (Int32 × Int32 × Int32 × (Nat → Int32) × (Nat → Int32) × (Nat → Int32) × (Nat → Int32) × (Nat → Int32))) (v3 : Int32) (v4 : Int32) (v5 : Int32) (y_sides : Int32) (a_letter : Nat → Int32) (a_lineX : Nat → Int32) (a_lineY : Nat → Int32) : Option (Int32 × Int32 × Int32 × (Nat → Int32) × (Nat → Int32) × (Nat → Int32) × (Nat → Int32) × (Nat → Int32)) :=
  if v5 = 0 then (zb 1 (some (1, y_goes, y_sides, a_flood, a_going, a_letter, a_lineX, a_lineY))) else
  fl1 (mo_hasLine_B46 v1 v3 v4 y_goes y_sides a_flood a_going a_letter a_lineX a_lineY k38) FU 0
noncomputable def mo_hasLine (v1 : Int64) (y_goes : Int32) (y_sides : Int32) (a_flood : Nat → Int32) (a_going : Nat → Int32) (a_letter : Nat → Int32) (a_lineX : Nat → Int32) (a_lineY : Nat → Int32) : Option (Int32 × Int32 × Int32 × (Nat → Int32) × (Nat → Int32) × (Nat → Int32) × (Nat → Int32) × (Nat → Int32)) :=
  bd4 (mo_laysHoles v1 y_goes a_flood a_going) fun r_14 y_goes_15 a_flood_16 a_going_17 =>
  if 0 < r_14 then (zb 0 (some (0, y_goes_15, y_sides, a_flood_16, a_going_17, a_letter, a_lineX, a_lineY))) else
  bd1 (mo_pointsOf v1 2) fun r_19 =>
  if r_19 ≤ 0 then (bd1 (mo_lowest (v1 &&& (255 : Int64))) fun r_21 =>
  fl7 (mo_hasLine_B38 v1 y_goes_15 a_flood_16 a_going_17) FU r_21 0 1 0 a_letter a_lineX a_lineY) else
  zb 0 (some (0, y_goes_15, y_sides, a_flood_16, a_going_17, a_letter, a_lineX, a_lineY))
set_option maxHeartbeats 4000000 in
set_option maxRecDepth 100000 in
theorem c_mo_hasLine (l : Launch) (D : va_G) (ct : Nat → ClassId) (ad : Nat → Nat) (hI : mI ad) {y_km y_tp y_goes y_kin y_qd y_sides y_cuts y_flat y_cp y_cA y_cB y_1X y_1Y y_2X y_2Y y_tm y_cells : Int32} {a_mtape a_flood a_going a_field a_from a_mcrowds a_steps a_queue a_letter a_lineX a_lineY a_triedAt a_cellAt a_besideIn a_apart : Nat → Int32} {a_drawer a_mkept a_listed a_mkin a_tried a_takenAt a_waysOf : Nat → Int64} (v1 : Int64) (r : Int32) (z_y_goes : Int32) (z_y_sides : Int32) (z_a_flood : Nat → Int32) (z_a_going : Nat → Int32) (z_a_letter : Nat → Int32) (z_a_lineX : Nat → Int32) (z_a_lineY : Nat → Int32) (h : mo_hasLine v1 y_goes y_sides a_flood a_going a_letter a_lineX a_lineY = some (r, z_y_goes, z_y_sides, z_a_flood, z_a_going, z_a_letter, z_a_lineX, z_a_lineY)) : Met l yX12_hasLine (wm yX12_hasLine cX12_hasLine 7 (some .boolean)) (rmm 4 97) (va_Pc [.ref (ad 0), .long v1] (mB D ct ad y_km y_tp y_goes y_kin y_qd y_sides y_cuts y_flat y_cp y_cA y_cB y_1X y_1Y y_2X y_2Y y_tm y_cells a_mtape a_flood a_going a_field a_from a_mcrowds a_steps a_queue a_letter a_lineX a_lineY a_triedAt a_cellAt a_besideIn a_apart a_drawer a_mkept a_listed a_mkin a_tried a_takenAt a_waysOf)) (va_Qi (fun z (_ : Unit) => z = r) (fun _ t => mP D ct ad y_km y_tp z_y_goes y_kin y_qd z_y_sides y_cuts y_flat y_cp y_cA y_cB y_1X y_1Y y_2X y_2Y y_tm y_cells a_mtape z_a_flood z_a_going a_field a_from a_mcrowds a_steps a_queue z_a_letter z_a_lineX z_a_lineY a_triedAt a_cellAt a_besideIn a_apart a_drawer a_mkept a_listed a_mkin a_tried a_takenAt a_waysOf t.heap) (mA ad)) 0 0 (mA ad) := by
  refine met_s (y := yX12_hasLine) (rm := rmm 4 97) (by decide) (Nat.le_of_ble_eq_true rfl) ?_
  intro p e s m below meth c hx hb hr hw hown hlocks _ hml hB ls hl
  obtain ⟨hN, hK, hP⟩ := hB
  replace hl : lv_has ls 7 [(0, .ref (ad 0)), (1, .long v1)] := hl
  have hS : va_S (mA ad) s.heap s.heap [] := va_S.rf
  generalize (([.ref (ad 0), .long v1] : List Value).toArray) = av at hw ⊢
  rw [mo_hasLine] at h
  have hL38 : ∀ (v1 : Int64), ∀ (y_goes : Int32), ∀ (a_flood : Nat → Int32), ∀ (a_going : Nat → Int32), ∀ (n38 : Nat) (H : Heap) (locs : List Loc) (ls : Array Slot) (v3 : Int32) (v4 : Int32) (v5 : Int32) (y_sides : Int32) (a_letter : Nat → Int32) (a_lineX : Nat → Int32) (a_lineY : Nat → Int32), lv_has ls 7 [(0, .ref (ad 0)), (1, .long v1), (3, .int v3), (4, .int v4), (5, .int v5)] → mP D ct ad y_km y_tp y_goes y_kin y_qd y_sides y_cuts y_flat y_cp y_cA y_cB y_1X y_1Y y_2X y_2Y y_tm y_cells a_mtape a_flood a_going a_field a_from a_mcrowds a_steps a_queue a_letter a_lineX a_lineY a_triedAt a_cellAt a_besideIn a_apart a_drawer a_mkept a_listed a_mkin a_tried a_takenAt a_waysOf H → va_S (mA ad) s.heap H locs → fl7 (mo_hasLine_B38 v1 y_goes a_flood a_going) n38 v3 v4 v5 y_sides a_letter a_lineX a_lineY = some (r, z_y_goes, z_y_sides, z_a_flood, z_a_going, z_a_letter, z_a_lineX, z_a_lineY) → W p l e (rmm 4 97) s m av below meth c H locs 0 0 (MQ below (va_Qi (fun z (_ : Unit) => z = r) (fun _ t => mP D ct ad y_km y_tp z_y_goes y_kin y_qd z_y_sides y_cuts y_flat y_cp y_cA y_cB y_1X y_1Y y_2X y_2Y y_tm y_cells a_mtape z_a_flood z_a_going a_field a_from a_mcrowds a_steps a_queue z_a_letter z_a_lineX z_a_lineY a_triedAt a_cellAt a_besideIn a_apart a_drawer a_mkept a_listed a_mkin a_tried a_takenAt a_waysOf t.heap) (mA ad)) av s 0 0 (mA ad)) (F0 m 38 ls []) := by
    intro v1 y_goes a_flood a_going n38
    induction n38 with
    | zero => intro H locs ls v3 v4 v5 y_sides a_letter a_lineX a_lineY hl hP hS h; cases h
    | succ n38 ih38 =>
      intro H locs ls v3 v4 v5 y_sides a_letter a_lineX a_lineY hl hP hS h
      replace h : mo_hasLine_B38 v1 y_goes a_flood a_going (fl7 (mo_hasLine_B38 v1 y_goes a_flood a_going) n38) v3 v4 v5 y_sides a_letter a_lineX a_lineY = some (r, z_y_goes, z_y_sides, z_a_flood, z_a_going, z_a_letter, z_a_lineX, z_a_lineY) := h
      generalize fl7 (mo_hasLine_B38 v1 y_goes a_flood a_going) n38 = k38 at h ih38
      have hJ153 : ∀ (H : Heap) (locs : List Loc) (ls : Array Slot) (v3 : Int32) (v4 : Int32) (y_sides : Int32) (a_letter : Nat → Int32) (a_lineX : Nat → Int32) (a_lineY : Nat → Int32) (t0 : Int32), lv_has ls 7 [(0, .ref (ad 0)), (1, .long v1), (3, .int v3), (4, .int v4)] → mP D ct ad y_km y_tp y_goes y_kin y_qd y_sides y_cuts y_flat y_cp y_cA y_cB y_1X y_1Y y_2X y_2Y y_tm y_cells a_mtape a_flood a_going a_field a_from a_mcrowds a_steps a_queue a_letter a_lineX a_lineY a_triedAt a_cellAt a_besideIn a_apart a_drawer a_mkept a_listed a_mkin a_tried a_takenAt a_waysOf H → va_S (mA ad) s.heap H locs → mo_hasLine_J153 k38 v1 v3 v4 y_goes y_sides a_flood a_going a_letter a_lineX a_lineY t0 = some (r, z_y_goes, z_y_sides, z_a_flood, z_a_going, z_a_letter, z_a_lineX, z_a_lineY) → W p l e (rmm 4 97) s m av below meth c H locs 0 0 (MQ below (va_Qi (fun z (_ : Unit) => z = r) (fun _ t => mP D ct ad y_km y_tp z_y_goes y_kin y_qd z_y_sides y_cuts y_flat y_cp y_cA y_cB y_1X y_1Y y_2X y_2Y y_tm y_cells a_mtape z_a_flood z_a_going a_field a_from a_mcrowds a_steps a_queue z_a_letter z_a_lineX z_a_lineY a_triedAt a_cellAt a_besideIn a_apart a_drawer a_mkept a_listed a_mkin a_tried a_takenAt a_waysOf t.heap) (mA ad)) av s 0 0 (mA ad)) (F0 m 153 ls [.int t0]) := by
        intro H locs ls v3 v4 y_sides a_letter a_lineX a_lineY t0 hl hP hS h
        rw [mo_hasLine_J153] at h
        refine lv_istore hx hb dX12_hasLine_153 hl (Nat.le_of_ble_eq_true rfl) (lv' := [(5, .int t0), (0, .ref (ad 0)), (1, .long v1), (3, .int v3), (4, .int v4)]) rfl (fun ls hl => ?_)
        refine lv_goto hx hb dX12_hasLine_155 (tgt := 38) rfl ?_
        exact ih38 _ _ _ v3 v4 t0 y_sides a_letter a_lineX a_lineY (lv_sub hl [1, 2, 3, 4, 0] rfl) hP hS h
      have hJ148 : ∀ (H : Heap) (locs : List Loc) (ls : Array Slot) (v3 : Int32) (v4 : Int32) (y_sides : Int32) (a_letter : Nat → Int32) (a_lineX : Nat → Int32) (a_lineY : Nat → Int32) , lv_has ls 7 [(0, .ref (ad 0)), (1, .long v1), (3, .int v3), (4, .int v4)] → mP D ct ad y_km y_tp y_goes y_kin y_qd y_sides y_cuts y_flat y_cp y_cA y_cB y_1X y_1Y y_2X y_2Y y_tm y_cells a_mtape a_flood a_going a_field a_from a_mcrowds a_steps a_queue a_letter a_lineX a_lineY a_triedAt a_cellAt a_besideIn a_apart a_drawer a_mkept a_listed a_mkin a_tried a_takenAt a_waysOf H → va_S (mA ad) s.heap H locs → mo_hasLine_J148 k38 v1 v3 v4 y_goes y_sides a_flood a_going a_letter a_lineX a_lineY = some (r, z_y_goes, z_y_sides, z_a_flood, z_a_going, z_a_letter, z_a_lineX, z_a_lineY) → W p l e (rmm 4 97) s m av below meth c H locs 0 0 (MQ below (va_Qi (fun z (_ : Unit) => z = r) (fun _ t => mP D ct ad y_km y_tp z_y_goes y_kin y_qd z_y_sides y_cuts y_flat y_cp y_cA y_cB y_1X y_1Y y_2X y_2Y y_tm y_cells a_mtape z_a_flood z_a_going a_field a_from a_mcrowds a_steps a_queue z_a_letter z_a_lineX z_a_lineY a_triedAt a_cellAt a_besideIn a_apart a_drawer a_mkept a_listed a_mkin a_tried a_takenAt a_waysOf t.heap) (mA ad)) av s 0 0 (mA ad)) (F0 m 148 ls []) := by
        intro H locs ls v3 v4 y_sides a_letter a_lineX a_lineY  hl hP hS h
        rw [mo_hasLine_J148] at h
        refine lv_iconst (v := 1) hx hb dX12_hasLine_148 ki_1 ?_
        refine lv_goto hx hb dX12_hasLine_149 (tgt := 153) rfl ?_
        exact hJ153 _ _ _ v3 v4 y_sides a_letter a_lineX a_lineY 1 (lv_sub hl [0, 1, 2, 3] rfl) hP hS h
      have hL46 : ∀ (v3 : Int32), ∀ (v4 : Int32), ∀ (y_sides : Int32), ∀ (a_letter : Nat → Int32), ∀ (a_lineX : Nat → Int32), ∀ (a_lineY : Nat → Int32), ∀ (n46 : Nat) (H : Heap) (locs : List Loc) (ls : Array Slot) (v6 : Int32), lv_has ls 7 [(0, .ref (ad 0)), (1, .long v1), (3, .int v3), (4, .int v4), (6, .int v6)] → mP D ct ad y_km y_tp y_goes y_kin y_qd y_sides y_cuts y_flat y_cp y_cA y_cB y_1X y_1Y y_2X y_2Y y_tm y_cells a_mtape a_flood a_going a_field a_from a_mcrowds a_steps a_queue a_letter a_lineX a_lineY a_triedAt a_cellAt a_besideIn a_apart a_drawer a_mkept a_listed a_mkin a_tried a_takenAt a_waysOf H → va_S (mA ad) s.heap H locs → fl1 (mo_hasLine_B46 v1 v3 v4 y_goes y_sides a_flood a_going a_letter a_lineX a_lineY k38) n46 v6 = some (r, z_y_goes, z_y_sides, z_a_flood, z_a_going, z_a_letter, z_a_lineX, z_a_lineY) → W p l e (rmm 4 97) s m av below meth c H locs 0 0 (MQ below (va_Qi (fun z (_ : Unit) => z = r) (fun _ t => mP D ct ad y_km y_tp z_y_goes y_kin y_qd z_y_sides y_cuts y_flat y_cp y_cA y_cB y_1X y_1Y y_2X y_2Y y_tm y_cells a_mtape z_a_flood z_a_going a_field a_from a_mcrowds a_steps a_queue z_a_letter z_a_lineX z_a_lineY a_triedAt a_cellAt a_besideIn a_apart a_drawer a_mkept a_listed a_mkin a_tried a_takenAt a_waysOf t.heap) (mA ad)) av s 0 0 (mA ad)) (F0 m 46 ls []) := by
        intro v3 v4 y_sides a_letter a_lineX a_lineY n46
        induction n46 with
        | zero => intro H locs ls v6 hl hP hS h; cases h
        | succ n46 ih46 =>
          intro H locs ls v6 hl hP hS h
          replace h : mo_hasLine_B46 v1 v3 v4 y_goes y_sides a_flood a_going a_letter a_lineX a_lineY k38 (fl1 (mo_hasLine_B46 v1 v3 v4 y_goes y_sides a_flood a_going a_letter a_lineX a_lineY k38) n46) v6 = some (r, z_y_goes, z_y_sides, z_a_flood, z_a_going, z_a_letter, z_a_lineX, z_a_lineY) := h
          generalize fl1 (mo_hasLine_B46 v1 v3 v4 y_goes y_sides a_flood a_going a_letter a_lineX a_lineY k38) n46 = k46 at h ih46
          rw [mo_hasLine_B46] at h
          refine lv_lload_n hx hb dX12_hasLine_46 rfl (lv_at hl 1 rfl) ?_
          refine lv_iload_n hx hb dX12_hasLine_47 rfl (lv_at hl 2 rfl) ?_
          refine lv_iload hx hb dX12_hasLine_48 (lv_at hl 3 rfl) ?_
          refine lv_iload hx hb dX12_hasLine_50 (lv_at hl 4 rfl) ?_
          obtain ⟨r_23, hr_24, h⟩ := bd1_s h
          refine sc_i hx hb hml hown hw hN (c_mo_isSide l v1 v3 v4 v6 r_23 hr_24) g_RX12_276 hd_X12_isSide (rest := []) hl.1 hS dX12_hasLine_52 rfl rfl ⟨Nat.le_of_ble_eq_true rfl, Nat.le_of_ble_eq_true rfl⟩ rfl rfl (Nat.le_of_ble_eq_true rfl) ⟨Nat.zero_le _, Nat.zero_le _⟩ (fun H locs hk hS => ?_)
          have hP := mP_kept hP hk
          refine lv_if_ne hx hb dX12_hasLine_55 (tgt := 67) rfl (fun hc => ?_) (fun hc => ?_)
          · replace h := ifn h hc
            refine lv_aload_n hx hb dX12_hasLine_67 rfl (lv_at hl 0 rfl) ?_
            refine mg_MO_17 hx hb hw hown hK hP dX12_hasLine_68 ?_
            refine lv_aload_n hx hb dX12_hasLine_71 rfl (lv_at hl 0 rfl) ?_
            refine mg_MO_20 hx hb hw hown hK hP dX12_hasLine_72 ?_
            refine lv_iload hx hb dX12_hasLine_75 (lv_at hl 4 rfl) ?_
            obtain ⟨hin, h⟩ := ck_s h
            obtain ⟨a_letter_25, ea_letter_25, h⟩ := nm_s h
            refine ms_letter hx hb hK hP hI hS hin ea_letter_25 dX12_hasLine_77 (fun H locs hP hS => ?_)
            refine lv_aload_n hx hb dX12_hasLine_78 rfl (lv_at hl 0 rfl) ?_
            refine mg_MO_18 hx hb hw hown hK hP dX12_hasLine_79 ?_
            refine lv_aload_n hx hb dX12_hasLine_82 rfl (lv_at hl 0 rfl) ?_
            refine mg_MO_20 hx hb hw hown hK hP dX12_hasLine_83 ?_
            refine lv_iload_n hx hb dX12_hasLine_86 rfl (lv_at hl 2 rfl) ?_
            obtain ⟨hin, h⟩ := ck_s h
            obtain ⟨a_lineX_26, ea_lineX_26, h⟩ := nm_s h
            refine ms_lineX hx hb hK hP hI hS hin ea_lineX_26 dX12_hasLine_87 (fun H locs hP hS => ?_)
            refine lv_aload_n hx hb dX12_hasLine_88 rfl (lv_at hl 0 rfl) ?_
            refine mg_MO_19 hx hb hw hown hK hP dX12_hasLine_89 ?_
            refine lv_aload_n hx hb dX12_hasLine_92 rfl (lv_at hl 0 rfl) ?_
            refine mg_MO_20 hx hb hw hown hK hP dX12_hasLine_93 ?_
            refine lv_iload hx hb dX12_hasLine_96 (lv_at hl 3 rfl) ?_
            obtain ⟨hin, h⟩ := ck_s h
            obtain ⟨a_lineY_27, ea_lineY_27, h⟩ := nm_s h
            refine ms_lineY hx hb hK hP hI hS hin ea_lineY_27 dX12_hasLine_98 (fun H locs hP hS => ?_)
            refine lv_aload_n hx hb dX12_hasLine_99 rfl (lv_at hl 0 rfl) ?_
            refine lv_aload_n hx hb dX12_hasLine_100 rfl (lv_at hl 0 rfl) ?_
            refine mg_MO_20 hx hb hw hown hK hP dX12_hasLine_101 ?_
            refine lv_iconst (v := 1) hx hb dX12_hasLine_104 ki_1 ?_
            refine lv_iadd hx hb dX12_hasLine_105 ?_
            obtain ⟨y_sides_28, ey_sides_28, h⟩ := nm_s h
            refine nmI ey_sides_28 ?_
            refine mp_MO_20 hx hb hw hown hK hP hI hS dX12_hasLine_106 (fun H locs hP hS => ?_)
            refine lv_iload_n hx hb dX12_hasLine_109 rfl (lv_at hl 2 rfl) ?_
            refine lv_iload hx hb dX12_hasLine_110 (lv_at hl 4 rfl) ?_
            obtain ⟨r_29, hr_30, h⟩ := bd1_s h
            refine sc_i hx hb hml hown hw hN (c_mo_stepX l v6 r_29 hr_30) g_RX12_280 hd_X12_stepX (rest := [.int v3]) hl.1 hS dX12_hasLine_112 rfl rfl ⟨Nat.le_of_ble_eq_true rfl, Nat.le_of_ble_eq_true rfl⟩ rfl rfl (Nat.le_of_ble_eq_true rfl) ⟨Nat.zero_le _, Nat.zero_le _⟩ (fun H locs hk hS => ?_)
            have hP := mP_kept hP hk
            refine lv_iadd hx hb dX12_hasLine_115 ?_
            obtain ⟨v3_31, ev3_31, h⟩ := nm_s h
            refine nmI ev3_31 ?_
            refine lv_istore_n hx hb dX12_hasLine_116 rfl hl (Nat.le_of_ble_eq_true rfl) (lv' := [(3, .int v3_31), (0, .ref (ad 0)), (1, .long v1), (4, .int v4), (6, .int v6)]) rfl (fun ls hl => ?_)
            refine lv_iload hx hb dX12_hasLine_117 (lv_at hl 3 rfl) ?_
            refine lv_iload hx hb dX12_hasLine_119 (lv_at hl 4 rfl) ?_
            obtain ⟨r_32, hr_33, h⟩ := bd1_s h
            refine sc_i hx hb hml hown hw hN (c_mo_stepY l v6 r_32 hr_33) g_RX12_284 hd_X12_stepY (rest := [.int v4]) hl.1 hS dX12_hasLine_121 rfl rfl ⟨Nat.le_of_ble_eq_true rfl, Nat.le_of_ble_eq_true rfl⟩ rfl rfl (Nat.le_of_ble_eq_true rfl) ⟨Nat.zero_le _, Nat.zero_le _⟩ (fun H locs hk hS => ?_)
            have hP := mP_kept hP hk
            refine lv_iadd hx hb dX12_hasLine_124 ?_
            obtain ⟨v4_34, ev4_34, h⟩ := nm_s h
            refine nmI ev4_34 ?_
            refine lv_istore hx hb dX12_hasLine_125 hl (Nat.le_of_ble_eq_true rfl) (lv' := [(4, .int v4_34), (3, .int v3_31), (0, .ref (ad 0)), (1, .long v1), (6, .int v6)]) rfl (fun ls hl => ?_)
            refine lv_iload_n hx hb dX12_hasLine_127 rfl (lv_at hl 1 rfl) ?_
            refine lv_aload_n hx hb dX12_hasLine_128 rfl (lv_at hl 2 rfl) ?_
            refine mg_MO_18 hx hb hw hown hK hP dX12_hasLine_129 ?_
            refine lv_iconst (v := 0) hx hb dX12_hasLine_132 ki_0 ?_
            obtain ⟨hin, h⟩ := ck_s h
            refine md_lineX hx hb hK hP hin dX12_hasLine_133 ?_
            refine lv_icmp_ne hx hb dX12_hasLine_134 (tgt := 148) rfl (fun hc => ?_) (fun hc => ?_)
            · replace h := ifn h hc
              exact hJ148 _ _ _ v3_31 v4_34 y_sides_28 a_letter_25 a_lineX_26 a_lineY_27 (lv_sub hl [2, 3, 1, 0] rfl) hP hS h
            · replace h := ifp h hc
              refine lv_iload hx hb dX12_hasLine_137 (lv_at hl 0 rfl) ?_
              refine lv_aload_n hx hb dX12_hasLine_139 rfl (lv_at hl 2 rfl) ?_
              refine mg_MO_19 hx hb hw hown hK hP dX12_hasLine_140 ?_
              refine lv_iconst (v := 0) hx hb dX12_hasLine_143 ki_0 ?_
              obtain ⟨hin, h⟩ := ck_s h
              refine md_lineY hx hb hK hP hin dX12_hasLine_144 ?_
              refine lv_icmp_eq hx hb dX12_hasLine_145 (tgt := 152) rfl (fun hc => ?_) (fun hc => ?_)
              · replace h := ifp h hc
                refine lv_iconst (v := 0) hx hb dX12_hasLine_152 ki_0 ?_
                exact hJ153 _ _ _ v3_31 v4_34 y_sides_28 a_letter_25 a_lineX_26 a_lineY_27 0 (lv_sub hl [2, 3, 1, 0] rfl) hP hS h
              · replace h := ifn h hc
                exact hJ148 _ _ _ v3_31 v4_34 y_sides_28 a_letter_25 a_lineX_26 a_lineY_27 (lv_sub hl [2, 3, 1, 0] rfl) hP hS h
          · replace h := ifp h hc
            refine lv_iload hx hb dX12_hasLine_58 (lv_at hl 4 rfl) ?_
            refine lv_iconst (v := 1) hx hb dX12_hasLine_60 ki_1 ?_
            refine lv_iadd hx hb dX12_hasLine_61 ?_
            obtain ⟨v6_35, ev6_35, h⟩ := nm_s h
            refine nmI ev6_35 ?_
            refine lv_istore hx hb dX12_hasLine_62 hl (Nat.le_of_ble_eq_true rfl) (lv' := [(6, .int v6_35), (0, .ref (ad 0)), (1, .long v1), (3, .int v3), (4, .int v4)]) rfl (fun ls hl => ?_)
            refine lv_goto hx hb dX12_hasLine_64 (tgt := 46) rfl ?_
            exact ih46 _ _ _ v6_35 (lv_sub hl [1, 2, 3, 4, 0] rfl) hP hS h
      rw [mo_hasLine_B38] at h
      refine lv_iload hx hb dX12_hasLine_38 (lv_at hl 4 rfl) ?_
      refine lv_if_eq hx hb dX12_hasLine_40 (tgt := 158) rfl (fun hc => ?_) (fun hc => ?_)
      · replace h := ifp h hc
        refine lv_iconst (v := 1) hx hb dX12_hasLine_158 ki_1 ?_
        obtain ⟨hz, h⟩ := zb_s h
        simp only [Option.some.injEq, Prod.mk.injEq] at h
        obtain ⟨rfl, rfl, rfl, rfl, rfl, rfl, rfl, rfl⟩ := h
        exact rc_z hx hb hr hlocks hS dX12_hasLine_159 hz rfl hP
      · replace h := ifn h hc
        refine lv_iconst (v := 0) hx hb dX12_hasLine_43 ki_0 ?_
        refine lv_istore hx hb dX12_hasLine_44 hl (Nat.le_of_ble_eq_true rfl) (lv' := [(6, .int 0), (0, .ref (ad 0)), (1, .long v1), (3, .int v3), (4, .int v4), (5, .int v5)]) rfl (fun ls hl => ?_)
        exact hL46 v3 v4 y_sides a_letter a_lineX a_lineY FU _ _ _ 0 (lv_sub hl [1, 2, 3, 4, 0] rfl) hP hS h
  refine lv_aload_n hx hb dX12_hasLine_0 rfl (lv_at hl 0 rfl) ?_
  refine lv_lload_n hx hb dX12_hasLine_1 rfl (lv_at hl 1 rfl) ?_
  obtain ⟨r_36, y_goes_37, a_flood_38, a_going_39, hr_40, h⟩ := bd4_s h
  refine hv_i hx hb hml hown hw mB_bl (mB_of hN hK hP) (mr_MO hK hP) (c_mo_laysHoles l D ct ad hI v1 r_36 y_goes_37 a_flood_38 a_going_39 hr_40) g_RX12_153 ⟨rfl, hd_X12_laysHoles⟩ (rest := []) hl.1 hS (fun q h => h) dX12_hasLine_2 rfl rfl ⟨Nat.le_of_ble_eq_true rfl, Nat.le_of_ble_eq_true rfl⟩ rfl rfl (Nat.le_of_ble_eq_true rfl) ⟨Nat.zero_le _, Nat.zero_le _⟩ (fun H locs hP _ hS => ?_)
  refine lv_if_gt hx hb dX12_hasLine_5 (tgt := 16) rfl (fun hc => ?_) (fun hc => ?_)
  · replace h := ifp h hc
    refine lv_iconst (v := 0) hx hb dX12_hasLine_16 ki_0 ?_
    obtain ⟨hz, h⟩ := zb_s h
    simp only [Option.some.injEq, Prod.mk.injEq] at h
    obtain ⟨rfl, rfl, rfl, rfl, rfl, rfl, rfl, rfl⟩ := h
    exact rc_z hx hb hr hlocks hS dX12_hasLine_17 hz rfl hP
  · replace h := ifn h hc
    refine lv_lload_n hx hb dX12_hasLine_8 rfl (lv_at hl 1 rfl) ?_
    refine lv_iconst (v := 2) hx hb dX12_hasLine_9 ki_2 ?_
    obtain ⟨r_41, hr_42, h⟩ := bd1_s h
    refine sc_i hx hb hml hown hw hN (c_mo_pointsOf l v1 2 r_41 hr_42) g_RX12_181 hd_X12_pointsOf (rest := []) hl.1 hS dX12_hasLine_10 rfl rfl ⟨Nat.le_of_ble_eq_true rfl, Nat.le_of_ble_eq_true rfl⟩ rfl rfl (Nat.le_of_ble_eq_true rfl) ⟨Nat.zero_le _, Nat.zero_le _⟩ (fun H locs hk hS => ?_)
    have hP := mP_kept hP hk
    refine lv_if_le hx hb dX12_hasLine_13 (tgt := 18) rfl (fun hc => ?_) (fun hc => ?_)
    · replace h := ifp h hc
      refine lv_lload_n hx hb dX12_hasLine_18 rfl (lv_at hl 1 rfl) ?_
      refine lv_ldc2 hx hb hown (hw _ tw_7_21) dX12_hasLine_19 ?_
      refine lv_land hx hb dX12_hasLine_22 ?_
      obtain ⟨r_43, hr_44, h⟩ := bd1_s h
      refine sc_i hx hb hml hown hw hN (c_mo_lowest l (v1 &&& (255 : Int64)) r_43 hr_44) g_RX12_270 hd_X12_lowest (rest := []) hl.1 hS dX12_hasLine_23 rfl rfl ⟨Nat.le_of_ble_eq_true rfl, Nat.le_of_ble_eq_true rfl⟩ rfl rfl (Nat.le_of_ble_eq_true rfl) ⟨Nat.zero_le _, Nat.zero_le _⟩ (fun H locs hk hS => ?_)
      have hP := mP_kept hP hk
      refine lv_istore_n hx hb dX12_hasLine_26 rfl hl (Nat.le_of_ble_eq_true rfl) (lv' := [(3, .int r_43), (0, .ref (ad 0)), (1, .long v1)]) rfl (fun ls hl => ?_)
      refine lv_iconst (v := 0) hx hb dX12_hasLine_27 ki_0 ?_
      refine lv_istore hx hb dX12_hasLine_28 hl (Nat.le_of_ble_eq_true rfl) (lv' := [(4, .int 0), (3, .int r_43), (0, .ref (ad 0)), (1, .long v1)]) rfl (fun ls hl => ?_)
      refine lv_aload_n hx hb dX12_hasLine_30 rfl (lv_at hl 2 rfl) ?_
      refine lv_iconst (v := 0) hx hb dX12_hasLine_31 ki_0 ?_
      refine mp_MO_20 hx hb hw hown hK hP hI hS dX12_hasLine_32 (fun H locs hP hS => ?_)
      refine lv_iconst (v := 1) hx hb dX12_hasLine_35 ki_1 ?_
      refine lv_istore hx hb dX12_hasLine_36 hl (Nat.le_of_ble_eq_true rfl) (lv' := [(5, .int 1), (4, .int 0), (3, .int r_43), (0, .ref (ad 0)), (1, .long v1)]) rfl (fun ls hl => ?_)
      exact hL38 v1 y_goes_37 a_flood_38 a_going_39 FU _ _ _ r_43 0 1 0 a_letter a_lineX a_lineY (lv_sub hl [3, 4, 2, 1, 0] rfl) hP hS h
    · replace h := ifn h hc
      refine lv_iconst (v := 0) hx hb dX12_hasLine_16 ki_0 ?_
      obtain ⟨hz, h⟩ := zb_s h
      simp only [Option.some.injEq, Prod.mk.injEq] at h
      obtain ⟨rfl, rfl, rfl, rfl, rfl, rfl, rfl, rfl⟩ := h
      exact rc_z hx hb hr hlocks hS dX12_hasLine_17 hz rfl hP
noncomputable def mo_letterAt (v1 : Int32) (y_sides : Int32) (a_letter : Nat → Int32) : Option (Int32) :=
  dzI y_sides <|
  nm (remI v1 y_sides : Int32) fun i_1 =>
  ck i_1 60 <|
  some (a_letter i_1.toNatClampNeg)
set_option maxHeartbeats 4000000 in
set_option maxRecDepth 100000 in
theorem c_mo_letterAt (l : Launch) (D : va_G) (ct : Nat → ClassId) (ad : Nat → Nat) (hI : mI ad) {y_km y_tp y_goes y_kin y_qd y_sides y_cuts y_flat y_cp y_cA y_cB y_1X y_1Y y_2X y_2Y y_tm y_cells : Int32} {a_mtape a_flood a_going a_field a_from a_mcrowds a_steps a_queue a_letter a_lineX a_lineY a_triedAt a_cellAt a_besideIn a_apart : Nat → Int32} {a_drawer a_mkept a_listed a_mkin a_tried a_takenAt a_waysOf : Nat → Int64} (v1 : Int32) (r : Int32)  (h : mo_letterAt v1 y_sides a_letter = some (r)) : Met l yX12_letterAt (wm yX12_letterAt cX12_letterAt 2 (some .int)) (rmm 0 0) (va_Pc [.ref (ad 0), .int v1] (mB D ct ad y_km y_tp y_goes y_kin y_qd y_sides y_cuts y_flat y_cp y_cA y_cB y_1X y_1Y y_2X y_2Y y_tm y_cells a_mtape a_flood a_going a_field a_from a_mcrowds a_steps a_queue a_letter a_lineX a_lineY a_triedAt a_cellAt a_besideIn a_apart a_drawer a_mkept a_listed a_mkin a_tried a_takenAt a_waysOf)) (va_Qi (fun z (_ : Unit) => z = r) (fun _ t => mP D ct ad y_km y_tp y_goes y_kin y_qd y_sides y_cuts y_flat y_cp y_cA y_cB y_1X y_1Y y_2X y_2Y y_tm y_cells a_mtape a_flood a_going a_field a_from a_mcrowds a_steps a_queue a_letter a_lineX a_lineY a_triedAt a_cellAt a_besideIn a_apart a_drawer a_mkept a_listed a_mkin a_tried a_takenAt a_waysOf t.heap) (mA ad)) 0 0 (mA ad) := by
  refine met_s (y := yX12_letterAt) (rm := rmm 0 0) (by decide) (Nat.le_of_ble_eq_true rfl) ?_
  intro p e s m below meth c hx hb hr hw hown hlocks _ hml hB ls hl
  obtain ⟨hN, hK, hP⟩ := hB
  replace hl : lv_has ls 2 [(0, .ref (ad 0)), (1, .int v1)] := hl
  have hS : va_S (mA ad) s.heap s.heap [] := va_S.rf
  generalize (([.ref (ad 0), .int v1] : List Value).toArray) = av at hw ⊢
  rw [mo_letterAt] at h
  refine lv_aload_n hx hb dX12_letterAt_0 rfl (lv_at hl 0 rfl) ?_
  refine mg_MO_17 hx hb hw hown hK hP dX12_letterAt_1 ?_
  refine lv_iload_n hx hb dX12_letterAt_4 rfl (lv_at hl 1 rfl) ?_
  refine lv_aload_n hx hb dX12_letterAt_5 rfl (lv_at hl 0 rfl) ?_
  refine mg_MO_20 hx hb hw hown hK hP dX12_letterAt_6 ?_
  obtain ⟨hne, h⟩ := dzI_s h
  refine lv_irem hx hb dX12_letterAt_9 hne ?_
  refine nmI (v := remI v1 y_sides) rfl ?_
  obtain ⟨i_2, ei_2, h⟩ := nm_s h
  refine nmI ei_2 ?_
  obtain ⟨hin, h⟩ := ck_s h
  refine md_letter hx hb hK hP hin dX12_letterAt_10 ?_
  replace h := Option.some.inj h
  subst h
  exact rc_i hx hb hr hlocks hS dX12_letterAt_11 rfl hP
noncomputable def mo_comesAgain_B3 (v1 : Int32) (v2 : Int32) (v3 : Int32) (y_sides : Int32) (a_letter : Nat → Int32)  (k3 : Int32 → Option (Int32)) (v4 : Int32) : Option (Int32) :=
  if v3 ≤ v4 then (zb 1 (some (1))) else
  bd1 (mo_letterAt (v1 + v4) y_sides a_letter) fun r_1 =>
  bd1 (mo_letterAt (((v2 + v3) - 1) - v4) y_sides a_letter) fun r_3 =>
  dzI 4 <|
  if r_1 = (remI (r_3 + 2) 4) then (nm (v4 + Int32.ofInt 1) fun v4_5 =>
  k3 v4_5) else
  zb 0 (some (0))
noncomputable def mo_comesAgain (v1 : Int32) (v2 : Int32) (v3 : Int32) (y_sides : Int32) (a_letter : Nat → Int32) : Option (Int32) :=
  fl1 (mo_comesAgain_B3 v1 v2 v3 y_sides a_letter) FU 0
set_option maxHeartbeats 4000000 in
set_option maxRecDepth 100000 in
theorem c_mo_comesAgain (l : Launch) (D : va_G) (ct : Nat → ClassId) (ad : Nat → Nat) (hI : mI ad) {y_km y_tp y_goes y_kin y_qd y_sides y_cuts y_flat y_cp y_cA y_cB y_1X y_1Y y_2X y_2Y y_tm y_cells : Int32} {a_mtape a_flood a_going a_field a_from a_mcrowds a_steps a_queue a_letter a_lineX a_lineY a_triedAt a_cellAt a_besideIn a_apart : Nat → Int32} {a_drawer a_mkept a_listed a_mkin a_tried a_takenAt a_waysOf : Nat → Int64} (v1 : Int32) (v2 : Int32) (v3 : Int32) (r : Int32)  (h : mo_comesAgain v1 v2 v3 y_sides a_letter = some (r)) : Met l yX12_comesAgain (wm yX12_comesAgain cX12_comesAgain 5 (some .boolean)) (rmm 1 21) (va_Pc [.ref (ad 0), .int v1, .int v2, .int v3] (mB D ct ad y_km y_tp y_goes y_kin y_qd y_sides y_cuts y_flat y_cp y_cA y_cB y_1X y_1Y y_2X y_2Y y_tm y_cells a_mtape a_flood a_going a_field a_from a_mcrowds a_steps a_queue a_letter a_lineX a_lineY a_triedAt a_cellAt a_besideIn a_apart a_drawer a_mkept a_listed a_mkin a_tried a_takenAt a_waysOf)) (va_Qi (fun z (_ : Unit) => z = r) (fun _ t => mP D ct ad y_km y_tp y_goes y_kin y_qd y_sides y_cuts y_flat y_cp y_cA y_cB y_1X y_1Y y_2X y_2Y y_tm y_cells a_mtape a_flood a_going a_field a_from a_mcrowds a_steps a_queue a_letter a_lineX a_lineY a_triedAt a_cellAt a_besideIn a_apart a_drawer a_mkept a_listed a_mkin a_tried a_takenAt a_waysOf t.heap) (mA ad)) 0 0 (mA ad) := by
  refine met_s (y := yX12_comesAgain) (rm := rmm 1 21) (by decide) (Nat.le_of_ble_eq_true rfl) ?_
  intro p e s m below meth c hx hb hr hw hown hlocks _ hml hB ls hl
  obtain ⟨hN, hK, hP⟩ := hB
  replace hl : lv_has ls 5 [(0, .ref (ad 0)), (1, .int v1), (2, .int v2), (3, .int v3)] := hl
  have hS : va_S (mA ad) s.heap s.heap [] := va_S.rf
  generalize (([.ref (ad 0), .int v1, .int v2, .int v3] : List Value).toArray) = av at hw ⊢
  rw [mo_comesAgain] at h
  have hL3 : ∀ (v1 : Int32), ∀ (v2 : Int32), ∀ (v3 : Int32), ∀ (y_sides : Int32), ∀ (a_letter : Nat → Int32), ∀ (n3 : Nat) (H : Heap) (locs : List Loc) (ls : Array Slot) (v4 : Int32), lv_has ls 5 [(0, .ref (ad 0)), (1, .int v1), (2, .int v2), (3, .int v3), (4, .int v4)] → mP D ct ad y_km y_tp y_goes y_kin y_qd y_sides y_cuts y_flat y_cp y_cA y_cB y_1X y_1Y y_2X y_2Y y_tm y_cells a_mtape a_flood a_going a_field a_from a_mcrowds a_steps a_queue a_letter a_lineX a_lineY a_triedAt a_cellAt a_besideIn a_apart a_drawer a_mkept a_listed a_mkin a_tried a_takenAt a_waysOf H → va_S (mA ad) s.heap H locs → fl1 (mo_comesAgain_B3 v1 v2 v3 y_sides a_letter) n3 v4 = some (r) → W p l e (rmm 1 21) s m av below meth c H locs 0 0 (MQ below (va_Qi (fun z (_ : Unit) => z = r) (fun _ t => mP D ct ad y_km y_tp y_goes y_kin y_qd y_sides y_cuts y_flat y_cp y_cA y_cB y_1X y_1Y y_2X y_2Y y_tm y_cells a_mtape a_flood a_going a_field a_from a_mcrowds a_steps a_queue a_letter a_lineX a_lineY a_triedAt a_cellAt a_besideIn a_apart a_drawer a_mkept a_listed a_mkin a_tried a_takenAt a_waysOf t.heap) (mA ad)) av s 0 0 (mA ad)) (F0 m 3 ls []) := by
    intro v1 v2 v3 y_sides a_letter n3
    induction n3 with
    | zero => intro H locs ls v4 hl hP hS h; cases h
    | succ n3 ih3 =>
      intro H locs ls v4 hl hP hS h
      replace h : mo_comesAgain_B3 v1 v2 v3 y_sides a_letter (fl1 (mo_comesAgain_B3 v1 v2 v3 y_sides a_letter) n3) v4 = some (r) := h
      generalize fl1 (mo_comesAgain_B3 v1 v2 v3 y_sides a_letter) n3 = k3 at h ih3
      rw [mo_comesAgain_B3] at h
      refine lv_iload hx hb dX12_comesAgain_3 (lv_at hl 4 rfl) ?_
      refine lv_iload_n hx hb dX12_comesAgain_5 rfl (lv_at hl 3 rfl) ?_
      refine lv_icmp_ge hx hb dX12_comesAgain_6 (tgt := 44) rfl (fun hc => ?_) (fun hc => ?_)
      · replace h := ifp h hc
        refine lv_iconst (v := 1) hx hb dX12_comesAgain_44 ki_1 ?_
        obtain ⟨hz, h⟩ := zb_s h
        replace h := Option.some.inj h
        subst h
        exact rc_z hx hb hr hlocks hS dX12_comesAgain_45 hz rfl hP
      · replace h := ifn h hc
        refine lv_aload_n hx hb dX12_comesAgain_9 rfl (lv_at hl 0 rfl) ?_
        refine lv_iload_n hx hb dX12_comesAgain_10 rfl (lv_at hl 1 rfl) ?_
        refine lv_iload hx hb dX12_comesAgain_11 (lv_at hl 4 rfl) ?_
        refine lv_iadd hx hb dX12_comesAgain_13 ?_
        obtain ⟨r_6, hr_7, h⟩ := bd1_s h
        refine hv_i hx hb hml hown hw mB_bl (mB_of hN hK hP) (mr_MO hK hP) (c_mo_letterAt l D ct ad hI (v1 + v4) r_6 hr_7) g_RX12_287 ⟨rfl, hd_X12_letterAt⟩ (rest := []) hl.1 hS (fun q h => h) dX12_comesAgain_14 rfl rfl ⟨Nat.le_of_ble_eq_true rfl, Nat.le_of_ble_eq_true rfl⟩ rfl rfl (Nat.le_of_ble_eq_true rfl) ⟨Nat.zero_le _, Nat.zero_le _⟩ (fun H locs hP _ hS => ?_)
        refine lv_aload_n hx hb dX12_comesAgain_17 rfl (lv_at hl 0 rfl) ?_
        refine lv_iload_n hx hb dX12_comesAgain_18 rfl (lv_at hl 2 rfl) ?_
        refine lv_iload_n hx hb dX12_comesAgain_19 rfl (lv_at hl 3 rfl) ?_
        refine lv_iadd hx hb dX12_comesAgain_20 ?_
        refine lv_iconst (v := 1) hx hb dX12_comesAgain_21 ki_1 ?_
        refine lv_isub hx hb dX12_comesAgain_22 ?_
        refine lv_iload hx hb dX12_comesAgain_23 (lv_at hl 4 rfl) ?_
        refine lv_isub hx hb dX12_comesAgain_25 ?_
        obtain ⟨r_8, hr_9, h⟩ := bd1_s h
        refine hv_i hx hb hml hown hw mB_bl (mB_of hN hK hP) (mr_MO hK hP) (c_mo_letterAt l D ct ad hI (((v2 + v3) - 1) - v4) r_8 hr_9) g_RX12_287 ⟨rfl, hd_X12_letterAt⟩ (rest := [.int r_6]) hl.1 hS (fun q h => h) dX12_comesAgain_26 rfl rfl ⟨Nat.le_of_ble_eq_true rfl, Nat.le_of_ble_eq_true rfl⟩ rfl rfl (Nat.le_of_ble_eq_true rfl) ⟨Nat.zero_le _, Nat.zero_le _⟩ (fun H locs hP _ hS => ?_)
        refine lv_iconst (v := 2) hx hb dX12_comesAgain_29 ki_2 ?_
        refine lv_iadd hx hb dX12_comesAgain_30 ?_
        refine lv_iconst (v := 4) hx hb dX12_comesAgain_31 ki_4 ?_
        obtain ⟨hne, h⟩ := dzI_s h
        refine lv_irem hx hb dX12_comesAgain_32 hne ?_
        refine nmI (v := remI (r_8 + 2) 4) rfl ?_
        refine lv_icmp_eq hx hb dX12_comesAgain_33 (tgt := 38) rfl (fun hc => ?_) (fun hc => ?_)
        · replace h := ifp h hc
          obtain ⟨v4_10, ev4_10, h⟩ := nm_s h
          refine lv_iinc hx hb dX12_comesAgain_38 hl (k := 4) rfl ev4_10.symm (Nat.le_of_ble_eq_true rfl) (lv' := [(4, .int v4_10), (0, .ref (ad 0)), (1, .int v1), (2, .int v2), (3, .int v3)]) rfl (fun ls hl => ?_)
          refine lv_goto hx hb dX12_comesAgain_41 (tgt := 3) rfl ?_
          exact ih3 _ _ _ v4_10 (lv_sub hl [1, 2, 3, 4, 0] rfl) hP hS h
        · replace h := ifn h hc
          refine lv_iconst (v := 0) hx hb dX12_comesAgain_36 ki_0 ?_
          obtain ⟨hz, h⟩ := zb_s h
          replace h := Option.some.inj h
          subst h
          exact rc_z hx hb hr hlocks hS dX12_comesAgain_37 hz rfl hP
  refine lv_iconst (v := 0) hx hb dX12_comesAgain_0 ki_0 ?_
  refine lv_istore hx hb dX12_comesAgain_1 hl (Nat.le_of_ble_eq_true rfl) (lv' := [(4, .int 0), (0, .ref (ad 0)), (1, .int v1), (2, .int v2), (3, .int v3)]) rfl (fun ls hl => ?_)
  exact hL3 v1 v2 v3 y_sides a_letter FU _ _ _ 0 (lv_sub hl [1, 2, 3, 4, 0] rfl) hP hS h
noncomputable def mo_laysCuttings_J166 (k19 : Int32 → Int32 → Int32 → Int32 → Int32 → Int32 → Option (Int32 × Int32 × Int32 × Int32 × Int32)) (k26 : Int32 → Int32 → Int32 → Int32 → Int32 → Int32 → Option (Int32 × Int32 × Int32 × Int32 × Int32)) (y_sides : Int32) (a_letter : Nat → Int32) (v1 : Int32) (v2 : Int32) (v3 : Int32) (y_cuts : Int32) (y_flat : Int32) (y_cp : Int32) (y_cA : Int32) (y_cB : Int32)  : Option (Int32 × Int32 × Int32 × Int32 × Int32) :=
  nm (v3 + Int32.ofInt 1) fun v3_1 =>
  k26 v3_1 y_cuts y_flat y_cp y_cA y_cB
noncomputable def mo_laysCuttings_J160 (k19 : Int32 → Int32 → Int32 → Int32 → Int32 → Int32 → Option (Int32 × Int32 × Int32 × Int32 × Int32)) (k26 : Int32 → Int32 → Int32 → Int32 → Int32 → Int32 → Option (Int32 × Int32 × Int32 × Int32 × Int32)) (k49 : Int32 → Int32 → Int32 → Int32 → Int32 → Int32 → Option (Int32 × Int32 × Int32 × Int32 × Int32)) (y_sides : Int32) (a_letter : Nat → Int32) (v1 : Int32) (v2 : Int32) (v3 : Int32) (v4 : Int32) (y_cuts : Int32) (y_flat : Int32) (y_cp : Int32) (y_cA : Int32) (y_cB : Int32)  : Option (Int32 × Int32 × Int32 × Int32 × Int32) :=
  nm (v4 + Int32.ofInt 1) fun v4_2 =>
  k49 v4_2 y_cuts y_flat y_cp y_cA y_cB
noncomputable def mo_laysCuttings_J156 (k19 : Int32 → Int32 → Int32 → Int32 → Int32 → Int32 → Option (Int32 × Int32 × Int32 × Int32 × Int32)) (k26 : Int32 → Int32 → Int32 → Int32 → Int32 → Int32 → Option (Int32 × Int32 × Int32 × Int32 × Int32)) (k49 : Int32 → Int32 → Int32 → Int32 → Int32 → Int32 → Option (Int32 × Int32 × Int32 × Int32 × Int32)) (y_sides : Int32) (a_letter : Nat → Int32) (v1 : Int32) (v2 : Int32) (v3 : Int32) (v4 : Int32) (y_cuts : Int32) (y_flat : Int32) (y_cp : Int32) (y_cA : Int32) (y_cB : Int32) (t1 : Int32) (t2 : Int32) : Option (Int32 × Int32 × Int32 × Int32 × Int32) :=
  nm (t1 + t2 : Int32) fun y_flat_3 =>
  mo_laysCuttings_J160 k19 k26 k49 y_sides a_letter v1 v2 v3 v4 y_cuts y_flat_3 y_cp y_cA y_cB
noncomputable def mo_laysCuttings_J131 (k19 : Int32 → Int32 → Int32 → Int32 → Int32 → Int32 → Option (Int32 × Int32 × Int32 × Int32 × Int32)) (k26 : Int32 → Int32 → Int32 → Int32 → Int32 → Int32 → Option (Int32 × Int32 × Int32 × Int32 × Int32)) (k49 : Int32 → Int32 → Int32 → Int32 → Int32 → Int32 → Option (Int32 × Int32 × Int32 × Int32 × Int32)) (y_sides : Int32) (a_letter : Nat → Int32) (v1 : Int32) (v2 : Int32) (v3 : Int32) (v4 : Int32) (v5 : Int32) (y_cuts : Int32) (y_flat : Int32) (y_cp : Int32) (y_cA : Int32) (y_cB : Int32)  : Option (Int32 × Int32 × Int32 × Int32 × Int32) :=
  nm (y_cuts + 1 : Int32) fun y_cuts_4 =>
  if v5 = 0 then (mo_laysCuttings_J156 k19 k26 k49 y_sides a_letter v1 v2 v3 v4 y_cuts_4 y_flat y_cp y_cA y_cB y_flat 1) else
  mo_laysCuttings_J156 k19 k26 k49 y_sides a_letter v1 v2 v3 v4 y_cuts_4 y_flat y_cp y_cA y_cB y_flat 0
noncomputable def mo_laysCuttings_B49 (v1 : Int32) (v2 : Int32) (v3 : Int32) (y_sides : Int32) (a_letter : Nat → Int32) (k19 : Int32 → Int32 → Int32 → Int32 → Int32 → Int32 → Option (Int32 × Int32 × Int32 × Int32 × Int32)) (k26 : Int32 → Int32 → Int32 → Int32 → Int32 → Int32 → Option (Int32 × Int32 × Int32 × Int32 × Int32)) (k49 : Int32 → Int32 → Int32 → Int32 → Int32 → Int32 → Option (Int32 × Int32 × Int32 × Int32 × Int32)) (v4 : Int32) (y_cuts : Int32) (y_flat : Int32) (y_cp : Int32) (y_cA : Int32) (y_cB : Int32) : Option (Int32 × Int32 × Int32 × Int32 × Int32) :=
  if v1 < (v3 + v4) then (mo_laysCuttings_J166 k19 k26 y_sides a_letter v1 v2 v3 y_cuts y_flat y_cp y_cA y_cB) else
  nm ((v1 - v3) - v4 : Int32) fun v5_5 =>
  bd1 (mo_comesAgain (v2 + v3) ((v2 + v1) + v3) v4 y_sides a_letter) fun r_6 =>
  if r_6 = 0 then (mo_laysCuttings_J160 k19 k26 k49 y_sides a_letter v1 v2 v3 v4 y_cuts y_flat y_cp y_cA y_cB) else
  bd1 (mo_comesAgain ((v2 + v3) + v4) (((v2 + v1) + v3) + v4) v5_5 y_sides a_letter) fun r_8 =>
  if r_8 = 0 then (mo_laysCuttings_J160 k19 k26 k49 y_sides a_letter v1 v2 v3 v4 y_cuts y_flat y_cp y_cA y_cB) else
  if y_cuts = 0 then (mo_laysCuttings_J131 k19 k26 k49 y_sides a_letter v1 v2 v3 v4 v5_5 y_cuts y_flat v2 v3 v4) else
  mo_laysCuttings_J131 k19 k26 k49 y_sides a_letter v1 v2 v3 v4 v5_5 y_cuts y_flat y_cp y_cA y_cB
noncomputable def mo_laysCuttings_B26 (v1 : Int32) (v2 : Int32) (y_sides : Int32) (a_letter : Nat → Int32) (k19 : Int32 → Int32 → Int32 → Int32 → Int32 → Int32 → Option (Int32 × Int32 × Int32 × Int32 × Int32)) (k26 : Int32 → Int32 → Int32 → Int32 → Int32 → Int32 → Option (Int32 × Int32 × Int32 × Int32 × Int32)) (v3 : Int32) (y_cuts : Int32) (y_flat : Int32) (y_cp : Int32) (y_cA : Int32) (y_cB : Int32) : Option (Int32 × Int32 × Int32 × Int32 × Int32) :=
  if v1 ≤ v3 then (nm (v2 + Int32.ofInt 1) fun v2_10 =>
  k19 v2_10 y_cuts y_flat y_cp y_cA y_cB) else
  bd1 (mo_comesAgain v2 (v2 + v1) v3 y_sides a_letter) fun r_11 =>
  if r_11 = 0 then (mo_laysCuttings_J166 k19 k26 y_sides a_letter v1 v2 v3 y_cuts y_flat y_cp y_cA y_cB) else
  fl6 (mo_laysCuttings_B49 v1 v2 v3 y_sides a_letter k19 k26) FU 1 y_cuts y_flat y_cp y_cA y_cB
noncomputable def mo_laysCuttings_B19 (v1 : Int32) (y_sides : Int32) (a_letter : Nat → Int32)  (k19 : Int32 → Int32 → Int32 → Int32 → Int32 → Int32 → Option (Int32 × Int32 × Int32 × Int32 × Int32)) (v2 : Int32) (y_cuts : Int32) (y_flat : Int32) (y_cp : Int32) (y_cA : Int32) (y_cB : Int32) : Option (Int32 × Int32 × Int32 × Int32 × Int32) :=
  if v1 ≤ v2 then (some (y_cuts, y_flat, y_cp, y_cA, y_cB)) else
  fl6 (mo_laysCuttings_B26 v1 v2 y_sides a_letter k19) FU 1 y_cuts y_flat y_cp y_cA y_cB
noncomputable def mo_laysCuttings (y_sides : Int32) (y_cuts : Int32) (y_flat : Int32) (y_cp : Int32) (y_cA : Int32) (y_cB : Int32) (a_letter : Nat → Int32) : Option (Int32 × Int32 × Int32 × Int32 × Int32) :=
  dzI 2 <|
  nm (y_sides / 2 : Int32) fun v1_13 =>
  fl6 (mo_laysCuttings_B19 v1_13 y_sides a_letter) FU 0 0 0 y_cp y_cA y_cB
set_option maxHeartbeats 4000000 in
set_option maxRecDepth 100000 in
theorem c_mo_laysCuttings (l : Launch) (D : va_G) (ct : Nat → ClassId) (ad : Nat → Nat) (hI : mI ad) {y_km y_tp y_goes y_kin y_qd y_sides y_cuts y_flat y_cp y_cA y_cB y_1X y_1Y y_2X y_2Y y_tm y_cells : Int32} {a_mtape a_flood a_going a_field a_from a_mcrowds a_steps a_queue a_letter a_lineX a_lineY a_triedAt a_cellAt a_besideIn a_apart : Nat → Int32} {a_drawer a_mkept a_listed a_mkin a_tried a_takenAt a_waysOf : Nat → Int64}   (z_y_cuts : Int32) (z_y_flat : Int32) (z_y_cp : Int32) (z_y_cA : Int32) (z_y_cB : Int32) (h : mo_laysCuttings y_sides y_cuts y_flat y_cp y_cA y_cB a_letter = some (z_y_cuts, z_y_flat, z_y_cp, z_y_cA, z_y_cB)) : Met l yX12_laysCuttings (wm yX12_laysCuttings cX12_laysCuttings 6 none) (rmm 2 45) (va_Pc [.ref (ad 0)] (mB D ct ad y_km y_tp y_goes y_kin y_qd y_sides y_cuts y_flat y_cp y_cA y_cB y_1X y_1Y y_2X y_2Y y_tm y_cells a_mtape a_flood a_going a_field a_from a_mcrowds a_steps a_queue a_letter a_lineX a_lineY a_triedAt a_cellAt a_besideIn a_apart a_drawer a_mkept a_listed a_mkin a_tried a_takenAt a_waysOf)) (va_Qv (fun (_ : Unit) => True) (fun _ t => mP D ct ad y_km y_tp y_goes y_kin y_qd y_sides z_y_cuts z_y_flat z_y_cp z_y_cA z_y_cB y_1X y_1Y y_2X y_2Y y_tm y_cells a_mtape a_flood a_going a_field a_from a_mcrowds a_steps a_queue a_letter a_lineX a_lineY a_triedAt a_cellAt a_besideIn a_apart a_drawer a_mkept a_listed a_mkin a_tried a_takenAt a_waysOf t.heap) (mA ad)) 0 0 (mA ad) := by
  refine met_s (y := yX12_laysCuttings) (rm := rmm 2 45) (by decide) (Nat.le_of_ble_eq_true rfl) ?_
  intro p e s m below meth c hx hb hr hw hown hlocks _ hml hB ls hl
  obtain ⟨hN, hK, hP⟩ := hB
  replace hl : lv_has ls 6 [(0, .ref (ad 0))] := hl
  have hS : va_S (mA ad) s.heap s.heap [] := va_S.rf
  generalize (([.ref (ad 0)] : List Value).toArray) = av at hw ⊢
  rw [mo_laysCuttings] at h
  have hL19 : ∀ (v1 : Int32), ∀ (y_sides : Int32), ∀ (a_letter : Nat → Int32), ∀ (n19 : Nat) (H : Heap) (locs : List Loc) (ls : Array Slot) (v2 : Int32) (y_cuts : Int32) (y_flat : Int32) (y_cp : Int32) (y_cA : Int32) (y_cB : Int32), lv_has ls 6 [(0, .ref (ad 0)), (1, .int v1), (2, .int v2)] → mP D ct ad y_km y_tp y_goes y_kin y_qd y_sides y_cuts y_flat y_cp y_cA y_cB y_1X y_1Y y_2X y_2Y y_tm y_cells a_mtape a_flood a_going a_field a_from a_mcrowds a_steps a_queue a_letter a_lineX a_lineY a_triedAt a_cellAt a_besideIn a_apart a_drawer a_mkept a_listed a_mkin a_tried a_takenAt a_waysOf H → va_S (mA ad) s.heap H locs → fl6 (mo_laysCuttings_B19 v1 y_sides a_letter) n19 v2 y_cuts y_flat y_cp y_cA y_cB = some (z_y_cuts, z_y_flat, z_y_cp, z_y_cA, z_y_cB) → W p l e (rmm 2 45) s m av below meth c H locs 0 0 (MQ below (va_Qv (fun (_ : Unit) => True) (fun _ t => mP D ct ad y_km y_tp y_goes y_kin y_qd y_sides z_y_cuts z_y_flat z_y_cp z_y_cA z_y_cB y_1X y_1Y y_2X y_2Y y_tm y_cells a_mtape a_flood a_going a_field a_from a_mcrowds a_steps a_queue a_letter a_lineX a_lineY a_triedAt a_cellAt a_besideIn a_apart a_drawer a_mkept a_listed a_mkin a_tried a_takenAt a_waysOf t.heap) (mA ad)) av s 0 0 (mA ad)) (F0 m 19 ls []) := by
    intro v1 y_sides a_letter n19
    induction n19 with
    | zero => intro H locs ls v2 y_cuts y_flat y_cp y_cA y_cB hl hP hS h; cases h
    | succ n19 ih19 =>
      intro H locs ls v2 y_cuts y_flat y_cp y_cA y_cB hl hP hS h
      replace h : mo_laysCuttings_B19 v1 y_sides a_letter (fl6 (mo_laysCuttings_B19 v1 y_sides a_letter) n19) v2 y_cuts y_flat y_cp y_cA y_cB = some (z_y_cuts, z_y_flat, z_y_cp, z_y_cA, z_y_cB) := h
      generalize fl6 (mo_laysCuttings_B19 v1 y_sides a_letter) n19 = k19 at h ih19
      have hL26 : ∀ (v2 : Int32), ∀ (n26 : Nat) (H : Heap) (locs : List Loc) (ls : Array Slot) (v3 : Int32) (y_cuts : Int32) (y_flat : Int32) (y_cp : Int32) (y_cA : Int32) (y_cB : Int32), lv_has ls 6 [(0, .ref (ad 0)), (1, .int v1), (2, .int v2), (3, .int v3)] → mP D ct ad y_km y_tp y_goes y_kin y_qd y_sides y_cuts y_flat y_cp y_cA y_cB y_1X y_1Y y_2X y_2Y y_tm y_cells a_mtape a_flood a_going a_field a_from a_mcrowds a_steps a_queue a_letter a_lineX a_lineY a_triedAt a_cellAt a_besideIn a_apart a_drawer a_mkept a_listed a_mkin a_tried a_takenAt a_waysOf H → va_S (mA ad) s.heap H locs → fl6 (mo_laysCuttings_B26 v1 v2 y_sides a_letter k19) n26 v3 y_cuts y_flat y_cp y_cA y_cB = some (z_y_cuts, z_y_flat, z_y_cp, z_y_cA, z_y_cB) → W p l e (rmm 2 45) s m av below meth c H locs 0 0 (MQ below (va_Qv (fun (_ : Unit) => True) (fun _ t => mP D ct ad y_km y_tp y_goes y_kin y_qd y_sides z_y_cuts z_y_flat z_y_cp z_y_cA z_y_cB y_1X y_1Y y_2X y_2Y y_tm y_cells a_mtape a_flood a_going a_field a_from a_mcrowds a_steps a_queue a_letter a_lineX a_lineY a_triedAt a_cellAt a_besideIn a_apart a_drawer a_mkept a_listed a_mkin a_tried a_takenAt a_waysOf t.heap) (mA ad)) av s 0 0 (mA ad)) (F0 m 26 ls []) := by
        intro v2 n26
        induction n26 with
        | zero => intro H locs ls v3 y_cuts y_flat y_cp y_cA y_cB hl hP hS h; cases h
        | succ n26 ih26 =>
          intro H locs ls v3 y_cuts y_flat y_cp y_cA y_cB hl hP hS h
          replace h : mo_laysCuttings_B26 v1 v2 y_sides a_letter k19 (fl6 (mo_laysCuttings_B26 v1 v2 y_sides a_letter k19) n26) v3 y_cuts y_flat y_cp y_cA y_cB = some (z_y_cuts, z_y_flat, z_y_cp, z_y_cA, z_y_cB) := h
          generalize fl6 (mo_laysCuttings_B26 v1 v2 y_sides a_letter k19) n26 = k26 at h ih26
          have hJ166 : ∀ (H : Heap) (locs : List Loc) (ls : Array Slot) (v3 : Int32) (y_cuts : Int32) (y_flat : Int32) (y_cp : Int32) (y_cA : Int32) (y_cB : Int32) , lv_has ls 6 [(0, .ref (ad 0)), (1, .int v1), (2, .int v2), (3, .int v3)] → mP D ct ad y_km y_tp y_goes y_kin y_qd y_sides y_cuts y_flat y_cp y_cA y_cB y_1X y_1Y y_2X y_2Y y_tm y_cells a_mtape a_flood a_going a_field a_from a_mcrowds a_steps a_queue a_letter a_lineX a_lineY a_triedAt a_cellAt a_besideIn a_apart a_drawer a_mkept a_listed a_mkin a_tried a_takenAt a_waysOf H → va_S (mA ad) s.heap H locs → mo_laysCuttings_J166 k19 k26 y_sides a_letter v1 v2 v3 y_cuts y_flat y_cp y_cA y_cB = some (z_y_cuts, z_y_flat, z_y_cp, z_y_cA, z_y_cB) → W p l e (rmm 2 45) s m av below meth c H locs 0 0 (MQ below (va_Qv (fun (_ : Unit) => True) (fun _ t => mP D ct ad y_km y_tp y_goes y_kin y_qd y_sides z_y_cuts z_y_flat z_y_cp z_y_cA z_y_cB y_1X y_1Y y_2X y_2Y y_tm y_cells a_mtape a_flood a_going a_field a_from a_mcrowds a_steps a_queue a_letter a_lineX a_lineY a_triedAt a_cellAt a_besideIn a_apart a_drawer a_mkept a_listed a_mkin a_tried a_takenAt a_waysOf t.heap) (mA ad)) av s 0 0 (mA ad)) (F0 m 166 ls []) := by
            intro H locs ls v3 y_cuts y_flat y_cp y_cA y_cB  hl hP hS h
            rw [mo_laysCuttings_J166] at h
            obtain ⟨v3_14, ev3_14, h⟩ := nm_s h
            refine lv_iinc hx hb dX12_laysCuttings_166 hl (k := 3) rfl ev3_14.symm (Nat.le_of_ble_eq_true rfl) (lv' := [(3, .int v3_14), (0, .ref (ad 0)), (1, .int v1), (2, .int v2)]) rfl (fun ls hl => ?_)
            refine lv_goto hx hb dX12_laysCuttings_169 (tgt := 26) rfl ?_
            exact ih26 _ _ _ v3_14 y_cuts y_flat y_cp y_cA y_cB (lv_sub hl [1, 2, 3, 0] rfl) hP hS h
          have hL49 : ∀ (v3 : Int32), ∀ (n49 : Nat) (H : Heap) (locs : List Loc) (ls : Array Slot) (v4 : Int32) (y_cuts : Int32) (y_flat : Int32) (y_cp : Int32) (y_cA : Int32) (y_cB : Int32), lv_has ls 6 [(0, .ref (ad 0)), (1, .int v1), (2, .int v2), (3, .int v3), (4, .int v4)] → mP D ct ad y_km y_tp y_goes y_kin y_qd y_sides y_cuts y_flat y_cp y_cA y_cB y_1X y_1Y y_2X y_2Y y_tm y_cells a_mtape a_flood a_going a_field a_from a_mcrowds a_steps a_queue a_letter a_lineX a_lineY a_triedAt a_cellAt a_besideIn a_apart a_drawer a_mkept a_listed a_mkin a_tried a_takenAt a_waysOf H → va_S (mA ad) s.heap H locs → fl6 (mo_laysCuttings_B49 v1 v2 v3 y_sides a_letter k19 k26) n49 v4 y_cuts y_flat y_cp y_cA y_cB = some (z_y_cuts, z_y_flat, z_y_cp, z_y_cA, z_y_cB) → W p l e (rmm 2 45) s m av below meth c H locs 0 0 (MQ below (va_Qv (fun (_ : Unit) => True) (fun _ t => mP D ct ad y_km y_tp y_goes y_kin y_qd y_sides z_y_cuts z_y_flat z_y_cp z_y_cA z_y_cB y_1X y_1Y y_2X y_2Y y_tm y_cells a_mtape a_flood a_going a_field a_from a_mcrowds a_steps a_queue a_letter a_lineX a_lineY a_triedAt a_cellAt a_besideIn a_apart a_drawer a_mkept a_listed a_mkin a_tried a_takenAt a_waysOf t.heap) (mA ad)) av s 0 0 (mA ad)) (F0 m 49 ls []) := by
            intro v3 n49
            induction n49 with
            | zero => intro H locs ls v4 y_cuts y_flat y_cp y_cA y_cB hl hP hS h; cases h
            | succ n49 ih49 =>
              intro H locs ls v4 y_cuts y_flat y_cp y_cA y_cB hl hP hS h
              replace h : mo_laysCuttings_B49 v1 v2 v3 y_sides a_letter k19 k26 (fl6 (mo_laysCuttings_B49 v1 v2 v3 y_sides a_letter k19 k26) n49) v4 y_cuts y_flat y_cp y_cA y_cB = some (z_y_cuts, z_y_flat, z_y_cp, z_y_cA, z_y_cB) := h
              generalize fl6 (mo_laysCuttings_B49 v1 v2 v3 y_sides a_letter k19 k26) n49 = k49 at h ih49
              have hJ160 : ∀ (H : Heap) (locs : List Loc) (ls : Array Slot) (v4 : Int32) (y_cuts : Int32) (y_flat : Int32) (y_cp : Int32) (y_cA : Int32) (y_cB : Int32) , lv_has ls 6 [(0, .ref (ad 0)), (1, .int v1), (2, .int v2), (3, .int v3), (4, .int v4)] → mP D ct ad y_km y_tp y_goes y_kin y_qd y_sides y_cuts y_flat y_cp y_cA y_cB y_1X y_1Y y_2X y_2Y y_tm y_cells a_mtape a_flood a_going a_field a_from a_mcrowds a_steps a_queue a_letter a_lineX a_lineY a_triedAt a_cellAt a_besideIn a_apart a_drawer a_mkept a_listed a_mkin a_tried a_takenAt a_waysOf H → va_S (mA ad) s.heap H locs → mo_laysCuttings_J160 k19 k26 k49 y_sides a_letter v1 v2 v3 v4 y_cuts y_flat y_cp y_cA y_cB = some (z_y_cuts, z_y_flat, z_y_cp, z_y_cA, z_y_cB) → W p l e (rmm 2 45) s m av below meth c H locs 0 0 (MQ below (va_Qv (fun (_ : Unit) => True) (fun _ t => mP D ct ad y_km y_tp y_goes y_kin y_qd y_sides z_y_cuts z_y_flat z_y_cp z_y_cA z_y_cB y_1X y_1Y y_2X y_2Y y_tm y_cells a_mtape a_flood a_going a_field a_from a_mcrowds a_steps a_queue a_letter a_lineX a_lineY a_triedAt a_cellAt a_besideIn a_apart a_drawer a_mkept a_listed a_mkin a_tried a_takenAt a_waysOf t.heap) (mA ad)) av s 0 0 (mA ad)) (F0 m 160 ls []) := by
                intro H locs ls v4 y_cuts y_flat y_cp y_cA y_cB  hl hP hS h
                rw [mo_laysCuttings_J160] at h
                obtain ⟨v4_15, ev4_15, h⟩ := nm_s h
                refine lv_iinc hx hb dX12_laysCuttings_160 hl (k := 4) rfl ev4_15.symm (Nat.le_of_ble_eq_true rfl) (lv' := [(4, .int v4_15), (0, .ref (ad 0)), (1, .int v1), (2, .int v2), (3, .int v3)]) rfl (fun ls hl => ?_)
                refine lv_goto hx hb dX12_laysCuttings_163 (tgt := 49) rfl ?_
                exact ih49 _ _ _ v4_15 y_cuts y_flat y_cp y_cA y_cB (lv_sub hl [1, 2, 3, 4, 0] rfl) hP hS h
              have hJ156 : ∀ (H : Heap) (locs : List Loc) (ls : Array Slot) (v4 : Int32) (y_cuts : Int32) (y_flat : Int32) (y_cp : Int32) (y_cA : Int32) (y_cB : Int32) (t1 : Int32) (t2 : Int32), lv_has ls 6 [(0, .ref (ad 0)), (1, .int v1), (2, .int v2), (3, .int v3), (4, .int v4)] → mP D ct ad y_km y_tp y_goes y_kin y_qd y_sides y_cuts y_flat y_cp y_cA y_cB y_1X y_1Y y_2X y_2Y y_tm y_cells a_mtape a_flood a_going a_field a_from a_mcrowds a_steps a_queue a_letter a_lineX a_lineY a_triedAt a_cellAt a_besideIn a_apart a_drawer a_mkept a_listed a_mkin a_tried a_takenAt a_waysOf H → va_S (mA ad) s.heap H locs → mo_laysCuttings_J156 k19 k26 k49 y_sides a_letter v1 v2 v3 v4 y_cuts y_flat y_cp y_cA y_cB t1 t2 = some (z_y_cuts, z_y_flat, z_y_cp, z_y_cA, z_y_cB) → W p l e (rmm 2 45) s m av below meth c H locs 0 0 (MQ below (va_Qv (fun (_ : Unit) => True) (fun _ t => mP D ct ad y_km y_tp y_goes y_kin y_qd y_sides z_y_cuts z_y_flat z_y_cp z_y_cA z_y_cB y_1X y_1Y y_2X y_2Y y_tm y_cells a_mtape a_flood a_going a_field a_from a_mcrowds a_steps a_queue a_letter a_lineX a_lineY a_triedAt a_cellAt a_besideIn a_apart a_drawer a_mkept a_listed a_mkin a_tried a_takenAt a_waysOf t.heap) (mA ad)) av s 0 0 (mA ad)) (F0 m 156 ls [.int t2, .int t1, .ref (ad 0)]) := by
                intro H locs ls v4 y_cuts y_flat y_cp y_cA y_cB t1 t2 hl hP hS h
                rw [mo_laysCuttings_J156] at h
                refine lv_iadd hx hb dX12_laysCuttings_156 ?_
                obtain ⟨y_flat_16, ey_flat_16, h⟩ := nm_s h
                refine nmI ey_flat_16 ?_
                refine mp_MO_22 hx hb hw hown hK hP hI hS dX12_laysCuttings_157 (fun H locs hP hS => ?_)
                exact hJ160 _ _ _ v4 y_cuts y_flat_16 y_cp y_cA y_cB (lv_sub hl [0, 1, 2, 3, 4] rfl) hP hS h
              have hJ131 : ∀ (H : Heap) (locs : List Loc) (ls : Array Slot) (v4 : Int32) (v5 : Int32) (y_cuts : Int32) (y_flat : Int32) (y_cp : Int32) (y_cA : Int32) (y_cB : Int32) , lv_has ls 6 [(0, .ref (ad 0)), (1, .int v1), (2, .int v2), (3, .int v3), (4, .int v4), (5, .int v5)] → mP D ct ad y_km y_tp y_goes y_kin y_qd y_sides y_cuts y_flat y_cp y_cA y_cB y_1X y_1Y y_2X y_2Y y_tm y_cells a_mtape a_flood a_going a_field a_from a_mcrowds a_steps a_queue a_letter a_lineX a_lineY a_triedAt a_cellAt a_besideIn a_apart a_drawer a_mkept a_listed a_mkin a_tried a_takenAt a_waysOf H → va_S (mA ad) s.heap H locs → mo_laysCuttings_J131 k19 k26 k49 y_sides a_letter v1 v2 v3 v4 v5 y_cuts y_flat y_cp y_cA y_cB = some (z_y_cuts, z_y_flat, z_y_cp, z_y_cA, z_y_cB) → W p l e (rmm 2 45) s m av below meth c H locs 0 0 (MQ below (va_Qv (fun (_ : Unit) => True) (fun _ t => mP D ct ad y_km y_tp y_goes y_kin y_qd y_sides z_y_cuts z_y_flat z_y_cp z_y_cA z_y_cB y_1X y_1Y y_2X y_2Y y_tm y_cells a_mtape a_flood a_going a_field a_from a_mcrowds a_steps a_queue a_letter a_lineX a_lineY a_triedAt a_cellAt a_besideIn a_apart a_drawer a_mkept a_listed a_mkin a_tried a_takenAt a_waysOf t.heap) (mA ad)) av s 0 0 (mA ad)) (F0 m 131 ls []) := by
                intro H locs ls v4 v5 y_cuts y_flat y_cp y_cA y_cB  hl hP hS h
                rw [mo_laysCuttings_J131] at h
                refine lv_aload_n hx hb dX12_laysCuttings_131 rfl (lv_at hl 0 rfl) ?_
                refine lv_aload_n hx hb dX12_laysCuttings_132 rfl (lv_at hl 0 rfl) ?_
                refine mg_MO_21 hx hb hw hown hK hP dX12_laysCuttings_133 ?_
                refine lv_iconst (v := 1) hx hb dX12_laysCuttings_136 ki_1 ?_
                refine lv_iadd hx hb dX12_laysCuttings_137 ?_
                obtain ⟨y_cuts_17, ey_cuts_17, h⟩ := nm_s h
                refine nmI ey_cuts_17 ?_
                refine mp_MO_21 hx hb hw hown hK hP hI hS dX12_laysCuttings_138 (fun H locs hP hS => ?_)
                refine lv_aload_n hx hb dX12_laysCuttings_141 rfl (lv_at hl 0 rfl) ?_
                refine lv_aload_n hx hb dX12_laysCuttings_142 rfl (lv_at hl 0 rfl) ?_
                refine mg_MO_22 hx hb hw hown hK hP dX12_laysCuttings_143 ?_
                refine lv_iload hx hb dX12_laysCuttings_146 (lv_at hl 5 rfl) ?_
                refine lv_if_ne hx hb dX12_laysCuttings_148 (tgt := 155) rfl (fun hc => ?_) (fun hc => ?_)
                · replace h := ifn h hc
                  refine lv_iconst (v := 0) hx hb dX12_laysCuttings_155 ki_0 ?_
                  exact hJ156 _ _ _ v4 y_cuts_17 y_flat y_cp y_cA y_cB y_flat 0 (lv_sub hl [0, 1, 2, 3, 4] rfl) hP hS h
                · replace h := ifp h hc
                  refine lv_iconst (v := 1) hx hb dX12_laysCuttings_151 ki_1 ?_
                  refine lv_goto hx hb dX12_laysCuttings_152 (tgt := 156) rfl ?_
                  exact hJ156 _ _ _ v4 y_cuts_17 y_flat y_cp y_cA y_cB y_flat 1 (lv_sub hl [0, 1, 2, 3, 4] rfl) hP hS h
              rw [mo_laysCuttings_B49] at h
              refine lv_iload_n hx hb dX12_laysCuttings_49 rfl (lv_at hl 3 rfl) ?_
              refine lv_iload hx hb dX12_laysCuttings_50 (lv_at hl 4 rfl) ?_
              refine lv_iadd hx hb dX12_laysCuttings_52 ?_
              refine lv_iload_n hx hb dX12_laysCuttings_53 rfl (lv_at hl 1 rfl) ?_
              refine lv_icmp_gt hx hb dX12_laysCuttings_54 (tgt := 166) rfl (fun hc => ?_) (fun hc => ?_)
              · replace h := ifp h hc
                exact hJ166 _ _ _ v3 y_cuts y_flat y_cp y_cA y_cB (lv_sub hl [0, 1, 2, 3] rfl) hP hS h
              · replace h := ifn h hc
                refine lv_iload_n hx hb dX12_laysCuttings_57 rfl (lv_at hl 1 rfl) ?_
                refine lv_iload_n hx hb dX12_laysCuttings_58 rfl (lv_at hl 3 rfl) ?_
                refine lv_isub hx hb dX12_laysCuttings_59 ?_
                refine lv_iload hx hb dX12_laysCuttings_60 (lv_at hl 4 rfl) ?_
                refine lv_isub hx hb dX12_laysCuttings_62 ?_
                obtain ⟨v5_18, ev5_18, h⟩ := nm_s h
                refine nmI ev5_18 ?_
                refine lv_istore hx hb dX12_laysCuttings_63 hl (Nat.le_of_ble_eq_true rfl) (lv' := [(5, .int v5_18), (0, .ref (ad 0)), (1, .int v1), (2, .int v2), (3, .int v3), (4, .int v4)]) rfl (fun ls hl => ?_)
                refine lv_aload_n hx hb dX12_laysCuttings_65 rfl (lv_at hl 1 rfl) ?_
                refine lv_iload_n hx hb dX12_laysCuttings_66 rfl (lv_at hl 3 rfl) ?_
                refine lv_iload_n hx hb dX12_laysCuttings_67 rfl (lv_at hl 4 rfl) ?_
                refine lv_iadd hx hb dX12_laysCuttings_68 ?_
                refine lv_iload_n hx hb dX12_laysCuttings_69 rfl (lv_at hl 3 rfl) ?_
                refine lv_iload_n hx hb dX12_laysCuttings_70 rfl (lv_at hl 2 rfl) ?_
                refine lv_iadd hx hb dX12_laysCuttings_71 ?_
                refine lv_iload_n hx hb dX12_laysCuttings_72 rfl (lv_at hl 4 rfl) ?_
                refine lv_iadd hx hb dX12_laysCuttings_73 ?_
                refine lv_iload hx hb dX12_laysCuttings_74 (lv_at hl 5 rfl) ?_
                obtain ⟨r_19, hr_20, h⟩ := bd1_s h
                refine hv_i hx hb hml hown hw mB_bl (mB_of hN hK hP) (mr_MO hK hP) (c_mo_comesAgain l D ct ad hI (v2 + v3) ((v2 + v1) + v3) v4 r_19 hr_20) g_RX12_296 ⟨rfl, hd_X12_comesAgain⟩ (rest := []) hl.1 hS (fun q h => h) dX12_laysCuttings_76 rfl rfl ⟨Nat.le_of_ble_eq_true rfl, Nat.le_of_ble_eq_true rfl⟩ rfl rfl (Nat.le_of_ble_eq_true rfl) ⟨Nat.zero_le _, Nat.zero_le _⟩ (fun H locs hP _ hS => ?_)
                refine lv_if_eq hx hb dX12_laysCuttings_79 (tgt := 160) rfl (fun hc => ?_) (fun hc => ?_)
                · replace h := ifp h hc
                  exact hJ160 _ _ _ v4 y_cuts y_flat y_cp y_cA y_cB (lv_sub hl [1, 2, 3, 4, 5] rfl) hP hS h
                · replace h := ifn h hc
                  refine lv_aload_n hx hb dX12_laysCuttings_82 rfl (lv_at hl 1 rfl) ?_
                  refine lv_iload_n hx hb dX12_laysCuttings_83 rfl (lv_at hl 3 rfl) ?_
                  refine lv_iload_n hx hb dX12_laysCuttings_84 rfl (lv_at hl 4 rfl) ?_
                  refine lv_iadd hx hb dX12_laysCuttings_85 ?_
                  refine lv_iload hx hb dX12_laysCuttings_86 (lv_at hl 5 rfl) ?_
                  refine lv_iadd hx hb dX12_laysCuttings_88 ?_
                  refine lv_iload_n hx hb dX12_laysCuttings_89 rfl (lv_at hl 3 rfl) ?_
                  refine lv_iload_n hx hb dX12_laysCuttings_90 rfl (lv_at hl 2 rfl) ?_
                  refine lv_iadd hx hb dX12_laysCuttings_91 ?_
                  refine lv_iload_n hx hb dX12_laysCuttings_92 rfl (lv_at hl 4 rfl) ?_
                  refine lv_iadd hx hb dX12_laysCuttings_93 ?_
                  refine lv_iload hx hb dX12_laysCuttings_94 (lv_at hl 5 rfl) ?_
                  refine lv_iadd hx hb dX12_laysCuttings_96 ?_
                  refine lv_iload hx hb dX12_laysCuttings_97 (lv_at hl 0 rfl) ?_
                  obtain ⟨r_21, hr_22, h⟩ := bd1_s h
                  refine hv_i hx hb hml hown hw mB_bl (mB_of hN hK hP) (mr_MO hK hP) (c_mo_comesAgain l D ct ad hI ((v2 + v3) + v4) (((v2 + v1) + v3) + v4) v5_18 r_21 hr_22) g_RX12_296 ⟨rfl, hd_X12_comesAgain⟩ (rest := []) hl.1 hS (fun q h => h) dX12_laysCuttings_99 rfl rfl ⟨Nat.le_of_ble_eq_true rfl, Nat.le_of_ble_eq_true rfl⟩ rfl rfl (Nat.le_of_ble_eq_true rfl) ⟨Nat.zero_le _, Nat.zero_le _⟩ (fun H locs hP _ hS => ?_)
                  refine lv_if_ne hx hb dX12_laysCuttings_102 (tgt := 108) rfl (fun hc => ?_) (fun hc => ?_)
                  · replace h := ifn h hc
                    refine lv_aload_n hx hb dX12_laysCuttings_108 rfl (lv_at hl 1 rfl) ?_
                    refine mg_MO_21 hx hb hw hown hK hP dX12_laysCuttings_109 ?_
                    refine lv_if_ne hx hb dX12_laysCuttings_112 (tgt := 131) rfl (fun hc => ?_) (fun hc => ?_)
                    · replace h := ifn h hc
                      exact hJ131 _ _ _ v4 v5_18 y_cuts y_flat y_cp y_cA y_cB (lv_sub hl [1, 2, 3, 4, 5, 0] rfl) hP hS h
                    · replace h := ifp h hc
                      refine lv_aload_n hx hb dX12_laysCuttings_115 rfl (lv_at hl 1 rfl) ?_
                      refine lv_iload_n hx hb dX12_laysCuttings_116 rfl (lv_at hl 3 rfl) ?_
                      refine mp_MO_23 hx hb hw hown hK hP hI hS dX12_laysCuttings_117 (fun H locs hP hS => ?_)
                      refine lv_aload_n hx hb dX12_laysCuttings_120 rfl (lv_at hl 1 rfl) ?_
                      refine lv_iload_n hx hb dX12_laysCuttings_121 rfl (lv_at hl 4 rfl) ?_
                      refine mp_MO_24 hx hb hw hown hK hP hI hS dX12_laysCuttings_122 (fun H locs hP hS => ?_)
                      refine lv_aload_n hx hb dX12_laysCuttings_125 rfl (lv_at hl 1 rfl) ?_
                      refine lv_iload hx hb dX12_laysCuttings_126 (lv_at hl 5 rfl) ?_
                      refine mp_MO_25 hx hb hw hown hK hP hI hS dX12_laysCuttings_128 (fun H locs hP hS => ?_)
                      exact hJ131 _ _ _ v4 v5_18 y_cuts y_flat v2 v3 v4 (lv_sub hl [1, 2, 3, 4, 5, 0] rfl) hP hS h
                  · replace h := ifp h hc
                    refine lv_goto hx hb dX12_laysCuttings_105 (tgt := 160) rfl ?_
                    exact hJ160 _ _ _ v4 y_cuts y_flat y_cp y_cA y_cB (lv_sub hl [1, 2, 3, 4, 5] rfl) hP hS h
          rw [mo_laysCuttings_B26] at h
          refine lv_iload_n hx hb dX12_laysCuttings_26 rfl (lv_at hl 3 rfl) ?_
          refine lv_iload_n hx hb dX12_laysCuttings_27 rfl (lv_at hl 1 rfl) ?_
          refine lv_icmp_ge hx hb dX12_laysCuttings_28 (tgt := 172) rfl (fun hc => ?_) (fun hc => ?_)
          · replace h := ifp h hc
            obtain ⟨v2_23, ev2_23, h⟩ := nm_s h
            refine lv_iinc hx hb dX12_laysCuttings_172 hl (k := 2) rfl ev2_23.symm (Nat.le_of_ble_eq_true rfl) (lv' := [(2, .int v2_23), (0, .ref (ad 0)), (1, .int v1), (3, .int v3)]) rfl (fun ls hl => ?_)
            refine lv_goto hx hb dX12_laysCuttings_175 (tgt := 19) rfl ?_
            exact ih19 _ _ _ v2_23 y_cuts y_flat y_cp y_cA y_cB (lv_sub hl [1, 2, 0] rfl) hP hS h
          · replace h := ifn h hc
            refine lv_aload_n hx hb dX12_laysCuttings_31 rfl (lv_at hl 0 rfl) ?_
            refine lv_iload_n hx hb dX12_laysCuttings_32 rfl (lv_at hl 2 rfl) ?_
            refine lv_iload_n hx hb dX12_laysCuttings_33 rfl (lv_at hl 2 rfl) ?_
            refine lv_iload_n hx hb dX12_laysCuttings_34 rfl (lv_at hl 1 rfl) ?_
            refine lv_iadd hx hb dX12_laysCuttings_35 ?_
            refine lv_iload_n hx hb dX12_laysCuttings_36 rfl (lv_at hl 3 rfl) ?_
            obtain ⟨r_24, hr_25, h⟩ := bd1_s h
            refine hv_i hx hb hml hown hw mB_bl (mB_of hN hK hP) (mr_MO hK hP) (c_mo_comesAgain l D ct ad hI v2 (v2 + v1) v3 r_24 hr_25) g_RX12_296 ⟨rfl, hd_X12_comesAgain⟩ (rest := []) hl.1 hS (fun q h => h) dX12_laysCuttings_37 rfl rfl ⟨Nat.le_of_ble_eq_true rfl, Nat.le_of_ble_eq_true rfl⟩ rfl rfl (Nat.le_of_ble_eq_true rfl) ⟨Nat.zero_le _, Nat.zero_le _⟩ (fun H locs hP _ hS => ?_)
            refine lv_if_ne hx hb dX12_laysCuttings_40 (tgt := 46) rfl (fun hc => ?_) (fun hc => ?_)
            · replace h := ifn h hc
              refine lv_iconst (v := 1) hx hb dX12_laysCuttings_46 ki_1 ?_
              refine lv_istore hx hb dX12_laysCuttings_47 hl (Nat.le_of_ble_eq_true rfl) (lv' := [(4, .int 1), (0, .ref (ad 0)), (1, .int v1), (2, .int v2), (3, .int v3)]) rfl (fun ls hl => ?_)
              exact hL49 v3 FU _ _ _ 1 y_cuts y_flat y_cp y_cA y_cB (lv_sub hl [1, 2, 3, 4, 0] rfl) hP hS h
            · replace h := ifp h hc
              refine lv_goto hx hb dX12_laysCuttings_43 (tgt := 166) rfl ?_
              exact hJ166 _ _ _ v3 y_cuts y_flat y_cp y_cA y_cB (lv_sub hl [0, 1, 2, 3] rfl) hP hS h
      rw [mo_laysCuttings_B19] at h
      refine lv_iload_n hx hb dX12_laysCuttings_19 rfl (lv_at hl 2 rfl) ?_
      refine lv_iload_n hx hb dX12_laysCuttings_20 rfl (lv_at hl 1 rfl) ?_
      refine lv_icmp_ge hx hb dX12_laysCuttings_21 (tgt := 178) rfl (fun hc => ?_) (fun hc => ?_)
      · replace h := ifp h hc
        simp only [Option.some.injEq, Prod.mk.injEq] at h
        obtain ⟨rfl, rfl, rfl, rfl, rfl⟩ := h
        exact rc_v hx hb hr hlocks hS dX12_laysCuttings_178 hP
      · replace h := ifn h hc
        refine lv_iconst (v := 1) hx hb dX12_laysCuttings_24 ki_1 ?_
        refine lv_istore_n hx hb dX12_laysCuttings_25 rfl hl (Nat.le_of_ble_eq_true rfl) (lv' := [(3, .int 1), (0, .ref (ad 0)), (1, .int v1), (2, .int v2)]) rfl (fun ls hl => ?_)
        exact hL26 v2 FU _ _ _ 1 y_cuts y_flat y_cp y_cA y_cB (lv_sub hl [1, 2, 3, 0] rfl) hP hS h
  refine lv_aload_n hx hb dX12_laysCuttings_0 rfl (lv_at hl 0 rfl) ?_
  refine mg_MO_20 hx hb hw hown hK hP dX12_laysCuttings_1 ?_
  refine lv_iconst (v := 2) hx hb dX12_laysCuttings_4 ki_2 ?_
  obtain ⟨hne, h⟩ := dzI_s h
  refine lv_idiv hx hb dX12_laysCuttings_5 hne ?_
  obtain ⟨v1_26, ev1_26, h⟩ := nm_s h
  refine nmI ev1_26 ?_
  refine lv_istore_n hx hb dX12_laysCuttings_6 rfl hl (Nat.le_of_ble_eq_true rfl) (lv' := [(1, .int v1_26), (0, .ref (ad 0))]) rfl (fun ls hl => ?_)
  refine lv_aload_n hx hb dX12_laysCuttings_7 rfl (lv_at hl 1 rfl) ?_
  refine lv_iconst (v := 0) hx hb dX12_laysCuttings_8 ki_0 ?_
  refine mp_MO_21 hx hb hw hown hK hP hI hS dX12_laysCuttings_9 (fun H locs hP hS => ?_)
  refine lv_aload_n hx hb dX12_laysCuttings_12 rfl (lv_at hl 1 rfl) ?_
  refine lv_iconst (v := 0) hx hb dX12_laysCuttings_13 ki_0 ?_
  refine mp_MO_22 hx hb hw hown hK hP hI hS dX12_laysCuttings_14 (fun H locs hP hS => ?_)
  refine lv_iconst (v := 0) hx hb dX12_laysCuttings_17 ki_0 ?_
  refine lv_istore_n hx hb dX12_laysCuttings_18 rfl hl (Nat.le_of_ble_eq_true rfl) (lv' := [(2, .int 0), (1, .int v1_26), (0, .ref (ad 0))]) rfl (fun ls hl => ?_)
  exact hL19 v1_26 y_sides a_letter FU _ _ _ 0 0 0 y_cp y_cA y_cB (lv_sub hl [2, 1, 0] rfl) hP hS h
noncomputable def mo_line (v1 : Int32) (v2 : Int32) (y_goes : Int32) (y_sides : Int32) (a_drawer : Nat → Int64) (a_flood : Nat → Int32) (a_going : Nat → Int32) (a_letter : Nat → Int32) (a_lineX : Nat → Int32) (a_lineY : Nat → Int32) : Option (Int32 × Int32 × Int32 × (Nat → Int32) × (Nat → Int32) × (Nat → Int32) × (Nat → Int32) × (Nat → Int32)) :=
  bd1 (mo_isDrawer v1) fun r_1 =>
  if r_1 = 0 then (some ((-1), y_goes, y_sides, a_flood, a_going, a_letter, a_lineX, a_lineY)) else
  if 0 ≤ v2 then (ck v1 8 <|
  if (a_drawer v1.toNatClampNeg) = 0 then (some ((-2), y_goes, y_sides, a_flood, a_going, a_letter, a_lineX, a_lineY)) else
  ck v1 8 <|
  bd8 (mo_hasLine (a_drawer v1.toNatClampNeg) y_goes y_sides a_flood a_going a_letter a_lineX a_lineY) fun r_3 y_goes_4 y_sides_5 a_flood_6 a_going_7 a_letter_8 a_lineX_9 a_lineY_10 =>
  if r_3 = 0 then (some ((-3), y_goes_4, y_sides_5, a_flood_6, a_going_7, a_letter_8, a_lineX_9, a_lineY_10)) else
  if y_sides_5 ≤ v2 then (some ((-4), y_goes_4, y_sides_5, a_flood_6, a_going_7, a_letter_8, a_lineX_9, a_lineY_10)) else
  ck v2 60 <|
  some (a_letter_8 v2.toNatClampNeg, y_goes_4, y_sides_5, a_flood_6, a_going_7, a_letter_8, a_lineX_9, a_lineY_10)) else
  some ((-1), y_goes, y_sides, a_flood, a_going, a_letter, a_lineX, a_lineY)
set_option maxHeartbeats 4000000 in
set_option maxRecDepth 100000 in
theorem c_mo_line (l : Launch) (D : va_G) (ct : Nat → ClassId) (ad : Nat → Nat) (hI : mI ad) {y_km y_tp y_goes y_kin y_qd y_sides y_cuts y_flat y_cp y_cA y_cB y_1X y_1Y y_2X y_2Y y_tm y_cells : Int32} {a_mtape a_flood a_going a_field a_from a_mcrowds a_steps a_queue a_letter a_lineX a_lineY a_triedAt a_cellAt a_besideIn a_apart : Nat → Int32} {a_drawer a_mkept a_listed a_mkin a_tried a_takenAt a_waysOf : Nat → Int64} (v1 : Int32) (v2 : Int32) (r : Int32) (z_y_goes : Int32) (z_y_sides : Int32) (z_a_flood : Nat → Int32) (z_a_going : Nat → Int32) (z_a_letter : Nat → Int32) (z_a_lineX : Nat → Int32) (z_a_lineY : Nat → Int32) (h : mo_line v1 v2 y_goes y_sides a_drawer a_flood a_going a_letter a_lineX a_lineY = some (r, z_y_goes, z_y_sides, z_a_flood, z_a_going, z_a_letter, z_a_lineX, z_a_lineY)) : Met l yX12_line (wm yX12_line cX12_line 3 (some .int)) (rmm 5 123) (va_Pc [.ref (ad 0), .int v1, .int v2] (mB D ct ad y_km y_tp y_goes y_kin y_qd y_sides y_cuts y_flat y_cp y_cA y_cB y_1X y_1Y y_2X y_2Y y_tm y_cells a_mtape a_flood a_going a_field a_from a_mcrowds a_steps a_queue a_letter a_lineX a_lineY a_triedAt a_cellAt a_besideIn a_apart a_drawer a_mkept a_listed a_mkin a_tried a_takenAt a_waysOf)) (va_Qi (fun z (_ : Unit) => z = r) (fun _ t => mP D ct ad y_km y_tp z_y_goes y_kin y_qd z_y_sides y_cuts y_flat y_cp y_cA y_cB y_1X y_1Y y_2X y_2Y y_tm y_cells a_mtape z_a_flood z_a_going a_field a_from a_mcrowds a_steps a_queue z_a_letter z_a_lineX z_a_lineY a_triedAt a_cellAt a_besideIn a_apart a_drawer a_mkept a_listed a_mkin a_tried a_takenAt a_waysOf t.heap) (mA ad)) 0 0 (mA ad) := by
  refine met_s (y := yX12_line) (rm := rmm 5 123) (by decide) (Nat.le_of_ble_eq_true rfl) ?_
  intro p e s m below meth c hx hb hr hw hown hlocks _ hml hB ls hl
  obtain ⟨hN, hK, hP⟩ := hB
  replace hl : lv_has ls 3 [(0, .ref (ad 0)), (1, .int v1), (2, .int v2)] := hl
  have hS : va_S (mA ad) s.heap s.heap [] := va_S.rf
  generalize (([.ref (ad 0), .int v1, .int v2] : List Value).toArray) = av at hw ⊢
  rw [mo_line] at h
  refine lv_iload_n hx hb dX12_line_0 rfl (lv_at hl 1 rfl) ?_
  obtain ⟨r_12, hr_13, h⟩ := bd1_s h
  refine sc_i hx hb hml hown hw hN (c_mo_isDrawer l v1 r_12 hr_13) g_RX12_135 hd_X12_isDrawer (rest := []) hl.1 hS dX12_line_1 rfl rfl ⟨Nat.le_of_ble_eq_true rfl, Nat.le_of_ble_eq_true rfl⟩ rfl rfl (Nat.le_of_ble_eq_true rfl) ⟨Nat.zero_le _, Nat.zero_le _⟩ (fun H locs hk hS => ?_)
  have hP := mP_kept hP hk
  refine lv_if_eq hx hb dX12_line_4 (tgt := 11) rfl (fun hc => ?_) (fun hc => ?_)
  · replace h := ifp h hc
    refine lv_iconst (v := (-1)) hx hb dX12_line_11 ki_m1 ?_
    simp only [Option.some.injEq, Prod.mk.injEq] at h
    obtain ⟨rfl, rfl, rfl, rfl, rfl, rfl, rfl, rfl⟩ := h
    exact rc_i hx hb hr hlocks hS dX12_line_12 rfl hP
  · replace h := ifn h hc
    refine lv_iload_n hx hb dX12_line_7 rfl (lv_at hl 2 rfl) ?_
    refine lv_if_ge hx hb dX12_line_8 (tgt := 13) rfl (fun hc => ?_) (fun hc => ?_)
    · replace h := ifp h hc
      refine lv_aload_n hx hb dX12_line_13 rfl (lv_at hl 0 rfl) ?_
      refine mg_MO_0 hx hb hw hown hK hP dX12_line_14 ?_
      refine lv_iload_n hx hb dX12_line_17 rfl (lv_at hl 1 rfl) ?_
      obtain ⟨hin, h⟩ := ck_s h
      refine md_drawer hx hb hK hP hin dX12_line_18 ?_
      refine lv_lconst (v := 0) hx hb dX12_line_19 kl_0 ?_
      refine W.lcmp hx hb dX12_line_20 ?_
      refine lv_if_ne hx hb dX12_line_21 (tgt := 27) rfl (fun hc => ?_) (fun hc => ?_)
      · replace h := ifn h (fun q => hc ((lg_cmp_eq _ _).mpr q))
        refine lv_aload_n hx hb dX12_line_27 rfl (lv_at hl 0 rfl) ?_
        refine lv_aload_n hx hb dX12_line_28 rfl (lv_at hl 0 rfl) ?_
        refine mg_MO_0 hx hb hw hown hK hP dX12_line_29 ?_
        refine lv_iload_n hx hb dX12_line_32 rfl (lv_at hl 1 rfl) ?_
        obtain ⟨hin, h⟩ := ck_s h
        refine md_drawer hx hb hK hP hin dX12_line_33 ?_
        obtain ⟨r_14, y_goes_15, y_sides_16, a_flood_17, a_going_18, a_letter_19, a_lineX_20, a_lineY_21, hr_22, h⟩ := bd8_s h
        refine hv_i hx hb hml hown hw mB_bl (mB_of hN hK hP) (mr_MO hK hP) (c_mo_hasLine l D ct ad hI (a_drawer v1.toNatClampNeg) r_14 y_goes_15 y_sides_16 a_flood_17 a_going_18 a_letter_19 a_lineX_20 a_lineY_21 hr_22) g_RX12_308 ⟨rfl, hd_X12_hasLine⟩ (rest := []) hl.1 hS (fun q h => h) dX12_line_34 rfl rfl ⟨Nat.le_of_ble_eq_true rfl, Nat.le_of_ble_eq_true rfl⟩ rfl rfl (Nat.le_of_ble_eq_true rfl) ⟨Nat.zero_le _, Nat.zero_le _⟩ (fun H locs hP _ hS => ?_)
        refine lv_if_ne hx hb dX12_line_37 (tgt := 43) rfl (fun hc => ?_) (fun hc => ?_)
        · replace h := ifn h hc
          refine lv_iload_n hx hb dX12_line_43 rfl (lv_at hl 2 rfl) ?_
          refine lv_aload_n hx hb dX12_line_44 rfl (lv_at hl 0 rfl) ?_
          refine mg_MO_20 hx hb hw hown hK hP dX12_line_45 ?_
          refine lv_icmp_ge hx hb dX12_line_48 (tgt := 60) rfl (fun hc => ?_) (fun hc => ?_)
          · replace h := ifp h hc
            refine lv_bipush (v := (-4)) hx hb dX12_line_60 kb_m4 ?_
            simp only [Option.some.injEq, Prod.mk.injEq] at h
            obtain ⟨rfl, rfl, rfl, rfl, rfl, rfl, rfl, rfl⟩ := h
            exact rc_i hx hb hr hlocks hS dX12_line_62 rfl hP
          · replace h := ifn h hc
            refine lv_aload_n hx hb dX12_line_51 rfl (lv_at hl 0 rfl) ?_
            refine mg_MO_17 hx hb hw hown hK hP dX12_line_52 ?_
            refine lv_iload_n hx hb dX12_line_55 rfl (lv_at hl 2 rfl) ?_
            obtain ⟨hin, h⟩ := ck_s h
            refine md_letter hx hb hK hP hin dX12_line_56 ?_
            refine lv_goto hx hb dX12_line_57 (tgt := 62) rfl ?_
            simp only [Option.some.injEq, Prod.mk.injEq] at h
            obtain ⟨rfl, rfl, rfl, rfl, rfl, rfl, rfl, rfl⟩ := h
            exact rc_i hx hb hr hlocks hS dX12_line_62 rfl hP
        · replace h := ifp h hc
          refine lv_bipush (v := (-3)) hx hb dX12_line_40 kb_m3 ?_
          simp only [Option.some.injEq, Prod.mk.injEq] at h
          obtain ⟨rfl, rfl, rfl, rfl, rfl, rfl, rfl, rfl⟩ := h
          exact rc_i hx hb hr hlocks hS dX12_line_42 rfl hP
      · replace h := ifp h ((lg_cmp_eq _ _).mp hc)
        refine lv_bipush (v := (-2)) hx hb dX12_line_24 kb_m2 ?_
        simp only [Option.some.injEq, Prod.mk.injEq] at h
        obtain ⟨rfl, rfl, rfl, rfl, rfl, rfl, rfl, rfl⟩ := h
        exact rc_i hx hb hr hlocks hS dX12_line_26 rfl hP
    · replace h := ifn h hc
      refine lv_iconst (v := (-1)) hx hb dX12_line_11 ki_m1 ?_
      simp only [Option.some.injEq, Prod.mk.injEq] at h
      obtain ⟨rfl, rfl, rfl, rfl, rfl, rfl, rfl, rfl⟩ := h
      exact rc_i hx hb hr hlocks hS dX12_line_12 rfl hP
noncomputable def mo_tiles (v1 : Int32) (v2 : Int32) (y_goes : Int32) (y_sides : Int32) (y_cuts : Int32) (y_flat : Int32) (y_cp : Int32) (y_cA : Int32) (y_cB : Int32) (a_drawer : Nat → Int64) (a_flood : Nat → Int32) (a_going : Nat → Int32) (a_letter : Nat → Int32) (a_lineX : Nat → Int32) (a_lineY : Nat → Int32) : Option (Int32 × Int32 × Int32 × Int32 × Int32 × Int32 × Int32 × Int32 × (Nat → Int32) × (Nat → Int32) × (Nat → Int32) × (Nat → Int32) × (Nat → Int32)) :=
  bd1 (mo_isDrawer v1) fun r_1 =>
  if r_1 = 0 then (some ((-1), y_goes, y_sides, y_cuts, y_flat, y_cp, y_cA, y_cB, a_flood, a_going, a_letter, a_lineX, a_lineY)) else
  bd1 (mo_in v2 0 5) fun r_3 =>
  if r_3 = 0 then (some ((-1), y_goes, y_sides, y_cuts, y_flat, y_cp, y_cA, y_cB, a_flood, a_going, a_letter, a_lineX, a_lineY)) else
  ck v1 8 <|
  if (a_drawer v1.toNatClampNeg) = 0 then (some ((-2), y_goes, y_sides, y_cuts, y_flat, y_cp, y_cA, y_cB, a_flood, a_going, a_letter, a_lineX, a_lineY)) else
  ck v1 8 <|
  bd8 (mo_hasLine (a_drawer v1.toNatClampNeg) y_goes y_sides a_flood a_going a_letter a_lineX a_lineY) fun r_5 y_goes_6 y_sides_7 a_flood_8 a_going_9 a_letter_10 a_lineX_11 a_lineY_12 =>
  if r_5 = 0 then (some ((-3), y_goes_6, y_sides_7, y_cuts, y_flat, y_cp, y_cA, y_cB, a_flood_8, a_going_9, a_letter_10, a_lineX_11, a_lineY_12)) else
  bd5 (mo_laysCuttings y_sides_7 y_cuts y_flat y_cp y_cA y_cB a_letter_10) fun y_cuts_14 y_flat_15 y_cp_16 y_cA_17 y_cB_18 =>
  if 2 ≤ v2 then (if y_cuts_14 = 0 then (some ((-4), y_goes_6, y_sides_7, y_cuts_14, y_flat_15, y_cp_16, y_cA_17, y_cB_18, a_flood_8, a_going_9, a_letter_10, a_lineX_11, a_lineY_12)) else
  if v2 = 2 then (some (y_cp_16, y_goes_6, y_sides_7, y_cuts_14, y_flat_15, y_cp_16, y_cA_17, y_cB_18, a_flood_8, a_going_9, a_letter_10, a_lineX_11, a_lineY_12)) else
  if v2 = 3 then (some (y_cA_17, y_goes_6, y_sides_7, y_cuts_14, y_flat_15, y_cp_16, y_cA_17, y_cB_18, a_flood_8, a_going_9, a_letter_10, a_lineX_11, a_lineY_12)) else
  if v2 = 4 then (some (y_cB_18, y_goes_6, y_sides_7, y_cuts_14, y_flat_15, y_cp_16, y_cA_17, y_cB_18, a_flood_8, a_going_9, a_letter_10, a_lineX_11, a_lineY_12)) else
  dzI 2 <|
  some (((y_sides_7 / 2) - y_cA_17) - y_cB_18, y_goes_6, y_sides_7, y_cuts_14, y_flat_15, y_cp_16, y_cA_17, y_cB_18, a_flood_8, a_going_9, a_letter_10, a_lineX_11, a_lineY_12)) else
  if v2 = 0 then (some (y_cuts_14, y_goes_6, y_sides_7, y_cuts_14, y_flat_15, y_cp_16, y_cA_17, y_cB_18, a_flood_8, a_going_9, a_letter_10, a_lineX_11, a_lineY_12)) else
  some (y_flat_15, y_goes_6, y_sides_7, y_cuts_14, y_flat_15, y_cp_16, y_cA_17, y_cB_18, a_flood_8, a_going_9, a_letter_10, a_lineX_11, a_lineY_12)
set_option maxHeartbeats 4000000 in
set_option maxRecDepth 100000 in
theorem c_mo_tiles (l : Launch) (D : va_G) (ct : Nat → ClassId) (ad : Nat → Nat) (hI : mI ad) {y_km y_tp y_goes y_kin y_qd y_sides y_cuts y_flat y_cp y_cA y_cB y_1X y_1Y y_2X y_2Y y_tm y_cells : Int32} {a_mtape a_flood a_going a_field a_from a_mcrowds a_steps a_queue a_letter a_lineX a_lineY a_triedAt a_cellAt a_besideIn a_apart : Nat → Int32} {a_drawer a_mkept a_listed a_mkin a_tried a_takenAt a_waysOf : Nat → Int64} (v1 : Int32) (v2 : Int32) (r : Int32) (z_y_goes : Int32) (z_y_sides : Int32) (z_y_cuts : Int32) (z_y_flat : Int32) (z_y_cp : Int32) (z_y_cA : Int32) (z_y_cB : Int32) (z_a_flood : Nat → Int32) (z_a_going : Nat → Int32) (z_a_letter : Nat → Int32) (z_a_lineX : Nat → Int32) (z_a_lineY : Nat → Int32) (h : mo_tiles v1 v2 y_goes y_sides y_cuts y_flat y_cp y_cA y_cB a_drawer a_flood a_going a_letter a_lineX a_lineY = some (r, z_y_goes, z_y_sides, z_y_cuts, z_y_flat, z_y_cp, z_y_cA, z_y_cB, z_a_flood, z_a_going, z_a_letter, z_a_lineX, z_a_lineY)) : Met l yX12_tiles (wm yX12_tiles cX12_tiles 3 (some .int)) (rmm 5 123) (va_Pc [.ref (ad 0), .int v1, .int v2] (mB D ct ad y_km y_tp y_goes y_kin y_qd y_sides y_cuts y_flat y_cp y_cA y_cB y_1X y_1Y y_2X y_2Y y_tm y_cells a_mtape a_flood a_going a_field a_from a_mcrowds a_steps a_queue a_letter a_lineX a_lineY a_triedAt a_cellAt a_besideIn a_apart a_drawer a_mkept a_listed a_mkin a_tried a_takenAt a_waysOf)) (va_Qi (fun z (_ : Unit) => z = r) (fun _ t => mP D ct ad y_km y_tp z_y_goes y_kin y_qd z_y_sides z_y_cuts z_y_flat z_y_cp z_y_cA z_y_cB y_1X y_1Y y_2X y_2Y y_tm y_cells a_mtape z_a_flood z_a_going a_field a_from a_mcrowds a_steps a_queue z_a_letter z_a_lineX z_a_lineY a_triedAt a_cellAt a_besideIn a_apart a_drawer a_mkept a_listed a_mkin a_tried a_takenAt a_waysOf t.heap) (mA ad)) 0 0 (mA ad) := by
  refine met_s (y := yX12_tiles) (rm := rmm 5 123) (by decide) (Nat.le_of_ble_eq_true rfl) ?_
  intro p e s m below meth c hx hb hr hw hown hlocks _ hml hB ls hl
  obtain ⟨hN, hK, hP⟩ := hB
  replace hl : lv_has ls 3 [(0, .ref (ad 0)), (1, .int v1), (2, .int v2)] := hl
  have hS : va_S (mA ad) s.heap s.heap [] := va_S.rf
  generalize (([.ref (ad 0), .int v1, .int v2] : List Value).toArray) = av at hw ⊢
  rw [mo_tiles] at h
  refine lv_iload_n hx hb dX12_tiles_0 rfl (lv_at hl 1 rfl) ?_
  obtain ⟨r_20, hr_21, h⟩ := bd1_s h
  refine sc_i hx hb hml hown hw hN (c_mo_isDrawer l v1 r_20 hr_21) g_RX12_135 hd_X12_isDrawer (rest := []) hl.1 hS dX12_tiles_1 rfl rfl ⟨Nat.le_of_ble_eq_true rfl, Nat.le_of_ble_eq_true rfl⟩ rfl rfl (Nat.le_of_ble_eq_true rfl) ⟨Nat.zero_le _, Nat.zero_le _⟩ (fun H locs hk hS => ?_)
  have hP := mP_kept hP hk
  refine lv_if_eq hx hb dX12_tiles_4 (tgt := 16) rfl (fun hc => ?_) (fun hc => ?_)
  · replace h := ifp h hc
    refine lv_iconst (v := (-1)) hx hb dX12_tiles_16 ki_m1 ?_
    simp only [Option.some.injEq, Prod.mk.injEq] at h
    obtain ⟨rfl, rfl, rfl, rfl, rfl, rfl, rfl, rfl, rfl, rfl, rfl, rfl, rfl⟩ := h
    exact rc_i hx hb hr hlocks hS dX12_tiles_17 rfl hP
  · replace h := ifn h hc
    refine lv_iload_n hx hb dX12_tiles_7 rfl (lv_at hl 2 rfl) ?_
    refine lv_iconst (v := 0) hx hb dX12_tiles_8 ki_0 ?_
    refine lv_iconst (v := 5) hx hb dX12_tiles_9 ki_5 ?_
    obtain ⟨r_22, hr_23, h⟩ := bd1_s h
    refine sc_i hx hb hml hown hw hN (c_mo_in l v2 0 5 r_22 hr_23) g_RX12_82 hd_X12_in (rest := []) hl.1 hS dX12_tiles_10 rfl rfl ⟨Nat.le_of_ble_eq_true rfl, Nat.le_of_ble_eq_true rfl⟩ rfl rfl (Nat.le_of_ble_eq_true rfl) ⟨Nat.zero_le _, Nat.zero_le _⟩ (fun H locs hk hS => ?_)
    have hP := mP_kept hP hk
    refine lv_if_ne hx hb dX12_tiles_13 (tgt := 18) rfl (fun hc => ?_) (fun hc => ?_)
    · replace h := ifn h hc
      refine lv_aload_n hx hb dX12_tiles_18 rfl (lv_at hl 0 rfl) ?_
      refine mg_MO_0 hx hb hw hown hK hP dX12_tiles_19 ?_
      refine lv_iload_n hx hb dX12_tiles_22 rfl (lv_at hl 1 rfl) ?_
      obtain ⟨hin, h⟩ := ck_s h
      refine md_drawer hx hb hK hP hin dX12_tiles_23 ?_
      refine lv_lconst (v := 0) hx hb dX12_tiles_24 kl_0 ?_
      refine W.lcmp hx hb dX12_tiles_25 ?_
      refine lv_if_ne hx hb dX12_tiles_26 (tgt := 32) rfl (fun hc => ?_) (fun hc => ?_)
      · replace h := ifn h (fun q => hc ((lg_cmp_eq _ _).mpr q))
        refine lv_aload_n hx hb dX12_tiles_32 rfl (lv_at hl 0 rfl) ?_
        refine lv_aload_n hx hb dX12_tiles_33 rfl (lv_at hl 0 rfl) ?_
        refine mg_MO_0 hx hb hw hown hK hP dX12_tiles_34 ?_
        refine lv_iload_n hx hb dX12_tiles_37 rfl (lv_at hl 1 rfl) ?_
        obtain ⟨hin, h⟩ := ck_s h
        refine md_drawer hx hb hK hP hin dX12_tiles_38 ?_
        obtain ⟨r_24, y_goes_25, y_sides_26, a_flood_27, a_going_28, a_letter_29, a_lineX_30, a_lineY_31, hr_32, h⟩ := bd8_s h
        refine hv_i hx hb hml hown hw mB_bl (mB_of hN hK hP) (mr_MO hK hP) (c_mo_hasLine l D ct ad hI (a_drawer v1.toNatClampNeg) r_24 y_goes_25 y_sides_26 a_flood_27 a_going_28 a_letter_29 a_lineX_30 a_lineY_31 hr_32) g_RX12_308 ⟨rfl, hd_X12_hasLine⟩ (rest := []) hl.1 hS (fun q h => h) dX12_tiles_39 rfl rfl ⟨Nat.le_of_ble_eq_true rfl, Nat.le_of_ble_eq_true rfl⟩ rfl rfl (Nat.le_of_ble_eq_true rfl) ⟨Nat.zero_le _, Nat.zero_le _⟩ (fun H locs hP _ hS => ?_)
        refine lv_if_ne hx hb dX12_tiles_42 (tgt := 48) rfl (fun hc => ?_) (fun hc => ?_)
        · replace h := ifn h hc
          refine lv_aload_n hx hb dX12_tiles_48 rfl (lv_at hl 0 rfl) ?_
          obtain ⟨y_cuts_33, y_flat_34, y_cp_35, y_cA_36, y_cB_37, hr_38, h⟩ := bd5_s h
          refine hv_v hx hb hml hown hw mB_bl (mB_of hN hK hP) (mr_MO hK hP) (c_mo_laysCuttings l D ct ad hI y_cuts_33 y_flat_34 y_cp_35 y_cA_36 y_cB_37 hr_38) g_RX12_311 ⟨rfl, hd_X12_laysCuttings⟩ (rest := []) hl.1 hS (fun q h => h) dX12_tiles_49 rfl rfl ⟨Nat.le_of_ble_eq_true rfl, Nat.le_of_ble_eq_true rfl⟩ rfl rfl (Nat.le_of_ble_eq_true rfl) ⟨Nat.zero_le _, Nat.zero_le _⟩ (fun H locs hP _ hS => ?_)
          refine lv_iload_n hx hb dX12_tiles_52 rfl (lv_at hl 2 rfl) ?_
          refine lv_iconst (v := 2) hx hb dX12_tiles_53 ki_2 ?_
          refine lv_icmp_ge hx hb dX12_tiles_54 (tgt := 73) rfl (fun hc => ?_) (fun hc => ?_)
          · replace h := ifp h hc
            refine lv_aload_n hx hb dX12_tiles_73 rfl (lv_at hl 0 rfl) ?_
            refine mg_MO_21 hx hb hw hown hK hP dX12_tiles_74 ?_
            refine lv_if_ne hx hb dX12_tiles_77 (tgt := 83) rfl (fun hc => ?_) (fun hc => ?_)
            · replace h := ifn h hc
              refine lv_iload_n hx hb dX12_tiles_83 rfl (lv_at hl 2 rfl) ?_
              refine lv_iconst (v := 2) hx hb dX12_tiles_84 ki_2 ?_
              refine lv_icmp_ne hx hb dX12_tiles_85 (tgt := 95) rfl (fun hc => ?_) (fun hc => ?_)
              · replace h := ifn h hc
                refine lv_iload_n hx hb dX12_tiles_95 rfl (lv_at hl 2 rfl) ?_
                refine lv_iconst (v := 3) hx hb dX12_tiles_96 ki_3 ?_
                refine lv_icmp_ne hx hb dX12_tiles_97 (tgt := 107) rfl (fun hc => ?_) (fun hc => ?_)
                · replace h := ifn h hc
                  refine lv_iload_n hx hb dX12_tiles_107 rfl (lv_at hl 2 rfl) ?_
                  refine lv_iconst (v := 4) hx hb dX12_tiles_108 ki_4 ?_
                  refine lv_icmp_ne hx hb dX12_tiles_109 (tgt := 119) rfl (fun hc => ?_) (fun hc => ?_)
                  · replace h := ifn h hc
                    refine lv_aload_n hx hb dX12_tiles_119 rfl (lv_at hl 0 rfl) ?_
                    refine mg_MO_20 hx hb hw hown hK hP dX12_tiles_120 ?_
                    refine lv_iconst (v := 2) hx hb dX12_tiles_123 ki_2 ?_
                    obtain ⟨hne, h⟩ := dzI_s h
                    refine lv_idiv hx hb dX12_tiles_124 hne ?_
                    refine lv_aload_n hx hb dX12_tiles_125 rfl (lv_at hl 0 rfl) ?_
                    refine mg_MO_24 hx hb hw hown hK hP dX12_tiles_126 ?_
                    refine lv_isub hx hb dX12_tiles_129 ?_
                    refine lv_aload_n hx hb dX12_tiles_130 rfl (lv_at hl 0 rfl) ?_
                    refine mg_MO_25 hx hb hw hown hK hP dX12_tiles_131 ?_
                    refine lv_isub hx hb dX12_tiles_134 ?_
                    simp only [Option.some.injEq, Prod.mk.injEq] at h
                    obtain ⟨rfl, rfl, rfl, rfl, rfl, rfl, rfl, rfl, rfl, rfl, rfl, rfl, rfl⟩ := h
                    exact rc_i hx hb hr hlocks hS dX12_tiles_135 rfl hP
                  · replace h := ifp h hc
                    refine lv_aload_n hx hb dX12_tiles_112 rfl (lv_at hl 0 rfl) ?_
                    refine mg_MO_25 hx hb hw hown hK hP dX12_tiles_113 ?_
                    refine lv_goto hx hb dX12_tiles_116 (tgt := 135) rfl ?_
                    simp only [Option.some.injEq, Prod.mk.injEq] at h
                    obtain ⟨rfl, rfl, rfl, rfl, rfl, rfl, rfl, rfl, rfl, rfl, rfl, rfl, rfl⟩ := h
                    exact rc_i hx hb hr hlocks hS dX12_tiles_135 rfl hP
                · replace h := ifp h hc
                  refine lv_aload_n hx hb dX12_tiles_100 rfl (lv_at hl 0 rfl) ?_
                  refine mg_MO_24 hx hb hw hown hK hP dX12_tiles_101 ?_
                  refine lv_goto hx hb dX12_tiles_104 (tgt := 135) rfl ?_
                  simp only [Option.some.injEq, Prod.mk.injEq] at h
                  obtain ⟨rfl, rfl, rfl, rfl, rfl, rfl, rfl, rfl, rfl, rfl, rfl, rfl, rfl⟩ := h
                  exact rc_i hx hb hr hlocks hS dX12_tiles_135 rfl hP
              · replace h := ifp h hc
                refine lv_aload_n hx hb dX12_tiles_88 rfl (lv_at hl 0 rfl) ?_
                refine mg_MO_23 hx hb hw hown hK hP dX12_tiles_89 ?_
                refine lv_goto hx hb dX12_tiles_92 (tgt := 135) rfl ?_
                simp only [Option.some.injEq, Prod.mk.injEq] at h
                obtain ⟨rfl, rfl, rfl, rfl, rfl, rfl, rfl, rfl, rfl, rfl, rfl, rfl, rfl⟩ := h
                exact rc_i hx hb hr hlocks hS dX12_tiles_135 rfl hP
            · replace h := ifp h hc
              refine lv_bipush (v := (-4)) hx hb dX12_tiles_80 kb_m4 ?_
              simp only [Option.some.injEq, Prod.mk.injEq] at h
              obtain ⟨rfl, rfl, rfl, rfl, rfl, rfl, rfl, rfl, rfl, rfl, rfl, rfl, rfl⟩ := h
              exact rc_i hx hb hr hlocks hS dX12_tiles_82 rfl hP
          · replace h := ifn h hc
            refine lv_iload_n hx hb dX12_tiles_57 rfl (lv_at hl 2 rfl) ?_
            refine lv_if_ne hx hb dX12_tiles_58 (tgt := 68) rfl (fun hc => ?_) (fun hc => ?_)
            · replace h := ifn h hc
              refine lv_aload_n hx hb dX12_tiles_68 rfl (lv_at hl 0 rfl) ?_
              refine mg_MO_22 hx hb hw hown hK hP dX12_tiles_69 ?_
              simp only [Option.some.injEq, Prod.mk.injEq] at h
              obtain ⟨rfl, rfl, rfl, rfl, rfl, rfl, rfl, rfl, rfl, rfl, rfl, rfl, rfl⟩ := h
              exact rc_i hx hb hr hlocks hS dX12_tiles_72 rfl hP
            · replace h := ifp h hc
              refine lv_aload_n hx hb dX12_tiles_61 rfl (lv_at hl 0 rfl) ?_
              refine mg_MO_21 hx hb hw hown hK hP dX12_tiles_62 ?_
              refine lv_goto hx hb dX12_tiles_65 (tgt := 72) rfl ?_
              simp only [Option.some.injEq, Prod.mk.injEq] at h
              obtain ⟨rfl, rfl, rfl, rfl, rfl, rfl, rfl, rfl, rfl, rfl, rfl, rfl, rfl⟩ := h
              exact rc_i hx hb hr hlocks hS dX12_tiles_72 rfl hP
        · replace h := ifp h hc
          refine lv_bipush (v := (-3)) hx hb dX12_tiles_45 kb_m3 ?_
          simp only [Option.some.injEq, Prod.mk.injEq] at h
          obtain ⟨rfl, rfl, rfl, rfl, rfl, rfl, rfl, rfl, rfl, rfl, rfl, rfl, rfl⟩ := h
          exact rc_i hx hb hr hlocks hS dX12_tiles_47 rfl hP
      · replace h := ifp h ((lg_cmp_eq _ _).mp hc)
        refine lv_bipush (v := (-2)) hx hb dX12_tiles_29 kb_m2 ?_
        simp only [Option.some.injEq, Prod.mk.injEq] at h
        obtain ⟨rfl, rfl, rfl, rfl, rfl, rfl, rfl, rfl, rfl, rfl, rfl, rfl, rfl⟩ := h
        exact rc_i hx hb hr hlocks hS dX12_tiles_31 rfl hP
    · replace h := ifp h hc
      refine lv_iconst (v := (-1)) hx hb dX12_tiles_16 ki_m1 ?_
      simp only [Option.some.injEq, Prod.mk.injEq] at h
      obtain ⟨rfl, rfl, rfl, rfl, rfl, rfl, rfl, rfl, rfl, rfl, rfl, rfl, rfl⟩ := h
      exact rc_i hx hb hr hlocks hS dX12_tiles_17 rfl hP
noncomputable def mo_tilers_J68 (k21 : Int32 → Int32 → Int32 → Int32 → Int32 → Int32 → Int32 → Int32 → Int32 → (Nat → Int32) → (Nat → Int32) → (Nat → Int32) → (Nat → Int32) → (Nat → Int32) → Option (Int32 × Int32 × Int32 × Int32 × Int32 × Int32 × Int32 × Int32 × (Nat → Int32) × (Nat → Int32) × (Nat → Int32) × (Nat → Int32) × (Nat → Int32))) (a_listed : Nat → Int64) (a_from : Nat → Int32) (v1 : Int32) (v2 : Int32) (v3 : Int32) (v4 : Int32) (y_goes : Int32) (y_sides : Int32) (y_cuts : Int32) (y_flat : Int32) (y_cp : Int32) (y_cA : Int32) (y_cB : Int32) (a_flood : Nat → Int32) (a_going : Nat → Int32) (a_letter : Nat → Int32) (a_lineX : Nat → Int32) (a_lineY : Nat → Int32)  : Option (Int32 × Int32 × Int32 × Int32 × Int32 × Int32 × Int32 × Int32 × (Nat → Int32) × (Nat → Int32) × (Nat → Int32) × (Nat → Int32) × (Nat → Int32)) :=
  nm (v4 + Int32.ofInt 1) fun v4_1 =>
  k21 v3 v4_1 y_goes y_sides y_cuts y_flat y_cp y_cA y_cB a_flood a_going a_letter a_lineX a_lineY
noncomputable def mo_tilers_J66 (k21 : Int32 → Int32 → Int32 → Int32 → Int32 → Int32 → Int32 → Int32 → Int32 → (Nat → Int32) → (Nat → Int32) → (Nat → Int32) → (Nat → Int32) → (Nat → Int32) → Option (Int32 × Int32 × Int32 × Int32 × Int32 × Int32 × Int32 × Int32 × (Nat → Int32) × (Nat → Int32) × (Nat → Int32) × (Nat → Int32) × (Nat → Int32))) (a_listed : Nat → Int64) (a_from : Nat → Int32) (v1 : Int32) (v2 : Int32) (v4 : Int32) (y_goes : Int32) (y_sides : Int32) (y_cuts : Int32) (y_flat : Int32) (y_cp : Int32) (y_cA : Int32) (y_cB : Int32) (a_flood : Nat → Int32) (a_going : Nat → Int32) (a_letter : Nat → Int32) (a_lineX : Nat → Int32) (a_lineY : Nat → Int32) (t0 : Int32) (t1 : Int32) : Option (Int32 × Int32 × Int32 × Int32 × Int32 × Int32 × Int32 × Int32 × (Nat → Int32) × (Nat → Int32) × (Nat → Int32) × (Nat → Int32) × (Nat → Int32)) :=
  nm (t0 + t1 : Int32) fun v3_2 =>
  mo_tilers_J68 k21 a_listed a_from v1 v2 v3_2 v4 y_goes y_sides y_cuts y_flat y_cp y_cA y_cB a_flood a_going a_letter a_lineX a_lineY
noncomputable def mo_tilers_B21 (v1 : Int32) (v2 : Int32) (a_listed : Nat → Int64) (a_from : Nat → Int32)  (k21 : Int32 → Int32 → Int32 → Int32 → Int32 → Int32 → Int32 → Int32 → Int32 → (Nat → Int32) → (Nat → Int32) → (Nat → Int32) → (Nat → Int32) → (Nat → Int32) → Option (Int32 × Int32 × Int32 × Int32 × Int32 × Int32 × Int32 × Int32 × (Nat → Int32) × (Nat → Int32) × (Nat → Int32) × (Nat → Int32) × (Nat → Int32))) (v3 : Int32) (v4 : Int32) (y_goes : Int32) (y_sides : Int32) (y_cuts : Int32) (y_flat : Int32) (y_cp : Int32) (y_cA : Int32) (y_cB : Int32) (a_flood : Nat → Int32) (a_going : Nat → Int32) (a_letter : Nat → Int32) (a_lineX : Nat → Int32) (a_lineY : Nat → Int32) : Option (Int32 × Int32 × Int32 × Int32 × Int32 × Int32 × Int32 × Int32 × (Nat → Int32) × (Nat → Int32) × (Nat → Int32) × (Nat → Int32) × (Nat → Int32)) :=
  bd1 (mo_end v1 v2 a_from) fun r_3 =>
  if r_3 ≤ v4 then (some (v3, y_goes, y_sides, y_cuts, y_flat, y_cp, y_cA, y_cB, a_flood, a_going, a_letter, a_lineX, a_lineY)) else
  ck v4 1600 <|
  bd8 (mo_hasLine (a_listed v4.toNatClampNeg) y_goes y_sides a_flood a_going a_letter a_lineX a_lineY) fun r_5 y_goes_6 y_sides_7 a_flood_8 a_going_9 a_letter_10 a_lineX_11 a_lineY_12 =>
  if r_5 = 0 then (mo_tilers_J68 k21 a_listed a_from v1 v2 v3 v4 y_goes_6 y_sides_7 y_cuts y_flat y_cp y_cA y_cB a_flood_8 a_going_9 a_letter_10 a_lineX_11 a_lineY_12) else
  bd5 (mo_laysCuttings y_sides_7 y_cuts y_flat y_cp y_cA y_cB a_letter_10) fun y_cuts_14 y_flat_15 y_cp_16 y_cA_17 y_cB_18 =>
  if y_cuts_14 ≤ 0 then (mo_tilers_J66 k21 a_listed a_from v1 v2 v4 y_goes_6 y_sides_7 y_cuts_14 y_flat_15 y_cp_16 y_cA_17 y_cB_18 a_flood_8 a_going_9 a_letter_10 a_lineX_11 a_lineY_12 v3 0) else
  mo_tilers_J66 k21 a_listed a_from v1 v2 v4 y_goes_6 y_sides_7 y_cuts_14 y_flat_15 y_cp_16 y_cA_17 y_cB_18 a_flood_8 a_going_9 a_letter_10 a_lineX_11 a_lineY_12 v3 1
noncomputable def mo_tilers (v1 : Int32) (v2 : Int32) (y_goes : Int32) (y_sides : Int32) (y_cuts : Int32) (y_flat : Int32) (y_cp : Int32) (y_cA : Int32) (y_cB : Int32) (a_flood : Nat → Int32) (a_going : Nat → Int32) (a_listed : Nat → Int64) (a_from : Nat → Int32) (a_letter : Nat → Int32) (a_lineX : Nat → Int32) (a_lineY : Nat → Int32) : Option (Int32 × Int32 × Int32 × Int32 × Int32 × Int32 × Int32 × Int32 × (Nat → Int32) × (Nat → Int32) × (Nat → Int32) × (Nat → Int32) × (Nat → Int32)) :=
  bd1 (mo_isList v1 v2) fun r_20 =>
  if r_20 = 0 then (some ((-1), y_goes, y_sides, y_cuts, y_flat, y_cp, y_cA, y_cB, a_flood, a_going, a_letter, a_lineX, a_lineY)) else
  bd1 (mo_begin v1 v2 a_from) fun r_22 =>
  fl14 (mo_tilers_B21 v1 v2 a_listed a_from) FU 0 r_22 y_goes y_sides y_cuts y_flat y_cp y_cA y_cB a_flood a_going a_letter a_lineX a_lineY
set_option maxHeartbeats 4000000 in
set_option maxRecDepth 100000 in
theorem c_mo_tilers (l : Launch) (D : va_G) (ct : Nat → ClassId) (ad : Nat → Nat) (hI : mI ad) {y_km y_tp y_goes y_kin y_qd y_sides y_cuts y_flat y_cp y_cA y_cB y_1X y_1Y y_2X y_2Y y_tm y_cells : Int32} {a_mtape a_flood a_going a_field a_from a_mcrowds a_steps a_queue a_letter a_lineX a_lineY a_triedAt a_cellAt a_besideIn a_apart : Nat → Int32} {a_drawer a_mkept a_listed a_mkin a_tried a_takenAt a_waysOf : Nat → Int64} (v1 : Int32) (v2 : Int32) (r : Int32) (z_y_goes : Int32) (z_y_sides : Int32) (z_y_cuts : Int32) (z_y_flat : Int32) (z_y_cp : Int32) (z_y_cA : Int32) (z_y_cB : Int32) (z_a_flood : Nat → Int32) (z_a_going : Nat → Int32) (z_a_letter : Nat → Int32) (z_a_lineX : Nat → Int32) (z_a_lineY : Nat → Int32) (h : mo_tilers v1 v2 y_goes y_sides y_cuts y_flat y_cp y_cA y_cB a_flood a_going a_listed a_from a_letter a_lineX a_lineY = some (r, z_y_goes, z_y_sides, z_y_cuts, z_y_flat, z_y_cp, z_y_cA, z_y_cB, z_a_flood, z_a_going, z_a_letter, z_a_lineX, z_a_lineY)) : Met l yX12_tilers (wm yX12_tilers cX12_tilers 5 (some .int)) (rmm 5 123) (va_Pc [.ref (ad 0), .int v1, .int v2] (mB D ct ad y_km y_tp y_goes y_kin y_qd y_sides y_cuts y_flat y_cp y_cA y_cB y_1X y_1Y y_2X y_2Y y_tm y_cells a_mtape a_flood a_going a_field a_from a_mcrowds a_steps a_queue a_letter a_lineX a_lineY a_triedAt a_cellAt a_besideIn a_apart a_drawer a_mkept a_listed a_mkin a_tried a_takenAt a_waysOf)) (va_Qi (fun z (_ : Unit) => z = r) (fun _ t => mP D ct ad y_km y_tp z_y_goes y_kin y_qd z_y_sides z_y_cuts z_y_flat z_y_cp z_y_cA z_y_cB y_1X y_1Y y_2X y_2Y y_tm y_cells a_mtape z_a_flood z_a_going a_field a_from a_mcrowds a_steps a_queue z_a_letter z_a_lineX z_a_lineY a_triedAt a_cellAt a_besideIn a_apart a_drawer a_mkept a_listed a_mkin a_tried a_takenAt a_waysOf t.heap) (mA ad)) 0 0 (mA ad) := by
  refine met_s (y := yX12_tilers) (rm := rmm 5 123) (by decide) (Nat.le_of_ble_eq_true rfl) ?_
  intro p e s m below meth c hx hb hr hw hown hlocks _ hml hB ls hl
  obtain ⟨hN, hK, hP⟩ := hB
  replace hl : lv_has ls 5 [(0, .ref (ad 0)), (1, .int v1), (2, .int v2)] := hl
  have hS : va_S (mA ad) s.heap s.heap [] := va_S.rf
  generalize (([.ref (ad 0), .int v1, .int v2] : List Value).toArray) = av at hw ⊢
  rw [mo_tilers] at h
  have hL21 : ∀ (v1 : Int32), ∀ (v2 : Int32), ∀ (a_listed : Nat → Int64), ∀ (a_from : Nat → Int32), ∀ (n21 : Nat) (H : Heap) (locs : List Loc) (ls : Array Slot) (v3 : Int32) (v4 : Int32) (y_goes : Int32) (y_sides : Int32) (y_cuts : Int32) (y_flat : Int32) (y_cp : Int32) (y_cA : Int32) (y_cB : Int32) (a_flood : Nat → Int32) (a_going : Nat → Int32) (a_letter : Nat → Int32) (a_lineX : Nat → Int32) (a_lineY : Nat → Int32), lv_has ls 5 [(0, .ref (ad 0)), (1, .int v1), (2, .int v2), (3, .int v3), (4, .int v4)] → mP D ct ad y_km y_tp y_goes y_kin y_qd y_sides y_cuts y_flat y_cp y_cA y_cB y_1X y_1Y y_2X y_2Y y_tm y_cells a_mtape a_flood a_going a_field a_from a_mcrowds a_steps a_queue a_letter a_lineX a_lineY a_triedAt a_cellAt a_besideIn a_apart a_drawer a_mkept a_listed a_mkin a_tried a_takenAt a_waysOf H → va_S (mA ad) s.heap H locs → fl14 (mo_tilers_B21 v1 v2 a_listed a_from) n21 v3 v4 y_goes y_sides y_cuts y_flat y_cp y_cA y_cB a_flood a_going a_letter a_lineX a_lineY = some (r, z_y_goes, z_y_sides, z_y_cuts, z_y_flat, z_y_cp, z_y_cA, z_y_cB, z_a_flood, z_a_going, z_a_letter, z_a_lineX, z_a_lineY) → W p l e (rmm 5 123) s m av below meth c H locs 0 0 (MQ below (va_Qi (fun z (_ : Unit) => z = r) (fun _ t => mP D ct ad y_km y_tp z_y_goes y_kin y_qd z_y_sides z_y_cuts z_y_flat z_y_cp z_y_cA z_y_cB y_1X y_1Y y_2X y_2Y y_tm y_cells a_mtape z_a_flood z_a_going a_field a_from a_mcrowds a_steps a_queue z_a_letter z_a_lineX z_a_lineY a_triedAt a_cellAt a_besideIn a_apart a_drawer a_mkept a_listed a_mkin a_tried a_takenAt a_waysOf t.heap) (mA ad)) av s 0 0 (mA ad)) (F0 m 21 ls []) := by
    intro v1 v2 a_listed a_from n21
    induction n21 with
    | zero => intro H locs ls v3 v4 y_goes y_sides y_cuts y_flat y_cp y_cA y_cB a_flood a_going a_letter a_lineX a_lineY hl hP hS h; cases h
    | succ n21 ih21 =>
      intro H locs ls v3 v4 y_goes y_sides y_cuts y_flat y_cp y_cA y_cB a_flood a_going a_letter a_lineX a_lineY hl hP hS h
      replace h : mo_tilers_B21 v1 v2 a_listed a_from (fl14 (mo_tilers_B21 v1 v2 a_listed a_from) n21) v3 v4 y_goes y_sides y_cuts y_flat y_cp y_cA y_cB a_flood a_going a_letter a_lineX a_lineY = some (r, z_y_goes, z_y_sides, z_y_cuts, z_y_flat, z_y_cp, z_y_cA, z_y_cB, z_a_flood, z_a_going, z_a_letter, z_a_lineX, z_a_lineY) := h
      generalize fl14 (mo_tilers_B21 v1 v2 a_listed a_from) n21 = k21 at h ih21
      have hJ68 : ∀ (H : Heap) (locs : List Loc) (ls : Array Slot) (v3 : Int32) (v4 : Int32) (y_goes : Int32) (y_sides : Int32) (y_cuts : Int32) (y_flat : Int32) (y_cp : Int32) (y_cA : Int32) (y_cB : Int32) (a_flood : Nat → Int32) (a_going : Nat → Int32) (a_letter : Nat → Int32) (a_lineX : Nat → Int32) (a_lineY : Nat → Int32) , lv_has ls 5 [(0, .ref (ad 0)), (1, .int v1), (2, .int v2), (3, .int v3), (4, .int v4)] → mP D ct ad y_km y_tp y_goes y_kin y_qd y_sides y_cuts y_flat y_cp y_cA y_cB y_1X y_1Y y_2X y_2Y y_tm y_cells a_mtape a_flood a_going a_field a_from a_mcrowds a_steps a_queue a_letter a_lineX a_lineY a_triedAt a_cellAt a_besideIn a_apart a_drawer a_mkept a_listed a_mkin a_tried a_takenAt a_waysOf H → va_S (mA ad) s.heap H locs → mo_tilers_J68 k21 a_listed a_from v1 v2 v3 v4 y_goes y_sides y_cuts y_flat y_cp y_cA y_cB a_flood a_going a_letter a_lineX a_lineY = some (r, z_y_goes, z_y_sides, z_y_cuts, z_y_flat, z_y_cp, z_y_cA, z_y_cB, z_a_flood, z_a_going, z_a_letter, z_a_lineX, z_a_lineY) → W p l e (rmm 5 123) s m av below meth c H locs 0 0 (MQ below (va_Qi (fun z (_ : Unit) => z = r) (fun _ t => mP D ct ad y_km y_tp z_y_goes y_kin y_qd z_y_sides z_y_cuts z_y_flat z_y_cp z_y_cA z_y_cB y_1X y_1Y y_2X y_2Y y_tm y_cells a_mtape z_a_flood z_a_going a_field a_from a_mcrowds a_steps a_queue z_a_letter z_a_lineX z_a_lineY a_triedAt a_cellAt a_besideIn a_apart a_drawer a_mkept a_listed a_mkin a_tried a_takenAt a_waysOf t.heap) (mA ad)) av s 0 0 (mA ad)) (F0 m 68 ls []) := by
        intro H locs ls v3 v4 y_goes y_sides y_cuts y_flat y_cp y_cA y_cB a_flood a_going a_letter a_lineX a_lineY  hl hP hS h
        rw [mo_tilers_J68] at h
        obtain ⟨v4_24, ev4_24, h⟩ := nm_s h
        refine lv_iinc hx hb dX12_tilers_68 hl (k := 4) rfl ev4_24.symm (Nat.le_of_ble_eq_true rfl) (lv' := [(4, .int v4_24), (0, .ref (ad 0)), (1, .int v1), (2, .int v2), (3, .int v3)]) rfl (fun ls hl => ?_)
        refine lv_goto hx hb dX12_tilers_71 (tgt := 21) rfl ?_
        exact ih21 _ _ _ v3 v4_24 y_goes y_sides y_cuts y_flat y_cp y_cA y_cB a_flood a_going a_letter a_lineX a_lineY (lv_sub hl [1, 2, 3, 4, 0] rfl) hP hS h
      have hJ66 : ∀ (H : Heap) (locs : List Loc) (ls : Array Slot) (v4 : Int32) (y_goes : Int32) (y_sides : Int32) (y_cuts : Int32) (y_flat : Int32) (y_cp : Int32) (y_cA : Int32) (y_cB : Int32) (a_flood : Nat → Int32) (a_going : Nat → Int32) (a_letter : Nat → Int32) (a_lineX : Nat → Int32) (a_lineY : Nat → Int32) (t0 : Int32) (t1 : Int32), lv_has ls 5 [(0, .ref (ad 0)), (1, .int v1), (2, .int v2), (4, .int v4)] → mP D ct ad y_km y_tp y_goes y_kin y_qd y_sides y_cuts y_flat y_cp y_cA y_cB y_1X y_1Y y_2X y_2Y y_tm y_cells a_mtape a_flood a_going a_field a_from a_mcrowds a_steps a_queue a_letter a_lineX a_lineY a_triedAt a_cellAt a_besideIn a_apart a_drawer a_mkept a_listed a_mkin a_tried a_takenAt a_waysOf H → va_S (mA ad) s.heap H locs → mo_tilers_J66 k21 a_listed a_from v1 v2 v4 y_goes y_sides y_cuts y_flat y_cp y_cA y_cB a_flood a_going a_letter a_lineX a_lineY t0 t1 = some (r, z_y_goes, z_y_sides, z_y_cuts, z_y_flat, z_y_cp, z_y_cA, z_y_cB, z_a_flood, z_a_going, z_a_letter, z_a_lineX, z_a_lineY) → W p l e (rmm 5 123) s m av below meth c H locs 0 0 (MQ below (va_Qi (fun z (_ : Unit) => z = r) (fun _ t => mP D ct ad y_km y_tp z_y_goes y_kin y_qd z_y_sides z_y_cuts z_y_flat z_y_cp z_y_cA z_y_cB y_1X y_1Y y_2X y_2Y y_tm y_cells a_mtape z_a_flood z_a_going a_field a_from a_mcrowds a_steps a_queue z_a_letter z_a_lineX z_a_lineY a_triedAt a_cellAt a_besideIn a_apart a_drawer a_mkept a_listed a_mkin a_tried a_takenAt a_waysOf t.heap) (mA ad)) av s 0 0 (mA ad)) (F0 m 66 ls [.int t1, .int t0]) := by
        intro H locs ls v4 y_goes y_sides y_cuts y_flat y_cp y_cA y_cB a_flood a_going a_letter a_lineX a_lineY t0 t1 hl hP hS h
        rw [mo_tilers_J66] at h
        refine lv_iadd hx hb dX12_tilers_66 ?_
        obtain ⟨v3_25, ev3_25, h⟩ := nm_s h
        refine nmI ev3_25 ?_
        refine lv_istore_n hx hb dX12_tilers_67 rfl hl (Nat.le_of_ble_eq_true rfl) (lv' := [(3, .int v3_25), (0, .ref (ad 0)), (1, .int v1), (2, .int v2), (4, .int v4)]) rfl (fun ls hl => ?_)
        exact hJ68 _ _ _ v3_25 v4 y_goes y_sides y_cuts y_flat y_cp y_cA y_cB a_flood a_going a_letter a_lineX a_lineY (lv_sub hl [1, 2, 3, 0, 4] rfl) hP hS h
      rw [mo_tilers_B21] at h
      refine lv_iload hx hb dX12_tilers_21 (lv_at hl 4 rfl) ?_
      refine lv_aload_n hx hb dX12_tilers_23 rfl (lv_at hl 0 rfl) ?_
      refine lv_iload_n hx hb dX12_tilers_24 rfl (lv_at hl 1 rfl) ?_
      refine lv_iload_n hx hb dX12_tilers_25 rfl (lv_at hl 2 rfl) ?_
      obtain ⟨r_26, hr_27, h⟩ := bd1_s h
      refine hv_i hx hb hml hown hw mB_bl (mB_of hN hK hP) (mr_MO hK hP) (c_mo_end l D ct ad hI v1 v2 r_26 hr_27) g_RX12_240 ⟨rfl, hd_X12_end⟩ (rest := [.int v4]) hl.1 hS (fun q h => h) dX12_tilers_26 rfl rfl ⟨Nat.le_of_ble_eq_true rfl, Nat.le_of_ble_eq_true rfl⟩ rfl rfl (Nat.le_of_ble_eq_true rfl) ⟨Nat.zero_le _, Nat.zero_le _⟩ (fun H locs hP _ hS => ?_)
      refine lv_icmp_ge hx hb dX12_tilers_29 (tgt := 74) rfl (fun hc => ?_) (fun hc => ?_)
      · replace h := ifp h hc
        refine lv_iload_n hx hb dX12_tilers_74 rfl (lv_at hl 3 rfl) ?_
        simp only [Option.some.injEq, Prod.mk.injEq] at h
        obtain ⟨rfl, rfl, rfl, rfl, rfl, rfl, rfl, rfl, rfl, rfl, rfl, rfl, rfl⟩ := h
        exact rc_i hx hb hr hlocks hS dX12_tilers_75 rfl hP
      · replace h := ifn h hc
        refine lv_aload_n hx hb dX12_tilers_32 rfl (lv_at hl 0 rfl) ?_
        refine lv_aload_n hx hb dX12_tilers_33 rfl (lv_at hl 0 rfl) ?_
        refine mg_MO_9 hx hb hw hown hK hP dX12_tilers_34 ?_
        refine lv_iload hx hb dX12_tilers_37 (lv_at hl 4 rfl) ?_
        obtain ⟨hin, h⟩ := ck_s h
        refine md_listed hx hb hK hP hin dX12_tilers_39 ?_
        obtain ⟨r_28, y_goes_29, y_sides_30, a_flood_31, a_going_32, a_letter_33, a_lineX_34, a_lineY_35, hr_36, h⟩ := bd8_s h
        refine hv_i hx hb hml hown hw mB_bl (mB_of hN hK hP) (mr_MO hK hP) (c_mo_hasLine l D ct ad hI (a_listed v4.toNatClampNeg) r_28 y_goes_29 y_sides_30 a_flood_31 a_going_32 a_letter_33 a_lineX_34 a_lineY_35 hr_36) g_RX12_308 ⟨rfl, hd_X12_hasLine⟩ (rest := []) hl.1 hS (fun q h => h) dX12_tilers_40 rfl rfl ⟨Nat.le_of_ble_eq_true rfl, Nat.le_of_ble_eq_true rfl⟩ rfl rfl (Nat.le_of_ble_eq_true rfl) ⟨Nat.zero_le _, Nat.zero_le _⟩ (fun H locs hP _ hS => ?_)
        refine lv_if_ne hx hb dX12_tilers_43 (tgt := 49) rfl (fun hc => ?_) (fun hc => ?_)
        · replace h := ifn h hc
          refine lv_aload_n hx hb dX12_tilers_49 rfl (lv_at hl 0 rfl) ?_
          obtain ⟨y_cuts_37, y_flat_38, y_cp_39, y_cA_40, y_cB_41, hr_42, h⟩ := bd5_s h
          refine hv_v hx hb hml hown hw mB_bl (mB_of hN hK hP) (mr_MO hK hP) (c_mo_laysCuttings l D ct ad hI y_cuts_37 y_flat_38 y_cp_39 y_cA_40 y_cB_41 hr_42) g_RX12_311 ⟨rfl, hd_X12_laysCuttings⟩ (rest := []) hl.1 hS (fun q h => h) dX12_tilers_50 rfl rfl ⟨Nat.le_of_ble_eq_true rfl, Nat.le_of_ble_eq_true rfl⟩ rfl rfl (Nat.le_of_ble_eq_true rfl) ⟨Nat.zero_le _, Nat.zero_le _⟩ (fun H locs hP _ hS => ?_)
          refine lv_iload_n hx hb dX12_tilers_53 rfl (lv_at hl 3 rfl) ?_
          refine lv_aload_n hx hb dX12_tilers_54 rfl (lv_at hl 0 rfl) ?_
          refine mg_MO_21 hx hb hw hown hK hP dX12_tilers_55 ?_
          refine lv_if_le hx hb dX12_tilers_58 (tgt := 65) rfl (fun hc => ?_) (fun hc => ?_)
          · replace h := ifp h hc
            refine lv_iconst (v := 0) hx hb dX12_tilers_65 ki_0 ?_
            exact hJ66 _ _ _ v4 y_goes_29 y_sides_30 y_cuts_37 y_flat_38 y_cp_39 y_cA_40 y_cB_41 a_flood_31 a_going_32 a_letter_33 a_lineX_34 a_lineY_35 v3 0 (lv_sub hl [0, 1, 2, 4] rfl) hP hS h
          · replace h := ifn h hc
            refine lv_iconst (v := 1) hx hb dX12_tilers_61 ki_1 ?_
            refine lv_goto hx hb dX12_tilers_62 (tgt := 66) rfl ?_
            exact hJ66 _ _ _ v4 y_goes_29 y_sides_30 y_cuts_37 y_flat_38 y_cp_39 y_cA_40 y_cB_41 a_flood_31 a_going_32 a_letter_33 a_lineX_34 a_lineY_35 v3 1 (lv_sub hl [0, 1, 2, 4] rfl) hP hS h
        · replace h := ifp h hc
          refine lv_goto hx hb dX12_tilers_46 (tgt := 68) rfl ?_
          exact hJ68 _ _ _ v3 v4 y_goes_29 y_sides_30 y_cuts y_flat y_cp y_cA y_cB a_flood_31 a_going_32 a_letter_33 a_lineX_34 a_lineY_35 (lv_sub hl [0, 1, 2, 3, 4] rfl) hP hS h
  refine lv_aload_n hx hb dX12_tilers_0 rfl (lv_at hl 0 rfl) ?_
  refine lv_iload_n hx hb dX12_tilers_1 rfl (lv_at hl 1 rfl) ?_
  refine lv_iload_n hx hb dX12_tilers_2 rfl (lv_at hl 2 rfl) ?_
  obtain ⟨r_43, hr_44, h⟩ := bd1_s h
  refine hv_i hx hb hml hown hw mB_bl (mB_of hN hK hP) (mr_MO hK hP) (c_mo_isList l D ct ad hI v1 v2 r_43 hr_44) g_RX12_236 ⟨rfl, hd_X12_isList⟩ (rest := []) hl.1 hS (fun q h => h) dX12_tilers_3 rfl rfl ⟨Nat.le_of_ble_eq_true rfl, Nat.le_of_ble_eq_true rfl⟩ rfl rfl (Nat.le_of_ble_eq_true rfl) ⟨Nat.zero_le _, Nat.zero_le _⟩ (fun H locs hP _ hS => ?_)
  refine lv_if_ne hx hb dX12_tilers_6 (tgt := 11) rfl (fun hc => ?_) (fun hc => ?_)
  · replace h := ifn h hc
    refine lv_iconst (v := 0) hx hb dX12_tilers_11 ki_0 ?_
    refine lv_istore_n hx hb dX12_tilers_12 rfl hl (Nat.le_of_ble_eq_true rfl) (lv' := [(3, .int 0), (0, .ref (ad 0)), (1, .int v1), (2, .int v2)]) rfl (fun ls hl => ?_)
    refine lv_aload_n hx hb dX12_tilers_13 rfl (lv_at hl 1 rfl) ?_
    refine lv_iload_n hx hb dX12_tilers_14 rfl (lv_at hl 2 rfl) ?_
    refine lv_iload_n hx hb dX12_tilers_15 rfl (lv_at hl 3 rfl) ?_
    obtain ⟨r_45, hr_46, h⟩ := bd1_s h
    refine hv_i hx hb hml hown hw mB_bl (mB_of hN hK hP) (mr_MO hK hP) (c_mo_begin l D ct ad hI v1 v2 r_45 hr_46) g_RX12_244 ⟨rfl, hd_X12_begin⟩ (rest := []) hl.1 hS (fun q h => h) dX12_tilers_16 rfl rfl ⟨Nat.le_of_ble_eq_true rfl, Nat.le_of_ble_eq_true rfl⟩ rfl rfl (Nat.le_of_ble_eq_true rfl) ⟨Nat.zero_le _, Nat.zero_le _⟩ (fun H locs hP _ hS => ?_)
    refine lv_istore hx hb dX12_tilers_19 hl (Nat.le_of_ble_eq_true rfl) (lv' := [(4, .int r_45), (3, .int 0), (0, .ref (ad 0)), (1, .int v1), (2, .int v2)]) rfl (fun ls hl => ?_)
    exact hL21 v1 v2 a_listed a_from FU _ _ _ 0 r_45 y_goes y_sides y_cuts y_flat y_cp y_cA y_cB a_flood a_going a_letter a_lineX a_lineY (lv_sub hl [2, 3, 4, 1, 0] rfl) hP hS h
  · replace h := ifp h hc
    refine lv_iconst (v := (-1)) hx hb dX12_tilers_9 ki_m1 ?_
    simp only [Option.some.injEq, Prod.mk.injEq] at h
    obtain ⟨rfl, rfl, rfl, rfl, rfl, rfl, rfl, rfl, rfl, rfl, rfl, rfl, rfl⟩ := h
    exact rc_i hx hb hr hlocks hS dX12_tilers_10 rfl hP
noncomputable def mo_laysMoves_J160 (k66 : Int32 → Int32 → Int32 → Int32 → Int32 → Option (Int32 × Int32 × Int32 × Int32 × Int32 × Int32 × Int32 × Int32 × Int32 × Int32 × Int32 × Int32 × (Nat → Int32) × (Nat → Int32) × (Nat → Int32) × (Nat → Int32) × (Nat → Int32))) (a_drawer : Nat → Int64) (v2 : Int32) (y_goes : Int32) (y_sides : Int32) (y_cuts : Int32) (y_flat : Int32) (y_cp : Int32) (y_cA : Int32) (y_cB : Int32) (y_1X : Int32) (y_1Y : Int32) (y_2X : Int32) (y_2Y : Int32) (a_flood : Nat → Int32) (a_going : Nat → Int32) (a_letter : Nat → Int32) (a_lineX : Nat → Int32) (a_lineY : Nat → Int32)  : Option (Int32 × Int32 × Int32 × Int32 × Int32 × Int32 × Int32 × Int32 × Int32 × Int32 × Int32 × Int32 × (Nat → Int32) × (Nat → Int32) × (Nat → Int32) × (Nat → Int32) × (Nat → Int32)) :=
  nm (v2 + Int32.ofInt 1) fun v2_1 =>
  k66 v2_1 y_1X y_1Y y_2X y_2Y
noncomputable def mo_laysMoves_J126 (k66 : Int32 → Int32 → Int32 → Int32 → Int32 → Option (Int32 × Int32 × Int32 × Int32 × Int32 × Int32 × Int32 × Int32 × Int32 × Int32 × Int32 × Int32 × (Nat → Int32) × (Nat → Int32) × (Nat → Int32) × (Nat → Int32) × (Nat → Int32))) (a_drawer : Nat → Int64) (v2 : Int32) (v3 : Int32) (y_goes : Int32) (y_sides : Int32) (y_cuts : Int32) (y_flat : Int32) (y_cp : Int32) (y_cA : Int32) (y_cB : Int32) (y_1X : Int32) (y_1Y : Int32) (y_2X : Int32) (y_2Y : Int32) (a_flood : Nat → Int32) (a_going : Nat → Int32) (a_letter : Nat → Int32) (a_lineX : Nat → Int32) (a_lineY : Nat → Int32)  : Option (Int32 × Int32 × Int32 × Int32 × Int32 × Int32 × Int32 × Int32 × Int32 × Int32 × Int32 × Int32 × (Nat → Int32) × (Nat → Int32) × (Nat → Int32) × (Nat → Int32) × (Nat → Int32)) :=
  if v2 < y_cA then (mo_laysMoves_J160 k66 a_drawer v2 y_goes y_sides y_cuts y_flat y_cp y_cA y_cB y_1X y_1Y y_2X y_2Y a_flood a_going a_letter a_lineX a_lineY) else
  bd1 (mo_stepX v3) fun r_2 =>
  nm (y_2X + r_2 : Int32) fun y_2X_4 =>
  bd1 (mo_stepY v3) fun r_5 =>
  nm (y_2Y + r_5 : Int32) fun y_2Y_7 =>
  mo_laysMoves_J160 k66 a_drawer v2 y_goes y_sides y_cuts y_flat y_cp y_cA y_cB y_1X y_1Y y_2X_4 y_2Y_7 a_flood a_going a_letter a_lineX a_lineY
noncomputable def mo_laysMoves_B66 (y_goes : Int32) (y_sides : Int32) (y_cuts : Int32) (y_flat : Int32) (y_cp : Int32) (y_cA : Int32) (y_cB : Int32) (a_drawer : Nat → Int64) (a_flood : Nat → Int32) (a_going : Nat → Int32) (a_letter : Nat → Int32) (a_lineX : Nat → Int32) (a_lineY : Nat → Int32)  (k66 : Int32 → Int32 → Int32 → Int32 → Int32 → Option (Int32 × Int32 × Int32 × Int32 × Int32 × Int32 × Int32 × Int32 × Int32 × Int32 × Int32 × Int32 × (Nat → Int32) × (Nat → Int32) × (Nat → Int32) × (Nat → Int32) × (Nat → Int32))) (v2 : Int32) (y_1X : Int32) (y_1Y : Int32) (y_2X : Int32) (y_2Y : Int32) : Option (Int32 × Int32 × Int32 × Int32 × Int32 × Int32 × Int32 × Int32 × Int32 × Int32 × Int32 × Int32 × (Nat → Int32) × (Nat → Int32) × (Nat → Int32) × (Nat → Int32) × (Nat → Int32)) :=
  dzI 2 <|
  if (y_sides / 2) ≤ v2 then (some (0, y_goes, y_sides, y_cuts, y_flat, y_cp, y_cA, y_cB, y_1X, y_1Y, y_2X, y_2Y, a_flood, a_going, a_letter, a_lineX, a_lineY)) else
  bd1 (mo_letterAt (y_cp + v2) y_sides a_letter) fun r_8 =>
  if (y_cA + y_cB) ≤ v2 then (mo_laysMoves_J126 k66 a_drawer v2 r_8 y_goes y_sides y_cuts y_flat y_cp y_cA y_cB y_1X y_1Y y_2X y_2Y a_flood a_going a_letter a_lineX a_lineY) else
  bd1 (mo_stepX r_8) fun r_10 =>
  nm (y_1X + r_10 : Int32) fun y_1X_12 =>
  bd1 (mo_stepY r_8) fun r_13 =>
  nm (y_1Y + r_13 : Int32) fun y_1Y_15 =>
  mo_laysMoves_J126 k66 a_drawer v2 r_8 y_goes y_sides y_cuts y_flat y_cp y_cA y_cB y_1X_12 y_1Y_15 y_2X y_2Y a_flood a_going a_letter a_lineX a_lineY
noncomputable def mo_laysMoves (v1 : Int32) (y_goes : Int32) (y_sides : Int32) (y_cuts : Int32) (y_flat : Int32) (y_cp : Int32) (y_cA : Int32) (y_cB : Int32) (y_1X : Int32) (y_1Y : Int32) (y_2X : Int32) (y_2Y : Int32) (a_drawer : Nat → Int64) (a_flood : Nat → Int32) (a_going : Nat → Int32) (a_letter : Nat → Int32) (a_lineX : Nat → Int32) (a_lineY : Nat → Int32) : Option (Int32 × Int32 × Int32 × Int32 × Int32 × Int32 × Int32 × Int32 × Int32 × Int32 × Int32 × Int32 × (Nat → Int32) × (Nat → Int32) × (Nat → Int32) × (Nat → Int32) × (Nat → Int32)) :=
  ck v1 8 <|
  if (a_drawer v1.toNatClampNeg) = 0 then (some ((-2), y_goes, y_sides, y_cuts, y_flat, y_cp, y_cA, y_cB, y_1X, y_1Y, y_2X, y_2Y, a_flood, a_going, a_letter, a_lineX, a_lineY)) else
  ck v1 8 <|
  bd8 (mo_hasLine (a_drawer v1.toNatClampNeg) y_goes y_sides a_flood a_going a_letter a_lineX a_lineY) fun r_16 y_goes_17 y_sides_18 a_flood_19 a_going_20 a_letter_21 a_lineX_22 a_lineY_23 =>
  if r_16 = 0 then (some ((-3), y_goes_17, y_sides_18, y_cuts, y_flat, y_cp, y_cA, y_cB, y_1X, y_1Y, y_2X, y_2Y, a_flood_19, a_going_20, a_letter_21, a_lineX_22, a_lineY_23)) else
  bd5 (mo_laysCuttings y_sides_18 y_cuts y_flat y_cp y_cA y_cB a_letter_21) fun y_cuts_25 y_flat_26 y_cp_27 y_cA_28 y_cB_29 =>
  if y_cuts_25 = 0 then (some ((-4), y_goes_17, y_sides_18, y_cuts_25, y_flat_26, y_cp_27, y_cA_28, y_cB_29, y_1X, y_1Y, y_2X, y_2Y, a_flood_19, a_going_20, a_letter_21, a_lineX_22, a_lineY_23)) else
  fl5 (mo_laysMoves_B66 y_goes_17 y_sides_18 y_cuts_25 y_flat_26 y_cp_27 y_cA_28 y_cB_29 a_drawer a_flood_19 a_going_20 a_letter_21 a_lineX_22 a_lineY_23) FU 0 0 0 0 0
set_option maxHeartbeats 4000000 in
set_option maxRecDepth 100000 in
theorem c_mo_laysMoves (l : Launch) (D : va_G) (ct : Nat → ClassId) (ad : Nat → Nat) (hI : mI ad) {y_km y_tp y_goes y_kin y_qd y_sides y_cuts y_flat y_cp y_cA y_cB y_1X y_1Y y_2X y_2Y y_tm y_cells : Int32} {a_mtape a_flood a_going a_field a_from a_mcrowds a_steps a_queue a_letter a_lineX a_lineY a_triedAt a_cellAt a_besideIn a_apart : Nat → Int32} {a_drawer a_mkept a_listed a_mkin a_tried a_takenAt a_waysOf : Nat → Int64} (v1 : Int32) (r : Int32) (z_y_goes : Int32) (z_y_sides : Int32) (z_y_cuts : Int32) (z_y_flat : Int32) (z_y_cp : Int32) (z_y_cA : Int32) (z_y_cB : Int32) (z_y_1X : Int32) (z_y_1Y : Int32) (z_y_2X : Int32) (z_y_2Y : Int32) (z_a_flood : Nat → Int32) (z_a_going : Nat → Int32) (z_a_letter : Nat → Int32) (z_a_lineX : Nat → Int32) (z_a_lineY : Nat → Int32) (h : mo_laysMoves v1 y_goes y_sides y_cuts y_flat y_cp y_cA y_cB y_1X y_1Y y_2X y_2Y a_drawer a_flood a_going a_letter a_lineX a_lineY = some (r, z_y_goes, z_y_sides, z_y_cuts, z_y_flat, z_y_cp, z_y_cA, z_y_cB, z_y_1X, z_y_1Y, z_y_2X, z_y_2Y, z_a_flood, z_a_going, z_a_letter, z_a_lineX, z_a_lineY)) : Met l yX12_laysMoves (wm yX12_laysMoves cX12_laysMoves 4 (some .int)) (rmm 5 123) (va_Pc [.ref (ad 0), .int v1] (mB D ct ad y_km y_tp y_goes y_kin y_qd y_sides y_cuts y_flat y_cp y_cA y_cB y_1X y_1Y y_2X y_2Y y_tm y_cells a_mtape a_flood a_going a_field a_from a_mcrowds a_steps a_queue a_letter a_lineX a_lineY a_triedAt a_cellAt a_besideIn a_apart a_drawer a_mkept a_listed a_mkin a_tried a_takenAt a_waysOf)) (va_Qi (fun z (_ : Unit) => z = r) (fun _ t => mP D ct ad y_km y_tp z_y_goes y_kin y_qd z_y_sides z_y_cuts z_y_flat z_y_cp z_y_cA z_y_cB z_y_1X z_y_1Y z_y_2X z_y_2Y y_tm y_cells a_mtape z_a_flood z_a_going a_field a_from a_mcrowds a_steps a_queue z_a_letter z_a_lineX z_a_lineY a_triedAt a_cellAt a_besideIn a_apart a_drawer a_mkept a_listed a_mkin a_tried a_takenAt a_waysOf t.heap) (mA ad)) 0 0 (mA ad) := by
  refine met_s (y := yX12_laysMoves) (rm := rmm 5 123) (by decide) (Nat.le_of_ble_eq_true rfl) ?_
  intro p e s m below meth c hx hb hr hw hown hlocks _ hml hB ls hl
  obtain ⟨hN, hK, hP⟩ := hB
  replace hl : lv_has ls 4 [(0, .ref (ad 0)), (1, .int v1)] := hl
  have hS : va_S (mA ad) s.heap s.heap [] := va_S.rf
  generalize (([.ref (ad 0), .int v1] : List Value).toArray) = av at hw ⊢
  rw [mo_laysMoves] at h
  have hL66 : ∀ (y_goes : Int32), ∀ (y_sides : Int32), ∀ (y_cuts : Int32), ∀ (y_flat : Int32), ∀ (y_cp : Int32), ∀ (y_cA : Int32), ∀ (y_cB : Int32), ∀ (a_drawer : Nat → Int64), ∀ (a_flood : Nat → Int32), ∀ (a_going : Nat → Int32), ∀ (a_letter : Nat → Int32), ∀ (a_lineX : Nat → Int32), ∀ (a_lineY : Nat → Int32), ∀ (n66 : Nat) (H : Heap) (locs : List Loc) (ls : Array Slot) (v2 : Int32) (y_1X : Int32) (y_1Y : Int32) (y_2X : Int32) (y_2Y : Int32), lv_has ls 4 [(0, .ref (ad 0)), (2, .int v2)] → mP D ct ad y_km y_tp y_goes y_kin y_qd y_sides y_cuts y_flat y_cp y_cA y_cB y_1X y_1Y y_2X y_2Y y_tm y_cells a_mtape a_flood a_going a_field a_from a_mcrowds a_steps a_queue a_letter a_lineX a_lineY a_triedAt a_cellAt a_besideIn a_apart a_drawer a_mkept a_listed a_mkin a_tried a_takenAt a_waysOf H → va_S (mA ad) s.heap H locs → fl5 (mo_laysMoves_B66 y_goes y_sides y_cuts y_flat y_cp y_cA y_cB a_drawer a_flood a_going a_letter a_lineX a_lineY) n66 v2 y_1X y_1Y y_2X y_2Y = some (r, z_y_goes, z_y_sides, z_y_cuts, z_y_flat, z_y_cp, z_y_cA, z_y_cB, z_y_1X, z_y_1Y, z_y_2X, z_y_2Y, z_a_flood, z_a_going, z_a_letter, z_a_lineX, z_a_lineY) → W p l e (rmm 5 123) s m av below meth c H locs 0 0 (MQ below (va_Qi (fun z (_ : Unit) => z = r) (fun _ t => mP D ct ad y_km y_tp z_y_goes y_kin y_qd z_y_sides z_y_cuts z_y_flat z_y_cp z_y_cA z_y_cB z_y_1X z_y_1Y z_y_2X z_y_2Y y_tm y_cells a_mtape z_a_flood z_a_going a_field a_from a_mcrowds a_steps a_queue z_a_letter z_a_lineX z_a_lineY a_triedAt a_cellAt a_besideIn a_apart a_drawer a_mkept a_listed a_mkin a_tried a_takenAt a_waysOf t.heap) (mA ad)) av s 0 0 (mA ad)) (F0 m 66 ls []) := by
    intro y_goes y_sides y_cuts y_flat y_cp y_cA y_cB a_drawer a_flood a_going a_letter a_lineX a_lineY n66
    induction n66 with
    | zero => intro H locs ls v2 y_1X y_1Y y_2X y_2Y hl hP hS h; cases h
    | succ n66 ih66 =>
      intro H locs ls v2 y_1X y_1Y y_2X y_2Y hl hP hS h
      replace h : mo_laysMoves_B66 y_goes y_sides y_cuts y_flat y_cp y_cA y_cB a_drawer a_flood a_going a_letter a_lineX a_lineY (fl5 (mo_laysMoves_B66 y_goes y_sides y_cuts y_flat y_cp y_cA y_cB a_drawer a_flood a_going a_letter a_lineX a_lineY) n66) v2 y_1X y_1Y y_2X y_2Y = some (r, z_y_goes, z_y_sides, z_y_cuts, z_y_flat, z_y_cp, z_y_cA, z_y_cB, z_y_1X, z_y_1Y, z_y_2X, z_y_2Y, z_a_flood, z_a_going, z_a_letter, z_a_lineX, z_a_lineY) := h
      generalize fl5 (mo_laysMoves_B66 y_goes y_sides y_cuts y_flat y_cp y_cA y_cB a_drawer a_flood a_going a_letter a_lineX a_lineY) n66 = k66 at h ih66
      have hJ160 : ∀ (H : Heap) (locs : List Loc) (ls : Array Slot) (v2 : Int32) (y_1X : Int32) (y_1Y : Int32) (y_2X : Int32) (y_2Y : Int32) , lv_has ls 4 [(0, .ref (ad 0)), (2, .int v2)] → mP D ct ad y_km y_tp y_goes y_kin y_qd y_sides y_cuts y_flat y_cp y_cA y_cB y_1X y_1Y y_2X y_2Y y_tm y_cells a_mtape a_flood a_going a_field a_from a_mcrowds a_steps a_queue a_letter a_lineX a_lineY a_triedAt a_cellAt a_besideIn a_apart a_drawer a_mkept a_listed a_mkin a_tried a_takenAt a_waysOf H → va_S (mA ad) s.heap H locs → mo_laysMoves_J160 k66 a_drawer v2 y_goes y_sides y_cuts y_flat y_cp y_cA y_cB y_1X y_1Y y_2X y_2Y a_flood a_going a_letter a_lineX a_lineY = some (r, z_y_goes, z_y_sides, z_y_cuts, z_y_flat, z_y_cp, z_y_cA, z_y_cB, z_y_1X, z_y_1Y, z_y_2X, z_y_2Y, z_a_flood, z_a_going, z_a_letter, z_a_lineX, z_a_lineY) → W p l e (rmm 5 123) s m av below meth c H locs 0 0 (MQ below (va_Qi (fun z (_ : Unit) => z = r) (fun _ t => mP D ct ad y_km y_tp z_y_goes y_kin y_qd z_y_sides z_y_cuts z_y_flat z_y_cp z_y_cA z_y_cB z_y_1X z_y_1Y z_y_2X z_y_2Y y_tm y_cells a_mtape z_a_flood z_a_going a_field a_from a_mcrowds a_steps a_queue z_a_letter z_a_lineX z_a_lineY a_triedAt a_cellAt a_besideIn a_apart a_drawer a_mkept a_listed a_mkin a_tried a_takenAt a_waysOf t.heap) (mA ad)) av s 0 0 (mA ad)) (F0 m 160 ls []) := by
        intro H locs ls v2 y_1X y_1Y y_2X y_2Y  hl hP hS h
        rw [mo_laysMoves_J160] at h
        obtain ⟨v2_31, ev2_31, h⟩ := nm_s h
        refine lv_iinc hx hb dX12_laysMoves_160 hl (k := 1) rfl ev2_31.symm (Nat.le_of_ble_eq_true rfl) (lv' := [(2, .int v2_31), (0, .ref (ad 0))]) rfl (fun ls hl => ?_)
        refine lv_goto hx hb dX12_laysMoves_163 (tgt := 66) rfl ?_
        exact ih66 _ _ _ v2_31 y_1X y_1Y y_2X y_2Y (lv_sub hl [1, 0] rfl) hP hS h
      have hJ126 : ∀ (H : Heap) (locs : List Loc) (ls : Array Slot) (v2 : Int32) (v3 : Int32) (y_1X : Int32) (y_1Y : Int32) (y_2X : Int32) (y_2Y : Int32) , lv_has ls 4 [(0, .ref (ad 0)), (2, .int v2), (3, .int v3)] → mP D ct ad y_km y_tp y_goes y_kin y_qd y_sides y_cuts y_flat y_cp y_cA y_cB y_1X y_1Y y_2X y_2Y y_tm y_cells a_mtape a_flood a_going a_field a_from a_mcrowds a_steps a_queue a_letter a_lineX a_lineY a_triedAt a_cellAt a_besideIn a_apart a_drawer a_mkept a_listed a_mkin a_tried a_takenAt a_waysOf H → va_S (mA ad) s.heap H locs → mo_laysMoves_J126 k66 a_drawer v2 v3 y_goes y_sides y_cuts y_flat y_cp y_cA y_cB y_1X y_1Y y_2X y_2Y a_flood a_going a_letter a_lineX a_lineY = some (r, z_y_goes, z_y_sides, z_y_cuts, z_y_flat, z_y_cp, z_y_cA, z_y_cB, z_y_1X, z_y_1Y, z_y_2X, z_y_2Y, z_a_flood, z_a_going, z_a_letter, z_a_lineX, z_a_lineY) → W p l e (rmm 5 123) s m av below meth c H locs 0 0 (MQ below (va_Qi (fun z (_ : Unit) => z = r) (fun _ t => mP D ct ad y_km y_tp z_y_goes y_kin y_qd z_y_sides z_y_cuts z_y_flat z_y_cp z_y_cA z_y_cB z_y_1X z_y_1Y z_y_2X z_y_2Y y_tm y_cells a_mtape z_a_flood z_a_going a_field a_from a_mcrowds a_steps a_queue z_a_letter z_a_lineX z_a_lineY a_triedAt a_cellAt a_besideIn a_apart a_drawer a_mkept a_listed a_mkin a_tried a_takenAt a_waysOf t.heap) (mA ad)) av s 0 0 (mA ad)) (F0 m 126 ls []) := by
        intro H locs ls v2 v3 y_1X y_1Y y_2X y_2Y  hl hP hS h
        rw [mo_laysMoves_J126] at h
        refine lv_iload_n hx hb dX12_laysMoves_126 rfl (lv_at hl 1 rfl) ?_
        refine lv_aload_n hx hb dX12_laysMoves_127 rfl (lv_at hl 0 rfl) ?_
        refine mg_MO_24 hx hb hw hown hK hP dX12_laysMoves_128 ?_
        refine lv_icmp_lt hx hb dX12_laysMoves_131 (tgt := 160) rfl (fun hc => ?_) (fun hc => ?_)
        · replace h := ifp h hc
          exact hJ160 _ _ _ v2 y_1X y_1Y y_2X y_2Y (lv_sub hl [0, 1] rfl) hP hS h
        · replace h := ifn h hc
          refine lv_aload_n hx hb dX12_laysMoves_134 rfl (lv_at hl 0 rfl) ?_
          refine lv_aload_n hx hb dX12_laysMoves_135 rfl (lv_at hl 0 rfl) ?_
          refine mg_MO_28 hx hb hw hown hK hP dX12_laysMoves_136 ?_
          refine lv_iload_n hx hb dX12_laysMoves_139 rfl (lv_at hl 2 rfl) ?_
          obtain ⟨r_32, hr_33, h⟩ := bd1_s h
          refine sc_i hx hb hml hown hw hN (c_mo_stepX l v3 r_32 hr_33) g_RX12_280 hd_X12_stepX (rest := [.int y_2X, .ref (ad 0)]) hl.1 hS dX12_laysMoves_140 rfl rfl ⟨Nat.le_of_ble_eq_true rfl, Nat.le_of_ble_eq_true rfl⟩ rfl rfl (Nat.le_of_ble_eq_true rfl) ⟨Nat.zero_le _, Nat.zero_le _⟩ (fun H locs hk hS => ?_)
          have hP := mP_kept hP hk
          refine lv_iadd hx hb dX12_laysMoves_143 ?_
          obtain ⟨y_2X_34, ey_2X_34, h⟩ := nm_s h
          refine nmI ey_2X_34 ?_
          refine mp_MO_28 hx hb hw hown hK hP hI hS dX12_laysMoves_144 (fun H locs hP hS => ?_)
          refine lv_aload_n hx hb dX12_laysMoves_147 rfl (lv_at hl 0 rfl) ?_
          refine lv_aload_n hx hb dX12_laysMoves_148 rfl (lv_at hl 0 rfl) ?_
          refine mg_MO_29 hx hb hw hown hK hP dX12_laysMoves_149 ?_
          refine lv_iload_n hx hb dX12_laysMoves_152 rfl (lv_at hl 2 rfl) ?_
          obtain ⟨r_35, hr_36, h⟩ := bd1_s h
          refine sc_i hx hb hml hown hw hN (c_mo_stepY l v3 r_35 hr_36) g_RX12_284 hd_X12_stepY (rest := [.int y_2Y, .ref (ad 0)]) hl.1 hS dX12_laysMoves_153 rfl rfl ⟨Nat.le_of_ble_eq_true rfl, Nat.le_of_ble_eq_true rfl⟩ rfl rfl (Nat.le_of_ble_eq_true rfl) ⟨Nat.zero_le _, Nat.zero_le _⟩ (fun H locs hk hS => ?_)
          have hP := mP_kept hP hk
          refine lv_iadd hx hb dX12_laysMoves_156 ?_
          obtain ⟨y_2Y_37, ey_2Y_37, h⟩ := nm_s h
          refine nmI ey_2Y_37 ?_
          refine mp_MO_29 hx hb hw hown hK hP hI hS dX12_laysMoves_157 (fun H locs hP hS => ?_)
          exact hJ160 _ _ _ v2 y_1X y_1Y y_2X_34 y_2Y_37 (lv_sub hl [0, 1] rfl) hP hS h
      rw [mo_laysMoves_B66] at h
      refine lv_iload_n hx hb dX12_laysMoves_66 rfl (lv_at hl 1 rfl) ?_
      refine lv_aload_n hx hb dX12_laysMoves_67 rfl (lv_at hl 0 rfl) ?_
      refine mg_MO_20 hx hb hw hown hK hP dX12_laysMoves_68 ?_
      refine lv_iconst (v := 2) hx hb dX12_laysMoves_71 ki_2 ?_
      obtain ⟨hne, h⟩ := dzI_s h
      refine lv_idiv hx hb dX12_laysMoves_72 hne ?_
      refine lv_icmp_ge hx hb dX12_laysMoves_73 (tgt := 166) rfl (fun hc => ?_) (fun hc => ?_)
      · replace h := ifp h hc
        refine lv_iconst (v := 0) hx hb dX12_laysMoves_166 ki_0 ?_
        simp only [Option.some.injEq, Prod.mk.injEq] at h
        obtain ⟨rfl, rfl, rfl, rfl, rfl, rfl, rfl, rfl, rfl, rfl, rfl, rfl, rfl, rfl, rfl, rfl, rfl⟩ := h
        exact rc_i hx hb hr hlocks hS dX12_laysMoves_167 rfl hP
      · replace h := ifn h hc
        refine lv_aload_n hx hb dX12_laysMoves_76 rfl (lv_at hl 0 rfl) ?_
        refine lv_aload_n hx hb dX12_laysMoves_77 rfl (lv_at hl 0 rfl) ?_
        refine mg_MO_23 hx hb hw hown hK hP dX12_laysMoves_78 ?_
        refine lv_iload_n hx hb dX12_laysMoves_81 rfl (lv_at hl 1 rfl) ?_
        refine lv_iadd hx hb dX12_laysMoves_82 ?_
        obtain ⟨r_38, hr_39, h⟩ := bd1_s h
        refine hv_i hx hb hml hown hw mB_bl (mB_of hN hK hP) (mr_MO hK hP) (c_mo_letterAt l D ct ad hI (y_cp + v2) r_38 hr_39) g_RX12_287 ⟨rfl, hd_X12_letterAt⟩ (rest := []) hl.1 hS (fun q h => h) dX12_laysMoves_83 rfl rfl ⟨Nat.le_of_ble_eq_true rfl, Nat.le_of_ble_eq_true rfl⟩ rfl rfl (Nat.le_of_ble_eq_true rfl) ⟨Nat.zero_le _, Nat.zero_le _⟩ (fun H locs hP _ hS => ?_)
        refine lv_istore_n hx hb dX12_laysMoves_86 rfl hl (Nat.le_of_ble_eq_true rfl) (lv' := [(3, .int r_38), (0, .ref (ad 0)), (2, .int v2)]) rfl (fun ls hl => ?_)
        refine lv_iload_n hx hb dX12_laysMoves_87 rfl (lv_at hl 2 rfl) ?_
        refine lv_aload_n hx hb dX12_laysMoves_88 rfl (lv_at hl 1 rfl) ?_
        refine mg_MO_24 hx hb hw hown hK hP dX12_laysMoves_89 ?_
        refine lv_aload_n hx hb dX12_laysMoves_92 rfl (lv_at hl 1 rfl) ?_
        refine mg_MO_25 hx hb hw hown hK hP dX12_laysMoves_93 ?_
        refine lv_iadd hx hb dX12_laysMoves_96 ?_
        refine lv_icmp_ge hx hb dX12_laysMoves_97 (tgt := 126) rfl (fun hc => ?_) (fun hc => ?_)
        · replace h := ifp h hc
          exact hJ126 _ _ _ v2 r_38 y_1X y_1Y y_2X y_2Y (lv_sub hl [1, 2, 0] rfl) hP hS h
        · replace h := ifn h hc
          refine lv_aload_n hx hb dX12_laysMoves_100 rfl (lv_at hl 1 rfl) ?_
          refine lv_aload_n hx hb dX12_laysMoves_101 rfl (lv_at hl 1 rfl) ?_
          refine mg_MO_26 hx hb hw hown hK hP dX12_laysMoves_102 ?_
          refine lv_iload_n hx hb dX12_laysMoves_105 rfl (lv_at hl 0 rfl) ?_
          obtain ⟨r_40, hr_41, h⟩ := bd1_s h
          refine sc_i hx hb hml hown hw hN (c_mo_stepX l r_38 r_40 hr_41) g_RX12_280 hd_X12_stepX (rest := [.int y_1X, .ref (ad 0)]) hl.1 hS dX12_laysMoves_106 rfl rfl ⟨Nat.le_of_ble_eq_true rfl, Nat.le_of_ble_eq_true rfl⟩ rfl rfl (Nat.le_of_ble_eq_true rfl) ⟨Nat.zero_le _, Nat.zero_le _⟩ (fun H locs hk hS => ?_)
          have hP := mP_kept hP hk
          refine lv_iadd hx hb dX12_laysMoves_109 ?_
          obtain ⟨y_1X_42, ey_1X_42, h⟩ := nm_s h
          refine nmI ey_1X_42 ?_
          refine mp_MO_26 hx hb hw hown hK hP hI hS dX12_laysMoves_110 (fun H locs hP hS => ?_)
          refine lv_aload_n hx hb dX12_laysMoves_113 rfl (lv_at hl 1 rfl) ?_
          refine lv_aload_n hx hb dX12_laysMoves_114 rfl (lv_at hl 1 rfl) ?_
          refine mg_MO_27 hx hb hw hown hK hP dX12_laysMoves_115 ?_
          refine lv_iload_n hx hb dX12_laysMoves_118 rfl (lv_at hl 0 rfl) ?_
          obtain ⟨r_43, hr_44, h⟩ := bd1_s h
          refine sc_i hx hb hml hown hw hN (c_mo_stepY l r_38 r_43 hr_44) g_RX12_284 hd_X12_stepY (rest := [.int y_1Y, .ref (ad 0)]) hl.1 hS dX12_laysMoves_119 rfl rfl ⟨Nat.le_of_ble_eq_true rfl, Nat.le_of_ble_eq_true rfl⟩ rfl rfl (Nat.le_of_ble_eq_true rfl) ⟨Nat.zero_le _, Nat.zero_le _⟩ (fun H locs hk hS => ?_)
          have hP := mP_kept hP hk
          refine lv_iadd hx hb dX12_laysMoves_122 ?_
          obtain ⟨y_1Y_45, ey_1Y_45, h⟩ := nm_s h
          refine nmI ey_1Y_45 ?_
          refine mp_MO_27 hx hb hw hown hK hP hI hS dX12_laysMoves_123 (fun H locs hP hS => ?_)
          exact hJ126 _ _ _ v2 r_38 y_1X_42 y_1Y_45 y_2X y_2Y (lv_sub hl [1, 2, 0] rfl) hP hS h
  refine lv_aload_n hx hb dX12_laysMoves_0 rfl (lv_at hl 0 rfl) ?_
  refine mg_MO_0 hx hb hw hown hK hP dX12_laysMoves_1 ?_
  refine lv_iload_n hx hb dX12_laysMoves_4 rfl (lv_at hl 1 rfl) ?_
  obtain ⟨hin, h⟩ := ck_s h
  refine md_drawer hx hb hK hP hin dX12_laysMoves_5 ?_
  refine lv_lconst (v := 0) hx hb dX12_laysMoves_6 kl_0 ?_
  refine W.lcmp hx hb dX12_laysMoves_7 ?_
  refine lv_if_ne hx hb dX12_laysMoves_8 (tgt := 14) rfl (fun hc => ?_) (fun hc => ?_)
  · replace h := ifn h (fun q => hc ((lg_cmp_eq _ _).mpr q))
    refine lv_aload_n hx hb dX12_laysMoves_14 rfl (lv_at hl 0 rfl) ?_
    refine lv_aload_n hx hb dX12_laysMoves_15 rfl (lv_at hl 0 rfl) ?_
    refine mg_MO_0 hx hb hw hown hK hP dX12_laysMoves_16 ?_
    refine lv_iload_n hx hb dX12_laysMoves_19 rfl (lv_at hl 1 rfl) ?_
    obtain ⟨hin, h⟩ := ck_s h
    refine md_drawer hx hb hK hP hin dX12_laysMoves_20 ?_
    obtain ⟨r_46, y_goes_47, y_sides_48, a_flood_49, a_going_50, a_letter_51, a_lineX_52, a_lineY_53, hr_54, h⟩ := bd8_s h
    refine hv_i hx hb hml hown hw mB_bl (mB_of hN hK hP) (mr_MO hK hP) (c_mo_hasLine l D ct ad hI (a_drawer v1.toNatClampNeg) r_46 y_goes_47 y_sides_48 a_flood_49 a_going_50 a_letter_51 a_lineX_52 a_lineY_53 hr_54) g_RX12_308 ⟨rfl, hd_X12_hasLine⟩ (rest := []) hl.1 hS (fun q h => h) dX12_laysMoves_21 rfl rfl ⟨Nat.le_of_ble_eq_true rfl, Nat.le_of_ble_eq_true rfl⟩ rfl rfl (Nat.le_of_ble_eq_true rfl) ⟨Nat.zero_le _, Nat.zero_le _⟩ (fun H locs hP _ hS => ?_)
    refine lv_if_ne hx hb dX12_laysMoves_24 (tgt := 30) rfl (fun hc => ?_) (fun hc => ?_)
    · replace h := ifn h hc
      refine lv_aload_n hx hb dX12_laysMoves_30 rfl (lv_at hl 0 rfl) ?_
      obtain ⟨y_cuts_55, y_flat_56, y_cp_57, y_cA_58, y_cB_59, hr_60, h⟩ := bd5_s h
      refine hv_v hx hb hml hown hw mB_bl (mB_of hN hK hP) (mr_MO hK hP) (c_mo_laysCuttings l D ct ad hI y_cuts_55 y_flat_56 y_cp_57 y_cA_58 y_cB_59 hr_60) g_RX12_311 ⟨rfl, hd_X12_laysCuttings⟩ (rest := []) hl.1 hS (fun q h => h) dX12_laysMoves_31 rfl rfl ⟨Nat.le_of_ble_eq_true rfl, Nat.le_of_ble_eq_true rfl⟩ rfl rfl (Nat.le_of_ble_eq_true rfl) ⟨Nat.zero_le _, Nat.zero_le _⟩ (fun H locs hP _ hS => ?_)
      refine lv_aload_n hx hb dX12_laysMoves_34 rfl (lv_at hl 0 rfl) ?_
      refine mg_MO_21 hx hb hw hown hK hP dX12_laysMoves_35 ?_
      refine lv_if_ne hx hb dX12_laysMoves_38 (tgt := 44) rfl (fun hc => ?_) (fun hc => ?_)
      · replace h := ifn h hc
        refine lv_aload_n hx hb dX12_laysMoves_44 rfl (lv_at hl 0 rfl) ?_
        refine lv_iconst (v := 0) hx hb dX12_laysMoves_45 ki_0 ?_
        refine mp_MO_26 hx hb hw hown hK hP hI hS dX12_laysMoves_46 (fun H locs hP hS => ?_)
        refine lv_aload_n hx hb dX12_laysMoves_49 rfl (lv_at hl 0 rfl) ?_
        refine lv_iconst (v := 0) hx hb dX12_laysMoves_50 ki_0 ?_
        refine mp_MO_27 hx hb hw hown hK hP hI hS dX12_laysMoves_51 (fun H locs hP hS => ?_)
        refine lv_aload_n hx hb dX12_laysMoves_54 rfl (lv_at hl 0 rfl) ?_
        refine lv_iconst (v := 0) hx hb dX12_laysMoves_55 ki_0 ?_
        refine mp_MO_28 hx hb hw hown hK hP hI hS dX12_laysMoves_56 (fun H locs hP hS => ?_)
        refine lv_aload_n hx hb dX12_laysMoves_59 rfl (lv_at hl 0 rfl) ?_
        refine lv_iconst (v := 0) hx hb dX12_laysMoves_60 ki_0 ?_
        refine mp_MO_29 hx hb hw hown hK hP hI hS dX12_laysMoves_61 (fun H locs hP hS => ?_)
        refine lv_iconst (v := 0) hx hb dX12_laysMoves_64 ki_0 ?_
        refine lv_istore_n hx hb dX12_laysMoves_65 rfl hl (Nat.le_of_ble_eq_true rfl) (lv' := [(2, .int 0), (0, .ref (ad 0)), (1, .int v1)]) rfl (fun ls hl => ?_)
        exact hL66 y_goes_47 y_sides_48 y_cuts_55 y_flat_56 y_cp_57 y_cA_58 y_cB_59 a_drawer a_flood_49 a_going_50 a_letter_51 a_lineX_52 a_lineY_53 FU _ _ _ 0 0 0 0 0 (lv_sub hl [1, 0] rfl) hP hS h
      · replace h := ifp h hc
        refine lv_bipush (v := (-4)) hx hb dX12_laysMoves_41 kb_m4 ?_
        simp only [Option.some.injEq, Prod.mk.injEq] at h
        obtain ⟨rfl, rfl, rfl, rfl, rfl, rfl, rfl, rfl, rfl, rfl, rfl, rfl, rfl, rfl, rfl, rfl, rfl⟩ := h
        exact rc_i hx hb hr hlocks hS dX12_laysMoves_43 rfl hP
    · replace h := ifp h hc
      refine lv_bipush (v := (-3)) hx hb dX12_laysMoves_27 kb_m3 ?_
      simp only [Option.some.injEq, Prod.mk.injEq] at h
      obtain ⟨rfl, rfl, rfl, rfl, rfl, rfl, rfl, rfl, rfl, rfl, rfl, rfl, rfl, rfl, rfl, rfl, rfl⟩ := h
      exact rc_i hx hb hr hlocks hS dX12_laysMoves_29 rfl hP
  · replace h := ifp h ((lg_cmp_eq _ _).mp hc)
    refine lv_bipush (v := (-2)) hx hb dX12_laysMoves_11 kb_m2 ?_
    simp only [Option.some.injEq, Prod.mk.injEq] at h
    obtain ⟨rfl, rfl, rfl, rfl, rfl, rfl, rfl, rfl, rfl, rfl, rfl, rfl, rfl, rfl, rfl, rfl, rfl⟩ := h
    exact rc_i hx hb hr hlocks hS dX12_laysMoves_13 rfl hP
noncomputable def mo_area (y_1X : Int32) (y_1Y : Int32) (y_2X : Int32) (y_2Y : Int32) : Option (Int32) :=
  some ((y_1X * y_2Y) - (y_1Y * y_2X))
set_option maxHeartbeats 4000000 in
set_option maxRecDepth 100000 in
theorem c_mo_area (l : Launch) (D : va_G) (ct : Nat → ClassId) (ad : Nat → Nat) (hI : mI ad) {y_km y_tp y_goes y_kin y_qd y_sides y_cuts y_flat y_cp y_cA y_cB y_1X y_1Y y_2X y_2Y y_tm y_cells : Int32} {a_mtape a_flood a_going a_field a_from a_mcrowds a_steps a_queue a_letter a_lineX a_lineY a_triedAt a_cellAt a_besideIn a_apart : Nat → Int32} {a_drawer a_mkept a_listed a_mkin a_tried a_takenAt a_waysOf : Nat → Int64}  (r : Int32)  (h : mo_area y_1X y_1Y y_2X y_2Y = some (r)) : Met l yX12_area (wm yX12_area cX12_area 1 (some .int)) (rmm 0 0) (va_Pc [.ref (ad 0)] (mB D ct ad y_km y_tp y_goes y_kin y_qd y_sides y_cuts y_flat y_cp y_cA y_cB y_1X y_1Y y_2X y_2Y y_tm y_cells a_mtape a_flood a_going a_field a_from a_mcrowds a_steps a_queue a_letter a_lineX a_lineY a_triedAt a_cellAt a_besideIn a_apart a_drawer a_mkept a_listed a_mkin a_tried a_takenAt a_waysOf)) (va_Qi (fun z (_ : Unit) => z = r) (fun _ t => mP D ct ad y_km y_tp y_goes y_kin y_qd y_sides y_cuts y_flat y_cp y_cA y_cB y_1X y_1Y y_2X y_2Y y_tm y_cells a_mtape a_flood a_going a_field a_from a_mcrowds a_steps a_queue a_letter a_lineX a_lineY a_triedAt a_cellAt a_besideIn a_apart a_drawer a_mkept a_listed a_mkin a_tried a_takenAt a_waysOf t.heap) (mA ad)) 0 0 (mA ad) := by
  refine met_s (y := yX12_area) (rm := rmm 0 0) (by decide) (Nat.le_of_ble_eq_true rfl) ?_
  intro p e s m below meth c hx hb hr hw hown hlocks _ hml hB ls hl
  obtain ⟨hN, hK, hP⟩ := hB
  replace hl : lv_has ls 1 [(0, .ref (ad 0))] := hl
  have hS : va_S (mA ad) s.heap s.heap [] := va_S.rf
  generalize (([.ref (ad 0)] : List Value).toArray) = av at hw ⊢
  rw [mo_area] at h
  refine lv_aload_n hx hb dX12_area_0 rfl (lv_at hl 0 rfl) ?_
  refine mg_MO_26 hx hb hw hown hK hP dX12_area_1 ?_
  refine lv_aload_n hx hb dX12_area_4 rfl (lv_at hl 0 rfl) ?_
  refine mg_MO_29 hx hb hw hown hK hP dX12_area_5 ?_
  refine lv_imul hx hb dX12_area_8 ?_
  refine lv_aload_n hx hb dX12_area_9 rfl (lv_at hl 0 rfl) ?_
  refine mg_MO_27 hx hb hw hown hK hP dX12_area_10 ?_
  refine lv_aload_n hx hb dX12_area_13 rfl (lv_at hl 0 rfl) ?_
  refine mg_MO_28 hx hb hw hown hK hP dX12_area_14 ?_
  refine lv_imul hx hb dX12_area_17 ?_
  refine lv_isub hx hb dX12_area_18 ?_
  replace h := Option.some.inj h
  subst h
  exact rc_i hx hb hr hlocks hS dX12_area_19 rfl hP
noncomputable def mo_vector (v1 : Int32) (v2 : Int32) (y_goes : Int32) (y_sides : Int32) (y_cuts : Int32) (y_flat : Int32) (y_cp : Int32) (y_cA : Int32) (y_cB : Int32) (y_1X : Int32) (y_1Y : Int32) (y_2X : Int32) (y_2Y : Int32) (a_drawer : Nat → Int64) (a_flood : Nat → Int32) (a_going : Nat → Int32) (a_letter : Nat → Int32) (a_lineX : Nat → Int32) (a_lineY : Nat → Int32) : Option (Int32 × Int32 × Int32 × Int32 × Int32 × Int32 × Int32 × Int32 × Int32 × Int32 × Int32 × Int32 × (Nat → Int32) × (Nat → Int32) × (Nat → Int32) × (Nat → Int32) × (Nat → Int32)) :=
  bd1 (mo_isDrawer v1) fun r_1 =>
  if r_1 = 0 then (some ((-1), y_goes, y_sides, y_cuts, y_flat, y_cp, y_cA, y_cB, y_1X, y_1Y, y_2X, y_2Y, a_flood, a_going, a_letter, a_lineX, a_lineY)) else
  bd1 (mo_in v2 0 4) fun r_3 =>
  if r_3 = 0 then (some ((-1), y_goes, y_sides, y_cuts, y_flat, y_cp, y_cA, y_cB, y_1X, y_1Y, y_2X, y_2Y, a_flood, a_going, a_letter, a_lineX, a_lineY)) else
  bd17 (mo_laysMoves v1 y_goes y_sides y_cuts y_flat y_cp y_cA y_cB y_1X y_1Y y_2X y_2Y a_drawer a_flood a_going a_letter a_lineX a_lineY) fun r_5 y_goes_6 y_sides_7 y_cuts_8 y_flat_9 y_cp_10 y_cA_11 y_cB_12 y_1X_13 y_1Y_14 y_2X_15 y_2Y_16 a_flood_17 a_going_18 a_letter_19 a_lineX_20 a_lineY_21 =>
  if 0 ≤ r_5 then (if v2 = 0 then (some (y_1X_13 + 10, y_goes_6, y_sides_7, y_cuts_8, y_flat_9, y_cp_10, y_cA_11, y_cB_12, y_1X_13, y_1Y_14, y_2X_15, y_2Y_16, a_flood_17, a_going_18, a_letter_19, a_lineX_20, a_lineY_21)) else
  if v2 = 1 then (some (y_1Y_14 + 10, y_goes_6, y_sides_7, y_cuts_8, y_flat_9, y_cp_10, y_cA_11, y_cB_12, y_1X_13, y_1Y_14, y_2X_15, y_2Y_16, a_flood_17, a_going_18, a_letter_19, a_lineX_20, a_lineY_21)) else
  if v2 = 2 then (some (y_2X_15 + 10, y_goes_6, y_sides_7, y_cuts_8, y_flat_9, y_cp_10, y_cA_11, y_cB_12, y_1X_13, y_1Y_14, y_2X_15, y_2Y_16, a_flood_17, a_going_18, a_letter_19, a_lineX_20, a_lineY_21)) else
  if v2 = 3 then (some (y_2Y_16 + 10, y_goes_6, y_sides_7, y_cuts_8, y_flat_9, y_cp_10, y_cA_11, y_cB_12, y_1X_13, y_1Y_14, y_2X_15, y_2Y_16, a_flood_17, a_going_18, a_letter_19, a_lineX_20, a_lineY_21)) else
  bd1 (mo_area y_1X_13 y_1Y_14 y_2X_15 y_2Y_16) fun r_23 =>
  if 0 ≤ r_23 then (bd1 (mo_area y_1X_13 y_1Y_14 y_2X_15 y_2Y_16) fun r_25 =>
  some (r_25, y_goes_6, y_sides_7, y_cuts_8, y_flat_9, y_cp_10, y_cA_11, y_cB_12, y_1X_13, y_1Y_14, y_2X_15, y_2Y_16, a_flood_17, a_going_18, a_letter_19, a_lineX_20, a_lineY_21)) else
  bd1 (mo_area y_1X_13 y_1Y_14 y_2X_15 y_2Y_16) fun r_27 =>
  some (-r_27, y_goes_6, y_sides_7, y_cuts_8, y_flat_9, y_cp_10, y_cA_11, y_cB_12, y_1X_13, y_1Y_14, y_2X_15, y_2Y_16, a_flood_17, a_going_18, a_letter_19, a_lineX_20, a_lineY_21)) else
  some (r_5, y_goes_6, y_sides_7, y_cuts_8, y_flat_9, y_cp_10, y_cA_11, y_cB_12, y_1X_13, y_1Y_14, y_2X_15, y_2Y_16, a_flood_17, a_going_18, a_letter_19, a_lineX_20, a_lineY_21)
set_option maxHeartbeats 4000000 in
set_option maxRecDepth 100000 in
theorem c_mo_vector (l : Launch) (D : va_G) (ct : Nat → ClassId) (ad : Nat → Nat) (hI : mI ad) {y_km y_tp y_goes y_kin y_qd y_sides y_cuts y_flat y_cp y_cA y_cB y_1X y_1Y y_2X y_2Y y_tm y_cells : Int32} {a_mtape a_flood a_going a_field a_from a_mcrowds a_steps a_queue a_letter a_lineX a_lineY a_triedAt a_cellAt a_besideIn a_apart : Nat → Int32} {a_drawer a_mkept a_listed a_mkin a_tried a_takenAt a_waysOf : Nat → Int64} (v1 : Int32) (v2 : Int32) (r : Int32) (z_y_goes : Int32) (z_y_sides : Int32) (z_y_cuts : Int32) (z_y_flat : Int32) (z_y_cp : Int32) (z_y_cA : Int32) (z_y_cB : Int32) (z_y_1X : Int32) (z_y_1Y : Int32) (z_y_2X : Int32) (z_y_2Y : Int32) (z_a_flood : Nat → Int32) (z_a_going : Nat → Int32) (z_a_letter : Nat → Int32) (z_a_lineX : Nat → Int32) (z_a_lineY : Nat → Int32) (h : mo_vector v1 v2 y_goes y_sides y_cuts y_flat y_cp y_cA y_cB y_1X y_1Y y_2X y_2Y a_drawer a_flood a_going a_letter a_lineX a_lineY = some (r, z_y_goes, z_y_sides, z_y_cuts, z_y_flat, z_y_cp, z_y_cA, z_y_cB, z_y_1X, z_y_1Y, z_y_2X, z_y_2Y, z_a_flood, z_a_going, z_a_letter, z_a_lineX, z_a_lineY)) : Met l yX12_vector (wm yX12_vector cX12_vector 4 (some .int)) (rmm 6 146) (va_Pc [.ref (ad 0), .int v1, .int v2] (mB D ct ad y_km y_tp y_goes y_kin y_qd y_sides y_cuts y_flat y_cp y_cA y_cB y_1X y_1Y y_2X y_2Y y_tm y_cells a_mtape a_flood a_going a_field a_from a_mcrowds a_steps a_queue a_letter a_lineX a_lineY a_triedAt a_cellAt a_besideIn a_apart a_drawer a_mkept a_listed a_mkin a_tried a_takenAt a_waysOf)) (va_Qi (fun z (_ : Unit) => z = r) (fun _ t => mP D ct ad y_km y_tp z_y_goes y_kin y_qd z_y_sides z_y_cuts z_y_flat z_y_cp z_y_cA z_y_cB z_y_1X z_y_1Y z_y_2X z_y_2Y y_tm y_cells a_mtape z_a_flood z_a_going a_field a_from a_mcrowds a_steps a_queue z_a_letter z_a_lineX z_a_lineY a_triedAt a_cellAt a_besideIn a_apart a_drawer a_mkept a_listed a_mkin a_tried a_takenAt a_waysOf t.heap) (mA ad)) 0 0 (mA ad) := by
  refine met_s (y := yX12_vector) (rm := rmm 6 146) (by decide) (Nat.le_of_ble_eq_true rfl) ?_
  intro p e s m below meth c hx hb hr hw hown hlocks _ hml hB ls hl
  obtain ⟨hN, hK, hP⟩ := hB
  replace hl : lv_has ls 4 [(0, .ref (ad 0)), (1, .int v1), (2, .int v2)] := hl
  have hS : va_S (mA ad) s.heap s.heap [] := va_S.rf
  generalize (([.ref (ad 0), .int v1, .int v2] : List Value).toArray) = av at hw ⊢
  rw [mo_vector] at h
  refine lv_iload_n hx hb dX12_vector_0 rfl (lv_at hl 1 rfl) ?_
  obtain ⟨r_29, hr_30, h⟩ := bd1_s h
  refine sc_i hx hb hml hown hw hN (c_mo_isDrawer l v1 r_29 hr_30) g_RX12_135 hd_X12_isDrawer (rest := []) hl.1 hS dX12_vector_1 rfl rfl ⟨Nat.le_of_ble_eq_true rfl, Nat.le_of_ble_eq_true rfl⟩ rfl rfl (Nat.le_of_ble_eq_true rfl) ⟨Nat.zero_le _, Nat.zero_le _⟩ (fun H locs hk hS => ?_)
  have hP := mP_kept hP hk
  refine lv_if_eq hx hb dX12_vector_4 (tgt := 16) rfl (fun hc => ?_) (fun hc => ?_)
  · replace h := ifp h hc
    refine lv_iconst (v := (-1)) hx hb dX12_vector_16 ki_m1 ?_
    simp only [Option.some.injEq, Prod.mk.injEq] at h
    obtain ⟨rfl, rfl, rfl, rfl, rfl, rfl, rfl, rfl, rfl, rfl, rfl, rfl, rfl, rfl, rfl, rfl, rfl⟩ := h
    exact rc_i hx hb hr hlocks hS dX12_vector_17 rfl hP
  · replace h := ifn h hc
    refine lv_iload_n hx hb dX12_vector_7 rfl (lv_at hl 2 rfl) ?_
    refine lv_iconst (v := 0) hx hb dX12_vector_8 ki_0 ?_
    refine lv_iconst (v := 4) hx hb dX12_vector_9 ki_4 ?_
    obtain ⟨r_31, hr_32, h⟩ := bd1_s h
    refine sc_i hx hb hml hown hw hN (c_mo_in l v2 0 4 r_31 hr_32) g_RX12_82 hd_X12_in (rest := []) hl.1 hS dX12_vector_10 rfl rfl ⟨Nat.le_of_ble_eq_true rfl, Nat.le_of_ble_eq_true rfl⟩ rfl rfl (Nat.le_of_ble_eq_true rfl) ⟨Nat.zero_le _, Nat.zero_le _⟩ (fun H locs hk hS => ?_)
    have hP := mP_kept hP hk
    refine lv_if_ne hx hb dX12_vector_13 (tgt := 18) rfl (fun hc => ?_) (fun hc => ?_)
    · replace h := ifn h hc
      refine lv_aload_n hx hb dX12_vector_18 rfl (lv_at hl 0 rfl) ?_
      refine lv_iload_n hx hb dX12_vector_19 rfl (lv_at hl 1 rfl) ?_
      obtain ⟨r_33, y_goes_34, y_sides_35, y_cuts_36, y_flat_37, y_cp_38, y_cA_39, y_cB_40, y_1X_41, y_1Y_42, y_2X_43, y_2Y_44, a_flood_45, a_going_46, a_letter_47, a_lineX_48, a_lineY_49, hr_50, h⟩ := bd17_s h
      refine hv_i hx hb hml hown hw mB_bl (mB_of hN hK hP) (mr_MO hK hP) (c_mo_laysMoves l D ct ad hI v1 r_33 y_goes_34 y_sides_35 y_cuts_36 y_flat_37 y_cp_38 y_cA_39 y_cB_40 y_1X_41 y_1Y_42 y_2X_43 y_2Y_44 a_flood_45 a_going_46 a_letter_47 a_lineX_48 a_lineY_49 hr_50) g_RX12_326 ⟨rfl, hd_X12_laysMoves⟩ (rest := []) hl.1 hS (fun q h => h) dX12_vector_20 rfl rfl ⟨Nat.le_of_ble_eq_true rfl, Nat.le_of_ble_eq_true rfl⟩ rfl rfl (Nat.le_of_ble_eq_true rfl) ⟨Nat.zero_le _, Nat.zero_le _⟩ (fun H locs hP _ hS => ?_)
      refine lv_istore_n hx hb dX12_vector_23 rfl hl (Nat.le_of_ble_eq_true rfl) (lv' := [(3, .int r_33), (0, .ref (ad 0)), (1, .int v1), (2, .int v2)]) rfl (fun ls hl => ?_)
      refine lv_iload_n hx hb dX12_vector_24 rfl (lv_at hl 0 rfl) ?_
      refine lv_if_ge hx hb dX12_vector_25 (tgt := 30) rfl (fun hc => ?_) (fun hc => ?_)
      · replace h := ifp h hc
        refine lv_iload_n hx hb dX12_vector_30 rfl (lv_at hl 3 rfl) ?_
        by_cases hc0 : v2 = 0
        · replace h := ifp h hc0
          refine lv_tableIn hx hb dX12_vector_31 (by rw [hc0]; decide) (by rw [hc0]; decide) (by rw [hc0]; rfl) (tgt := 60) rfl ?_
          refine lv_aload_n hx hb dX12_vector_60 rfl (lv_at hl 1 rfl) ?_
          refine mg_MO_26 hx hb hw hown hK hP dX12_vector_61 ?_
          refine lv_bipush (v := 10) hx hb dX12_vector_64 kb_10 ?_
          refine lv_iadd hx hb dX12_vector_66 ?_
          simp only [Option.some.injEq, Prod.mk.injEq] at h
          obtain ⟨rfl, rfl, rfl, rfl, rfl, rfl, rfl, rfl, rfl, rfl, rfl, rfl, rfl, rfl, rfl, rfl, rfl⟩ := h
          exact rc_i hx hb hr hlocks hS dX12_vector_67 rfl hP
        replace h := ifn h hc0
        by_cases hc1 : v2 = 1
        · replace h := ifp h hc1
          refine lv_tableIn hx hb dX12_vector_31 (by rw [hc1]; decide) (by rw [hc1]; decide) (by rw [hc1]; rfl) (tgt := 68) rfl ?_
          refine lv_aload_n hx hb dX12_vector_68 rfl (lv_at hl 1 rfl) ?_
          refine mg_MO_27 hx hb hw hown hK hP dX12_vector_69 ?_
          refine lv_bipush (v := 10) hx hb dX12_vector_72 kb_10 ?_
          refine lv_iadd hx hb dX12_vector_74 ?_
          simp only [Option.some.injEq, Prod.mk.injEq] at h
          obtain ⟨rfl, rfl, rfl, rfl, rfl, rfl, rfl, rfl, rfl, rfl, rfl, rfl, rfl, rfl, rfl, rfl, rfl⟩ := h
          exact rc_i hx hb hr hlocks hS dX12_vector_75 rfl hP
        replace h := ifn h hc1
        by_cases hc2 : v2 = 2
        · replace h := ifp h hc2
          refine lv_tableIn hx hb dX12_vector_31 (by rw [hc2]; decide) (by rw [hc2]; decide) (by rw [hc2]; rfl) (tgt := 76) rfl ?_
          refine lv_aload_n hx hb dX12_vector_76 rfl (lv_at hl 1 rfl) ?_
          refine mg_MO_28 hx hb hw hown hK hP dX12_vector_77 ?_
          refine lv_bipush (v := 10) hx hb dX12_vector_80 kb_10 ?_
          refine lv_iadd hx hb dX12_vector_82 ?_
          simp only [Option.some.injEq, Prod.mk.injEq] at h
          obtain ⟨rfl, rfl, rfl, rfl, rfl, rfl, rfl, rfl, rfl, rfl, rfl, rfl, rfl, rfl, rfl, rfl, rfl⟩ := h
          exact rc_i hx hb hr hlocks hS dX12_vector_83 rfl hP
        replace h := ifn h hc2
        by_cases hc3 : v2 = 3
        · replace h := ifp h hc3
          refine lv_tableIn hx hb dX12_vector_31 (by rw [hc3]; decide) (by rw [hc3]; decide) (by rw [hc3]; rfl) (tgt := 84) rfl ?_
          refine lv_aload_n hx hb dX12_vector_84 rfl (lv_at hl 1 rfl) ?_
          refine mg_MO_29 hx hb hw hown hK hP dX12_vector_85 ?_
          refine lv_bipush (v := 10) hx hb dX12_vector_88 kb_10 ?_
          refine lv_iadd hx hb dX12_vector_90 ?_
          simp only [Option.some.injEq, Prod.mk.injEq] at h
          obtain ⟨rfl, rfl, rfl, rfl, rfl, rfl, rfl, rfl, rfl, rfl, rfl, rfl, rfl, rfl, rfl, rfl, rfl⟩ := h
          exact rc_i hx hb hr hlocks hS dX12_vector_91 rfl hP
        replace h := ifn h hc3
        have q0 := lv_neT (k := 0) hc0 (a := 0) (by decide)
        have q1 := lv_neT (k := 1) hc1 (a := 1) (by decide)
        have q2 := lv_neT (k := 2) hc2 (a := 2) (by decide)
        have q3 := lv_neT (k := 3) hc3 (a := 3) (by decide)
        refine lv_tableOut hx hb dX12_vector_31 (by omega) (tgt := 92) rfl ?_
        refine lv_aload_n hx hb dX12_vector_92 rfl (lv_at hl 1 rfl) ?_
        obtain ⟨r_51, hr_52, h⟩ := bd1_s h
        refine hv_i hx hb hml hown hw mB_bl (mB_of hN hK hP) (mr_MO hK hP) (c_mo_area l D ct ad hI r_51 hr_52) g_RX12_329 ⟨rfl, hd_X12_area⟩ (rest := []) hl.1 hS (fun q h => h) dX12_vector_93 rfl rfl ⟨Nat.le_of_ble_eq_true rfl, Nat.le_of_ble_eq_true rfl⟩ rfl rfl (Nat.le_of_ble_eq_true rfl) ⟨Nat.zero_le _, Nat.zero_le _⟩ (fun H locs hP _ hS => ?_)
        refine lv_if_ge hx hb dX12_vector_96 (tgt := 107) rfl (fun hc => ?_) (fun hc => ?_)
        · replace h := ifp h hc
          refine lv_aload_n hx hb dX12_vector_107 rfl (lv_at hl 1 rfl) ?_
          obtain ⟨r_53, hr_54, h⟩ := bd1_s h
          refine hv_i hx hb hml hown hw mB_bl (mB_of hN hK hP) (mr_MO hK hP) (c_mo_area l D ct ad hI r_53 hr_54) g_RX12_329 ⟨rfl, hd_X12_area⟩ (rest := []) hl.1 hS (fun q h => h) dX12_vector_108 rfl rfl ⟨Nat.le_of_ble_eq_true rfl, Nat.le_of_ble_eq_true rfl⟩ rfl rfl (Nat.le_of_ble_eq_true rfl) ⟨Nat.zero_le _, Nat.zero_le _⟩ (fun H locs hP _ hS => ?_)
          simp only [Option.some.injEq, Prod.mk.injEq] at h
          obtain ⟨rfl, rfl, rfl, rfl, rfl, rfl, rfl, rfl, rfl, rfl, rfl, rfl, rfl, rfl, rfl, rfl, rfl⟩ := h
          exact rc_i hx hb hr hlocks hS dX12_vector_111 rfl hP
        · replace h := ifn h hc
          refine lv_aload_n hx hb dX12_vector_99 rfl (lv_at hl 1 rfl) ?_
          obtain ⟨r_55, hr_56, h⟩ := bd1_s h
          refine hv_i hx hb hml hown hw mB_bl (mB_of hN hK hP) (mr_MO hK hP) (c_mo_area l D ct ad hI r_55 hr_56) g_RX12_329 ⟨rfl, hd_X12_area⟩ (rest := []) hl.1 hS (fun q h => h) dX12_vector_100 rfl rfl ⟨Nat.le_of_ble_eq_true rfl, Nat.le_of_ble_eq_true rfl⟩ rfl rfl (Nat.le_of_ble_eq_true rfl) ⟨Nat.zero_le _, Nat.zero_le _⟩ (fun H locs hP _ hS => ?_)
          refine lv_ineg hx hb dX12_vector_103 ?_
          refine lv_goto hx hb dX12_vector_104 (tgt := 111) rfl ?_
          simp only [Option.some.injEq, Prod.mk.injEq] at h
          obtain ⟨rfl, rfl, rfl, rfl, rfl, rfl, rfl, rfl, rfl, rfl, rfl, rfl, rfl, rfl, rfl, rfl, rfl⟩ := h
          exact rc_i hx hb hr hlocks hS dX12_vector_111 rfl hP
      · replace h := ifn h hc
        refine lv_iload_n hx hb dX12_vector_28 rfl (lv_at hl 0 rfl) ?_
        simp only [Option.some.injEq, Prod.mk.injEq] at h
        obtain ⟨rfl, rfl, rfl, rfl, rfl, rfl, rfl, rfl, rfl, rfl, rfl, rfl, rfl, rfl, rfl, rfl, rfl⟩ := h
        exact rc_i hx hb hr hlocks hS dX12_vector_29 rfl hP
    · replace h := ifp h hc
      refine lv_iconst (v := (-1)) hx hb dX12_vector_16 ki_m1 ?_
      simp only [Option.some.injEq, Prod.mk.injEq] at h
      obtain ⟨rfl, rfl, rfl, rfl, rfl, rfl, rfl, rfl, rfl, rfl, rfl, rfl, rfl, rfl, rfl, rfl, rfl⟩ := h
      exact rc_i hx hb hr hlocks hS dX12_vector_17 rfl hP
noncomputable def mo_owner_J196 (k65 : Int32 → Option (Int32 × Int32 × Int32 × Int32 × Int32 × Int32 × Int32 × Int32 × Int32 × Int32 × Int32 × Int32 × (Nat → Int32) × (Nat → Int32) × (Nat → Int32) × (Nat → Int32) × (Nat → Int32))) (a_drawer : Nat → Int64) (v1 : Int32) (v2 : Int32) (v3 : Int32) (v4 : Int32) (v6 : Int32) (v7 : Int32) (y_goes : Int32) (y_sides : Int32) (y_cuts : Int32) (y_flat : Int32) (y_cp : Int32) (y_cA : Int32) (y_cB : Int32) (y_1X : Int32) (y_1Y : Int32) (y_2X : Int32) (y_2Y : Int32) (a_flood : Nat → Int32) (a_going : Nat → Int32) (a_letter : Nat → Int32) (a_lineX : Nat → Int32) (a_lineY : Nat → Int32)  : Option (Int32 × Int32 × Int32 × Int32 × Int32 × Int32 × Int32 × Int32 × Int32 × Int32 × Int32 × Int32 × (Nat → Int32) × (Nat → Int32) × (Nat → Int32) × (Nat → Int32) × (Nat → Int32)) :=
  nm (v7 + Int32.ofInt 1) fun v7_1 =>
  k65 v7_1
noncomputable def mo_owner_B65 (v1 : Int32) (v2 : Int32) (v3 : Int32) (v4 : Int32) (v6 : Int32) (y_goes : Int32) (y_sides : Int32) (y_cuts : Int32) (y_flat : Int32) (y_cp : Int32) (y_cA : Int32) (y_cB : Int32) (y_1X : Int32) (y_1Y : Int32) (y_2X : Int32) (y_2Y : Int32) (a_drawer : Nat → Int64) (a_flood : Nat → Int32) (a_going : Nat → Int32) (a_letter : Nat → Int32) (a_lineX : Nat → Int32) (a_lineY : Nat → Int32)  (k65 : Int32 → Option (Int32 × Int32 × Int32 × Int32 × Int32 × Int32 × Int32 × Int32 × Int32 × Int32 × Int32 × Int32 × (Nat → Int32) × (Nat → Int32) × (Nat → Int32) × (Nat → Int32) × (Nat → Int32))) (v7 : Int32) : Option (Int32 × Int32 × Int32 × Int32 × Int32 × Int32 × Int32 × Int32 × Int32 × Int32 × Int32 × Int32 × (Nat → Int32) × (Nat → Int32) × (Nat → Int32) × (Nat → Int32) × (Nat → Int32)) :=
  if 64 ≤ v7 then (some ((-1), y_goes, y_sides, y_cuts, y_flat, y_cp, y_cA, y_cB, y_1X, y_1Y, y_2X, y_2Y, a_flood, a_going, a_letter, a_lineX, a_lineY)) else
  ck v1 8 <|
  bd1 (mo_has (a_drawer v1.toNatClampNeg) v7) fun r_2 =>
  if r_2 = 0 then (mo_owner_J196 k65 a_drawer v1 v2 v3 v4 v6 v7 y_goes y_sides y_cuts y_flat y_cp y_cA y_cB y_1X y_1Y y_2X y_2Y a_flood a_going a_letter a_lineX a_lineY) else
  dzI 8 <|
  nm (v2 - (remI v7 8) : Int32) fun v8_4 =>
  dzI 8 <|
  nm (v3 - (v7 / 8) : Int32) fun v9_5 =>
  nm ((v8_4 * y_2Y) - (v9_5 * y_2X) : Int32) fun v10_6 =>
  nm ((y_1X * v9_5) - (y_1Y * v8_4) : Int32) fun v11_7 =>
  dzI v6 <|
  if (remI v10_6 v6) = 0 then (dzI v6 <|
  if (remI v11_7 v6) = 0 then (if v4 = 0 then (dzI v6 <|
  some (100 + (v10_6 / v6), y_goes, y_sides, y_cuts, y_flat, y_cp, y_cA, y_cB, y_1X, y_1Y, y_2X, y_2Y, a_flood, a_going, a_letter, a_lineX, a_lineY)) else
  if v4 = 1 then (dzI v6 <|
  some (100 + (v11_7 / v6), y_goes, y_sides, y_cuts, y_flat, y_cp, y_cA, y_cB, y_1X, y_1Y, y_2X, y_2Y, a_flood, a_going, a_letter, a_lineX, a_lineY)) else
  some (v7, y_goes, y_sides, y_cuts, y_flat, y_cp, y_cA, y_cB, y_1X, y_1Y, y_2X, y_2Y, a_flood, a_going, a_letter, a_lineX, a_lineY)) else
  mo_owner_J196 k65 a_drawer v1 v2 v3 v4 v6 v7 y_goes y_sides y_cuts y_flat y_cp y_cA y_cB y_1X y_1Y y_2X y_2Y a_flood a_going a_letter a_lineX a_lineY) else
  mo_owner_J196 k65 a_drawer v1 v2 v3 v4 v6 v7 y_goes y_sides y_cuts y_flat y_cp y_cA y_cB y_1X y_1Y y_2X y_2Y a_flood a_going a_letter a_lineX a_lineY
noncomputable def mo_owner (v1 : Int32) (v2 : Int32) (v3 : Int32) (v4 : Int32) (y_goes : Int32) (y_sides : Int32) (y_cuts : Int32) (y_flat : Int32) (y_cp : Int32) (y_cA : Int32) (y_cB : Int32) (y_1X : Int32) (y_1Y : Int32) (y_2X : Int32) (y_2Y : Int32) (a_drawer : Nat → Int64) (a_flood : Nat → Int32) (a_going : Nat → Int32) (a_letter : Nat → Int32) (a_lineX : Nat → Int32) (a_lineY : Nat → Int32) : Option (Int32 × Int32 × Int32 × Int32 × Int32 × Int32 × Int32 × Int32 × Int32 × Int32 × Int32 × Int32 × (Nat → Int32) × (Nat → Int32) × (Nat → Int32) × (Nat → Int32) × (Nat → Int32)) :=
  bd1 (mo_isDrawer v1) fun r_8 =>
  if r_8 = 0 then (some ((-1), y_goes, y_sides, y_cuts, y_flat, y_cp, y_cA, y_cB, y_1X, y_1Y, y_2X, y_2Y, a_flood, a_going, a_letter, a_lineX, a_lineY)) else
  bd1 (mo_in v2 (-20) 20) fun r_10 =>
  if r_10 = 0 then (some ((-1), y_goes, y_sides, y_cuts, y_flat, y_cp, y_cA, y_cB, y_1X, y_1Y, y_2X, y_2Y, a_flood, a_going, a_letter, a_lineX, a_lineY)) else
  bd1 (mo_in v3 (-20) 20) fun r_12 =>
  if r_12 = 0 then (some ((-1), y_goes, y_sides, y_cuts, y_flat, y_cp, y_cA, y_cB, y_1X, y_1Y, y_2X, y_2Y, a_flood, a_going, a_letter, a_lineX, a_lineY)) else
  bd1 (mo_in v4 0 2) fun r_14 =>
  if r_14 = 0 then (some ((-1), y_goes, y_sides, y_cuts, y_flat, y_cp, y_cA, y_cB, y_1X, y_1Y, y_2X, y_2Y, a_flood, a_going, a_letter, a_lineX, a_lineY)) else
  bd17 (mo_laysMoves v1 y_goes y_sides y_cuts y_flat y_cp y_cA y_cB y_1X y_1Y y_2X y_2Y a_drawer a_flood a_going a_letter a_lineX a_lineY) fun r_16 y_goes_17 y_sides_18 y_cuts_19 y_flat_20 y_cp_21 y_cA_22 y_cB_23 y_1X_24 y_1Y_25 y_2X_26 y_2Y_27 a_flood_28 a_going_29 a_letter_30 a_lineX_31 a_lineY_32 =>
  if 0 ≤ r_16 then (bd1 (mo_area y_1X_24 y_1Y_25 y_2X_26 y_2Y_27) fun r_34 =>
  fl1 (mo_owner_B65 v1 v2 v3 v4 r_34 y_goes_17 y_sides_18 y_cuts_19 y_flat_20 y_cp_21 y_cA_22 y_cB_23 y_1X_24 y_1Y_25 y_2X_26 y_2Y_27 a_drawer a_flood_28 a_going_29 a_letter_30 a_lineX_31 a_lineY_32) FU 0) else
  some (r_16, y_goes_17, y_sides_18, y_cuts_19, y_flat_20, y_cp_21, y_cA_22, y_cB_23, y_1X_24, y_1Y_25, y_2X_26, y_2Y_27, a_flood_28, a_going_29, a_letter_30, a_lineX_31, a_lineY_32)
set_option maxHeartbeats 4000000 in
set_option maxRecDepth 100000 in
theorem c_mo_owner (l : Launch) (D : va_G) (ct : Nat → ClassId) (ad : Nat → Nat) (hI : mI ad) {y_km y_tp y_goes y_kin y_qd y_sides y_cuts y_flat y_cp y_cA y_cB y_1X y_1Y y_2X y_2Y y_tm y_cells : Int32} {a_mtape a_flood a_going a_field a_from a_mcrowds a_steps a_queue a_letter a_lineX a_lineY a_triedAt a_cellAt a_besideIn a_apart : Nat → Int32} {a_drawer a_mkept a_listed a_mkin a_tried a_takenAt a_waysOf : Nat → Int64} (v1 : Int32) (v2 : Int32) (v3 : Int32) (v4 : Int32) (r : Int32) (z_y_goes : Int32) (z_y_sides : Int32) (z_y_cuts : Int32) (z_y_flat : Int32) (z_y_cp : Int32) (z_y_cA : Int32) (z_y_cB : Int32) (z_y_1X : Int32) (z_y_1Y : Int32) (z_y_2X : Int32) (z_y_2Y : Int32) (z_a_flood : Nat → Int32) (z_a_going : Nat → Int32) (z_a_letter : Nat → Int32) (z_a_lineX : Nat → Int32) (z_a_lineY : Nat → Int32) (h : mo_owner v1 v2 v3 v4 y_goes y_sides y_cuts y_flat y_cp y_cA y_cB y_1X y_1Y y_2X y_2Y a_drawer a_flood a_going a_letter a_lineX a_lineY = some (r, z_y_goes, z_y_sides, z_y_cuts, z_y_flat, z_y_cp, z_y_cA, z_y_cB, z_y_1X, z_y_1Y, z_y_2X, z_y_2Y, z_a_flood, z_a_going, z_a_letter, z_a_lineX, z_a_lineY)) : Met l yX12_owner (wm yX12_owner cX12_owner 12 (some .int)) (rmm 6 146) (va_Pc [.ref (ad 0), .int v1, .int v2, .int v3, .int v4] (mB D ct ad y_km y_tp y_goes y_kin y_qd y_sides y_cuts y_flat y_cp y_cA y_cB y_1X y_1Y y_2X y_2Y y_tm y_cells a_mtape a_flood a_going a_field a_from a_mcrowds a_steps a_queue a_letter a_lineX a_lineY a_triedAt a_cellAt a_besideIn a_apart a_drawer a_mkept a_listed a_mkin a_tried a_takenAt a_waysOf)) (va_Qi (fun z (_ : Unit) => z = r) (fun _ t => mP D ct ad y_km y_tp z_y_goes y_kin y_qd z_y_sides z_y_cuts z_y_flat z_y_cp z_y_cA z_y_cB z_y_1X z_y_1Y z_y_2X z_y_2Y y_tm y_cells a_mtape z_a_flood z_a_going a_field a_from a_mcrowds a_steps a_queue z_a_letter z_a_lineX z_a_lineY a_triedAt a_cellAt a_besideIn a_apart a_drawer a_mkept a_listed a_mkin a_tried a_takenAt a_waysOf t.heap) (mA ad)) 0 0 (mA ad) := by
  refine met_s (y := yX12_owner) (rm := rmm 6 146) (by decide) (Nat.le_of_ble_eq_true rfl) ?_
  intro p e s m below meth c hx hb hr hw hown hlocks _ hml hB ls hl
  obtain ⟨hN, hK, hP⟩ := hB
  replace hl : lv_has ls 12 [(0, .ref (ad 0)), (1, .int v1), (2, .int v2), (3, .int v3), (4, .int v4)] := hl
  have hS : va_S (mA ad) s.heap s.heap [] := va_S.rf
  generalize (([.ref (ad 0), .int v1, .int v2, .int v3, .int v4] : List Value).toArray) = av at hw ⊢
  rw [mo_owner] at h
  have hL65 : ∀ (v1 : Int32), ∀ (v2 : Int32), ∀ (v3 : Int32), ∀ (v4 : Int32), ∀ (v6 : Int32), ∀ (y_goes : Int32), ∀ (y_sides : Int32), ∀ (y_cuts : Int32), ∀ (y_flat : Int32), ∀ (y_cp : Int32), ∀ (y_cA : Int32), ∀ (y_cB : Int32), ∀ (y_1X : Int32), ∀ (y_1Y : Int32), ∀ (y_2X : Int32), ∀ (y_2Y : Int32), ∀ (a_drawer : Nat → Int64), ∀ (a_flood : Nat → Int32), ∀ (a_going : Nat → Int32), ∀ (a_letter : Nat → Int32), ∀ (a_lineX : Nat → Int32), ∀ (a_lineY : Nat → Int32), ∀ (n65 : Nat) (H : Heap) (locs : List Loc) (ls : Array Slot) (v7 : Int32), lv_has ls 12 [(0, .ref (ad 0)), (1, .int v1), (2, .int v2), (3, .int v3), (4, .int v4), (6, .int v6), (7, .int v7)] → mP D ct ad y_km y_tp y_goes y_kin y_qd y_sides y_cuts y_flat y_cp y_cA y_cB y_1X y_1Y y_2X y_2Y y_tm y_cells a_mtape a_flood a_going a_field a_from a_mcrowds a_steps a_queue a_letter a_lineX a_lineY a_triedAt a_cellAt a_besideIn a_apart a_drawer a_mkept a_listed a_mkin a_tried a_takenAt a_waysOf H → va_S (mA ad) s.heap H locs → fl1 (mo_owner_B65 v1 v2 v3 v4 v6 y_goes y_sides y_cuts y_flat y_cp y_cA y_cB y_1X y_1Y y_2X y_2Y a_drawer a_flood a_going a_letter a_lineX a_lineY) n65 v7 = some (r, z_y_goes, z_y_sides, z_y_cuts, z_y_flat, z_y_cp, z_y_cA, z_y_cB, z_y_1X, z_y_1Y, z_y_2X, z_y_2Y, z_a_flood, z_a_going, z_a_letter, z_a_lineX, z_a_lineY) → W p l e (rmm 6 146) s m av below meth c H locs 0 0 (MQ below (va_Qi (fun z (_ : Unit) => z = r) (fun _ t => mP D ct ad y_km y_tp z_y_goes y_kin y_qd z_y_sides z_y_cuts z_y_flat z_y_cp z_y_cA z_y_cB z_y_1X z_y_1Y z_y_2X z_y_2Y y_tm y_cells a_mtape z_a_flood z_a_going a_field a_from a_mcrowds a_steps a_queue z_a_letter z_a_lineX z_a_lineY a_triedAt a_cellAt a_besideIn a_apart a_drawer a_mkept a_listed a_mkin a_tried a_takenAt a_waysOf t.heap) (mA ad)) av s 0 0 (mA ad)) (F0 m 65 ls []) := by
    intro v1 v2 v3 v4 v6 y_goes y_sides y_cuts y_flat y_cp y_cA y_cB y_1X y_1Y y_2X y_2Y a_drawer a_flood a_going a_letter a_lineX a_lineY n65
    induction n65 with
    | zero => intro H locs ls v7 hl hP hS h; cases h
    | succ n65 ih65 =>
      intro H locs ls v7 hl hP hS h
      replace h : mo_owner_B65 v1 v2 v3 v4 v6 y_goes y_sides y_cuts y_flat y_cp y_cA y_cB y_1X y_1Y y_2X y_2Y a_drawer a_flood a_going a_letter a_lineX a_lineY (fl1 (mo_owner_B65 v1 v2 v3 v4 v6 y_goes y_sides y_cuts y_flat y_cp y_cA y_cB y_1X y_1Y y_2X y_2Y a_drawer a_flood a_going a_letter a_lineX a_lineY) n65) v7 = some (r, z_y_goes, z_y_sides, z_y_cuts, z_y_flat, z_y_cp, z_y_cA, z_y_cB, z_y_1X, z_y_1Y, z_y_2X, z_y_2Y, z_a_flood, z_a_going, z_a_letter, z_a_lineX, z_a_lineY) := h
      generalize fl1 (mo_owner_B65 v1 v2 v3 v4 v6 y_goes y_sides y_cuts y_flat y_cp y_cA y_cB y_1X y_1Y y_2X y_2Y a_drawer a_flood a_going a_letter a_lineX a_lineY) n65 = k65 at h ih65
      have hJ196 : ∀ (H : Heap) (locs : List Loc) (ls : Array Slot) (v7 : Int32) , lv_has ls 12 [(0, .ref (ad 0)), (1, .int v1), (2, .int v2), (3, .int v3), (4, .int v4), (6, .int v6), (7, .int v7)] → mP D ct ad y_km y_tp y_goes y_kin y_qd y_sides y_cuts y_flat y_cp y_cA y_cB y_1X y_1Y y_2X y_2Y y_tm y_cells a_mtape a_flood a_going a_field a_from a_mcrowds a_steps a_queue a_letter a_lineX a_lineY a_triedAt a_cellAt a_besideIn a_apart a_drawer a_mkept a_listed a_mkin a_tried a_takenAt a_waysOf H → va_S (mA ad) s.heap H locs → mo_owner_J196 k65 a_drawer v1 v2 v3 v4 v6 v7 y_goes y_sides y_cuts y_flat y_cp y_cA y_cB y_1X y_1Y y_2X y_2Y a_flood a_going a_letter a_lineX a_lineY = some (r, z_y_goes, z_y_sides, z_y_cuts, z_y_flat, z_y_cp, z_y_cA, z_y_cB, z_y_1X, z_y_1Y, z_y_2X, z_y_2Y, z_a_flood, z_a_going, z_a_letter, z_a_lineX, z_a_lineY) → W p l e (rmm 6 146) s m av below meth c H locs 0 0 (MQ below (va_Qi (fun z (_ : Unit) => z = r) (fun _ t => mP D ct ad y_km y_tp z_y_goes y_kin y_qd z_y_sides z_y_cuts z_y_flat z_y_cp z_y_cA z_y_cB z_y_1X z_y_1Y z_y_2X z_y_2Y y_tm y_cells a_mtape z_a_flood z_a_going a_field a_from a_mcrowds a_steps a_queue z_a_letter z_a_lineX z_a_lineY a_triedAt a_cellAt a_besideIn a_apart a_drawer a_mkept a_listed a_mkin a_tried a_takenAt a_waysOf t.heap) (mA ad)) av s 0 0 (mA ad)) (F0 m 196 ls []) := by
        intro H locs ls v7  hl hP hS h
        rw [mo_owner_J196] at h
        obtain ⟨v7_36, ev7_36, h⟩ := nm_s h
        refine lv_iinc hx hb dX12_owner_196 hl (k := 6) rfl ev7_36.symm (Nat.le_of_ble_eq_true rfl) (lv' := [(7, .int v7_36), (0, .ref (ad 0)), (1, .int v1), (2, .int v2), (3, .int v3), (4, .int v4), (6, .int v6)]) rfl (fun ls hl => ?_)
        refine lv_goto hx hb dX12_owner_199 (tgt := 65) rfl ?_
        exact ih65 _ _ _ v7_36 (lv_sub hl [1, 2, 3, 4, 5, 6, 0] rfl) hP hS h
      rw [mo_owner_B65] at h
      refine lv_iload hx hb dX12_owner_65 (lv_at hl 6 rfl) ?_
      refine lv_bipush (v := 64) hx hb dX12_owner_67 kb_64 ?_
      refine lv_icmp_ge hx hb dX12_owner_69 (tgt := 202) rfl (fun hc => ?_) (fun hc => ?_)
      · replace h := ifp h hc
        refine lv_iconst (v := (-1)) hx hb dX12_owner_202 ki_m1 ?_
        simp only [Option.some.injEq, Prod.mk.injEq] at h
        obtain ⟨rfl, rfl, rfl, rfl, rfl, rfl, rfl, rfl, rfl, rfl, rfl, rfl, rfl, rfl, rfl, rfl, rfl⟩ := h
        exact rc_i hx hb hr hlocks hS dX12_owner_203 rfl hP
      · replace h := ifn h hc
        refine lv_aload_n hx hb dX12_owner_72 rfl (lv_at hl 0 rfl) ?_
        refine mg_MO_0 hx hb hw hown hK hP dX12_owner_73 ?_
        refine lv_iload_n hx hb dX12_owner_76 rfl (lv_at hl 1 rfl) ?_
        obtain ⟨hin, h⟩ := ck_s h
        refine md_drawer hx hb hK hP hin dX12_owner_77 ?_
        refine lv_iload hx hb dX12_owner_78 (lv_at hl 6 rfl) ?_
        obtain ⟨r_37, hr_38, h⟩ := bd1_s h
        refine sc_i hx hb hml hown hw hN (c_mo_has l (a_drawer v1.toNatClampNeg) v7 r_37 hr_38) g_RX12_86 hd_X12_has (rest := []) hl.1 hS dX12_owner_80 rfl rfl ⟨Nat.le_of_ble_eq_true rfl, Nat.le_of_ble_eq_true rfl⟩ rfl rfl (Nat.le_of_ble_eq_true rfl) ⟨Nat.zero_le _, Nat.zero_le _⟩ (fun H locs hk hS => ?_)
        have hP := mP_kept hP hk
        refine lv_if_ne hx hb dX12_owner_83 (tgt := 89) rfl (fun hc => ?_) (fun hc => ?_)
        · replace h := ifn h hc
          refine lv_iload_n hx hb dX12_owner_89 rfl (lv_at hl 2 rfl) ?_
          refine lv_iload hx hb dX12_owner_90 (lv_at hl 6 rfl) ?_
          refine lv_bipush (v := 8) hx hb dX12_owner_92 kb_8 ?_
          obtain ⟨hne, h⟩ := dzI_s h
          refine lv_irem hx hb dX12_owner_94 hne ?_
          refine nmI (v := remI v7 8) rfl ?_
          refine lv_isub hx hb dX12_owner_95 ?_
          obtain ⟨v8_39, ev8_39, h⟩ := nm_s h
          refine nmI ev8_39 ?_
          refine lv_istore hx hb dX12_owner_96 hl (Nat.le_of_ble_eq_true rfl) (lv' := [(8, .int v8_39), (0, .ref (ad 0)), (1, .int v1), (2, .int v2), (3, .int v3), (4, .int v4), (6, .int v6), (7, .int v7)]) rfl (fun ls hl => ?_)
          refine lv_iload_n hx hb dX12_owner_98 rfl (lv_at hl 4 rfl) ?_
          refine lv_iload hx hb dX12_owner_99 (lv_at hl 7 rfl) ?_
          refine lv_bipush (v := 8) hx hb dX12_owner_101 kb_8 ?_
          obtain ⟨hne, h⟩ := dzI_s h
          refine lv_idiv hx hb dX12_owner_103 hne ?_
          refine lv_isub hx hb dX12_owner_104 ?_
          obtain ⟨v9_40, ev9_40, h⟩ := nm_s h
          refine nmI ev9_40 ?_
          refine lv_istore hx hb dX12_owner_105 hl (Nat.le_of_ble_eq_true rfl) (lv' := [(9, .int v9_40), (8, .int v8_39), (0, .ref (ad 0)), (1, .int v1), (2, .int v2), (3, .int v3), (4, .int v4), (6, .int v6), (7, .int v7)]) rfl (fun ls hl => ?_)
          refine lv_iload hx hb dX12_owner_107 (lv_at hl 1 rfl) ?_
          refine lv_aload_n hx hb dX12_owner_109 rfl (lv_at hl 2 rfl) ?_
          refine mg_MO_29 hx hb hw hown hK hP dX12_owner_110 ?_
          refine lv_imul hx hb dX12_owner_113 ?_
          refine lv_iload hx hb dX12_owner_114 (lv_at hl 0 rfl) ?_
          refine lv_aload_n hx hb dX12_owner_116 rfl (lv_at hl 2 rfl) ?_
          refine mg_MO_28 hx hb hw hown hK hP dX12_owner_117 ?_
          refine lv_imul hx hb dX12_owner_120 ?_
          refine lv_isub hx hb dX12_owner_121 ?_
          obtain ⟨v10_41, ev10_41, h⟩ := nm_s h
          refine nmI ev10_41 ?_
          refine lv_istore hx hb dX12_owner_122 hl (Nat.le_of_ble_eq_true rfl) (lv' := [(10, .int v10_41), (9, .int v9_40), (8, .int v8_39), (0, .ref (ad 0)), (1, .int v1), (2, .int v2), (3, .int v3), (4, .int v4), (6, .int v6), (7, .int v7)]) rfl (fun ls hl => ?_)
          refine lv_aload_n hx hb dX12_owner_124 rfl (lv_at hl 3 rfl) ?_
          refine mg_MO_26 hx hb hw hown hK hP dX12_owner_125 ?_
          refine lv_iload hx hb dX12_owner_128 (lv_at hl 1 rfl) ?_
          refine lv_imul hx hb dX12_owner_130 ?_
          refine lv_aload_n hx hb dX12_owner_131 rfl (lv_at hl 3 rfl) ?_
          refine mg_MO_27 hx hb hw hown hK hP dX12_owner_132 ?_
          refine lv_iload hx hb dX12_owner_135 (lv_at hl 2 rfl) ?_
          refine lv_imul hx hb dX12_owner_137 ?_
          refine lv_isub hx hb dX12_owner_138 ?_
          obtain ⟨v11_42, ev11_42, h⟩ := nm_s h
          refine nmI ev11_42 ?_
          refine lv_istore hx hb dX12_owner_139 hl (Nat.le_of_ble_eq_true rfl) (lv' := [(11, .int v11_42), (10, .int v10_41), (9, .int v9_40), (8, .int v8_39), (0, .ref (ad 0)), (1, .int v1), (2, .int v2), (3, .int v3), (4, .int v4), (6, .int v6), (7, .int v7)]) rfl (fun ls hl => ?_)
          refine lv_iload hx hb dX12_owner_141 (lv_at hl 1 rfl) ?_
          refine lv_iload hx hb dX12_owner_143 (lv_at hl 9 rfl) ?_
          obtain ⟨hne, h⟩ := dzI_s h
          refine lv_irem hx hb dX12_owner_145 hne ?_
          refine nmI (v := remI v10_41 v6) rfl ?_
          refine lv_if_ne hx hb dX12_owner_146 (tgt := 196) rfl (fun hc => ?_) (fun hc => ?_)
          · replace h := ifn h hc
            exact hJ196 _ _ _ v7 (lv_sub hl [4, 5, 6, 7, 8, 9, 10] rfl) hP hS h
          · replace h := ifp h hc
            refine lv_iload hx hb dX12_owner_149 (lv_at hl 0 rfl) ?_
            refine lv_iload hx hb dX12_owner_151 (lv_at hl 9 rfl) ?_
            obtain ⟨hne, h⟩ := dzI_s h
            refine lv_irem hx hb dX12_owner_153 hne ?_
            refine nmI (v := remI v11_42 v6) rfl ?_
            refine lv_if_eq hx hb dX12_owner_154 (tgt := 160) rfl (fun hc => ?_) (fun hc => ?_)
            · replace h := ifp h hc
              refine lv_iload hx hb dX12_owner_160 (lv_at hl 8 rfl) ?_
              refine lv_if_ne hx hb dX12_owner_162 (tgt := 176) rfl (fun hc => ?_) (fun hc => ?_)
              · replace h := ifn h hc
                refine lv_iload hx hb dX12_owner_176 (lv_at hl 8 rfl) ?_
                refine lv_iconst (v := 1) hx hb dX12_owner_178 ki_1 ?_
                refine lv_icmp_ne hx hb dX12_owner_179 (tgt := 193) rfl (fun hc => ?_) (fun hc => ?_)
                · replace h := ifn h hc
                  refine lv_iload hx hb dX12_owner_193 (lv_at hl 10 rfl) ?_
                  simp only [Option.some.injEq, Prod.mk.injEq] at h
                  obtain ⟨rfl, rfl, rfl, rfl, rfl, rfl, rfl, rfl, rfl, rfl, rfl, rfl, rfl, rfl, rfl, rfl, rfl⟩ := h
                  exact rc_i hx hb hr hlocks hS dX12_owner_195 rfl hP
                · replace h := ifp h hc
                  refine lv_bipush (v := 100) hx hb dX12_owner_182 kb_100 ?_
                  refine lv_iload hx hb dX12_owner_184 (lv_at hl 0 rfl) ?_
                  refine lv_iload hx hb dX12_owner_186 (lv_at hl 9 rfl) ?_
                  obtain ⟨hne, h⟩ := dzI_s h
                  refine lv_idiv hx hb dX12_owner_188 hne ?_
                  refine lv_iadd hx hb dX12_owner_189 ?_
                  refine lv_goto hx hb dX12_owner_190 (tgt := 195) rfl ?_
                  simp only [Option.some.injEq, Prod.mk.injEq] at h
                  obtain ⟨rfl, rfl, rfl, rfl, rfl, rfl, rfl, rfl, rfl, rfl, rfl, rfl, rfl, rfl, rfl, rfl, rfl⟩ := h
                  exact rc_i hx hb hr hlocks hS dX12_owner_195 rfl hP
              · replace h := ifp h hc
                refine lv_bipush (v := 100) hx hb dX12_owner_165 kb_100 ?_
                refine lv_iload hx hb dX12_owner_167 (lv_at hl 1 rfl) ?_
                refine lv_iload hx hb dX12_owner_169 (lv_at hl 9 rfl) ?_
                obtain ⟨hne, h⟩ := dzI_s h
                refine lv_idiv hx hb dX12_owner_171 hne ?_
                refine lv_iadd hx hb dX12_owner_172 ?_
                refine lv_goto hx hb dX12_owner_173 (tgt := 195) rfl ?_
                simp only [Option.some.injEq, Prod.mk.injEq] at h
                obtain ⟨rfl, rfl, rfl, rfl, rfl, rfl, rfl, rfl, rfl, rfl, rfl, rfl, rfl, rfl, rfl, rfl, rfl⟩ := h
                exact rc_i hx hb hr hlocks hS dX12_owner_195 rfl hP
            · replace h := ifn h hc
              refine lv_goto hx hb dX12_owner_157 (tgt := 196) rfl ?_
              exact hJ196 _ _ _ v7 (lv_sub hl [4, 5, 6, 7, 8, 9, 10] rfl) hP hS h
        · replace h := ifp h hc
          refine lv_goto hx hb dX12_owner_86 (tgt := 196) rfl ?_
          exact hJ196 _ _ _ v7 (lv_sub hl [0, 1, 2, 3, 4, 5, 6] rfl) hP hS h
  refine lv_iload_n hx hb dX12_owner_0 rfl (lv_at hl 1 rfl) ?_
  obtain ⟨r_43, hr_44, h⟩ := bd1_s h
  refine sc_i hx hb hml hown hw hN (c_mo_isDrawer l v1 r_43 hr_44) g_RX12_135 hd_X12_isDrawer (rest := []) hl.1 hS dX12_owner_1 rfl rfl ⟨Nat.le_of_ble_eq_true rfl, Nat.le_of_ble_eq_true rfl⟩ rfl rfl (Nat.le_of_ble_eq_true rfl) ⟨Nat.zero_le _, Nat.zero_le _⟩ (fun H locs hk hS => ?_)
  have hP := mP_kept hP hk
  refine lv_if_eq hx hb dX12_owner_4 (tgt := 39) rfl (fun hc => ?_) (fun hc => ?_)
  · replace h := ifp h hc
    refine lv_iconst (v := (-1)) hx hb dX12_owner_39 ki_m1 ?_
    simp only [Option.some.injEq, Prod.mk.injEq] at h
    obtain ⟨rfl, rfl, rfl, rfl, rfl, rfl, rfl, rfl, rfl, rfl, rfl, rfl, rfl, rfl, rfl, rfl, rfl⟩ := h
    exact rc_i hx hb hr hlocks hS dX12_owner_40 rfl hP
  · replace h := ifn h hc
    refine lv_iload_n hx hb dX12_owner_7 rfl (lv_at hl 2 rfl) ?_
    refine lv_bipush (v := (-20)) hx hb dX12_owner_8 kb_m20 ?_
    refine lv_bipush (v := 20) hx hb dX12_owner_10 kb_20 ?_
    obtain ⟨r_45, hr_46, h⟩ := bd1_s h
    refine sc_i hx hb hml hown hw hN (c_mo_in l v2 (-20) 20 r_45 hr_46) g_RX12_82 hd_X12_in (rest := []) hl.1 hS dX12_owner_12 rfl rfl ⟨Nat.le_of_ble_eq_true rfl, Nat.le_of_ble_eq_true rfl⟩ rfl rfl (Nat.le_of_ble_eq_true rfl) ⟨Nat.zero_le _, Nat.zero_le _⟩ (fun H locs hk hS => ?_)
    have hP := mP_kept hP hk
    refine lv_if_eq hx hb dX12_owner_15 (tgt := 39) rfl (fun hc => ?_) (fun hc => ?_)
    · replace h := ifp h hc
      refine lv_iconst (v := (-1)) hx hb dX12_owner_39 ki_m1 ?_
      simp only [Option.some.injEq, Prod.mk.injEq] at h
      obtain ⟨rfl, rfl, rfl, rfl, rfl, rfl, rfl, rfl, rfl, rfl, rfl, rfl, rfl, rfl, rfl, rfl, rfl⟩ := h
      exact rc_i hx hb hr hlocks hS dX12_owner_40 rfl hP
    · replace h := ifn h hc
      refine lv_iload_n hx hb dX12_owner_18 rfl (lv_at hl 3 rfl) ?_
      refine lv_bipush (v := (-20)) hx hb dX12_owner_19 kb_m20 ?_
      refine lv_bipush (v := 20) hx hb dX12_owner_21 kb_20 ?_
      obtain ⟨r_47, hr_48, h⟩ := bd1_s h
      refine sc_i hx hb hml hown hw hN (c_mo_in l v3 (-20) 20 r_47 hr_48) g_RX12_82 hd_X12_in (rest := []) hl.1 hS dX12_owner_23 rfl rfl ⟨Nat.le_of_ble_eq_true rfl, Nat.le_of_ble_eq_true rfl⟩ rfl rfl (Nat.le_of_ble_eq_true rfl) ⟨Nat.zero_le _, Nat.zero_le _⟩ (fun H locs hk hS => ?_)
      have hP := mP_kept hP hk
      refine lv_if_eq hx hb dX12_owner_26 (tgt := 39) rfl (fun hc => ?_) (fun hc => ?_)
      · replace h := ifp h hc
        refine lv_iconst (v := (-1)) hx hb dX12_owner_39 ki_m1 ?_
        simp only [Option.some.injEq, Prod.mk.injEq] at h
        obtain ⟨rfl, rfl, rfl, rfl, rfl, rfl, rfl, rfl, rfl, rfl, rfl, rfl, rfl, rfl, rfl, rfl, rfl⟩ := h
        exact rc_i hx hb hr hlocks hS dX12_owner_40 rfl hP
      · replace h := ifn h hc
        refine lv_iload hx hb dX12_owner_29 (lv_at hl 4 rfl) ?_
        refine lv_iconst (v := 0) hx hb dX12_owner_31 ki_0 ?_
        refine lv_iconst (v := 2) hx hb dX12_owner_32 ki_2 ?_
        obtain ⟨r_49, hr_50, h⟩ := bd1_s h
        refine sc_i hx hb hml hown hw hN (c_mo_in l v4 0 2 r_49 hr_50) g_RX12_82 hd_X12_in (rest := []) hl.1 hS dX12_owner_33 rfl rfl ⟨Nat.le_of_ble_eq_true rfl, Nat.le_of_ble_eq_true rfl⟩ rfl rfl (Nat.le_of_ble_eq_true rfl) ⟨Nat.zero_le _, Nat.zero_le _⟩ (fun H locs hk hS => ?_)
        have hP := mP_kept hP hk
        refine lv_if_ne hx hb dX12_owner_36 (tgt := 41) rfl (fun hc => ?_) (fun hc => ?_)
        · replace h := ifn h hc
          refine lv_aload_n hx hb dX12_owner_41 rfl (lv_at hl 0 rfl) ?_
          refine lv_iload_n hx hb dX12_owner_42 rfl (lv_at hl 1 rfl) ?_
          obtain ⟨r_51, y_goes_52, y_sides_53, y_cuts_54, y_flat_55, y_cp_56, y_cA_57, y_cB_58, y_1X_59, y_1Y_60, y_2X_61, y_2Y_62, a_flood_63, a_going_64, a_letter_65, a_lineX_66, a_lineY_67, hr_68, h⟩ := bd17_s h
          refine hv_i hx hb hml hown hw mB_bl (mB_of hN hK hP) (mr_MO hK hP) (c_mo_laysMoves l D ct ad hI v1 r_51 y_goes_52 y_sides_53 y_cuts_54 y_flat_55 y_cp_56 y_cA_57 y_cB_58 y_1X_59 y_1Y_60 y_2X_61 y_2Y_62 a_flood_63 a_going_64 a_letter_65 a_lineX_66 a_lineY_67 hr_68) g_RX12_326 ⟨rfl, hd_X12_laysMoves⟩ (rest := []) hl.1 hS (fun q h => h) dX12_owner_43 rfl rfl ⟨Nat.le_of_ble_eq_true rfl, Nat.le_of_ble_eq_true rfl⟩ rfl rfl (Nat.le_of_ble_eq_true rfl) ⟨Nat.zero_le _, Nat.zero_le _⟩ (fun H locs hP _ hS => ?_)
          refine lv_istore hx hb dX12_owner_46 hl (Nat.le_of_ble_eq_true rfl) (lv' := [(5, .int r_51), (0, .ref (ad 0)), (1, .int v1), (2, .int v2), (3, .int v3), (4, .int v4)]) rfl (fun ls hl => ?_)
          refine lv_iload hx hb dX12_owner_48 (lv_at hl 0 rfl) ?_
          refine lv_if_ge hx hb dX12_owner_50 (tgt := 56) rfl (fun hc => ?_) (fun hc => ?_)
          · replace h := ifp h hc
            refine lv_aload_n hx hb dX12_owner_56 rfl (lv_at hl 1 rfl) ?_
            obtain ⟨r_69, hr_70, h⟩ := bd1_s h
            refine hv_i hx hb hml hown hw mB_bl (mB_of hN hK hP) (mr_MO hK hP) (c_mo_area l D ct ad hI r_69 hr_70) g_RX12_329 ⟨rfl, hd_X12_area⟩ (rest := []) hl.1 hS (fun q h => h) dX12_owner_57 rfl rfl ⟨Nat.le_of_ble_eq_true rfl, Nat.le_of_ble_eq_true rfl⟩ rfl rfl (Nat.le_of_ble_eq_true rfl) ⟨Nat.zero_le _, Nat.zero_le _⟩ (fun H locs hP _ hS => ?_)
            refine lv_istore hx hb dX12_owner_60 hl (Nat.le_of_ble_eq_true rfl) (lv' := [(6, .int r_69), (5, .int r_51), (0, .ref (ad 0)), (1, .int v1), (2, .int v2), (3, .int v3), (4, .int v4)]) rfl (fun ls hl => ?_)
            refine lv_iconst (v := 0) hx hb dX12_owner_62 ki_0 ?_
            refine lv_istore hx hb dX12_owner_63 hl (Nat.le_of_ble_eq_true rfl) (lv' := [(7, .int 0), (6, .int r_69), (5, .int r_51), (0, .ref (ad 0)), (1, .int v1), (2, .int v2), (3, .int v3), (4, .int v4)]) rfl (fun ls hl => ?_)
            exact hL65 v1 v2 v3 v4 r_69 y_goes_52 y_sides_53 y_cuts_54 y_flat_55 y_cp_56 y_cA_57 y_cB_58 y_1X_59 y_1Y_60 y_2X_61 y_2Y_62 a_drawer a_flood_63 a_going_64 a_letter_65 a_lineX_66 a_lineY_67 FU _ _ _ 0 (lv_sub hl [3, 4, 5, 6, 7, 1, 0] rfl) hP hS h
          · replace h := ifn h hc
            refine lv_iload hx hb dX12_owner_53 (lv_at hl 0 rfl) ?_
            simp only [Option.some.injEq, Prod.mk.injEq] at h
            obtain ⟨rfl, rfl, rfl, rfl, rfl, rfl, rfl, rfl, rfl, rfl, rfl, rfl, rfl, rfl, rfl, rfl, rfl⟩ := h
            exact rc_i hx hb hr hlocks hS dX12_owner_55 rfl hP
        · replace h := ifp h hc
          refine lv_iconst (v := (-1)) hx hb dX12_owner_39 ki_m1 ?_
          simp only [Option.some.injEq, Prod.mk.injEq] at h
          obtain ⟨rfl, rfl, rfl, rfl, rfl, rfl, rfl, rfl, rfl, rfl, rfl, rfl, rfl, rfl, rfl, rfl, rfl⟩ := h
          exact rc_i hx hb hr hlocks hS dX12_owner_40 rfl hP
