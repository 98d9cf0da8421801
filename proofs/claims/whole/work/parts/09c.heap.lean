noncomputable def mo_laysShrunk_J69 (k8 : Int64 → Int32 → (Nat → Int64) → Option (Int32 × (Nat → Int64))) (v1 : Int64) (v3 : Int32) (v4 : Int64) (y_kin : Int32) (a_mkin : Nat → Int64)  : Option (Int32 × (Nat → Int64)) :=
  nm (v4 &&& (v4 - 1) : Int64) fun v4_1 =>
  k8 v4_1 y_kin a_mkin
noncomputable def mo_laysShrunk_B8 (v1 : Int64) (v3 : Int32)  (k8 : Int64 → Int32 → (Nat → Int64) → Option (Int32 × (Nat → Int64))) (v4 : Int64) (y_kin : Int32) (a_mkin : Nat → Int64) : Option (Int32 × (Nat → Int64)) :=
  if v4 = 0 then (some (y_kin, a_mkin)) else
  nm (v1 &&& ((v4 &&& (-v4)) ^^^ (((-1) : Int64))) : Int64) fun v6_2 =>
  if v6_2 = 0 then (mo_laysShrunk_J69 k8 v1 v3 v4 y_kin a_mkin) else
  bd1 (mo_hangs v6_2) fun r_3 =>
  if r_3 = 0 then (mo_laysShrunk_J69 k8 v1 v3 v4 y_kin a_mkin) else
  bd1 (mo_moved v6_2) fun r_5 =>
  bd1 (mo_ownOf r_5 v3) fun r_7 =>
  bd2 (mo_comesIn_mkin 0 y_kin r_7 a_mkin) fun r_9 a_mkin_10 =>
  mo_laysShrunk_J69 k8 v1 v3 v4 r_9 a_mkin_10
noncomputable def mo_laysShrunk (v1 : Int64) (v3 : Int32) (y_kin : Int32) (a_mkin : Nat → Int64) : Option (Int32 × (Nat → Int64)) :=
  fl3 (mo_laysShrunk_B8 v1 v3) FU v1 0 a_mkin
set_option maxHeartbeats 4000000 in
set_option maxRecDepth 100000 in
theorem c_mo_laysShrunk (l : Launch) (D : va_G) (ct : Nat → ClassId) (ad : Nat → Nat) (hI : mI ad) {y_km y_tp y_goes y_kin y_qd y_sides y_cuts y_flat y_cp y_cA y_cB y_1X y_1Y y_2X y_2Y y_tm y_cells : Int32} {a_mtape a_flood a_going a_field a_from a_mcrowds a_steps a_queue a_letter a_lineX a_lineY a_triedAt a_cellAt a_besideIn a_apart : Nat → Int32} {a_drawer a_mkept a_listed a_mkin a_tried a_takenAt a_waysOf : Nat → Int64} (v1 : Int64) (v3 : Int32)  (z_y_kin : Int32) (z_a_mkin : Nat → Int64) (h : mo_laysShrunk v1 v3 y_kin a_mkin = some (z_y_kin, z_a_mkin)) : Met l yX12_laysShrunk (wm yX12_laysShrunk cX12_laysShrunk 8 none) (rmm 3 75) (va_Pc [.ref (ad 0), .long v1, .int v3] (mB D ct ad y_km y_tp y_goes y_kin y_qd y_sides y_cuts y_flat y_cp y_cA y_cB y_1X y_1Y y_2X y_2Y y_tm y_cells a_mtape a_flood a_going a_field a_from a_mcrowds a_steps a_queue a_letter a_lineX a_lineY a_triedAt a_cellAt a_besideIn a_apart a_drawer a_mkept a_listed a_mkin a_tried a_takenAt a_waysOf)) (va_Qv (fun (_ : Unit) => True) (fun _ t => mP D ct ad y_km y_tp y_goes z_y_kin y_qd y_sides y_cuts y_flat y_cp y_cA y_cB y_1X y_1Y y_2X y_2Y y_tm y_cells a_mtape a_flood a_going a_field a_from a_mcrowds a_steps a_queue a_letter a_lineX a_lineY a_triedAt a_cellAt a_besideIn a_apart a_drawer a_mkept a_listed z_a_mkin a_tried a_takenAt a_waysOf t.heap) (mA ad)) 0 0 (mA ad) := by
  refine met_s (y := yX12_laysShrunk) (rm := rmm 3 75) (by decide) (Nat.le_of_ble_eq_true rfl) ?_
  intro p e s m below meth c hx hb hr hw hown hlocks _ hml hB ls hl
  obtain ⟨hN, hK, hP⟩ := hB
  replace hl : lv_has ls 8 [(0, .ref (ad 0)), (1, .long v1), (3, .int v3)] := hl
  have hS : va_S (mA ad) s.heap s.heap [] := va_S.rf
  generalize (([.ref (ad 0), .long v1, .int v3] : List Value).toArray) = av at hw ⊢
  rw [mo_laysShrunk] at h
  have hL8 : ∀ (v1 : Int64), ∀ (v3 : Int32), ∀ (n8 : Nat) (H : Heap) (locs : List Loc) (ls : Array Slot) (v4 : Int64) (y_kin : Int32) (a_mkin : Nat → Int64), lv_has ls 8 [(0, .ref (ad 0)), (1, .long v1), (3, .int v3), (4, .long v4)] → mP D ct ad y_km y_tp y_goes y_kin y_qd y_sides y_cuts y_flat y_cp y_cA y_cB y_1X y_1Y y_2X y_2Y y_tm y_cells a_mtape a_flood a_going a_field a_from a_mcrowds a_steps a_queue a_letter a_lineX a_lineY a_triedAt a_cellAt a_besideIn a_apart a_drawer a_mkept a_listed a_mkin a_tried a_takenAt a_waysOf H → va_S (mA ad) s.heap H locs → fl3 (mo_laysShrunk_B8 v1 v3) n8 v4 y_kin a_mkin = some (z_y_kin, z_a_mkin) → W p l e (rmm 3 75) s m av below meth c H locs 0 0 (MQ below (va_Qv (fun (_ : Unit) => True) (fun _ t => mP D ct ad y_km y_tp y_goes z_y_kin y_qd y_sides y_cuts y_flat y_cp y_cA y_cB y_1X y_1Y y_2X y_2Y y_tm y_cells a_mtape a_flood a_going a_field a_from a_mcrowds a_steps a_queue a_letter a_lineX a_lineY a_triedAt a_cellAt a_besideIn a_apart a_drawer a_mkept a_listed z_a_mkin a_tried a_takenAt a_waysOf t.heap) (mA ad)) av s 0 0 (mA ad)) (F0 m 8 ls []) := by
    intro v1 v3 n8
    induction n8 with
    | zero => intro H locs ls v4 y_kin a_mkin hl hP hS h; cases h
    | succ n8 ih8 =>
      intro H locs ls v4 y_kin a_mkin hl hP hS h
      replace h : mo_laysShrunk_B8 v1 v3 (fl3 (mo_laysShrunk_B8 v1 v3) n8) v4 y_kin a_mkin = some (z_y_kin, z_a_mkin) := h
      generalize fl3 (mo_laysShrunk_B8 v1 v3) n8 = k8 at h ih8
      have hJ69 : ∀ (H : Heap) (locs : List Loc) (ls : Array Slot) (v4 : Int64) (y_kin : Int32) (a_mkin : Nat → Int64) , lv_has ls 8 [(0, .ref (ad 0)), (1, .long v1), (3, .int v3), (4, .long v4)] → mP D ct ad y_km y_tp y_goes y_kin y_qd y_sides y_cuts y_flat y_cp y_cA y_cB y_1X y_1Y y_2X y_2Y y_tm y_cells a_mtape a_flood a_going a_field a_from a_mcrowds a_steps a_queue a_letter a_lineX a_lineY a_triedAt a_cellAt a_besideIn a_apart a_drawer a_mkept a_listed a_mkin a_tried a_takenAt a_waysOf H → va_S (mA ad) s.heap H locs → mo_laysShrunk_J69 k8 v1 v3 v4 y_kin a_mkin = some (z_y_kin, z_a_mkin) → W p l e (rmm 3 75) s m av below meth c H locs 0 0 (MQ below (va_Qv (fun (_ : Unit) => True) (fun _ t => mP D ct ad y_km y_tp y_goes z_y_kin y_qd y_sides y_cuts y_flat y_cp y_cA y_cB y_1X y_1Y y_2X y_2Y y_tm y_cells a_mtape a_flood a_going a_field a_from a_mcrowds a_steps a_queue a_letter a_lineX a_lineY a_triedAt a_cellAt a_besideIn a_apart a_drawer a_mkept a_listed z_a_mkin a_tried a_takenAt a_waysOf t.heap) (mA ad)) av s 0 0 (mA ad)) (F0 m 69 ls []) := by
        intro H locs ls v4 y_kin a_mkin  hl hP hS h
        rw [mo_laysShrunk_J69] at h
        refine lv_lload hx hb dX12_laysShrunk_69 (lv_at hl 3 rfl) ?_
        refine lv_lload hx hb dX12_laysShrunk_71 (lv_at hl 3 rfl) ?_
        refine lv_lconst (v := 1) hx hb dX12_laysShrunk_73 kl_1 ?_
        refine lv_lsub hx hb dX12_laysShrunk_74 ?_
        refine lv_land hx hb dX12_laysShrunk_75 ?_
        obtain ⟨v4_12, ev4_12, h⟩ := nm_s h
        refine nmL ev4_12 ?_
        refine lv_lstore hx hb dX12_laysShrunk_76 hl (Nat.le_of_ble_eq_true rfl) (lv' := [(4, .long v4_12), (0, .ref (ad 0)), (1, .long v1), (3, .int v3)]) rfl (fun ls hl => ?_)
        refine lv_goto hx hb dX12_laysShrunk_78 (tgt := 8) rfl ?_
        exact ih8 _ _ _ v4_12 y_kin a_mkin (lv_sub hl [1, 2, 3, 0] rfl) hP hS h
      rw [mo_laysShrunk_B8] at h
      refine lv_lload hx hb dX12_laysShrunk_8 (lv_at hl 3 rfl) ?_
      refine lv_lconst (v := 0) hx hb dX12_laysShrunk_10 kl_0 ?_
      refine W.lcmp hx hb dX12_laysShrunk_11 ?_
      refine lv_if_eq hx hb dX12_laysShrunk_12 (tgt := 81) rfl (fun hc => ?_) (fun hc => ?_)
      · replace h := ifp h ((lg_cmp_eq _ _).mp hc)
        simp only [Option.some.injEq, Prod.mk.injEq] at h
        obtain ⟨rfl, rfl⟩ := h
        exact rc_v hx hb hr hlocks hS dX12_laysShrunk_81 hP
      · replace h := ifn h (fun q => hc ((lg_cmp_eq _ _).mpr q))
        refine lv_lload_n hx hb dX12_laysShrunk_15 rfl (lv_at hl 1 rfl) ?_
        refine lv_lload hx hb dX12_laysShrunk_16 (lv_at hl 3 rfl) ?_
        refine lv_lload hx hb dX12_laysShrunk_18 (lv_at hl 3 rfl) ?_
        refine lv_lneg hx hb dX12_laysShrunk_20 ?_
        refine lv_land hx hb dX12_laysShrunk_21 ?_
        refine lv_ldc2 hx hb hown (hw _ tw_12_20) dX12_laysShrunk_22 ?_
        refine lv_lxor hx hb dX12_laysShrunk_25 ?_
        refine lv_land hx hb dX12_laysShrunk_26 ?_
        obtain ⟨v6_13, ev6_13, h⟩ := nm_s h
        refine nmL ev6_13 ?_
        refine lv_lstore hx hb dX12_laysShrunk_27 hl (Nat.le_of_ble_eq_true rfl) (lv' := [(6, .long v6_13), (0, .ref (ad 0)), (1, .long v1), (3, .int v3), (4, .long v4)]) rfl (fun ls hl => ?_)
        refine lv_lload hx hb dX12_laysShrunk_29 (lv_at hl 0 rfl) ?_
        refine lv_lconst (v := 0) hx hb dX12_laysShrunk_31 kl_0 ?_
        refine W.lcmp hx hb dX12_laysShrunk_32 ?_
        refine lv_if_eq hx hb dX12_laysShrunk_33 (tgt := 69) rfl (fun hc => ?_) (fun hc => ?_)
        · replace h := ifp h ((lg_cmp_eq _ _).mp hc)
          exact hJ69 _ _ _ v4 y_kin a_mkin (lv_sub hl [1, 2, 3, 4] rfl) hP hS h
        · replace h := ifn h (fun q => hc ((lg_cmp_eq _ _).mpr q))
          refine lv_lload hx hb dX12_laysShrunk_36 (lv_at hl 0 rfl) ?_
          obtain ⟨r_14, hr_15, h⟩ := bd1_s h
          refine sc_i hx hb hml hown hw hN (c_mo_hangs l v6_13 r_14 hr_15) g_RX12_110 hd_X12_hangs (rest := []) hl.1 hS dX12_laysShrunk_38 rfl rfl ⟨Nat.le_of_ble_eq_true rfl, Nat.le_of_ble_eq_true rfl⟩ rfl rfl (Nat.le_of_ble_eq_true rfl) ⟨Nat.zero_le _, Nat.zero_le _⟩ (fun H locs hk hS => ?_)
          have hP := mP_kept hP hk
          refine lv_if_eq hx hb dX12_laysShrunk_41 (tgt := 69) rfl (fun hc => ?_) (fun hc => ?_)
          · replace h := ifp h hc
            exact hJ69 _ _ _ v4 y_kin a_mkin (lv_sub hl [1, 2, 3, 4] rfl) hP hS h
          · replace h := ifn h hc
            refine lv_aload_n hx hb dX12_laysShrunk_44 rfl (lv_at hl 1 rfl) ?_
            refine lv_aload_n hx hb dX12_laysShrunk_45 rfl (lv_at hl 1 rfl) ?_
            refine mg_MO_10 hx hb hw hown hK hP dX12_laysShrunk_46 ?_
            refine lv_iconst (v := 0) hx hb dX12_laysShrunk_49 ki_0 ?_
            refine lv_aload_n hx hb dX12_laysShrunk_50 rfl (lv_at hl 1 rfl) ?_
            refine mg_MO_12 hx hb hw hown hK hP dX12_laysShrunk_51 ?_
            refine lv_lload hx hb dX12_laysShrunk_54 (lv_at hl 0 rfl) ?_
            obtain ⟨r_16, hr_17, h⟩ := bd1_s h
            refine sc_l hx hb hml hown hw hN (c_mo_moved l v6_13 r_16 hr_17) g_RX12_114 hd_X12_moved (rest := [.int y_kin, .int 0, .ref (ad 8), .ref (ad 0)]) hl.1 hS dX12_laysShrunk_56 rfl rfl ⟨Nat.le_of_ble_eq_true rfl, Nat.le_of_ble_eq_true rfl⟩ rfl rfl (Nat.le_of_ble_eq_true rfl) ⟨Nat.zero_le _, Nat.zero_le _⟩ (fun H locs hk hS => ?_)
            have hP := mP_kept hP hk
            refine lv_iload_n hx hb dX12_laysShrunk_59 rfl (lv_at hl 3 rfl) ?_
            obtain ⟨r_18, hr_19, h⟩ := bd1_s h
            refine sc_l hx hb hml hown hw hN (c_mo_ownOf l r_16 v3 r_18 hr_19) g_RX12_199 hd_X12_ownOf (rest := [.int y_kin, .int 0, .ref (ad 8), .ref (ad 0)]) hl.1 hS dX12_laysShrunk_60 rfl rfl ⟨Nat.le_of_ble_eq_true rfl, Nat.le_of_ble_eq_true rfl⟩ rfl rfl (Nat.le_of_ble_eq_true rfl) ⟨Nat.zero_le _, Nat.zero_le _⟩ (fun H locs hk hS => ?_)
            have hP := mP_kept hP hk
            obtain ⟨r_20, a_mkin_21, hr_22, h⟩ := bd2_s h
            refine hs_i hx hb hml hown hw mB_bl (mB_of hN hK hP) (c_mo_comesIn_mkin l D ct ad hI 0 y_kin r_18 r_20 a_mkin_21 hr_22) g_RX12_232 hd_X12_comesIn (rest := [.ref (ad 0)]) hl.1 hS (fun q h => h) dX12_laysShrunk_63 rfl rfl ⟨Nat.le_of_ble_eq_true rfl, Nat.le_of_ble_eq_true rfl⟩ rfl rfl (Nat.le_of_ble_eq_true rfl) ⟨Nat.zero_le _, Nat.zero_le _⟩ (fun H locs hP _ hS => ?_)
            refine mp_MO_12 hx hb hw hown hK hP hI hS dX12_laysShrunk_66 (fun H locs hP hS => ?_)
            exact hJ69 _ _ _ v4 r_20 a_mkin_21 (lv_sub hl [1, 2, 3, 4] rfl) hP hS h
  refine lv_aload_n hx hb dX12_laysShrunk_0 rfl (lv_at hl 0 rfl) ?_
  refine lv_iconst (v := 0) hx hb dX12_laysShrunk_1 ki_0 ?_
  refine mp_MO_12 hx hb hw hown hK hP hI hS dX12_laysShrunk_2 (fun H locs hP hS => ?_)
  refine lv_lload_n hx hb dX12_laysShrunk_5 rfl (lv_at hl 1 rfl) ?_
  refine lv_lstore hx hb dX12_laysShrunk_6 hl (Nat.le_of_ble_eq_true rfl) (lv' := [(4, .long v1), (0, .ref (ad 0)), (1, .long v1), (3, .int v3)]) rfl (fun ls hl => ?_)
  exact hL8 v1 v3 FU _ _ _ v1 0 a_mkin (lv_sub hl [1, 2, 3, 0] rfl) hP hS h
noncomputable def mo_isList (v1 : Int32) (v2 : Int32) : Option (Int32) :=
  bd1 (mo_in v1 1 7) fun r_1 =>
  if r_1 = 0 then (zb 0 (some (0))) else
  bd1 (mo_isKind v2) fun r_3 =>
  if r_3 = 0 then (zb 0 (some (0))) else
  zb 1 (some (1))
set_option maxHeartbeats 4000000 in
set_option maxRecDepth 100000 in
theorem c_mo_isList (l : Launch) (D : va_G) (ct : Nat → ClassId) (ad : Nat → Nat) (hI : mI ad) {y_km y_tp y_goes y_kin y_qd y_sides y_cuts y_flat y_cp y_cA y_cB y_1X y_1Y y_2X y_2Y y_tm y_cells : Int32} {a_mtape a_flood a_going a_field a_from a_mcrowds a_steps a_queue a_letter a_lineX a_lineY a_triedAt a_cellAt a_besideIn a_apart : Nat → Int32} {a_drawer a_mkept a_listed a_mkin a_tried a_takenAt a_waysOf : Nat → Int64} (v1 : Int32) (v2 : Int32) (r : Int32)  (h : mo_isList v1 v2 = some (r)) : Met l yX12_isList (wm yX12_isList cX12_isList 3 (some .boolean)) (rmm 2 42) (va_Pc [.ref (ad 0), .int v1, .int v2] (mB D ct ad y_km y_tp y_goes y_kin y_qd y_sides y_cuts y_flat y_cp y_cA y_cB y_1X y_1Y y_2X y_2Y y_tm y_cells a_mtape a_flood a_going a_field a_from a_mcrowds a_steps a_queue a_letter a_lineX a_lineY a_triedAt a_cellAt a_besideIn a_apart a_drawer a_mkept a_listed a_mkin a_tried a_takenAt a_waysOf)) (va_Qi (fun z (_ : Unit) => z = r) (fun _ t => mP D ct ad y_km y_tp y_goes y_kin y_qd y_sides y_cuts y_flat y_cp y_cA y_cB y_1X y_1Y y_2X y_2Y y_tm y_cells a_mtape a_flood a_going a_field a_from a_mcrowds a_steps a_queue a_letter a_lineX a_lineY a_triedAt a_cellAt a_besideIn a_apart a_drawer a_mkept a_listed a_mkin a_tried a_takenAt a_waysOf t.heap) (mA ad)) 0 0 (mA ad) := by
  refine met_s (y := yX12_isList) (rm := rmm 2 42) (by decide) (Nat.le_of_ble_eq_true rfl) ?_
  intro p e s m below meth c hx hb hr hw hown hlocks _ hml hB ls hl
  obtain ⟨hN, hK, hP⟩ := hB
  replace hl : lv_has ls 3 [(0, .ref (ad 0)), (1, .int v1), (2, .int v2)] := hl
  have hS : va_S (mA ad) s.heap s.heap [] := va_S.rf
  generalize (([.ref (ad 0), .int v1, .int v2] : List Value).toArray) = av at hw ⊢
  rw [mo_isList] at h
  refine lv_iload_n hx hb dX12_isList_0 rfl (lv_at hl 1 rfl) ?_
  refine lv_iconst (v := 1) hx hb dX12_isList_1 ki_1 ?_
  refine lv_bipush (v := 7) hx hb dX12_isList_2 kb_7 ?_
  obtain ⟨r_5, hr_6, h⟩ := bd1_s h
  refine sc_i hx hb hml hown hw hN (c_mo_in l v1 1 7 r_5 hr_6) g_RX12_82 hd_X12_in (rest := []) hl.1 hS dX12_isList_4 rfl rfl ⟨Nat.le_of_ble_eq_true rfl, Nat.le_of_ble_eq_true rfl⟩ rfl rfl (Nat.le_of_ble_eq_true rfl) ⟨Nat.zero_le _, Nat.zero_le _⟩ (fun H locs hk hS => ?_)
  have hP := mP_kept hP hk
  refine lv_if_eq hx hb dX12_isList_7 (tgt := 21) rfl (fun hc => ?_) (fun hc => ?_)
  · replace h := ifp h hc
    refine lv_iconst (v := 0) hx hb dX12_isList_21 ki_0 ?_
    obtain ⟨hz, h⟩ := zb_s h
    replace h := Option.some.inj h
    subst h
    exact rc_z hx hb hr hlocks hS dX12_isList_22 hz rfl hP
  · replace h := ifn h hc
    refine lv_iload_n hx hb dX12_isList_10 rfl (lv_at hl 2 rfl) ?_
    obtain ⟨r_7, hr_8, h⟩ := bd1_s h
    refine sc_i hx hb hml hown hw hN (c_mo_isKind l v2 r_7 hr_8) g_RX12_194 hd_X12_isKind (rest := []) hl.1 hS dX12_isList_11 rfl rfl ⟨Nat.le_of_ble_eq_true rfl, Nat.le_of_ble_eq_true rfl⟩ rfl rfl (Nat.le_of_ble_eq_true rfl) ⟨Nat.zero_le _, Nat.zero_le _⟩ (fun H locs hk hS => ?_)
    have hP := mP_kept hP hk
    refine lv_if_eq hx hb dX12_isList_14 (tgt := 21) rfl (fun hc => ?_) (fun hc => ?_)
    · replace h := ifp h hc
      refine lv_iconst (v := 0) hx hb dX12_isList_21 ki_0 ?_
      obtain ⟨hz, h⟩ := zb_s h
      replace h := Option.some.inj h
      subst h
      exact rc_z hx hb hr hlocks hS dX12_isList_22 hz rfl hP
    · replace h := ifn h hc
      refine lv_iconst (v := 1) hx hb dX12_isList_17 ki_1 ?_
      refine lv_goto hx hb dX12_isList_18 (tgt := 22) rfl ?_
      obtain ⟨hz, h⟩ := zb_s h
      replace h := Option.some.inj h
      subst h
      exact rc_z hx hb hr hlocks hS dX12_isList_22 hz rfl hP
noncomputable def mo_begin (v1 : Int32) (v2 : Int32) (a_from : Nat → Int32) : Option (Int32) :=
  nm ((3 * (v1 - 1)) + v2 : Int32) fun i_1 =>
  ck i_1 25 <|
  some (a_from i_1.toNatClampNeg)
set_option maxHeartbeats 4000000 in
set_option maxRecDepth 100000 in
theorem c_mo_begin (l : Launch) (D : va_G) (ct : Nat → ClassId) (ad : Nat → Nat) (hI : mI ad) {y_km y_tp y_goes y_kin y_qd y_sides y_cuts y_flat y_cp y_cA y_cB y_1X y_1Y y_2X y_2Y y_tm y_cells : Int32} {a_mtape a_flood a_going a_field a_from a_mcrowds a_steps a_queue a_letter a_lineX a_lineY a_triedAt a_cellAt a_besideIn a_apart : Nat → Int32} {a_drawer a_mkept a_listed a_mkin a_tried a_takenAt a_waysOf : Nat → Int64} (v1 : Int32) (v2 : Int32) (r : Int32)  (h : mo_begin v1 v2 a_from = some (r)) : Met l yX12_begin (wm yX12_begin cX12_begin 3 (some .int)) (rmm 0 0) (va_Pc [.ref (ad 0), .int v1, .int v2] (mB D ct ad y_km y_tp y_goes y_kin y_qd y_sides y_cuts y_flat y_cp y_cA y_cB y_1X y_1Y y_2X y_2Y y_tm y_cells a_mtape a_flood a_going a_field a_from a_mcrowds a_steps a_queue a_letter a_lineX a_lineY a_triedAt a_cellAt a_besideIn a_apart a_drawer a_mkept a_listed a_mkin a_tried a_takenAt a_waysOf)) (va_Qi (fun z (_ : Unit) => z = r) (fun _ t => mP D ct ad y_km y_tp y_goes y_kin y_qd y_sides y_cuts y_flat y_cp y_cA y_cB y_1X y_1Y y_2X y_2Y y_tm y_cells a_mtape a_flood a_going a_field a_from a_mcrowds a_steps a_queue a_letter a_lineX a_lineY a_triedAt a_cellAt a_besideIn a_apart a_drawer a_mkept a_listed a_mkin a_tried a_takenAt a_waysOf t.heap) (mA ad)) 0 0 (mA ad) := by
  refine met_s (y := yX12_begin) (rm := rmm 0 0) (by decide) (Nat.le_of_ble_eq_true rfl) ?_
  intro p e s m below meth c hx hb hr hw hown hlocks _ hml hB ls hl
  obtain ⟨hN, hK, hP⟩ := hB
  replace hl : lv_has ls 3 [(0, .ref (ad 0)), (1, .int v1), (2, .int v2)] := hl
  have hS : va_S (mA ad) s.heap s.heap [] := va_S.rf
  generalize (([.ref (ad 0), .int v1, .int v2] : List Value).toArray) = av at hw ⊢
  rw [mo_begin] at h
  refine lv_aload_n hx hb dX12_begin_0 rfl (lv_at hl 0 rfl) ?_
  refine mg_MO_11 hx hb hw hown hK hP dX12_begin_1 ?_
  refine lv_iconst (v := 3) hx hb dX12_begin_4 ki_3 ?_
  refine lv_iload_n hx hb dX12_begin_5 rfl (lv_at hl 1 rfl) ?_
  refine lv_iconst (v := 1) hx hb dX12_begin_6 ki_1 ?_
  refine lv_isub hx hb dX12_begin_7 ?_
  refine lv_imul hx hb dX12_begin_8 ?_
  refine lv_iload_n hx hb dX12_begin_9 rfl (lv_at hl 2 rfl) ?_
  refine lv_iadd hx hb dX12_begin_10 ?_
  obtain ⟨i_2, ei_2, h⟩ := nm_s h
  refine nmI ei_2 ?_
  obtain ⟨hin, h⟩ := ck_s h
  refine md_from hx hb hK hP hin dX12_begin_11 ?_
  replace h := Option.some.inj h
  subst h
  exact rc_i hx hb hr hlocks hS dX12_begin_12 rfl hP
noncomputable def mo_end (v1 : Int32) (v2 : Int32) (a_from : Nat → Int32) : Option (Int32) :=
  nm (((3 * (v1 - 1)) + v2) + 1 : Int32) fun i_1 =>
  ck i_1 25 <|
  some (a_from i_1.toNatClampNeg)
set_option maxHeartbeats 4000000 in
set_option maxRecDepth 100000 in
theorem c_mo_end (l : Launch) (D : va_G) (ct : Nat → ClassId) (ad : Nat → Nat) (hI : mI ad) {y_km y_tp y_goes y_kin y_qd y_sides y_cuts y_flat y_cp y_cA y_cB y_1X y_1Y y_2X y_2Y y_tm y_cells : Int32} {a_mtape a_flood a_going a_field a_from a_mcrowds a_steps a_queue a_letter a_lineX a_lineY a_triedAt a_cellAt a_besideIn a_apart : Nat → Int32} {a_drawer a_mkept a_listed a_mkin a_tried a_takenAt a_waysOf : Nat → Int64} (v1 : Int32) (v2 : Int32) (r : Int32)  (h : mo_end v1 v2 a_from = some (r)) : Met l yX12_end (wm yX12_end cX12_end 3 (some .int)) (rmm 0 0) (va_Pc [.ref (ad 0), .int v1, .int v2] (mB D ct ad y_km y_tp y_goes y_kin y_qd y_sides y_cuts y_flat y_cp y_cA y_cB y_1X y_1Y y_2X y_2Y y_tm y_cells a_mtape a_flood a_going a_field a_from a_mcrowds a_steps a_queue a_letter a_lineX a_lineY a_triedAt a_cellAt a_besideIn a_apart a_drawer a_mkept a_listed a_mkin a_tried a_takenAt a_waysOf)) (va_Qi (fun z (_ : Unit) => z = r) (fun _ t => mP D ct ad y_km y_tp y_goes y_kin y_qd y_sides y_cuts y_flat y_cp y_cA y_cB y_1X y_1Y y_2X y_2Y y_tm y_cells a_mtape a_flood a_going a_field a_from a_mcrowds a_steps a_queue a_letter a_lineX a_lineY a_triedAt a_cellAt a_besideIn a_apart a_drawer a_mkept a_listed a_mkin a_tried a_takenAt a_waysOf t.heap) (mA ad)) 0 0 (mA ad) := by
  refine met_s (y := yX12_end) (rm := rmm 0 0) (by decide) (Nat.le_of_ble_eq_true rfl) ?_
  intro p e s m below meth c hx hb hr hw hown hlocks _ hml hB ls hl
  obtain ⟨hN, hK, hP⟩ := hB
  replace hl : lv_has ls 3 [(0, .ref (ad 0)), (1, .int v1), (2, .int v2)] := hl
  have hS : va_S (mA ad) s.heap s.heap [] := va_S.rf
  generalize (([.ref (ad 0), .int v1, .int v2] : List Value).toArray) = av at hw ⊢
  rw [mo_end] at h
  refine lv_aload_n hx hb dX12_end_0 rfl (lv_at hl 0 rfl) ?_
  refine mg_MO_11 hx hb hw hown hK hP dX12_end_1 ?_
  refine lv_iconst (v := 3) hx hb dX12_end_4 ki_3 ?_
  refine lv_iload_n hx hb dX12_end_5 rfl (lv_at hl 1 rfl) ?_
  refine lv_iconst (v := 1) hx hb dX12_end_6 ki_1 ?_
  refine lv_isub hx hb dX12_end_7 ?_
  refine lv_imul hx hb dX12_end_8 ?_
  refine lv_iload_n hx hb dX12_end_9 rfl (lv_at hl 2 rfl) ?_
  refine lv_iadd hx hb dX12_end_10 ?_
  refine lv_iconst (v := 1) hx hb dX12_end_11 ki_1 ?_
  refine lv_iadd hx hb dX12_end_12 ?_
  obtain ⟨i_2, ei_2, h⟩ := nm_s h
  refine nmI ei_2 ?_
  obtain ⟨hin, h⟩ := ck_s h
  refine md_from hx hb hK hP hin dX12_end_13 ?_
  replace h := Option.some.inj h
  subst h
  exact rc_i hx hb hr hlocks hS dX12_end_14 rfl hP
noncomputable def mo_list (v1 : Int32) (v2 : Int32) (a_from : Nat → Int32) : Option (Int32) :=
  bd1 (mo_isList v1 v2) fun r_1 =>
  if r_1 = 0 then (some ((-1))) else
  bd1 (mo_end v1 v2 a_from) fun r_3 =>
  bd1 (mo_begin v1 v2 a_from) fun r_5 =>
  some (r_3 - r_5)
set_option maxHeartbeats 4000000 in
set_option maxRecDepth 100000 in
theorem c_mo_list (l : Launch) (D : va_G) (ct : Nat → ClassId) (ad : Nat → Nat) (hI : mI ad) {y_km y_tp y_goes y_kin y_qd y_sides y_cuts y_flat y_cp y_cA y_cB y_1X y_1Y y_2X y_2Y y_tm y_cells : Int32} {a_mtape a_flood a_going a_field a_from a_mcrowds a_steps a_queue a_letter a_lineX a_lineY a_triedAt a_cellAt a_besideIn a_apart : Nat → Int32} {a_drawer a_mkept a_listed a_mkin a_tried a_takenAt a_waysOf : Nat → Int64} (v1 : Int32) (v2 : Int32) (r : Int32)  (h : mo_list v1 v2 a_from = some (r)) : Met l yX12_list (wm yX12_list cX12_list 3 (some .int)) (rmm 3 64) (va_Pc [.ref (ad 0), .int v1, .int v2] (mB D ct ad y_km y_tp y_goes y_kin y_qd y_sides y_cuts y_flat y_cp y_cA y_cB y_1X y_1Y y_2X y_2Y y_tm y_cells a_mtape a_flood a_going a_field a_from a_mcrowds a_steps a_queue a_letter a_lineX a_lineY a_triedAt a_cellAt a_besideIn a_apart a_drawer a_mkept a_listed a_mkin a_tried a_takenAt a_waysOf)) (va_Qi (fun z (_ : Unit) => z = r) (fun _ t => mP D ct ad y_km y_tp y_goes y_kin y_qd y_sides y_cuts y_flat y_cp y_cA y_cB y_1X y_1Y y_2X y_2Y y_tm y_cells a_mtape a_flood a_going a_field a_from a_mcrowds a_steps a_queue a_letter a_lineX a_lineY a_triedAt a_cellAt a_besideIn a_apart a_drawer a_mkept a_listed a_mkin a_tried a_takenAt a_waysOf t.heap) (mA ad)) 0 0 (mA ad) := by
  refine met_s (y := yX12_list) (rm := rmm 3 64) (by decide) (Nat.le_of_ble_eq_true rfl) ?_
  intro p e s m below meth c hx hb hr hw hown hlocks _ hml hB ls hl
  obtain ⟨hN, hK, hP⟩ := hB
  replace hl : lv_has ls 3 [(0, .ref (ad 0)), (1, .int v1), (2, .int v2)] := hl
  have hS : va_S (mA ad) s.heap s.heap [] := va_S.rf
  generalize (([.ref (ad 0), .int v1, .int v2] : List Value).toArray) = av at hw ⊢
  rw [mo_list] at h
  refine lv_aload_n hx hb dX12_list_0 rfl (lv_at hl 0 rfl) ?_
  refine lv_iload_n hx hb dX12_list_1 rfl (lv_at hl 1 rfl) ?_
  refine lv_iload_n hx hb dX12_list_2 rfl (lv_at hl 2 rfl) ?_
  obtain ⟨r_7, hr_8, h⟩ := bd1_s h
  refine hv_i hx hb hml hown hw mB_bl (mB_of hN hK hP) (mr_MO hK hP) (c_mo_isList l D ct ad hI v1 v2 r_7 hr_8) g_RX12_236 ⟨rfl, hd_X12_isList⟩ (rest := []) hl.1 hS (fun q h => h) dX12_list_3 rfl rfl ⟨Nat.le_of_ble_eq_true rfl, Nat.le_of_ble_eq_true rfl⟩ rfl rfl (Nat.le_of_ble_eq_true rfl) ⟨Nat.zero_le _, Nat.zero_le _⟩ (fun H locs hP _ hS => ?_)
  refine lv_if_eq hx hb dX12_list_6 (tgt := 25) rfl (fun hc => ?_) (fun hc => ?_)
  · replace h := ifp h hc
    refine lv_iconst (v := (-1)) hx hb dX12_list_25 ki_m1 ?_
    replace h := Option.some.inj h
    subst h
    exact rc_i hx hb hr hlocks hS dX12_list_26 rfl hP
  · replace h := ifn h hc
    refine lv_aload_n hx hb dX12_list_9 rfl (lv_at hl 0 rfl) ?_
    refine lv_iload_n hx hb dX12_list_10 rfl (lv_at hl 1 rfl) ?_
    refine lv_iload_n hx hb dX12_list_11 rfl (lv_at hl 2 rfl) ?_
    obtain ⟨r_9, hr_10, h⟩ := bd1_s h
    refine hv_i hx hb hml hown hw mB_bl (mB_of hN hK hP) (mr_MO hK hP) (c_mo_end l D ct ad hI v1 v2 r_9 hr_10) g_RX12_240 ⟨rfl, hd_X12_end⟩ (rest := []) hl.1 hS (fun q h => h) dX12_list_12 rfl rfl ⟨Nat.le_of_ble_eq_true rfl, Nat.le_of_ble_eq_true rfl⟩ rfl rfl (Nat.le_of_ble_eq_true rfl) ⟨Nat.zero_le _, Nat.zero_le _⟩ (fun H locs hP _ hS => ?_)
    refine lv_aload_n hx hb dX12_list_15 rfl (lv_at hl 0 rfl) ?_
    refine lv_iload_n hx hb dX12_list_16 rfl (lv_at hl 1 rfl) ?_
    refine lv_iload_n hx hb dX12_list_17 rfl (lv_at hl 2 rfl) ?_
    obtain ⟨r_11, hr_12, h⟩ := bd1_s h
    refine hv_i hx hb hml hown hw mB_bl (mB_of hN hK hP) (mr_MO hK hP) (c_mo_begin l D ct ad hI v1 v2 r_11 hr_12) g_RX12_244 ⟨rfl, hd_X12_begin⟩ (rest := [.int r_9]) hl.1 hS (fun q h => h) dX12_list_18 rfl rfl ⟨Nat.le_of_ble_eq_true rfl, Nat.le_of_ble_eq_true rfl⟩ rfl rfl (Nat.le_of_ble_eq_true rfl) ⟨Nat.zero_le _, Nat.zero_le _⟩ (fun H locs hP _ hS => ?_)
    refine lv_isub hx hb dX12_list_21 ?_
    refine lv_goto hx hb dX12_list_22 (tgt := 26) rfl ?_
    replace h := Option.some.inj h
    subst h
    exact rc_i hx hb hr hlocks hS dX12_list_26 rfl hP
noncomputable def mo_listed (v1 : Int32) (v2 : Int32) (v3 : Int32) (a_listed : Nat → Int64) (a_from : Nat → Int32) : Option (Int64) :=
  bd1 (mo_isList v1 v2) fun r_1 =>
  if r_1 = 0 then (some (((-1) : Int64))) else
  if 0 ≤ v3 then (bd1 (mo_end v1 v2 a_from) fun r_3 =>
  bd1 (mo_begin v1 v2 a_from) fun r_5 =>
  if (r_3 - r_5) ≤ v3 then (some (((-2) : Int64))) else
  bd1 (mo_begin v1 v2 a_from) fun r_7 =>
  nm (r_7 + v3 : Int32) fun i_9 =>
  ck i_9 1600 <|
  some (a_listed i_9.toNatClampNeg)) else
  some (((-1) : Int64))
set_option maxHeartbeats 4000000 in
set_option maxRecDepth 100000 in
theorem c_mo_listed (l : Launch) (D : va_G) (ct : Nat → ClassId) (ad : Nat → Nat) (hI : mI ad) {y_km y_tp y_goes y_kin y_qd y_sides y_cuts y_flat y_cp y_cA y_cB y_1X y_1Y y_2X y_2Y y_tm y_cells : Int32} {a_mtape a_flood a_going a_field a_from a_mcrowds a_steps a_queue a_letter a_lineX a_lineY a_triedAt a_cellAt a_besideIn a_apart : Nat → Int32} {a_drawer a_mkept a_listed a_mkin a_tried a_takenAt a_waysOf : Nat → Int64} (v1 : Int32) (v2 : Int32) (v3 : Int32) (r : Int64)  (h : mo_listed v1 v2 v3 a_listed a_from = some (r)) : Met l yX12_listed (wm yX12_listed cX12_listed 4 (some .long)) (rmm 3 64) (va_Pc [.ref (ad 0), .int v1, .int v2, .int v3] (mB D ct ad y_km y_tp y_goes y_kin y_qd y_sides y_cuts y_flat y_cp y_cA y_cB y_1X y_1Y y_2X y_2Y y_tm y_cells a_mtape a_flood a_going a_field a_from a_mcrowds a_steps a_queue a_letter a_lineX a_lineY a_triedAt a_cellAt a_besideIn a_apart a_drawer a_mkept a_listed a_mkin a_tried a_takenAt a_waysOf)) (va_Ql (fun z (_ : Unit) => z = r) (fun _ t => mP D ct ad y_km y_tp y_goes y_kin y_qd y_sides y_cuts y_flat y_cp y_cA y_cB y_1X y_1Y y_2X y_2Y y_tm y_cells a_mtape a_flood a_going a_field a_from a_mcrowds a_steps a_queue a_letter a_lineX a_lineY a_triedAt a_cellAt a_besideIn a_apart a_drawer a_mkept a_listed a_mkin a_tried a_takenAt a_waysOf t.heap) (mA ad)) 0 0 (mA ad) := by
  refine met_s (y := yX12_listed) (rm := rmm 3 64) (by decide) (Nat.le_of_ble_eq_true rfl) ?_
  intro p e s m below meth c hx hb hr hw hown hlocks _ hml hB ls hl
  obtain ⟨hN, hK, hP⟩ := hB
  replace hl : lv_has ls 4 [(0, .ref (ad 0)), (1, .int v1), (2, .int v2), (3, .int v3)] := hl
  have hS : va_S (mA ad) s.heap s.heap [] := va_S.rf
  generalize (([.ref (ad 0), .int v1, .int v2, .int v3] : List Value).toArray) = av at hw ⊢
  rw [mo_listed] at h
  refine lv_aload_n hx hb dX12_listed_0 rfl (lv_at hl 0 rfl) ?_
  refine lv_iload_n hx hb dX12_listed_1 rfl (lv_at hl 1 rfl) ?_
  refine lv_iload_n hx hb dX12_listed_2 rfl (lv_at hl 2 rfl) ?_
  obtain ⟨r_10, hr_11, h⟩ := bd1_s h
  refine hv_i hx hb hml hown hw mB_bl (mB_of hN hK hP) (mr_MO hK hP) (c_mo_isList l D ct ad hI v1 v2 r_10 hr_11) g_RX12_236 ⟨rfl, hd_X12_isList⟩ (rest := []) hl.1 hS (fun q h => h) dX12_listed_3 rfl rfl ⟨Nat.le_of_ble_eq_true rfl, Nat.le_of_ble_eq_true rfl⟩ rfl rfl (Nat.le_of_ble_eq_true rfl) ⟨Nat.zero_le _, Nat.zero_le _⟩ (fun H locs hP _ hS => ?_)
  refine lv_if_eq hx hb dX12_listed_6 (tgt := 13) rfl (fun hc => ?_) (fun hc => ?_)
  · replace h := ifp h hc
    refine lv_ldc2 hx hb hown (hw _ tw_12_20) dX12_listed_13 ?_
    replace h := Option.some.inj h
    subst h
    exact rc_l hx hb hr hlocks hS dX12_listed_16 rfl hP
  · replace h := ifn h hc
    refine lv_iload_n hx hb dX12_listed_9 rfl (lv_at hl 3 rfl) ?_
    refine lv_if_ge hx hb dX12_listed_10 (tgt := 17) rfl (fun hc => ?_) (fun hc => ?_)
    · replace h := ifp h hc
      refine lv_iload_n hx hb dX12_listed_17 rfl (lv_at hl 3 rfl) ?_
      refine lv_aload_n hx hb dX12_listed_18 rfl (lv_at hl 0 rfl) ?_
      refine lv_iload_n hx hb dX12_listed_19 rfl (lv_at hl 1 rfl) ?_
      refine lv_iload_n hx hb dX12_listed_20 rfl (lv_at hl 2 rfl) ?_
      obtain ⟨r_12, hr_13, h⟩ := bd1_s h
      refine hv_i hx hb hml hown hw mB_bl (mB_of hN hK hP) (mr_MO hK hP) (c_mo_end l D ct ad hI v1 v2 r_12 hr_13) g_RX12_240 ⟨rfl, hd_X12_end⟩ (rest := [.int v3]) hl.1 hS (fun q h => h) dX12_listed_21 rfl rfl ⟨Nat.le_of_ble_eq_true rfl, Nat.le_of_ble_eq_true rfl⟩ rfl rfl (Nat.le_of_ble_eq_true rfl) ⟨Nat.zero_le _, Nat.zero_le _⟩ (fun H locs hP _ hS => ?_)
      refine lv_aload_n hx hb dX12_listed_24 rfl (lv_at hl 0 rfl) ?_
      refine lv_iload_n hx hb dX12_listed_25 rfl (lv_at hl 1 rfl) ?_
      refine lv_iload_n hx hb dX12_listed_26 rfl (lv_at hl 2 rfl) ?_
      obtain ⟨r_14, hr_15, h⟩ := bd1_s h
      refine hv_i hx hb hml hown hw mB_bl (mB_of hN hK hP) (mr_MO hK hP) (c_mo_begin l D ct ad hI v1 v2 r_14 hr_15) g_RX12_244 ⟨rfl, hd_X12_begin⟩ (rest := [.int r_12, .int v3]) hl.1 hS (fun q h => h) dX12_listed_27 rfl rfl ⟨Nat.le_of_ble_eq_true rfl, Nat.le_of_ble_eq_true rfl⟩ rfl rfl (Nat.le_of_ble_eq_true rfl) ⟨Nat.zero_le _, Nat.zero_le _⟩ (fun H locs hP _ hS => ?_)
      refine lv_isub hx hb dX12_listed_30 ?_
      refine lv_icmp_ge hx hb dX12_listed_31 (tgt := 50) rfl (fun hc => ?_) (fun hc => ?_)
      · replace h := ifp h hc
        refine lv_ldc2 hx hb hown (hw _ tw_20_10) dX12_listed_50 ?_
        replace h := Option.some.inj h
        subst h
        exact rc_l hx hb hr hlocks hS dX12_listed_53 rfl hP
      · replace h := ifn h hc
        refine lv_aload_n hx hb dX12_listed_34 rfl (lv_at hl 0 rfl) ?_
        refine mg_MO_9 hx hb hw hown hK hP dX12_listed_35 ?_
        refine lv_aload_n hx hb dX12_listed_38 rfl (lv_at hl 0 rfl) ?_
        refine lv_iload_n hx hb dX12_listed_39 rfl (lv_at hl 1 rfl) ?_
        refine lv_iload_n hx hb dX12_listed_40 rfl (lv_at hl 2 rfl) ?_
        obtain ⟨r_16, hr_17, h⟩ := bd1_s h
        refine hv_i hx hb hml hown hw mB_bl (mB_of hN hK hP) (mr_MO hK hP) (c_mo_begin l D ct ad hI v1 v2 r_16 hr_17) g_RX12_244 ⟨rfl, hd_X12_begin⟩ (rest := [.ref (ad 7)]) hl.1 hS (fun q h => h) dX12_listed_41 rfl rfl ⟨Nat.le_of_ble_eq_true rfl, Nat.le_of_ble_eq_true rfl⟩ rfl rfl (Nat.le_of_ble_eq_true rfl) ⟨Nat.zero_le _, Nat.zero_le _⟩ (fun H locs hP _ hS => ?_)
        refine lv_iload_n hx hb dX12_listed_44 rfl (lv_at hl 3 rfl) ?_
        refine lv_iadd hx hb dX12_listed_45 ?_
        obtain ⟨i_18, ei_18, h⟩ := nm_s h
        refine nmI ei_18 ?_
        obtain ⟨hin, h⟩ := ck_s h
        refine md_listed hx hb hK hP hin dX12_listed_46 ?_
        refine lv_goto hx hb dX12_listed_47 (tgt := 53) rfl ?_
        replace h := Option.some.inj h
        subst h
        exact rc_l hx hb hr hlocks hS dX12_listed_53 rfl hP
    · replace h := ifn h hc
      refine lv_ldc2 hx hb hown (hw _ tw_12_20) dX12_listed_13 ?_
      replace h := Option.some.inj h
      subst h
      exact rc_l hx hb hr hlocks hS dX12_listed_16 rfl hP
noncomputable def mo_place_B69 (v2 : Int32) (v3 : Int32) (v4 : Int64) (a_drawer : Nat → Int64) (a_listed : Nat → Int64) (a_from : Nat → Int32)  (k69 : Int32 → Option (Int32)) (v6 : Int32) : Option (Int32) :=
  ck v6 1600 <|
  if (a_listed v6.toNatClampNeg) = v4 then (bd1 (mo_begin v3 v2 a_from) fun r_1 =>
  some (v6 - r_1)) else
  nm (v6 + 1 : Int32) fun v6_3 =>
  k69 v6_3
noncomputable def mo_place (v1 : Int32) (v2 : Int32) (a_drawer : Nat → Int64) (a_listed : Nat → Int64) (a_from : Nat → Int32) : Option (Int32) :=
  bd1 (mo_isDrawer v1) fun r_4 =>
  if r_4 = 0 then (some ((-1))) else
  bd1 (mo_isKind v2) fun r_6 =>
  if r_6 = 0 then (some ((-1))) else
  ck v1 8 <|
  if (a_drawer v1.toNatClampNeg) = 0 then (some ((-2))) else
  ck v1 8 <|
  bd1 (mo_bits (a_drawer v1.toNatClampNeg)) fun r_8 =>
  if r_8 ≤ 7 then (ck v1 8 <|
  bd1 (mo_ownOf (a_drawer v1.toNatClampNeg) v2) fun r_10 =>
  bd1 (mo_begin r_8 v2 a_from) fun r_12 =>
  fl1 (mo_place_B69 v2 r_8 r_10 a_drawer a_listed a_from) FU r_12) else
  some ((-3))
set_option maxHeartbeats 4000000 in
set_option maxRecDepth 100000 in
theorem c_mo_place (l : Launch) (D : va_G) (ct : Nat → ClassId) (ad : Nat → Nat) (hI : mI ad) {y_km y_tp y_goes y_kin y_qd y_sides y_cuts y_flat y_cp y_cA y_cB y_1X y_1Y y_2X y_2Y y_tm y_cells : Int32} {a_mtape a_flood a_going a_field a_from a_mcrowds a_steps a_queue a_letter a_lineX a_lineY a_triedAt a_cellAt a_besideIn a_apart : Nat → Int32} {a_drawer a_mkept a_listed a_mkin a_tried a_takenAt a_waysOf : Nat → Int64} (v1 : Int32) (v2 : Int32) (r : Int32)  (h : mo_place v1 v2 a_drawer a_listed a_from = some (r)) : Met l yX12_place (wm yX12_place cX12_place 7 (some .int)) (rmm 3 75) (va_Pc [.ref (ad 0), .int v1, .int v2] (mB D ct ad y_km y_tp y_goes y_kin y_qd y_sides y_cuts y_flat y_cp y_cA y_cB y_1X y_1Y y_2X y_2Y y_tm y_cells a_mtape a_flood a_going a_field a_from a_mcrowds a_steps a_queue a_letter a_lineX a_lineY a_triedAt a_cellAt a_besideIn a_apart a_drawer a_mkept a_listed a_mkin a_tried a_takenAt a_waysOf)) (va_Qi (fun z (_ : Unit) => z = r) (fun _ t => mP D ct ad y_km y_tp y_goes y_kin y_qd y_sides y_cuts y_flat y_cp y_cA y_cB y_1X y_1Y y_2X y_2Y y_tm y_cells a_mtape a_flood a_going a_field a_from a_mcrowds a_steps a_queue a_letter a_lineX a_lineY a_triedAt a_cellAt a_besideIn a_apart a_drawer a_mkept a_listed a_mkin a_tried a_takenAt a_waysOf t.heap) (mA ad)) 0 0 (mA ad) := by
  refine met_s (y := yX12_place) (rm := rmm 3 75) (by decide) (Nat.le_of_ble_eq_true rfl) ?_
  intro p e s m below meth c hx hb hr hw hown hlocks _ hml hB ls hl
  obtain ⟨hN, hK, hP⟩ := hB
  replace hl : lv_has ls 7 [(0, .ref (ad 0)), (1, .int v1), (2, .int v2)] := hl
  have hS : va_S (mA ad) s.heap s.heap [] := va_S.rf
  generalize (([.ref (ad 0), .int v1, .int v2] : List Value).toArray) = av at hw ⊢
  rw [mo_place] at h
  have hL69 : ∀ (v2 : Int32), ∀ (v3 : Int32), ∀ (v4 : Int64), ∀ (a_drawer : Nat → Int64), ∀ (a_listed : Nat → Int64), ∀ (a_from : Nat → Int32), ∀ (n69 : Nat) (H : Heap) (locs : List Loc) (ls : Array Slot) (v6 : Int32), lv_has ls 7 [(0, .ref (ad 0)), (2, .int v2), (3, .int v3), (4, .long v4), (6, .int v6)] → mP D ct ad y_km y_tp y_goes y_kin y_qd y_sides y_cuts y_flat y_cp y_cA y_cB y_1X y_1Y y_2X y_2Y y_tm y_cells a_mtape a_flood a_going a_field a_from a_mcrowds a_steps a_queue a_letter a_lineX a_lineY a_triedAt a_cellAt a_besideIn a_apart a_drawer a_mkept a_listed a_mkin a_tried a_takenAt a_waysOf H → va_S (mA ad) s.heap H locs → fl1 (mo_place_B69 v2 v3 v4 a_drawer a_listed a_from) n69 v6 = some (r) → W p l e (rmm 3 75) s m av below meth c H locs 0 0 (MQ below (va_Qi (fun z (_ : Unit) => z = r) (fun _ t => mP D ct ad y_km y_tp y_goes y_kin y_qd y_sides y_cuts y_flat y_cp y_cA y_cB y_1X y_1Y y_2X y_2Y y_tm y_cells a_mtape a_flood a_going a_field a_from a_mcrowds a_steps a_queue a_letter a_lineX a_lineY a_triedAt a_cellAt a_besideIn a_apart a_drawer a_mkept a_listed a_mkin a_tried a_takenAt a_waysOf t.heap) (mA ad)) av s 0 0 (mA ad)) (F0 m 69 ls []) := by
    intro v2 v3 v4 a_drawer a_listed a_from n69
    induction n69 with
    | zero => intro H locs ls v6 hl hP hS h; cases h
    | succ n69 ih69 =>
      intro H locs ls v6 hl hP hS h
      replace h : mo_place_B69 v2 v3 v4 a_drawer a_listed a_from (fl1 (mo_place_B69 v2 v3 v4 a_drawer a_listed a_from) n69) v6 = some (r) := h
      generalize fl1 (mo_place_B69 v2 v3 v4 a_drawer a_listed a_from) n69 = k69 at h ih69
      rw [mo_place_B69] at h
      refine lv_aload_n hx hb dX12_place_69 rfl (lv_at hl 0 rfl) ?_
      refine mg_MO_9 hx hb hw hown hK hP dX12_place_70 ?_
      refine lv_iload hx hb dX12_place_73 (lv_at hl 4 rfl) ?_
      obtain ⟨hin, h⟩ := ck_s h
      refine md_listed hx hb hK hP hin dX12_place_75 ?_
      refine lv_lload hx hb dX12_place_76 (lv_at hl 3 rfl) ?_
      refine W.lcmp hx hb dX12_place_78 ?_
      refine lv_if_eq hx hb dX12_place_79 (tgt := 91) rfl (fun hc => ?_) (fun hc => ?_)
      · replace h := ifp h ((lg_cmp_eq _ _).mp hc)
        refine lv_iload hx hb dX12_place_91 (lv_at hl 4 rfl) ?_
        refine lv_aload_n hx hb dX12_place_93 rfl (lv_at hl 0 rfl) ?_
        refine lv_iload_n hx hb dX12_place_94 rfl (lv_at hl 2 rfl) ?_
        refine lv_iload_n hx hb dX12_place_95 rfl (lv_at hl 1 rfl) ?_
        obtain ⟨r_14, hr_15, h⟩ := bd1_s h
        refine hv_i hx hb hml hown hw mB_bl (mB_of hN hK hP) (mr_MO hK hP) (c_mo_begin l D ct ad hI v3 v2 r_14 hr_15) g_RX12_244 ⟨rfl, hd_X12_begin⟩ (rest := [.int v6]) hl.1 hS (fun q h => h) dX12_place_96 rfl rfl ⟨Nat.le_of_ble_eq_true rfl, Nat.le_of_ble_eq_true rfl⟩ rfl rfl (Nat.le_of_ble_eq_true rfl) ⟨Nat.zero_le _, Nat.zero_le _⟩ (fun H locs hP _ hS => ?_)
        refine lv_isub hx hb dX12_place_99 ?_
        replace h := Option.some.inj h
        subst h
        exact rc_i hx hb hr hlocks hS dX12_place_100 rfl hP
      · replace h := ifn h (fun q => hc ((lg_cmp_eq _ _).mpr q))
        refine lv_iload hx hb dX12_place_82 (lv_at hl 4 rfl) ?_
        refine lv_iconst (v := 1) hx hb dX12_place_84 ki_1 ?_
        refine lv_iadd hx hb dX12_place_85 ?_
        obtain ⟨v6_16, ev6_16, h⟩ := nm_s h
        refine nmI ev6_16 ?_
        refine lv_istore hx hb dX12_place_86 hl (Nat.le_of_ble_eq_true rfl) (lv' := [(6, .int v6_16), (0, .ref (ad 0)), (2, .int v2), (3, .int v3), (4, .long v4)]) rfl (fun ls hl => ?_)
        refine lv_goto hx hb dX12_place_88 (tgt := 69) rfl ?_
        exact ih69 _ _ _ v6_16 (lv_sub hl [1, 2, 3, 4, 0] rfl) hP hS h
  refine lv_iload_n hx hb dX12_place_0 rfl (lv_at hl 1 rfl) ?_
  obtain ⟨r_17, hr_18, h⟩ := bd1_s h
  refine sc_i hx hb hml hown hw hN (c_mo_isDrawer l v1 r_17 hr_18) g_RX12_135 hd_X12_isDrawer (rest := []) hl.1 hS dX12_place_1 rfl rfl ⟨Nat.le_of_ble_eq_true rfl, Nat.le_of_ble_eq_true rfl⟩ rfl rfl (Nat.le_of_ble_eq_true rfl) ⟨Nat.zero_le _, Nat.zero_le _⟩ (fun H locs hk hS => ?_)
  have hP := mP_kept hP hk
  refine lv_if_eq hx hb dX12_place_4 (tgt := 14) rfl (fun hc => ?_) (fun hc => ?_)
  · replace h := ifp h hc
    refine lv_iconst (v := (-1)) hx hb dX12_place_14 ki_m1 ?_
    replace h := Option.some.inj h
    subst h
    exact rc_i hx hb hr hlocks hS dX12_place_15 rfl hP
  · replace h := ifn h hc
    refine lv_iload_n hx hb dX12_place_7 rfl (lv_at hl 2 rfl) ?_
    obtain ⟨r_19, hr_20, h⟩ := bd1_s h
    refine sc_i hx hb hml hown hw hN (c_mo_isKind l v2 r_19 hr_20) g_RX12_194 hd_X12_isKind (rest := []) hl.1 hS dX12_place_8 rfl rfl ⟨Nat.le_of_ble_eq_true rfl, Nat.le_of_ble_eq_true rfl⟩ rfl rfl (Nat.le_of_ble_eq_true rfl) ⟨Nat.zero_le _, Nat.zero_le _⟩ (fun H locs hk hS => ?_)
    have hP := mP_kept hP hk
    refine lv_if_ne hx hb dX12_place_11 (tgt := 16) rfl (fun hc => ?_) (fun hc => ?_)
    · replace h := ifn h hc
      refine lv_aload_n hx hb dX12_place_16 rfl (lv_at hl 0 rfl) ?_
      refine mg_MO_0 hx hb hw hown hK hP dX12_place_17 ?_
      refine lv_iload_n hx hb dX12_place_20 rfl (lv_at hl 1 rfl) ?_
      obtain ⟨hin, h⟩ := ck_s h
      refine md_drawer hx hb hK hP hin dX12_place_21 ?_
      refine lv_lconst (v := 0) hx hb dX12_place_22 kl_0 ?_
      refine W.lcmp hx hb dX12_place_23 ?_
      refine lv_if_ne hx hb dX12_place_24 (tgt := 30) rfl (fun hc => ?_) (fun hc => ?_)
      · replace h := ifn h (fun q => hc ((lg_cmp_eq _ _).mpr q))
        refine lv_aload_n hx hb dX12_place_30 rfl (lv_at hl 0 rfl) ?_
        refine mg_MO_0 hx hb hw hown hK hP dX12_place_31 ?_
        refine lv_iload_n hx hb dX12_place_34 rfl (lv_at hl 1 rfl) ?_
        obtain ⟨hin, h⟩ := ck_s h
        refine md_drawer hx hb hK hP hin dX12_place_35 ?_
        obtain ⟨r_21, hr_22, h⟩ := bd1_s h
        refine sc_i hx hb hml hown hw hN (c_mo_bits l (a_drawer v1.toNatClampNeg) r_21 hr_22) g_RX12_106 hd_X12_bits (rest := []) hl.1 hS dX12_place_36 rfl rfl ⟨Nat.le_of_ble_eq_true rfl, Nat.le_of_ble_eq_true rfl⟩ rfl rfl (Nat.le_of_ble_eq_true rfl) ⟨Nat.zero_le _, Nat.zero_le _⟩ (fun H locs hk hS => ?_)
        have hP := mP_kept hP hk
        refine lv_istore_n hx hb dX12_place_39 rfl hl (Nat.le_of_ble_eq_true rfl) (lv' := [(3, .int r_21), (0, .ref (ad 0)), (1, .int v1), (2, .int v2)]) rfl (fun ls hl => ?_)
        refine lv_iload_n hx hb dX12_place_40 rfl (lv_at hl 0 rfl) ?_
        refine lv_bipush (v := 7) hx hb dX12_place_41 kb_7 ?_
        refine lv_icmp_le hx hb dX12_place_43 (tgt := 49) rfl (fun hc => ?_) (fun hc => ?_)
        · replace h := ifp h hc
          refine lv_aload_n hx hb dX12_place_49 rfl (lv_at hl 1 rfl) ?_
          refine mg_MO_0 hx hb hw hown hK hP dX12_place_50 ?_
          refine lv_iload_n hx hb dX12_place_53 rfl (lv_at hl 2 rfl) ?_
          obtain ⟨hin, h⟩ := ck_s h
          refine md_drawer hx hb hK hP hin dX12_place_54 ?_
          refine lv_iload_n hx hb dX12_place_55 rfl (lv_at hl 3 rfl) ?_
          obtain ⟨r_23, hr_24, h⟩ := bd1_s h
          refine sc_l hx hb hml hown hw hN (c_mo_ownOf l (a_drawer v1.toNatClampNeg) v2 r_23 hr_24) g_RX12_199 hd_X12_ownOf (rest := []) hl.1 hS dX12_place_56 rfl rfl ⟨Nat.le_of_ble_eq_true rfl, Nat.le_of_ble_eq_true rfl⟩ rfl rfl (Nat.le_of_ble_eq_true rfl) ⟨Nat.zero_le _, Nat.zero_le _⟩ (fun H locs hk hS => ?_)
          have hP := mP_kept hP hk
          refine lv_lstore hx hb dX12_place_59 hl (Nat.le_of_ble_eq_true rfl) (lv' := [(4, .long r_23), (3, .int r_21), (0, .ref (ad 0)), (1, .int v1), (2, .int v2)]) rfl (fun ls hl => ?_)
          refine lv_aload_n hx hb dX12_place_61 rfl (lv_at hl 2 rfl) ?_
          refine lv_iload_n hx hb dX12_place_62 rfl (lv_at hl 1 rfl) ?_
          refine lv_iload_n hx hb dX12_place_63 rfl (lv_at hl 4 rfl) ?_
          obtain ⟨r_25, hr_26, h⟩ := bd1_s h
          refine hv_i hx hb hml hown hw mB_bl (mB_of hN hK hP) (mr_MO hK hP) (c_mo_begin l D ct ad hI r_21 v2 r_25 hr_26) g_RX12_244 ⟨rfl, hd_X12_begin⟩ (rest := []) hl.1 hS (fun q h => h) dX12_place_64 rfl rfl ⟨Nat.le_of_ble_eq_true rfl, Nat.le_of_ble_eq_true rfl⟩ rfl rfl (Nat.le_of_ble_eq_true rfl) ⟨Nat.zero_le _, Nat.zero_le _⟩ (fun H locs hP _ hS => ?_)
          refine lv_istore hx hb dX12_place_67 hl (Nat.le_of_ble_eq_true rfl) (lv' := [(6, .int r_25), (4, .long r_23), (3, .int r_21), (0, .ref (ad 0)), (1, .int v1), (2, .int v2)]) rfl (fun ls hl => ?_)
          exact hL69 v2 r_21 r_23 a_drawer a_listed a_from FU _ _ _ r_25 (lv_sub hl [3, 5, 2, 1, 0] rfl) hP hS h
        · replace h := ifn h hc
          refine lv_bipush (v := (-3)) hx hb dX12_place_46 kb_m3 ?_
          replace h := Option.some.inj h
          subst h
          exact rc_i hx hb hr hlocks hS dX12_place_48 rfl hP
      · replace h := ifp h ((lg_cmp_eq _ _).mp hc)
        refine lv_bipush (v := (-2)) hx hb dX12_place_27 kb_m2 ?_
        replace h := Option.some.inj h
        subst h
        exact rc_i hx hb hr hlocks hS dX12_place_29 rfl hP
    · replace h := ifp h hc
      refine lv_iconst (v := (-1)) hx hb dX12_place_14 ki_m1 ?_
      replace h := Option.some.inj h
      subst h
      exact rc_i hx hb hr hlocks hS dX12_place_15 rfl hP
noncomputable def mo_lookedFor_J68 (k11 : Int32 → Int32 → Int32 → (Nat → Int32) → (Nat → Int32) → Option (Int64 × Int32 × (Nat → Int32) × (Nat → Int32))) (a_listed : Nat → Int64) (a_from : Nat → Int32) (v1 : Int32) (v2 : Int32) (v3 : Int32) (v4 : Int32) (v5 : Int32) (v6 : Int32) (v7 : Int32) (v8 : Int32) (y_goes : Int32) (a_flood : Nat → Int32) (a_going : Nat → Int32)  : Option (Int64 × Int32 × (Nat → Int32) × (Nat → Int32)) :=
  nm (v8 + Int32.ofInt 1) fun v8_1 =>
  k11 v7 v8_1 y_goes a_flood a_going
noncomputable def mo_lookedFor_B11 (v1 : Int32) (v2 : Int32) (v3 : Int32) (v4 : Int32) (v5 : Int32) (v6 : Int32) (a_listed : Nat → Int64) (a_from : Nat → Int32)  (k11 : Int32 → Int32 → Int32 → (Nat → Int32) → (Nat → Int32) → Option (Int64 × Int32 × (Nat → Int32) × (Nat → Int32))) (v7 : Int32) (v8 : Int32) (y_goes : Int32) (a_flood : Nat → Int32) (a_going : Nat → Int32) : Option (Int64 × Int32 × (Nat → Int32) × (Nat → Int32)) :=
  bd1 (mo_end v1 v2 a_from) fun r_2 =>
  if r_2 ≤ v8 then (if 0 ≤ v6 then (some (((-2) : Int64), y_goes, a_flood, a_going)) else
  some (v7.toInt64, y_goes, a_flood, a_going)) else
  ck v8 1600 <|
  bd4 (mo_toldOf (a_listed v8.toNatClampNeg) v3 y_goes a_flood a_going) fun r_4 y_goes_5 a_flood_6 a_going_7 =>
  bd1 (mo_in r_4 v4 v5) fun r_9 =>
  if r_9 = 0 then (mo_lookedFor_J68 k11 a_listed a_from v1 v2 v3 v4 v5 v6 v7 v8 y_goes_5 a_flood_6 a_going_7) else
  if v7 = v6 then (ck v8 1600 <|
  some (a_listed v8.toNatClampNeg, y_goes_5, a_flood_6, a_going_7)) else
  nm (v7 + 1 : Int32) fun v7_11 =>
  mo_lookedFor_J68 k11 a_listed a_from v1 v2 v3 v4 v5 v6 v7_11 v8 y_goes_5 a_flood_6 a_going_7
noncomputable def mo_lookedFor (v1 : Int32) (v2 : Int32) (v3 : Int32) (v4 : Int32) (v5 : Int32) (v6 : Int32) (y_goes : Int32) (a_flood : Nat → Int32) (a_going : Nat → Int32) (a_listed : Nat → Int64) (a_from : Nat → Int32) : Option (Int64 × Int32 × (Nat → Int32) × (Nat → Int32)) :=
  bd1 (mo_begin v1 v2 a_from) fun r_12 =>
  fl5 (mo_lookedFor_B11 v1 v2 v3 v4 v5 v6 a_listed a_from) FU 0 r_12 y_goes a_flood a_going
set_option maxHeartbeats 4000000 in
set_option maxRecDepth 100000 in
theorem c_mo_lookedFor (l : Launch) (D : va_G) (ct : Nat → ClassId) (ad : Nat → Nat) (hI : mI ad) {y_km y_tp y_goes y_kin y_qd y_sides y_cuts y_flat y_cp y_cA y_cB y_1X y_1Y y_2X y_2Y y_tm y_cells : Int32} {a_mtape a_flood a_going a_field a_from a_mcrowds a_steps a_queue a_letter a_lineX a_lineY a_triedAt a_cellAt a_besideIn a_apart : Nat → Int32} {a_drawer a_mkept a_listed a_mkin a_tried a_takenAt a_waysOf : Nat → Int64} (v1 : Int32) (v2 : Int32) (v3 : Int32) (v4 : Int32) (v5 : Int32) (v6 : Int32) (r : Int64) (z_y_goes : Int32) (z_a_flood : Nat → Int32) (z_a_going : Nat → Int32) (h : mo_lookedFor v1 v2 v3 v4 v5 v6 y_goes a_flood a_going a_listed a_from = some (r, z_y_goes, z_a_flood, z_a_going)) : Met l yX12_lookedFor (wm yX12_lookedFor cX12_lookedFor 9 (some .long)) (rmm 6 144) (va_Pc [.ref (ad 0), .int v1, .int v2, .int v3, .int v4, .int v5, .int v6] (mB D ct ad y_km y_tp y_goes y_kin y_qd y_sides y_cuts y_flat y_cp y_cA y_cB y_1X y_1Y y_2X y_2Y y_tm y_cells a_mtape a_flood a_going a_field a_from a_mcrowds a_steps a_queue a_letter a_lineX a_lineY a_triedAt a_cellAt a_besideIn a_apart a_drawer a_mkept a_listed a_mkin a_tried a_takenAt a_waysOf)) (va_Ql (fun z (_ : Unit) => z = r) (fun _ t => mP D ct ad y_km y_tp z_y_goes y_kin y_qd y_sides y_cuts y_flat y_cp y_cA y_cB y_1X y_1Y y_2X y_2Y y_tm y_cells a_mtape z_a_flood z_a_going a_field a_from a_mcrowds a_steps a_queue a_letter a_lineX a_lineY a_triedAt a_cellAt a_besideIn a_apart a_drawer a_mkept a_listed a_mkin a_tried a_takenAt a_waysOf t.heap) (mA ad)) 0 0 (mA ad) := by
  refine met_s (y := yX12_lookedFor) (rm := rmm 6 144) (by decide) (Nat.le_of_ble_eq_true rfl) ?_
  intro p e s m below meth c hx hb hr hw hown hlocks _ hml hB ls hl
  obtain ⟨hN, hK, hP⟩ := hB
  replace hl : lv_has ls 9 [(0, .ref (ad 0)), (1, .int v1), (2, .int v2), (3, .int v3), (4, .int v4), (5, .int v5), (6, .int v6)] := hl
  have hS : va_S (mA ad) s.heap s.heap [] := va_S.rf
  generalize (([.ref (ad 0), .int v1, .int v2, .int v3, .int v4, .int v5, .int v6] : List Value).toArray) = av at hw ⊢
  rw [mo_lookedFor] at h
  have hL11 : ∀ (v1 : Int32), ∀ (v2 : Int32), ∀ (v3 : Int32), ∀ (v4 : Int32), ∀ (v5 : Int32), ∀ (v6 : Int32), ∀ (a_listed : Nat → Int64), ∀ (a_from : Nat → Int32), ∀ (n11 : Nat) (H : Heap) (locs : List Loc) (ls : Array Slot) (v7 : Int32) (v8 : Int32) (y_goes : Int32) (a_flood : Nat → Int32) (a_going : Nat → Int32), lv_has ls 9 [(0, .ref (ad 0)), (1, .int v1), (2, .int v2), (3, .int v3), (4, .int v4), (5, .int v5), (6, .int v6), (7, .int v7), (8, .int v8)] → mP D ct ad y_km y_tp y_goes y_kin y_qd y_sides y_cuts y_flat y_cp y_cA y_cB y_1X y_1Y y_2X y_2Y y_tm y_cells a_mtape a_flood a_going a_field a_from a_mcrowds a_steps a_queue a_letter a_lineX a_lineY a_triedAt a_cellAt a_besideIn a_apart a_drawer a_mkept a_listed a_mkin a_tried a_takenAt a_waysOf H → va_S (mA ad) s.heap H locs → fl5 (mo_lookedFor_B11 v1 v2 v3 v4 v5 v6 a_listed a_from) n11 v7 v8 y_goes a_flood a_going = some (r, z_y_goes, z_a_flood, z_a_going) → W p l e (rmm 6 144) s m av below meth c H locs 0 0 (MQ below (va_Ql (fun z (_ : Unit) => z = r) (fun _ t => mP D ct ad y_km y_tp z_y_goes y_kin y_qd y_sides y_cuts y_flat y_cp y_cA y_cB y_1X y_1Y y_2X y_2Y y_tm y_cells a_mtape z_a_flood z_a_going a_field a_from a_mcrowds a_steps a_queue a_letter a_lineX a_lineY a_triedAt a_cellAt a_besideIn a_apart a_drawer a_mkept a_listed a_mkin a_tried a_takenAt a_waysOf t.heap) (mA ad)) av s 0 0 (mA ad)) (F0 m 11 ls []) := by
    intro v1 v2 v3 v4 v5 v6 a_listed a_from n11
    induction n11 with
    | zero => intro H locs ls v7 v8 y_goes a_flood a_going hl hP hS h; cases h
    | succ n11 ih11 =>
      intro H locs ls v7 v8 y_goes a_flood a_going hl hP hS h
      replace h : mo_lookedFor_B11 v1 v2 v3 v4 v5 v6 a_listed a_from (fl5 (mo_lookedFor_B11 v1 v2 v3 v4 v5 v6 a_listed a_from) n11) v7 v8 y_goes a_flood a_going = some (r, z_y_goes, z_a_flood, z_a_going) := h
      generalize fl5 (mo_lookedFor_B11 v1 v2 v3 v4 v5 v6 a_listed a_from) n11 = k11 at h ih11
      have hJ68 : ∀ (H : Heap) (locs : List Loc) (ls : Array Slot) (v7 : Int32) (v8 : Int32) (y_goes : Int32) (a_flood : Nat → Int32) (a_going : Nat → Int32) , lv_has ls 9 [(0, .ref (ad 0)), (1, .int v1), (2, .int v2), (3, .int v3), (4, .int v4), (5, .int v5), (6, .int v6), (7, .int v7), (8, .int v8)] → mP D ct ad y_km y_tp y_goes y_kin y_qd y_sides y_cuts y_flat y_cp y_cA y_cB y_1X y_1Y y_2X y_2Y y_tm y_cells a_mtape a_flood a_going a_field a_from a_mcrowds a_steps a_queue a_letter a_lineX a_lineY a_triedAt a_cellAt a_besideIn a_apart a_drawer a_mkept a_listed a_mkin a_tried a_takenAt a_waysOf H → va_S (mA ad) s.heap H locs → mo_lookedFor_J68 k11 a_listed a_from v1 v2 v3 v4 v5 v6 v7 v8 y_goes a_flood a_going = some (r, z_y_goes, z_a_flood, z_a_going) → W p l e (rmm 6 144) s m av below meth c H locs 0 0 (MQ below (va_Ql (fun z (_ : Unit) => z = r) (fun _ t => mP D ct ad y_km y_tp z_y_goes y_kin y_qd y_sides y_cuts y_flat y_cp y_cA y_cB y_1X y_1Y y_2X y_2Y y_tm y_cells a_mtape z_a_flood z_a_going a_field a_from a_mcrowds a_steps a_queue a_letter a_lineX a_lineY a_triedAt a_cellAt a_besideIn a_apart a_drawer a_mkept a_listed a_mkin a_tried a_takenAt a_waysOf t.heap) (mA ad)) av s 0 0 (mA ad)) (F0 m 68 ls []) := by
        intro H locs ls v7 v8 y_goes a_flood a_going  hl hP hS h
        rw [mo_lookedFor_J68] at h
        obtain ⟨v8_14, ev8_14, h⟩ := nm_s h
        refine lv_iinc hx hb dX12_lookedFor_68 hl (k := 8) rfl ev8_14.symm (Nat.le_of_ble_eq_true rfl) (lv' := [(8, .int v8_14), (0, .ref (ad 0)), (1, .int v1), (2, .int v2), (3, .int v3), (4, .int v4), (5, .int v5), (6, .int v6), (7, .int v7)]) rfl (fun ls hl => ?_)
        refine lv_goto hx hb dX12_lookedFor_71 (tgt := 11) rfl ?_
        exact ih11 _ _ _ v7 v8_14 y_goes a_flood a_going (lv_sub hl [1, 2, 3, 4, 5, 6, 7, 8, 0] rfl) hP hS h
      rw [mo_lookedFor_B11] at h
      refine lv_iload hx hb dX12_lookedFor_11 (lv_at hl 8 rfl) ?_
      refine lv_aload_n hx hb dX12_lookedFor_13 rfl (lv_at hl 0 rfl) ?_
      refine lv_iload_n hx hb dX12_lookedFor_14 rfl (lv_at hl 1 rfl) ?_
      refine lv_iload_n hx hb dX12_lookedFor_15 rfl (lv_at hl 2 rfl) ?_
      obtain ⟨r_15, hr_16, h⟩ := bd1_s h
      refine hv_i hx hb hml hown hw mB_bl (mB_of hN hK hP) (mr_MO hK hP) (c_mo_end l D ct ad hI v1 v2 r_15 hr_16) g_RX12_240 ⟨rfl, hd_X12_end⟩ (rest := [.int v8]) hl.1 hS (fun q h => h) dX12_lookedFor_16 rfl rfl ⟨Nat.le_of_ble_eq_true rfl, Nat.le_of_ble_eq_true rfl⟩ rfl rfl (Nat.le_of_ble_eq_true rfl) ⟨Nat.zero_le _, Nat.zero_le _⟩ (fun H locs hP _ hS => ?_)
      refine lv_icmp_ge hx hb dX12_lookedFor_19 (tgt := 74) rfl (fun hc => ?_) (fun hc => ?_)
      · replace h := ifp h hc
        refine lv_iload hx hb dX12_lookedFor_74 (lv_at hl 6 rfl) ?_
        refine lv_if_ge hx hb dX12_lookedFor_76 (tgt := 85) rfl (fun hc => ?_) (fun hc => ?_)
        · replace h := ifp h hc
          refine lv_ldc2 hx hb hown (hw _ tw_20_10) dX12_lookedFor_85 ?_
          simp only [Option.some.injEq, Prod.mk.injEq] at h
          obtain ⟨rfl, rfl, rfl, rfl⟩ := h
          exact rc_l hx hb hr hlocks hS dX12_lookedFor_88 rfl hP
        · replace h := ifn h hc
          refine lv_iload hx hb dX12_lookedFor_79 (lv_at hl 7 rfl) ?_
          refine lv_i2l hx hb (v := v7.toInt64) dX12_lookedFor_81 rfl ?_
          refine lv_goto hx hb dX12_lookedFor_82 (tgt := 88) rfl ?_
          simp only [Option.some.injEq, Prod.mk.injEq] at h
          obtain ⟨rfl, rfl, rfl, rfl⟩ := h
          exact rc_l hx hb hr hlocks hS dX12_lookedFor_88 rfl hP
      · replace h := ifn h hc
        refine lv_aload_n hx hb dX12_lookedFor_22 rfl (lv_at hl 0 rfl) ?_
        refine lv_aload_n hx hb dX12_lookedFor_23 rfl (lv_at hl 0 rfl) ?_
        refine mg_MO_9 hx hb hw hown hK hP dX12_lookedFor_24 ?_
        refine lv_iload hx hb dX12_lookedFor_27 (lv_at hl 8 rfl) ?_
        obtain ⟨hin, h⟩ := ck_s h
        refine md_listed hx hb hK hP hin dX12_lookedFor_29 ?_
        refine lv_iload_n hx hb dX12_lookedFor_30 rfl (lv_at hl 3 rfl) ?_
        obtain ⟨r_17, y_goes_18, a_flood_19, a_going_20, hr_21, h⟩ := bd4_s h
        refine hv_i hx hb hml hown hw mB_bl (mB_of hN hK hP) (mr_MO hK hP) (c_mo_toldOf l D ct ad hI (a_listed v8.toNatClampNeg) v3 r_17 y_goes_18 a_flood_19 a_going_20 hr_21) g_RX12_191 ⟨rfl, hd_X12_toldOf⟩ (rest := []) hl.1 hS (fun q h => h) dX12_lookedFor_31 rfl rfl ⟨Nat.le_of_ble_eq_true rfl, Nat.le_of_ble_eq_true rfl⟩ rfl rfl (Nat.le_of_ble_eq_true rfl) ⟨Nat.zero_le _, Nat.zero_le _⟩ (fun H locs hP _ hS => ?_)
        refine lv_iload hx hb dX12_lookedFor_34 (lv_at hl 4 rfl) ?_
        refine lv_iload hx hb dX12_lookedFor_36 (lv_at hl 5 rfl) ?_
        obtain ⟨r_22, hr_23, h⟩ := bd1_s h
        refine sc_i hx hb hml hown hw hN (c_mo_in l r_17 v4 v5 r_22 hr_23) g_RX12_82 hd_X12_in (rest := []) hl.1 hS dX12_lookedFor_38 rfl rfl ⟨Nat.le_of_ble_eq_true rfl, Nat.le_of_ble_eq_true rfl⟩ rfl rfl (Nat.le_of_ble_eq_true rfl) ⟨Nat.zero_le _, Nat.zero_le _⟩ (fun H locs hk hS => ?_)
        have hP := mP_kept hP hk
        refine lv_if_ne hx hb dX12_lookedFor_41 (tgt := 47) rfl (fun hc => ?_) (fun hc => ?_)
        · replace h := ifn h hc
          refine lv_iload hx hb dX12_lookedFor_47 (lv_at hl 7 rfl) ?_
          refine lv_iload hx hb dX12_lookedFor_49 (lv_at hl 6 rfl) ?_
          refine lv_icmp_ne hx hb dX12_lookedFor_51 (tgt := 62) rfl (fun hc => ?_) (fun hc => ?_)
          · replace h := ifn h hc
            refine lv_iload hx hb dX12_lookedFor_62 (lv_at hl 7 rfl) ?_
            refine lv_iconst (v := 1) hx hb dX12_lookedFor_64 ki_1 ?_
            refine lv_iadd hx hb dX12_lookedFor_65 ?_
            obtain ⟨v7_24, ev7_24, h⟩ := nm_s h
            refine nmI ev7_24 ?_
            refine lv_istore hx hb dX12_lookedFor_66 hl (Nat.le_of_ble_eq_true rfl) (lv' := [(7, .int v7_24), (0, .ref (ad 0)), (1, .int v1), (2, .int v2), (3, .int v3), (4, .int v4), (5, .int v5), (6, .int v6), (8, .int v8)]) rfl (fun ls hl => ?_)
            exact hJ68 _ _ _ v7_24 v8 y_goes_18 a_flood_19 a_going_20 (lv_sub hl [1, 2, 3, 4, 5, 6, 7, 0, 8] rfl) hP hS h
          · replace h := ifp h hc
            refine lv_aload_n hx hb dX12_lookedFor_54 rfl (lv_at hl 0 rfl) ?_
            refine mg_MO_9 hx hb hw hown hK hP dX12_lookedFor_55 ?_
            refine lv_iload hx hb dX12_lookedFor_58 (lv_at hl 8 rfl) ?_
            obtain ⟨hin, h⟩ := ck_s h
            refine md_listed hx hb hK hP hin dX12_lookedFor_60 ?_
            simp only [Option.some.injEq, Prod.mk.injEq] at h
            obtain ⟨rfl, rfl, rfl, rfl⟩ := h
            exact rc_l hx hb hr hlocks hS dX12_lookedFor_61 rfl hP
        · replace h := ifp h hc
          refine lv_goto hx hb dX12_lookedFor_44 (tgt := 68) rfl ?_
          exact hJ68 _ _ _ v7 v8 y_goes_18 a_flood_19 a_going_20 (lv_sub hl [0, 1, 2, 3, 4, 5, 6, 7, 8] rfl) hP hS h
  refine lv_iconst (v := 0) hx hb dX12_lookedFor_0 ki_0 ?_
  refine lv_istore hx hb dX12_lookedFor_1 hl (Nat.le_of_ble_eq_true rfl) (lv' := [(7, .int 0), (0, .ref (ad 0)), (1, .int v1), (2, .int v2), (3, .int v3), (4, .int v4), (5, .int v5), (6, .int v6)]) rfl (fun ls hl => ?_)
  refine lv_aload_n hx hb dX12_lookedFor_3 rfl (lv_at hl 1 rfl) ?_
  refine lv_iload_n hx hb dX12_lookedFor_4 rfl (lv_at hl 2 rfl) ?_
  refine lv_iload_n hx hb dX12_lookedFor_5 rfl (lv_at hl 3 rfl) ?_
  obtain ⟨r_25, hr_26, h⟩ := bd1_s h
  refine hv_i hx hb hml hown hw mB_bl (mB_of hN hK hP) (mr_MO hK hP) (c_mo_begin l D ct ad hI v1 v2 r_25 hr_26) g_RX12_244 ⟨rfl, hd_X12_begin⟩ (rest := []) hl.1 hS (fun q h => h) dX12_lookedFor_6 rfl rfl ⟨Nat.le_of_ble_eq_true rfl, Nat.le_of_ble_eq_true rfl⟩ rfl rfl (Nat.le_of_ble_eq_true rfl) ⟨Nat.zero_le _, Nat.zero_le _⟩ (fun H locs hP _ hS => ?_)
  refine lv_istore hx hb dX12_lookedFor_9 hl (Nat.le_of_ble_eq_true rfl) (lv' := [(8, .int r_25), (7, .int 0), (0, .ref (ad 0)), (1, .int v1), (2, .int v2), (3, .int v3), (4, .int v4), (5, .int v5), (6, .int v6)]) rfl (fun ls hl => ?_)
  exact hL11 v1 v2 v3 v4 v5 v6 a_listed a_from FU _ _ _ 0 r_25 y_goes a_flood a_going (lv_sub hl [2, 3, 4, 5, 6, 7, 8, 1, 0] rfl) hP hS h
noncomputable def mo_many (v1 : Int32) (v2 : Int32) (v3 : Int32) (v4 : Int32) (v5 : Int32) (y_goes : Int32) (a_flood : Nat → Int32) (a_going : Nat → Int32) (a_listed : Nat → Int64) (a_from : Nat → Int32) : Option (Int32 × Int32 × (Nat → Int32) × (Nat → Int32)) :=
  bd1 (mo_isList v1 v2) fun r_1 =>
  if r_1 = 0 then (some ((-1), y_goes, a_flood, a_going)) else
  bd1 (mo_in v3 0 14) fun r_3 =>
  if r_3 = 0 then (some ((-1), y_goes, a_flood, a_going)) else
  if v4 ≤ v5 then (bd4 (mo_lookedFor v1 v2 v3 v4 v5 (-1) y_goes a_flood a_going a_listed a_from) fun r_5 y_goes_6 a_flood_7 a_going_8 =>
  some (r_5.toInt32, y_goes_6, a_flood_7, a_going_8)) else
  some ((-1), y_goes, a_flood, a_going)
set_option maxHeartbeats 4000000 in
set_option maxRecDepth 100000 in
theorem c_mo_many (l : Launch) (D : va_G) (ct : Nat → ClassId) (ad : Nat → Nat) (hI : mI ad) {y_km y_tp y_goes y_kin y_qd y_sides y_cuts y_flat y_cp y_cA y_cB y_1X y_1Y y_2X y_2Y y_tm y_cells : Int32} {a_mtape a_flood a_going a_field a_from a_mcrowds a_steps a_queue a_letter a_lineX a_lineY a_triedAt a_cellAt a_besideIn a_apart : Nat → Int32} {a_drawer a_mkept a_listed a_mkin a_tried a_takenAt a_waysOf : Nat → Int64} (v1 : Int32) (v2 : Int32) (v3 : Int32) (v4 : Int32) (v5 : Int32) (r : Int32) (z_y_goes : Int32) (z_a_flood : Nat → Int32) (z_a_going : Nat → Int32) (h : mo_many v1 v2 v3 v4 v5 y_goes a_flood a_going a_listed a_from = some (r, z_y_goes, z_a_flood, z_a_going)) : Met l yX12_many (wm yX12_many cX12_many 6 (some .int)) (rmm 7 172) (va_Pc [.ref (ad 0), .int v1, .int v2, .int v3, .int v4, .int v5] (mB D ct ad y_km y_tp y_goes y_kin y_qd y_sides y_cuts y_flat y_cp y_cA y_cB y_1X y_1Y y_2X y_2Y y_tm y_cells a_mtape a_flood a_going a_field a_from a_mcrowds a_steps a_queue a_letter a_lineX a_lineY a_triedAt a_cellAt a_besideIn a_apart a_drawer a_mkept a_listed a_mkin a_tried a_takenAt a_waysOf)) (va_Qi (fun z (_ : Unit) => z = r) (fun _ t => mP D ct ad y_km y_tp z_y_goes y_kin y_qd y_sides y_cuts y_flat y_cp y_cA y_cB y_1X y_1Y y_2X y_2Y y_tm y_cells a_mtape z_a_flood z_a_going a_field a_from a_mcrowds a_steps a_queue a_letter a_lineX a_lineY a_triedAt a_cellAt a_besideIn a_apart a_drawer a_mkept a_listed a_mkin a_tried a_takenAt a_waysOf t.heap) (mA ad)) 0 0 (mA ad) := by
  refine met_s (y := yX12_many) (rm := rmm 7 172) (by decide) (Nat.le_of_ble_eq_true rfl) ?_
  intro p e s m below meth c hx hb hr hw hown hlocks _ hml hB ls hl
  obtain ⟨hN, hK, hP⟩ := hB
  replace hl : lv_has ls 6 [(0, .ref (ad 0)), (1, .int v1), (2, .int v2), (3, .int v3), (4, .int v4), (5, .int v5)] := hl
  have hS : va_S (mA ad) s.heap s.heap [] := va_S.rf
  generalize (([.ref (ad 0), .int v1, .int v2, .int v3, .int v4, .int v5] : List Value).toArray) = av at hw ⊢
  rw [mo_many] at h
  refine lv_aload_n hx hb dX12_many_0 rfl (lv_at hl 0 rfl) ?_
  refine lv_iload_n hx hb dX12_many_1 rfl (lv_at hl 1 rfl) ?_
  refine lv_iload_n hx hb dX12_many_2 rfl (lv_at hl 2 rfl) ?_
  obtain ⟨r_10, hr_11, h⟩ := bd1_s h
  refine hv_i hx hb hml hown hw mB_bl (mB_of hN hK hP) (mr_MO hK hP) (c_mo_isList l D ct ad hI v1 v2 r_10 hr_11) g_RX12_236 ⟨rfl, hd_X12_isList⟩ (rest := []) hl.1 hS (fun q h => h) dX12_many_3 rfl rfl ⟨Nat.le_of_ble_eq_true rfl, Nat.le_of_ble_eq_true rfl⟩ rfl rfl (Nat.le_of_ble_eq_true rfl) ⟨Nat.zero_le _, Nat.zero_le _⟩ (fun H locs hP _ hS => ?_)
  refine lv_if_eq hx hb dX12_many_6 (tgt := 26) rfl (fun hc => ?_) (fun hc => ?_)
  · replace h := ifp h hc
    refine lv_iconst (v := (-1)) hx hb dX12_many_26 ki_m1 ?_
    simp only [Option.some.injEq, Prod.mk.injEq] at h
    obtain ⟨rfl, rfl, rfl, rfl⟩ := h
    exact rc_i hx hb hr hlocks hS dX12_many_27 rfl hP
  · replace h := ifn h hc
    refine lv_iload_n hx hb dX12_many_9 rfl (lv_at hl 3 rfl) ?_
    refine lv_iconst (v := 0) hx hb dX12_many_10 ki_0 ?_
    refine lv_bipush (v := 14) hx hb dX12_many_11 kb_14 ?_
    obtain ⟨r_12, hr_13, h⟩ := bd1_s h
    refine sc_i hx hb hml hown hw hN (c_mo_in l v3 0 14 r_12 hr_13) g_RX12_82 hd_X12_in (rest := []) hl.1 hS dX12_many_13 rfl rfl ⟨Nat.le_of_ble_eq_true rfl, Nat.le_of_ble_eq_true rfl⟩ rfl rfl (Nat.le_of_ble_eq_true rfl) ⟨Nat.zero_le _, Nat.zero_le _⟩ (fun H locs hk hS => ?_)
    have hP := mP_kept hP hk
    refine lv_if_eq hx hb dX12_many_16 (tgt := 26) rfl (fun hc => ?_) (fun hc => ?_)
    · replace h := ifp h hc
      refine lv_iconst (v := (-1)) hx hb dX12_many_26 ki_m1 ?_
      simp only [Option.some.injEq, Prod.mk.injEq] at h
      obtain ⟨rfl, rfl, rfl, rfl⟩ := h
      exact rc_i hx hb hr hlocks hS dX12_many_27 rfl hP
    · replace h := ifn h hc
      refine lv_iload hx hb dX12_many_19 (lv_at hl 5 rfl) ?_
      refine lv_iload hx hb dX12_many_21 (lv_at hl 4 rfl) ?_
      refine lv_icmp_ge hx hb dX12_many_23 (tgt := 28) rfl (fun hc => ?_) (fun hc => ?_)
      · replace h := ifp h hc
        refine lv_aload_n hx hb dX12_many_28 rfl (lv_at hl 0 rfl) ?_
        refine lv_iload_n hx hb dX12_many_29 rfl (lv_at hl 1 rfl) ?_
        refine lv_iload_n hx hb dX12_many_30 rfl (lv_at hl 2 rfl) ?_
        refine lv_iload_n hx hb dX12_many_31 rfl (lv_at hl 3 rfl) ?_
        refine lv_iload hx hb dX12_many_32 (lv_at hl 4 rfl) ?_
        refine lv_iload hx hb dX12_many_34 (lv_at hl 5 rfl) ?_
        refine lv_iconst (v := (-1)) hx hb dX12_many_36 ki_m1 ?_
        obtain ⟨r_14, y_goes_15, a_flood_16, a_going_17, hr_18, h⟩ := bd4_s h
        refine hv_l hx hb hml hown hw mB_bl (mB_of hN hK hP) (mr_MO hK hP) (c_mo_lookedFor l D ct ad hI v1 v2 v3 v4 v5 (-1) r_14 y_goes_15 a_flood_16 a_going_17 hr_18) g_RX12_247 ⟨rfl, hd_X12_lookedFor⟩ (rest := []) hl.1 hS (fun q h => h) dX12_many_37 rfl rfl ⟨Nat.le_of_ble_eq_true rfl, Nat.le_of_ble_eq_true rfl⟩ rfl rfl (Nat.le_of_ble_eq_true rfl) ⟨Nat.zero_le _, Nat.zero_le _⟩ (fun H locs hP _ hS => ?_)
        refine lv_l2i hx hb (v := r_14.toInt32) dX12_many_40 rfl ?_
        simp only [Option.some.injEq, Prod.mk.injEq] at h
        obtain ⟨rfl, rfl, rfl, rfl⟩ := h
        exact rc_i hx hb hr hlocks hS dX12_many_41 rfl hP
      · replace h := ifn h hc
        refine lv_iconst (v := (-1)) hx hb dX12_many_26 ki_m1 ?_
        simp only [Option.some.injEq, Prod.mk.injEq] at h
        obtain ⟨rfl, rfl, rfl, rfl⟩ := h
        exact rc_i hx hb hr hlocks hS dX12_many_27 rfl hP
noncomputable def mo_found (v1 : Int32) (v2 : Int32) (v3 : Int32) (v4 : Int32) (v5 : Int32) (v6 : Int32) (y_goes : Int32) (a_flood : Nat → Int32) (a_going : Nat → Int32) (a_listed : Nat → Int64) (a_from : Nat → Int32) : Option (Int64 × Int32 × (Nat → Int32) × (Nat → Int32)) :=
  bd1 (mo_isList v1 v2) fun r_1 =>
  if r_1 = 0 then (some (((-1) : Int64), y_goes, a_flood, a_going)) else
  bd1 (mo_in v3 0 14) fun r_3 =>
  if r_3 = 0 then (some (((-1) : Int64), y_goes, a_flood, a_going)) else
  if v5 < v4 then (some (((-1) : Int64), y_goes, a_flood, a_going)) else
  if 0 ≤ v6 then (bd4 (mo_lookedFor v1 v2 v3 v4 v5 v6 y_goes a_flood a_going a_listed a_from) fun r_5 y_goes_6 a_flood_7 a_going_8 =>
  some (r_5, y_goes_6, a_flood_7, a_going_8)) else
  some (((-1) : Int64), y_goes, a_flood, a_going)
set_option maxHeartbeats 4000000 in
set_option maxRecDepth 100000 in
theorem c_mo_found (l : Launch) (D : va_G) (ct : Nat → ClassId) (ad : Nat → Nat) (hI : mI ad) {y_km y_tp y_goes y_kin y_qd y_sides y_cuts y_flat y_cp y_cA y_cB y_1X y_1Y y_2X y_2Y y_tm y_cells : Int32} {a_mtape a_flood a_going a_field a_from a_mcrowds a_steps a_queue a_letter a_lineX a_lineY a_triedAt a_cellAt a_besideIn a_apart : Nat → Int32} {a_drawer a_mkept a_listed a_mkin a_tried a_takenAt a_waysOf : Nat → Int64} (v1 : Int32) (v2 : Int32) (v3 : Int32) (v4 : Int32) (v5 : Int32) (v6 : Int32) (r : Int64) (z_y_goes : Int32) (z_a_flood : Nat → Int32) (z_a_going : Nat → Int32) (h : mo_found v1 v2 v3 v4 v5 v6 y_goes a_flood a_going a_listed a_from = some (r, z_y_goes, z_a_flood, z_a_going)) : Met l yX12_found (wm yX12_found cX12_found 7 (some .long)) (rmm 7 172) (va_Pc [.ref (ad 0), .int v1, .int v2, .int v3, .int v4, .int v5, .int v6] (mB D ct ad y_km y_tp y_goes y_kin y_qd y_sides y_cuts y_flat y_cp y_cA y_cB y_1X y_1Y y_2X y_2Y y_tm y_cells a_mtape a_flood a_going a_field a_from a_mcrowds a_steps a_queue a_letter a_lineX a_lineY a_triedAt a_cellAt a_besideIn a_apart a_drawer a_mkept a_listed a_mkin a_tried a_takenAt a_waysOf)) (va_Ql (fun z (_ : Unit) => z = r) (fun _ t => mP D ct ad y_km y_tp z_y_goes y_kin y_qd y_sides y_cuts y_flat y_cp y_cA y_cB y_1X y_1Y y_2X y_2Y y_tm y_cells a_mtape z_a_flood z_a_going a_field a_from a_mcrowds a_steps a_queue a_letter a_lineX a_lineY a_triedAt a_cellAt a_besideIn a_apart a_drawer a_mkept a_listed a_mkin a_tried a_takenAt a_waysOf t.heap) (mA ad)) 0 0 (mA ad) := by
  refine met_s (y := yX12_found) (rm := rmm 7 172) (by decide) (Nat.le_of_ble_eq_true rfl) ?_
  intro p e s m below meth c hx hb hr hw hown hlocks _ hml hB ls hl
  obtain ⟨hN, hK, hP⟩ := hB
  replace hl : lv_has ls 7 [(0, .ref (ad 0)), (1, .int v1), (2, .int v2), (3, .int v3), (4, .int v4), (5, .int v5), (6, .int v6)] := hl
  have hS : va_S (mA ad) s.heap s.heap [] := va_S.rf
  generalize (([.ref (ad 0), .int v1, .int v2, .int v3, .int v4, .int v5, .int v6] : List Value).toArray) = av at hw ⊢
  rw [mo_found] at h
  refine lv_aload_n hx hb dX12_found_0 rfl (lv_at hl 0 rfl) ?_
  refine lv_iload_n hx hb dX12_found_1 rfl (lv_at hl 1 rfl) ?_
  refine lv_iload_n hx hb dX12_found_2 rfl (lv_at hl 2 rfl) ?_
  obtain ⟨r_10, hr_11, h⟩ := bd1_s h
  refine hv_i hx hb hml hown hw mB_bl (mB_of hN hK hP) (mr_MO hK hP) (c_mo_isList l D ct ad hI v1 v2 r_10 hr_11) g_RX12_236 ⟨rfl, hd_X12_isList⟩ (rest := []) hl.1 hS (fun q h => h) dX12_found_3 rfl rfl ⟨Nat.le_of_ble_eq_true rfl, Nat.le_of_ble_eq_true rfl⟩ rfl rfl (Nat.le_of_ble_eq_true rfl) ⟨Nat.zero_le _, Nat.zero_le _⟩ (fun H locs hP _ hS => ?_)
  refine lv_if_eq hx hb dX12_found_6 (tgt := 31) rfl (fun hc => ?_) (fun hc => ?_)
  · replace h := ifp h hc
    refine lv_ldc2 hx hb hown (hw _ tw_12_20) dX12_found_31 ?_
    simp only [Option.some.injEq, Prod.mk.injEq] at h
    obtain ⟨rfl, rfl, rfl, rfl⟩ := h
    exact rc_l hx hb hr hlocks hS dX12_found_34 rfl hP
  · replace h := ifn h hc
    refine lv_iload_n hx hb dX12_found_9 rfl (lv_at hl 3 rfl) ?_
    refine lv_iconst (v := 0) hx hb dX12_found_10 ki_0 ?_
    refine lv_bipush (v := 14) hx hb dX12_found_11 kb_14 ?_
    obtain ⟨r_12, hr_13, h⟩ := bd1_s h
    refine sc_i hx hb hml hown hw hN (c_mo_in l v3 0 14 r_12 hr_13) g_RX12_82 hd_X12_in (rest := []) hl.1 hS dX12_found_13 rfl rfl ⟨Nat.le_of_ble_eq_true rfl, Nat.le_of_ble_eq_true rfl⟩ rfl rfl (Nat.le_of_ble_eq_true rfl) ⟨Nat.zero_le _, Nat.zero_le _⟩ (fun H locs hk hS => ?_)
    have hP := mP_kept hP hk
    refine lv_if_eq hx hb dX12_found_16 (tgt := 31) rfl (fun hc => ?_) (fun hc => ?_)
    · replace h := ifp h hc
      refine lv_ldc2 hx hb hown (hw _ tw_12_20) dX12_found_31 ?_
      simp only [Option.some.injEq, Prod.mk.injEq] at h
      obtain ⟨rfl, rfl, rfl, rfl⟩ := h
      exact rc_l hx hb hr hlocks hS dX12_found_34 rfl hP
    · replace h := ifn h hc
      refine lv_iload hx hb dX12_found_19 (lv_at hl 5 rfl) ?_
      refine lv_iload hx hb dX12_found_21 (lv_at hl 4 rfl) ?_
      refine lv_icmp_lt hx hb dX12_found_23 (tgt := 31) rfl (fun hc => ?_) (fun hc => ?_)
      · replace h := ifp h hc
        refine lv_ldc2 hx hb hown (hw _ tw_12_20) dX12_found_31 ?_
        simp only [Option.some.injEq, Prod.mk.injEq] at h
        obtain ⟨rfl, rfl, rfl, rfl⟩ := h
        exact rc_l hx hb hr hlocks hS dX12_found_34 rfl hP
      · replace h := ifn h hc
        refine lv_iload hx hb dX12_found_26 (lv_at hl 6 rfl) ?_
        refine lv_if_ge hx hb dX12_found_28 (tgt := 35) rfl (fun hc => ?_) (fun hc => ?_)
        · replace h := ifp h hc
          refine lv_aload_n hx hb dX12_found_35 rfl (lv_at hl 0 rfl) ?_
          refine lv_iload_n hx hb dX12_found_36 rfl (lv_at hl 1 rfl) ?_
          refine lv_iload_n hx hb dX12_found_37 rfl (lv_at hl 2 rfl) ?_
          refine lv_iload_n hx hb dX12_found_38 rfl (lv_at hl 3 rfl) ?_
          refine lv_iload hx hb dX12_found_39 (lv_at hl 4 rfl) ?_
          refine lv_iload hx hb dX12_found_41 (lv_at hl 5 rfl) ?_
          refine lv_iload hx hb dX12_found_43 (lv_at hl 6 rfl) ?_
          obtain ⟨r_14, y_goes_15, a_flood_16, a_going_17, hr_18, h⟩ := bd4_s h
          refine hv_l hx hb hml hown hw mB_bl (mB_of hN hK hP) (mr_MO hK hP) (c_mo_lookedFor l D ct ad hI v1 v2 v3 v4 v5 v6 r_14 y_goes_15 a_flood_16 a_going_17 hr_18) g_RX12_247 ⟨rfl, hd_X12_lookedFor⟩ (rest := []) hl.1 hS (fun q h => h) dX12_found_45 rfl rfl ⟨Nat.le_of_ble_eq_true rfl, Nat.le_of_ble_eq_true rfl⟩ rfl rfl (Nat.le_of_ble_eq_true rfl) ⟨Nat.zero_le _, Nat.zero_le _⟩ (fun H locs hP _ hS => ?_)
          simp only [Option.some.injEq, Prod.mk.injEq] at h
          obtain ⟨rfl, rfl, rfl, rfl⟩ := h
          exact rc_l hx hb hr hlocks hS dX12_found_48 rfl hP
        · replace h := ifn h hc
          refine lv_ldc2 hx hb hown (hw _ tw_12_20) dX12_found_31 ?_
          simp only [Option.some.injEq, Prod.mk.injEq] at h
          obtain ⟨rfl, rfl, rfl, rfl⟩ := h
          exact rc_l hx hb hr hlocks hS dX12_found_34 rfl hP
noncomputable def mo_crowd_J159 (k109 : Int32 → Int32 → Int32 → Option (Int32 × Int32 × (Nat → Int32) × (Nat → Int32) × (Nat → Int32))) (a_listed : Nat → Int64) (a_from : Nat → Int32) (v4 : Int32) (v5 : Int32) (v7 : Int32) (y_goes : Int32) (a_flood : Nat → Int32) (a_going : Nat → Int32) (a_mcrowds : Nat → Int32) (t0 : Int32) (t1 : Int32) : Option (Int32 × Int32 × (Nat → Int32) × (Nat → Int32) × (Nat → Int32)) :=
  nm (t0 + t1 : Int32) fun v6_1 =>
  nm (v7 + Int32.ofInt 1) fun v7_2 =>
  k109 v5 v6_1 v7_2
noncomputable def mo_crowd_J140 (k109 : Int32 → Int32 → Int32 → Option (Int32 × Int32 × (Nat → Int32) × (Nat → Int32) × (Nat → Int32))) (a_listed : Nat → Int64) (a_from : Nat → Int32) (v4 : Int32) (v6 : Int32) (v7 : Int32) (y_goes : Int32) (a_flood : Nat → Int32) (a_going : Nat → Int32) (a_mcrowds : Nat → Int32) (t0 : Int32) : Option (Int32 × Int32 × (Nat → Int32) × (Nat → Int32) × (Nat → Int32)) :=
  ck v7 60 <|
  if (a_mcrowds v7.toNatClampNeg) ≤ 0 then (mo_crowd_J159 k109 a_listed a_from v4 t0 v7 y_goes a_flood a_going a_mcrowds v6 0) else
  mo_crowd_J159 k109 a_listed a_from v4 t0 v7 y_goes a_flood a_going a_mcrowds v6 1
noncomputable def mo_crowd_B109 (v4 : Int32) (y_goes : Int32) (a_flood : Nat → Int32) (a_going : Nat → Int32) (a_listed : Nat → Int64) (a_from : Nat → Int32) (a_mcrowds : Nat → Int32)  (k109 : Int32 → Int32 → Int32 → Option (Int32 × Int32 × (Nat → Int32) × (Nat → Int32) × (Nat → Int32))) (v5 : Int32) (v6 : Int32) (v7 : Int32) : Option (Int32 × Int32 × (Nat → Int32) × (Nat → Int32) × (Nat → Int32)) :=
  if 60 ≤ v7 then (if v4 = 0 then (some (v6, y_goes, a_flood, a_going, a_mcrowds)) else
  some (v5, y_goes, a_flood, a_going, a_mcrowds)) else
  ck v7 60 <|
  if (a_mcrowds v7.toNatClampNeg) ≤ v5 then (mo_crowd_J140 k109 a_listed a_from v4 v6 v7 y_goes a_flood a_going a_mcrowds v5) else
  ck v7 60 <|
  mo_crowd_J140 k109 a_listed a_from v4 v6 v7 y_goes a_flood a_going a_mcrowds (a_mcrowds v7.toNatClampNeg)
noncomputable def mo_crowd_B53 (v1 : Int32) (v2 : Int32) (v3 : Int32) (v4 : Int32) (a_listed : Nat → Int64) (a_from : Nat → Int32)  (k53 : Int32 → Int32 → (Nat → Int32) → (Nat → Int32) → (Nat → Int32) → Option (Int32 × Int32 × (Nat → Int32) × (Nat → Int32) × (Nat → Int32))) (v5 : Int32) (y_goes : Int32) (a_flood : Nat → Int32) (a_going : Nat → Int32) (a_mcrowds : Nat → Int32) : Option (Int32 × Int32 × (Nat → Int32) × (Nat → Int32) × (Nat → Int32)) :=
  bd1 (mo_end v1 v2 a_from) fun r_3 =>
  if r_3 ≤ v5 then (fl3 (mo_crowd_B109 v4 y_goes a_flood a_going a_listed a_from a_mcrowds) FU 0 0 0) else
  ck v5 1600 <|
  bd4 (mo_toldOf (a_listed v5.toNatClampNeg) v3 y_goes a_flood a_going) fun r_5 y_goes_6 a_flood_7 a_going_8 =>
  ck r_5 60 <|
  nm ((a_mcrowds r_5.toNatClampNeg) + 1 : Int32) fun w_10 =>
  ck r_5 60 <|
  nm (upd a_mcrowds r_5.toNatClampNeg w_10) fun a_mcrowds_11 =>
  nm (v5 + Int32.ofInt 1) fun v5_12 =>
  k53 v5_12 y_goes_6 a_flood_7 a_going_8 a_mcrowds_11
noncomputable def mo_crowd_B24 (v1 : Int32) (v2 : Int32) (v3 : Int32) (v4 : Int32) (y_goes : Int32) (a_flood : Nat → Int32) (a_going : Nat → Int32) (a_listed : Nat → Int64) (a_from : Nat → Int32)  (k24 : Int32 → (Nat → Int32) → Option (Int32 × Int32 × (Nat → Int32) × (Nat → Int32) × (Nat → Int32))) (v5 : Int32) (a_mcrowds : Nat → Int32) : Option (Int32 × Int32 × (Nat → Int32) × (Nat → Int32) × (Nat → Int32)) :=
  if 60 ≤ v5 then (bd1 (mo_begin v1 v2 a_from) fun r_13 =>
  fl5 (mo_crowd_B53 v1 v2 v3 v4 a_listed a_from) FU r_13 y_goes a_flood a_going a_mcrowds) else
  ck v5 60 <|
  nm (upd a_mcrowds v5.toNatClampNeg 0) fun a_mcrowds_15 =>
  nm (v5 + Int32.ofInt 1) fun v5_16 =>
  k24 v5_16 a_mcrowds_15
noncomputable def mo_crowd (v1 : Int32) (v2 : Int32) (v3 : Int32) (v4 : Int32) (y_goes : Int32) (a_flood : Nat → Int32) (a_going : Nat → Int32) (a_listed : Nat → Int64) (a_from : Nat → Int32) (a_mcrowds : Nat → Int32) : Option (Int32 × Int32 × (Nat → Int32) × (Nat → Int32) × (Nat → Int32)) :=
  bd1 (mo_isList v1 v2) fun r_17 =>
  if r_17 = 0 then (some ((-1), y_goes, a_flood, a_going, a_mcrowds)) else
  bd1 (mo_in v3 0 14) fun r_19 =>
  if r_19 = 0 then (some ((-1), y_goes, a_flood, a_going, a_mcrowds)) else
  fl2 (mo_crowd_B24 v1 v2 v3 v4 y_goes a_flood a_going a_listed a_from) FU 0 a_mcrowds
set_option maxHeartbeats 4000000 in
set_option maxRecDepth 100000 in
theorem c_mo_crowd (l : Launch) (D : va_G) (ct : Nat → ClassId) (ad : Nat → Nat) (hI : mI ad) {y_km y_tp y_goes y_kin y_qd y_sides y_cuts y_flat y_cp y_cA y_cB y_1X y_1Y y_2X y_2Y y_tm y_cells : Int32} {a_mtape a_flood a_going a_field a_from a_mcrowds a_steps a_queue a_letter a_lineX a_lineY a_triedAt a_cellAt a_besideIn a_apart : Nat → Int32} {a_drawer a_mkept a_listed a_mkin a_tried a_takenAt a_waysOf : Nat → Int64} (v1 : Int32) (v2 : Int32) (v3 : Int32) (v4 : Int32) (r : Int32) (z_y_goes : Int32) (z_a_flood : Nat → Int32) (z_a_going : Nat → Int32) (z_a_mcrowds : Nat → Int32) (h : mo_crowd v1 v2 v3 v4 y_goes a_flood a_going a_listed a_from a_mcrowds = some (r, z_y_goes, z_a_flood, z_a_going, z_a_mcrowds)) : Met l yX12_crowd (wm yX12_crowd cX12_crowd 8 (some .int)) (rmm 6 144) (va_Pc [.ref (ad 0), .int v1, .int v2, .int v3, .int v4] (mB D ct ad y_km y_tp y_goes y_kin y_qd y_sides y_cuts y_flat y_cp y_cA y_cB y_1X y_1Y y_2X y_2Y y_tm y_cells a_mtape a_flood a_going a_field a_from a_mcrowds a_steps a_queue a_letter a_lineX a_lineY a_triedAt a_cellAt a_besideIn a_apart a_drawer a_mkept a_listed a_mkin a_tried a_takenAt a_waysOf)) (va_Qi (fun z (_ : Unit) => z = r) (fun _ t => mP D ct ad y_km y_tp z_y_goes y_kin y_qd y_sides y_cuts y_flat y_cp y_cA y_cB y_1X y_1Y y_2X y_2Y y_tm y_cells a_mtape z_a_flood z_a_going a_field a_from z_a_mcrowds a_steps a_queue a_letter a_lineX a_lineY a_triedAt a_cellAt a_besideIn a_apart a_drawer a_mkept a_listed a_mkin a_tried a_takenAt a_waysOf t.heap) (mA ad)) 0 0 (mA ad) := by
  refine met_s (y := yX12_crowd) (rm := rmm 6 144) (by decide) (Nat.le_of_ble_eq_true rfl) ?_
  intro p e s m below meth c hx hb hr hw hown hlocks _ hml hB ls hl
  obtain ⟨hN, hK, hP⟩ := hB
  replace hl : lv_has ls 8 [(0, .ref (ad 0)), (1, .int v1), (2, .int v2), (3, .int v3), (4, .int v4)] := hl
  have hS : va_S (mA ad) s.heap s.heap [] := va_S.rf
  generalize (([.ref (ad 0), .int v1, .int v2, .int v3, .int v4] : List Value).toArray) = av at hw ⊢
  rw [mo_crowd] at h
  have hL109 : ∀ (v4 : Int32), ∀ (y_goes : Int32), ∀ (a_flood : Nat → Int32), ∀ (a_going : Nat → Int32), ∀ (a_listed : Nat → Int64), ∀ (a_from : Nat → Int32), ∀ (a_mcrowds : Nat → Int32), ∀ (n109 : Nat) (H : Heap) (locs : List Loc) (ls : Array Slot) (v5 : Int32) (v6 : Int32) (v7 : Int32), lv_has ls 8 [(0, .ref (ad 0)), (4, .int v4), (5, .int v5), (6, .int v6), (7, .int v7)] → mP D ct ad y_km y_tp y_goes y_kin y_qd y_sides y_cuts y_flat y_cp y_cA y_cB y_1X y_1Y y_2X y_2Y y_tm y_cells a_mtape a_flood a_going a_field a_from a_mcrowds a_steps a_queue a_letter a_lineX a_lineY a_triedAt a_cellAt a_besideIn a_apart a_drawer a_mkept a_listed a_mkin a_tried a_takenAt a_waysOf H → va_S (mA ad) s.heap H locs → fl3 (mo_crowd_B109 v4 y_goes a_flood a_going a_listed a_from a_mcrowds) n109 v5 v6 v7 = some (r, z_y_goes, z_a_flood, z_a_going, z_a_mcrowds) → W p l e (rmm 6 144) s m av below meth c H locs 0 0 (MQ below (va_Qi (fun z (_ : Unit) => z = r) (fun _ t => mP D ct ad y_km y_tp z_y_goes y_kin y_qd y_sides y_cuts y_flat y_cp y_cA y_cB y_1X y_1Y y_2X y_2Y y_tm y_cells a_mtape z_a_flood z_a_going a_field a_from z_a_mcrowds a_steps a_queue a_letter a_lineX a_lineY a_triedAt a_cellAt a_besideIn a_apart a_drawer a_mkept a_listed a_mkin a_tried a_takenAt a_waysOf t.heap) (mA ad)) av s 0 0 (mA ad)) (F0 m 109 ls []) := by
    intro v4 y_goes a_flood a_going a_listed a_from a_mcrowds n109
    induction n109 with
    | zero => intro H locs ls v5 v6 v7 hl hP hS h; cases h
    | succ n109 ih109 =>
      intro H locs ls v5 v6 v7 hl hP hS h
      replace h : mo_crowd_B109 v4 y_goes a_flood a_going a_listed a_from a_mcrowds (fl3 (mo_crowd_B109 v4 y_goes a_flood a_going a_listed a_from a_mcrowds) n109) v5 v6 v7 = some (r, z_y_goes, z_a_flood, z_a_going, z_a_mcrowds) := h
      generalize fl3 (mo_crowd_B109 v4 y_goes a_flood a_going a_listed a_from a_mcrowds) n109 = k109 at h ih109
      have hJ159 : ∀ (H : Heap) (locs : List Loc) (ls : Array Slot) (v5 : Int32) (v7 : Int32) (t0 : Int32) (t1 : Int32), lv_has ls 8 [(0, .ref (ad 0)), (4, .int v4), (5, .int v5), (7, .int v7)] → mP D ct ad y_km y_tp y_goes y_kin y_qd y_sides y_cuts y_flat y_cp y_cA y_cB y_1X y_1Y y_2X y_2Y y_tm y_cells a_mtape a_flood a_going a_field a_from a_mcrowds a_steps a_queue a_letter a_lineX a_lineY a_triedAt a_cellAt a_besideIn a_apart a_drawer a_mkept a_listed a_mkin a_tried a_takenAt a_waysOf H → va_S (mA ad) s.heap H locs → mo_crowd_J159 k109 a_listed a_from v4 v5 v7 y_goes a_flood a_going a_mcrowds t0 t1 = some (r, z_y_goes, z_a_flood, z_a_going, z_a_mcrowds) → W p l e (rmm 6 144) s m av below meth c H locs 0 0 (MQ below (va_Qi (fun z (_ : Unit) => z = r) (fun _ t => mP D ct ad y_km y_tp z_y_goes y_kin y_qd y_sides y_cuts y_flat y_cp y_cA y_cB y_1X y_1Y y_2X y_2Y y_tm y_cells a_mtape z_a_flood z_a_going a_field a_from z_a_mcrowds a_steps a_queue a_letter a_lineX a_lineY a_triedAt a_cellAt a_besideIn a_apart a_drawer a_mkept a_listed a_mkin a_tried a_takenAt a_waysOf t.heap) (mA ad)) av s 0 0 (mA ad)) (F0 m 159 ls [.int t1, .int t0]) := by
        intro H locs ls v5 v7 t0 t1 hl hP hS h
        rw [mo_crowd_J159] at h
        refine lv_iadd hx hb dX12_crowd_159 ?_
        obtain ⟨v6_21, ev6_21, h⟩ := nm_s h
        refine nmI ev6_21 ?_
        refine lv_istore hx hb dX12_crowd_160 hl (Nat.le_of_ble_eq_true rfl) (lv' := [(6, .int v6_21), (0, .ref (ad 0)), (4, .int v4), (5, .int v5), (7, .int v7)]) rfl (fun ls hl => ?_)
        obtain ⟨v7_22, ev7_22, h⟩ := nm_s h
        refine lv_iinc hx hb dX12_crowd_162 hl (k := 4) rfl ev7_22.symm (Nat.le_of_ble_eq_true rfl) (lv' := [(7, .int v7_22), (6, .int v6_21), (0, .ref (ad 0)), (4, .int v4), (5, .int v5)]) rfl (fun ls hl => ?_)
        refine lv_goto hx hb dX12_crowd_165 (tgt := 109) rfl ?_
        exact ih109 _ _ _ v5 v6_21 v7_22 (lv_sub hl [2, 3, 4, 1, 0] rfl) hP hS h
      have hJ140 : ∀ (H : Heap) (locs : List Loc) (ls : Array Slot) (v6 : Int32) (v7 : Int32) (t0 : Int32), lv_has ls 8 [(0, .ref (ad 0)), (4, .int v4), (6, .int v6), (7, .int v7)] → mP D ct ad y_km y_tp y_goes y_kin y_qd y_sides y_cuts y_flat y_cp y_cA y_cB y_1X y_1Y y_2X y_2Y y_tm y_cells a_mtape a_flood a_going a_field a_from a_mcrowds a_steps a_queue a_letter a_lineX a_lineY a_triedAt a_cellAt a_besideIn a_apart a_drawer a_mkept a_listed a_mkin a_tried a_takenAt a_waysOf H → va_S (mA ad) s.heap H locs → mo_crowd_J140 k109 a_listed a_from v4 v6 v7 y_goes a_flood a_going a_mcrowds t0 = some (r, z_y_goes, z_a_flood, z_a_going, z_a_mcrowds) → W p l e (rmm 6 144) s m av below meth c H locs 0 0 (MQ below (va_Qi (fun z (_ : Unit) => z = r) (fun _ t => mP D ct ad y_km y_tp z_y_goes y_kin y_qd y_sides y_cuts y_flat y_cp y_cA y_cB y_1X y_1Y y_2X y_2Y y_tm y_cells a_mtape z_a_flood z_a_going a_field a_from z_a_mcrowds a_steps a_queue a_letter a_lineX a_lineY a_triedAt a_cellAt a_besideIn a_apart a_drawer a_mkept a_listed a_mkin a_tried a_takenAt a_waysOf t.heap) (mA ad)) av s 0 0 (mA ad)) (F0 m 140 ls [.int t0]) := by
        intro H locs ls v6 v7 t0 hl hP hS h
        rw [mo_crowd_J140] at h
        refine lv_istore hx hb dX12_crowd_140 hl (Nat.le_of_ble_eq_true rfl) (lv' := [(5, .int t0), (0, .ref (ad 0)), (4, .int v4), (6, .int v6), (7, .int v7)]) rfl (fun ls hl => ?_)
        refine lv_iload hx hb dX12_crowd_142 (lv_at hl 3 rfl) ?_
        refine lv_aload_n hx hb dX12_crowd_144 rfl (lv_at hl 1 rfl) ?_
        refine mg_MO_13 hx hb hw hown hK hP dX12_crowd_145 ?_
        refine lv_iload hx hb dX12_crowd_148 (lv_at hl 4 rfl) ?_
        obtain ⟨hin, h⟩ := ck_s h
        refine md_mcrowds hx hb hK hP hin dX12_crowd_150 ?_
        refine lv_if_le hx hb dX12_crowd_151 (tgt := 158) rfl (fun hc => ?_) (fun hc => ?_)
        · replace h := ifp h hc
          refine lv_iconst (v := 0) hx hb dX12_crowd_158 ki_0 ?_
          exact hJ159 _ _ _ t0 v7 v6 0 (lv_sub hl [1, 2, 0, 4] rfl) hP hS h
        · replace h := ifn h hc
          refine lv_iconst (v := 1) hx hb dX12_crowd_154 ki_1 ?_
          refine lv_goto hx hb dX12_crowd_155 (tgt := 159) rfl ?_
          exact hJ159 _ _ _ t0 v7 v6 1 (lv_sub hl [1, 2, 0, 4] rfl) hP hS h
      rw [mo_crowd_B109] at h
      refine lv_iload hx hb dX12_crowd_109 (lv_at hl 4 rfl) ?_
      refine lv_bipush (v := 60) hx hb dX12_crowd_111 kb_60 ?_
      refine lv_icmp_ge hx hb dX12_crowd_113 (tgt := 168) rfl (fun hc => ?_) (fun hc => ?_)
      · replace h := ifp h hc
        refine lv_iload hx hb dX12_crowd_168 (lv_at hl 1 rfl) ?_
        refine lv_if_eq hx hb dX12_crowd_170 (tgt := 178) rfl (fun hc => ?_) (fun hc => ?_)
        · replace h := ifp h hc
          refine lv_iload hx hb dX12_crowd_178 (lv_at hl 3 rfl) ?_
          simp only [Option.some.injEq, Prod.mk.injEq] at h
          obtain ⟨rfl, rfl, rfl, rfl, rfl⟩ := h
          exact rc_i hx hb hr hlocks hS dX12_crowd_180 rfl hP
        · replace h := ifn h hc
          refine lv_iload hx hb dX12_crowd_173 (lv_at hl 2 rfl) ?_
          refine lv_goto hx hb dX12_crowd_175 (tgt := 180) rfl ?_
          simp only [Option.some.injEq, Prod.mk.injEq] at h
          obtain ⟨rfl, rfl, rfl, rfl, rfl⟩ := h
          exact rc_i hx hb hr hlocks hS dX12_crowd_180 rfl hP
      · replace h := ifn h hc
        refine lv_aload_n hx hb dX12_crowd_116 rfl (lv_at hl 0 rfl) ?_
        refine mg_MO_13 hx hb hw hown hK hP dX12_crowd_117 ?_
        refine lv_iload hx hb dX12_crowd_120 (lv_at hl 4 rfl) ?_
        obtain ⟨hin, h⟩ := ck_s h
        refine md_mcrowds hx hb hK hP hin dX12_crowd_122 ?_
        refine lv_iload hx hb dX12_crowd_123 (lv_at hl 2 rfl) ?_
        refine lv_icmp_le hx hb dX12_crowd_125 (tgt := 138) rfl (fun hc => ?_) (fun hc => ?_)
        · replace h := ifp h hc
          refine lv_iload hx hb dX12_crowd_138 (lv_at hl 2 rfl) ?_
          exact hJ140 _ _ _ v6 v7 v5 (lv_sub hl [0, 1, 3, 4] rfl) hP hS h
        · replace h := ifn h hc
          refine lv_aload_n hx hb dX12_crowd_128 rfl (lv_at hl 0 rfl) ?_
          refine mg_MO_13 hx hb hw hown hK hP dX12_crowd_129 ?_
          refine lv_iload hx hb dX12_crowd_132 (lv_at hl 4 rfl) ?_
          obtain ⟨hin, h⟩ := ck_s h
          refine md_mcrowds hx hb hK hP hin dX12_crowd_134 ?_
          refine lv_goto hx hb dX12_crowd_135 (tgt := 140) rfl ?_
          exact hJ140 _ _ _ v6 v7 (a_mcrowds v7.toNatClampNeg) (lv_sub hl [0, 1, 3, 4] rfl) hP hS h
  have hL53 : ∀ (v1 : Int32), ∀ (v2 : Int32), ∀ (v3 : Int32), ∀ (v4 : Int32), ∀ (a_listed : Nat → Int64), ∀ (a_from : Nat → Int32), ∀ (n53 : Nat) (H : Heap) (locs : List Loc) (ls : Array Slot) (v5 : Int32) (y_goes : Int32) (a_flood : Nat → Int32) (a_going : Nat → Int32) (a_mcrowds : Nat → Int32), lv_has ls 8 [(0, .ref (ad 0)), (1, .int v1), (2, .int v2), (3, .int v3), (4, .int v4), (5, .int v5)] → mP D ct ad y_km y_tp y_goes y_kin y_qd y_sides y_cuts y_flat y_cp y_cA y_cB y_1X y_1Y y_2X y_2Y y_tm y_cells a_mtape a_flood a_going a_field a_from a_mcrowds a_steps a_queue a_letter a_lineX a_lineY a_triedAt a_cellAt a_besideIn a_apart a_drawer a_mkept a_listed a_mkin a_tried a_takenAt a_waysOf H → va_S (mA ad) s.heap H locs → fl5 (mo_crowd_B53 v1 v2 v3 v4 a_listed a_from) n53 v5 y_goes a_flood a_going a_mcrowds = some (r, z_y_goes, z_a_flood, z_a_going, z_a_mcrowds) → W p l e (rmm 6 144) s m av below meth c H locs 0 0 (MQ below (va_Qi (fun z (_ : Unit) => z = r) (fun _ t => mP D ct ad y_km y_tp z_y_goes y_kin y_qd y_sides y_cuts y_flat y_cp y_cA y_cB y_1X y_1Y y_2X y_2Y y_tm y_cells a_mtape z_a_flood z_a_going a_field a_from z_a_mcrowds a_steps a_queue a_letter a_lineX a_lineY a_triedAt a_cellAt a_besideIn a_apart a_drawer a_mkept a_listed a_mkin a_tried a_takenAt a_waysOf t.heap) (mA ad)) av s 0 0 (mA ad)) (F0 m 53 ls []) := by
    intro v1 v2 v3 v4 a_listed a_from n53
    induction n53 with
    | zero => intro H locs ls v5 y_goes a_flood a_going a_mcrowds hl hP hS h; cases h
    | succ n53 ih53 =>
      intro H locs ls v5 y_goes a_flood a_going a_mcrowds hl hP hS h
      replace h : mo_crowd_B53 v1 v2 v3 v4 a_listed a_from (fl5 (mo_crowd_B53 v1 v2 v3 v4 a_listed a_from) n53) v5 y_goes a_flood a_going a_mcrowds = some (r, z_y_goes, z_a_flood, z_a_going, z_a_mcrowds) := h
      generalize fl5 (mo_crowd_B53 v1 v2 v3 v4 a_listed a_from) n53 = k53 at h ih53
      rw [mo_crowd_B53] at h
      refine lv_iload hx hb dX12_crowd_53 (lv_at hl 5 rfl) ?_
      refine lv_aload_n hx hb dX12_crowd_55 rfl (lv_at hl 0 rfl) ?_
      refine lv_iload_n hx hb dX12_crowd_56 rfl (lv_at hl 1 rfl) ?_
      refine lv_iload_n hx hb dX12_crowd_57 rfl (lv_at hl 2 rfl) ?_
      obtain ⟨r_23, hr_24, h⟩ := bd1_s h
      refine hv_i hx hb hml hown hw mB_bl (mB_of hN hK hP) (mr_MO hK hP) (c_mo_end l D ct ad hI v1 v2 r_23 hr_24) g_RX12_240 ⟨rfl, hd_X12_end⟩ (rest := [.int v5]) hl.1 hS (fun q h => h) dX12_crowd_58 rfl rfl ⟨Nat.le_of_ble_eq_true rfl, Nat.le_of_ble_eq_true rfl⟩ rfl rfl (Nat.le_of_ble_eq_true rfl) ⟨Nat.zero_le _, Nat.zero_le _⟩ (fun H locs hP _ hS => ?_)
      refine lv_icmp_ge hx hb dX12_crowd_61 (tgt := 100) rfl (fun hc => ?_) (fun hc => ?_)
      · replace h := ifp h hc
        refine lv_iconst (v := 0) hx hb dX12_crowd_100 ki_0 ?_
        refine lv_istore hx hb dX12_crowd_101 hl (Nat.le_of_ble_eq_true rfl) (lv' := [(5, .int 0), (0, .ref (ad 0)), (1, .int v1), (2, .int v2), (3, .int v3), (4, .int v4)]) rfl (fun ls hl => ?_)
        refine lv_iconst (v := 0) hx hb dX12_crowd_103 ki_0 ?_
        refine lv_istore hx hb dX12_crowd_104 hl (Nat.le_of_ble_eq_true rfl) (lv' := [(6, .int 0), (5, .int 0), (0, .ref (ad 0)), (1, .int v1), (2, .int v2), (3, .int v3), (4, .int v4)]) rfl (fun ls hl => ?_)
        refine lv_iconst (v := 0) hx hb dX12_crowd_106 ki_0 ?_
        refine lv_istore hx hb dX12_crowd_107 hl (Nat.le_of_ble_eq_true rfl) (lv' := [(7, .int 0), (6, .int 0), (5, .int 0), (0, .ref (ad 0)), (1, .int v1), (2, .int v2), (3, .int v3), (4, .int v4)]) rfl (fun ls hl => ?_)
        exact hL109 v4 y_goes a_flood a_going a_listed a_from a_mcrowds FU _ _ _ 0 0 0 (lv_sub hl [3, 7, 2, 1, 0] rfl) hP hS h
      · replace h := ifn h hc
        refine lv_aload_n hx hb dX12_crowd_64 rfl (lv_at hl 0 rfl) ?_
        refine lv_aload_n hx hb dX12_crowd_65 rfl (lv_at hl 0 rfl) ?_
        refine mg_MO_9 hx hb hw hown hK hP dX12_crowd_66 ?_
        refine lv_iload hx hb dX12_crowd_69 (lv_at hl 5 rfl) ?_
        obtain ⟨hin, h⟩ := ck_s h
        refine md_listed hx hb hK hP hin dX12_crowd_71 ?_
        refine lv_iload_n hx hb dX12_crowd_72 rfl (lv_at hl 3 rfl) ?_
        obtain ⟨r_25, y_goes_26, a_flood_27, a_going_28, hr_29, h⟩ := bd4_s h
        refine hv_i hx hb hml hown hw mB_bl (mB_of hN hK hP) (mr_MO hK hP) (c_mo_toldOf l D ct ad hI (a_listed v5.toNatClampNeg) v3 r_25 y_goes_26 a_flood_27 a_going_28 hr_29) g_RX12_191 ⟨rfl, hd_X12_toldOf⟩ (rest := []) hl.1 hS (fun q h => h) dX12_crowd_73 rfl rfl ⟨Nat.le_of_ble_eq_true rfl, Nat.le_of_ble_eq_true rfl⟩ rfl rfl (Nat.le_of_ble_eq_true rfl) ⟨Nat.zero_le _, Nat.zero_le _⟩ (fun H locs hP _ hS => ?_)
        refine lv_istore hx hb dX12_crowd_76 hl (Nat.le_of_ble_eq_true rfl) (lv' := [(6, .int r_25), (0, .ref (ad 0)), (1, .int v1), (2, .int v2), (3, .int v3), (4, .int v4), (5, .int v5)]) rfl (fun ls hl => ?_)
        refine lv_aload_n hx hb dX12_crowd_78 rfl (lv_at hl 1 rfl) ?_
        refine mg_MO_13 hx hb hw hown hK hP dX12_crowd_79 ?_
        refine lv_iload hx hb dX12_crowd_82 (lv_at hl 0 rfl) ?_
        refine lv_aload_n hx hb dX12_crowd_84 rfl (lv_at hl 1 rfl) ?_
        refine mg_MO_13 hx hb hw hown hK hP dX12_crowd_85 ?_
        refine lv_iload hx hb dX12_crowd_88 (lv_at hl 0 rfl) ?_
        obtain ⟨hin, h⟩ := ck_s h
        refine md_mcrowds hx hb hK hP hin dX12_crowd_90 ?_
        refine lv_iconst (v := 1) hx hb dX12_crowd_91 ki_1 ?_
        refine lv_iadd hx hb dX12_crowd_92 ?_
        obtain ⟨w_30, ew_30, h⟩ := nm_s h
        refine nmI ew_30 ?_
        obtain ⟨hin, h⟩ := ck_s h
        obtain ⟨a_mcrowds_31, ea_mcrowds_31, h⟩ := nm_s h
        refine ms_mcrowds hx hb hK hP hI hS hin ea_mcrowds_31 dX12_crowd_93 (fun H locs hP hS => ?_)
        obtain ⟨v5_32, ev5_32, h⟩ := nm_s h
        refine lv_iinc hx hb dX12_crowd_94 hl (k := 6) rfl ev5_32.symm (Nat.le_of_ble_eq_true rfl) (lv' := [(5, .int v5_32), (6, .int r_25), (0, .ref (ad 0)), (1, .int v1), (2, .int v2), (3, .int v3), (4, .int v4)]) rfl (fun ls hl => ?_)
        refine lv_goto hx hb dX12_crowd_97 (tgt := 53) rfl ?_
        exact ih53 _ _ _ v5_32 y_goes_26 a_flood_27 a_going_28 a_mcrowds_31 (lv_sub hl [2, 3, 4, 5, 6, 0] rfl) hP hS h
  have hL24 : ∀ (v1 : Int32), ∀ (v2 : Int32), ∀ (v3 : Int32), ∀ (v4 : Int32), ∀ (y_goes : Int32), ∀ (a_flood : Nat → Int32), ∀ (a_going : Nat → Int32), ∀ (a_listed : Nat → Int64), ∀ (a_from : Nat → Int32), ∀ (n24 : Nat) (H : Heap) (locs : List Loc) (ls : Array Slot) (v5 : Int32) (a_mcrowds : Nat → Int32), lv_has ls 8 [(0, .ref (ad 0)), (1, .int v1), (2, .int v2), (3, .int v3), (4, .int v4), (5, .int v5)] → mP D ct ad y_km y_tp y_goes y_kin y_qd y_sides y_cuts y_flat y_cp y_cA y_cB y_1X y_1Y y_2X y_2Y y_tm y_cells a_mtape a_flood a_going a_field a_from a_mcrowds a_steps a_queue a_letter a_lineX a_lineY a_triedAt a_cellAt a_besideIn a_apart a_drawer a_mkept a_listed a_mkin a_tried a_takenAt a_waysOf H → va_S (mA ad) s.heap H locs → fl2 (mo_crowd_B24 v1 v2 v3 v4 y_goes a_flood a_going a_listed a_from) n24 v5 a_mcrowds = some (r, z_y_goes, z_a_flood, z_a_going, z_a_mcrowds) → W p l e (rmm 6 144) s m av below meth c H locs 0 0 (MQ below (va_Qi (fun z (_ : Unit) => z = r) (fun _ t => mP D ct ad y_km y_tp z_y_goes y_kin y_qd y_sides y_cuts y_flat y_cp y_cA y_cB y_1X y_1Y y_2X y_2Y y_tm y_cells a_mtape z_a_flood z_a_going a_field a_from z_a_mcrowds a_steps a_queue a_letter a_lineX a_lineY a_triedAt a_cellAt a_besideIn a_apart a_drawer a_mkept a_listed a_mkin a_tried a_takenAt a_waysOf t.heap) (mA ad)) av s 0 0 (mA ad)) (F0 m 24 ls []) := by
    intro v1 v2 v3 v4 y_goes a_flood a_going a_listed a_from n24
    induction n24 with
    | zero => intro H locs ls v5 a_mcrowds hl hP hS h; cases h
    | succ n24 ih24 =>
      intro H locs ls v5 a_mcrowds hl hP hS h
      replace h : mo_crowd_B24 v1 v2 v3 v4 y_goes a_flood a_going a_listed a_from (fl2 (mo_crowd_B24 v1 v2 v3 v4 y_goes a_flood a_going a_listed a_from) n24) v5 a_mcrowds = some (r, z_y_goes, z_a_flood, z_a_going, z_a_mcrowds) := h
      generalize fl2 (mo_crowd_B24 v1 v2 v3 v4 y_goes a_flood a_going a_listed a_from) n24 = k24 at h ih24
      rw [mo_crowd_B24] at h
      refine lv_iload hx hb dX12_crowd_24 (lv_at hl 5 rfl) ?_
      refine lv_bipush (v := 60) hx hb dX12_crowd_26 kb_60 ?_
      refine lv_icmp_ge hx hb dX12_crowd_28 (tgt := 45) rfl (fun hc => ?_) (fun hc => ?_)
      · replace h := ifp h hc
        refine lv_aload_n hx hb dX12_crowd_45 rfl (lv_at hl 0 rfl) ?_
        refine lv_iload_n hx hb dX12_crowd_46 rfl (lv_at hl 1 rfl) ?_
        refine lv_iload_n hx hb dX12_crowd_47 rfl (lv_at hl 2 rfl) ?_
        obtain ⟨r_33, hr_34, h⟩ := bd1_s h
        refine hv_i hx hb hml hown hw mB_bl (mB_of hN hK hP) (mr_MO hK hP) (c_mo_begin l D ct ad hI v1 v2 r_33 hr_34) g_RX12_244 ⟨rfl, hd_X12_begin⟩ (rest := []) hl.1 hS (fun q h => h) dX12_crowd_48 rfl rfl ⟨Nat.le_of_ble_eq_true rfl, Nat.le_of_ble_eq_true rfl⟩ rfl rfl (Nat.le_of_ble_eq_true rfl) ⟨Nat.zero_le _, Nat.zero_le _⟩ (fun H locs hP _ hS => ?_)
        refine lv_istore hx hb dX12_crowd_51 hl (Nat.le_of_ble_eq_true rfl) (lv' := [(5, .int r_33), (0, .ref (ad 0)), (1, .int v1), (2, .int v2), (3, .int v3), (4, .int v4)]) rfl (fun ls hl => ?_)
        exact hL53 v1 v2 v3 v4 a_listed a_from FU _ _ _ r_33 y_goes a_flood a_going a_mcrowds (lv_sub hl [1, 2, 3, 4, 5, 0] rfl) hP hS h
      · replace h := ifn h hc
        refine lv_aload_n hx hb dX12_crowd_31 rfl (lv_at hl 0 rfl) ?_
        refine mg_MO_13 hx hb hw hown hK hP dX12_crowd_32 ?_
        refine lv_iload hx hb dX12_crowd_35 (lv_at hl 5 rfl) ?_
        refine lv_iconst (v := 0) hx hb dX12_crowd_37 ki_0 ?_
        obtain ⟨hin, h⟩ := ck_s h
        obtain ⟨a_mcrowds_35, ea_mcrowds_35, h⟩ := nm_s h
        refine ms_mcrowds hx hb hK hP hI hS hin ea_mcrowds_35 dX12_crowd_38 (fun H locs hP hS => ?_)
        obtain ⟨v5_36, ev5_36, h⟩ := nm_s h
        refine lv_iinc hx hb dX12_crowd_39 hl (k := 5) rfl ev5_36.symm (Nat.le_of_ble_eq_true rfl) (lv' := [(5, .int v5_36), (0, .ref (ad 0)), (1, .int v1), (2, .int v2), (3, .int v3), (4, .int v4)]) rfl (fun ls hl => ?_)
        refine lv_goto hx hb dX12_crowd_42 (tgt := 24) rfl ?_
        exact ih24 _ _ _ v5_36 a_mcrowds_35 (lv_sub hl [1, 2, 3, 4, 5, 0] rfl) hP hS h
  refine lv_aload_n hx hb dX12_crowd_0 rfl (lv_at hl 0 rfl) ?_
  refine lv_iload_n hx hb dX12_crowd_1 rfl (lv_at hl 1 rfl) ?_
  refine lv_iload_n hx hb dX12_crowd_2 rfl (lv_at hl 2 rfl) ?_
  obtain ⟨r_37, hr_38, h⟩ := bd1_s h
  refine hv_i hx hb hml hown hw mB_bl (mB_of hN hK hP) (mr_MO hK hP) (c_mo_isList l D ct ad hI v1 v2 r_37 hr_38) g_RX12_236 ⟨rfl, hd_X12_isList⟩ (rest := []) hl.1 hS (fun q h => h) dX12_crowd_3 rfl rfl ⟨Nat.le_of_ble_eq_true rfl, Nat.le_of_ble_eq_true rfl⟩ rfl rfl (Nat.le_of_ble_eq_true rfl) ⟨Nat.zero_le _, Nat.zero_le _⟩ (fun H locs hP _ hS => ?_)
  refine lv_if_eq hx hb dX12_crowd_6 (tgt := 19) rfl (fun hc => ?_) (fun hc => ?_)
  · replace h := ifp h hc
    refine lv_iconst (v := (-1)) hx hb dX12_crowd_19 ki_m1 ?_
    simp only [Option.some.injEq, Prod.mk.injEq] at h
    obtain ⟨rfl, rfl, rfl, rfl, rfl⟩ := h
    exact rc_i hx hb hr hlocks hS dX12_crowd_20 rfl hP
  · replace h := ifn h hc
    refine lv_iload_n hx hb dX12_crowd_9 rfl (lv_at hl 3 rfl) ?_
    refine lv_iconst (v := 0) hx hb dX12_crowd_10 ki_0 ?_
    refine lv_bipush (v := 14) hx hb dX12_crowd_11 kb_14 ?_
    obtain ⟨r_39, hr_40, h⟩ := bd1_s h
    refine sc_i hx hb hml hown hw hN (c_mo_in l v3 0 14 r_39 hr_40) g_RX12_82 hd_X12_in (rest := []) hl.1 hS dX12_crowd_13 rfl rfl ⟨Nat.le_of_ble_eq_true rfl, Nat.le_of_ble_eq_true rfl⟩ rfl rfl (Nat.le_of_ble_eq_true rfl) ⟨Nat.zero_le _, Nat.zero_le _⟩ (fun H locs hk hS => ?_)
    have hP := mP_kept hP hk
    refine lv_if_ne hx hb dX12_crowd_16 (tgt := 21) rfl (fun hc => ?_) (fun hc => ?_)
    · replace h := ifn h hc
      refine lv_iconst (v := 0) hx hb dX12_crowd_21 ki_0 ?_
      refine lv_istore hx hb dX12_crowd_22 hl (Nat.le_of_ble_eq_true rfl) (lv' := [(5, .int 0), (0, .ref (ad 0)), (1, .int v1), (2, .int v2), (3, .int v3), (4, .int v4)]) rfl (fun ls hl => ?_)
      exact hL24 v1 v2 v3 v4 y_goes a_flood a_going a_listed a_from FU _ _ _ 0 a_mcrowds (lv_sub hl [1, 2, 3, 4, 5, 0] rfl) hP hS h
    · replace h := ifp h hc
      refine lv_iconst (v := (-1)) hx hb dX12_crowd_19 ki_m1 ?_
      simp only [Option.some.injEq, Prod.mk.injEq] at h
      obtain ⟨rfl, rfl, rfl, rfl, rfl⟩ := h
      exact rc_i hx hb hr hlocks hS dX12_crowd_20 rfl hP
noncomputable def mo_kin (v1 : Int32) (v2 : Int32) (v3 : Int32) (y_kin : Int32) (a_drawer : Nat → Int64) (a_mkin : Nat → Int64) : Option (Int32 × Int32 × (Nat → Int64)) :=
  bd1 (mo_isDrawer v1) fun r_1 =>
  if r_1 = 0 then (some ((-1), y_kin, a_mkin)) else
  bd1 (mo_isKind v2) fun r_3 =>
  if r_3 = 0 then (some ((-1), y_kin, a_mkin)) else
  ck v1 8 <|
  if (a_drawer v1.toNatClampNeg) = 0 then (some ((-2), y_kin, a_mkin)) else
  if v3 = 0 then (ck v1 8 <|
  bd2 (mo_laysShrunk (a_drawer v1.toNatClampNeg) v2 y_kin a_mkin) fun y_kin_5 a_mkin_6 =>
  some (y_kin_5, y_kin_5, a_mkin_6)) else
  ck v1 8 <|
  bd2 (mo_laysGrown (a_drawer v1.toNatClampNeg) v2 y_kin a_mkin) fun y_kin_8 a_mkin_9 =>
  some (y_kin_8, y_kin_8, a_mkin_9)
set_option maxHeartbeats 4000000 in
set_option maxRecDepth 100000 in
theorem c_mo_kin (l : Launch) (D : va_G) (ct : Nat → ClassId) (ad : Nat → Nat) (hI : mI ad) {y_km y_tp y_goes y_kin y_qd y_sides y_cuts y_flat y_cp y_cA y_cB y_1X y_1Y y_2X y_2Y y_tm y_cells : Int32} {a_mtape a_flood a_going a_field a_from a_mcrowds a_steps a_queue a_letter a_lineX a_lineY a_triedAt a_cellAt a_besideIn a_apart : Nat → Int32} {a_drawer a_mkept a_listed a_mkin a_tried a_takenAt a_waysOf : Nat → Int64} (v1 : Int32) (v2 : Int32) (v3 : Int32) (r : Int32) (z_y_kin : Int32) (z_a_mkin : Nat → Int64) (h : mo_kin v1 v2 v3 y_kin a_drawer a_mkin = some (r, z_y_kin, z_a_mkin)) : Met l yX12_kin (wm yX12_kin cX12_kin 4 (some .int)) (rmm 4 102) (va_Pc [.ref (ad 0), .int v1, .int v2, .int v3] (mB D ct ad y_km y_tp y_goes y_kin y_qd y_sides y_cuts y_flat y_cp y_cA y_cB y_1X y_1Y y_2X y_2Y y_tm y_cells a_mtape a_flood a_going a_field a_from a_mcrowds a_steps a_queue a_letter a_lineX a_lineY a_triedAt a_cellAt a_besideIn a_apart a_drawer a_mkept a_listed a_mkin a_tried a_takenAt a_waysOf)) (va_Qi (fun z (_ : Unit) => z = r) (fun _ t => mP D ct ad y_km y_tp y_goes z_y_kin y_qd y_sides y_cuts y_flat y_cp y_cA y_cB y_1X y_1Y y_2X y_2Y y_tm y_cells a_mtape a_flood a_going a_field a_from a_mcrowds a_steps a_queue a_letter a_lineX a_lineY a_triedAt a_cellAt a_besideIn a_apart a_drawer a_mkept a_listed z_a_mkin a_tried a_takenAt a_waysOf t.heap) (mA ad)) 0 0 (mA ad) := by
  refine met_s (y := yX12_kin) (rm := rmm 4 102) (by decide) (Nat.le_of_ble_eq_true rfl) ?_
  intro p e s m below meth c hx hb hr hw hown hlocks _ hml hB ls hl
  obtain ⟨hN, hK, hP⟩ := hB
  replace hl : lv_has ls 4 [(0, .ref (ad 0)), (1, .int v1), (2, .int v2), (3, .int v3)] := hl
  have hS : va_S (mA ad) s.heap s.heap [] := va_S.rf
  generalize (([.ref (ad 0), .int v1, .int v2, .int v3] : List Value).toArray) = av at hw ⊢
  rw [mo_kin] at h
  refine lv_iload_n hx hb dX12_kin_0 rfl (lv_at hl 1 rfl) ?_
  obtain ⟨r_11, hr_12, h⟩ := bd1_s h
  refine sc_i hx hb hml hown hw hN (c_mo_isDrawer l v1 r_11 hr_12) g_RX12_135 hd_X12_isDrawer (rest := []) hl.1 hS dX12_kin_1 rfl rfl ⟨Nat.le_of_ble_eq_true rfl, Nat.le_of_ble_eq_true rfl⟩ rfl rfl (Nat.le_of_ble_eq_true rfl) ⟨Nat.zero_le _, Nat.zero_le _⟩ (fun H locs hk hS => ?_)
  have hP := mP_kept hP hk
  refine lv_if_eq hx hb dX12_kin_4 (tgt := 14) rfl (fun hc => ?_) (fun hc => ?_)
  · replace h := ifp h hc
    refine lv_iconst (v := (-1)) hx hb dX12_kin_14 ki_m1 ?_
    simp only [Option.some.injEq, Prod.mk.injEq] at h
    obtain ⟨rfl, rfl, rfl⟩ := h
    exact rc_i hx hb hr hlocks hS dX12_kin_15 rfl hP
  · replace h := ifn h hc
    refine lv_iload_n hx hb dX12_kin_7 rfl (lv_at hl 2 rfl) ?_
    obtain ⟨r_13, hr_14, h⟩ := bd1_s h
    refine sc_i hx hb hml hown hw hN (c_mo_isKind l v2 r_13 hr_14) g_RX12_194 hd_X12_isKind (rest := []) hl.1 hS dX12_kin_8 rfl rfl ⟨Nat.le_of_ble_eq_true rfl, Nat.le_of_ble_eq_true rfl⟩ rfl rfl (Nat.le_of_ble_eq_true rfl) ⟨Nat.zero_le _, Nat.zero_le _⟩ (fun H locs hk hS => ?_)
    have hP := mP_kept hP hk
    refine lv_if_ne hx hb dX12_kin_11 (tgt := 16) rfl (fun hc => ?_) (fun hc => ?_)
    · replace h := ifn h hc
      refine lv_aload_n hx hb dX12_kin_16 rfl (lv_at hl 0 rfl) ?_
      refine mg_MO_0 hx hb hw hown hK hP dX12_kin_17 ?_
      refine lv_iload_n hx hb dX12_kin_20 rfl (lv_at hl 1 rfl) ?_
      obtain ⟨hin, h⟩ := ck_s h
      refine md_drawer hx hb hK hP hin dX12_kin_21 ?_
      refine lv_lconst (v := 0) hx hb dX12_kin_22 kl_0 ?_
      refine W.lcmp hx hb dX12_kin_23 ?_
      refine lv_if_ne hx hb dX12_kin_24 (tgt := 30) rfl (fun hc => ?_) (fun hc => ?_)
      · replace h := ifn h (fun q => hc ((lg_cmp_eq _ _).mpr q))
        refine lv_iload_n hx hb dX12_kin_30 rfl (lv_at hl 3 rfl) ?_
        refine lv_if_eq hx hb dX12_kin_31 (tgt := 48) rfl (fun hc => ?_) (fun hc => ?_)
        · replace h := ifp h hc
          refine lv_aload_n hx hb dX12_kin_48 rfl (lv_at hl 0 rfl) ?_
          refine lv_aload_n hx hb dX12_kin_49 rfl (lv_at hl 0 rfl) ?_
          refine mg_MO_0 hx hb hw hown hK hP dX12_kin_50 ?_
          refine lv_iload_n hx hb dX12_kin_53 rfl (lv_at hl 1 rfl) ?_
          obtain ⟨hin, h⟩ := ck_s h
          refine md_drawer hx hb hK hP hin dX12_kin_54 ?_
          refine lv_iload_n hx hb dX12_kin_55 rfl (lv_at hl 2 rfl) ?_
          obtain ⟨y_kin_15, a_mkin_16, hr_17, h⟩ := bd2_s h
          refine hv_v hx hb hml hown hw mB_bl (mB_of hN hK hP) (mr_MO hK hP) (c_mo_laysShrunk l D ct ad hI (a_drawer v1.toNatClampNeg) v2 y_kin_15 a_mkin_16 hr_17) g_RX12_251 ⟨rfl, hd_X12_laysShrunk⟩ (rest := []) hl.1 hS (fun q h => h) dX12_kin_56 rfl rfl ⟨Nat.le_of_ble_eq_true rfl, Nat.le_of_ble_eq_true rfl⟩ rfl rfl (Nat.le_of_ble_eq_true rfl) ⟨Nat.zero_le _, Nat.zero_le _⟩ (fun H locs hP _ hS => ?_)
          refine lv_aload_n hx hb dX12_kin_59 rfl (lv_at hl 0 rfl) ?_
          refine mg_MO_12 hx hb hw hown hK hP dX12_kin_60 ?_
          simp only [Option.some.injEq, Prod.mk.injEq] at h
          obtain ⟨rfl, rfl, rfl⟩ := h
          exact rc_i hx hb hr hlocks hS dX12_kin_63 rfl hP
        · replace h := ifn h hc
          refine lv_aload_n hx hb dX12_kin_34 rfl (lv_at hl 0 rfl) ?_
          refine lv_aload_n hx hb dX12_kin_35 rfl (lv_at hl 0 rfl) ?_
          refine mg_MO_0 hx hb hw hown hK hP dX12_kin_36 ?_
          refine lv_iload_n hx hb dX12_kin_39 rfl (lv_at hl 1 rfl) ?_
          obtain ⟨hin, h⟩ := ck_s h
          refine md_drawer hx hb hK hP hin dX12_kin_40 ?_
          refine lv_iload_n hx hb dX12_kin_41 rfl (lv_at hl 2 rfl) ?_
          obtain ⟨y_kin_18, a_mkin_19, hr_20, h⟩ := bd2_s h
          refine hv_v hx hb hml hown hw mB_bl (mB_of hN hK hP) (mr_MO hK hP) (c_mo_laysGrown l D ct ad hI (a_drawer v1.toNatClampNeg) v2 y_kin_18 a_mkin_19 hr_20) g_RX12_225 ⟨rfl, hd_X12_laysGrown⟩ (rest := []) hl.1 hS (fun q h => h) dX12_kin_42 rfl rfl ⟨Nat.le_of_ble_eq_true rfl, Nat.le_of_ble_eq_true rfl⟩ rfl rfl (Nat.le_of_ble_eq_true rfl) ⟨Nat.zero_le _, Nat.zero_le _⟩ (fun H locs hP _ hS => ?_)
          refine lv_goto hx hb dX12_kin_45 (tgt := 59) rfl ?_
          refine lv_aload_n hx hb dX12_kin_59 rfl (lv_at hl 0 rfl) ?_
          refine mg_MO_12 hx hb hw hown hK hP dX12_kin_60 ?_
          simp only [Option.some.injEq, Prod.mk.injEq] at h
          obtain ⟨rfl, rfl, rfl⟩ := h
          exact rc_i hx hb hr hlocks hS dX12_kin_63 rfl hP
      · replace h := ifp h ((lg_cmp_eq _ _).mp hc)
        refine lv_bipush (v := (-2)) hx hb dX12_kin_27 kb_m2 ?_
        simp only [Option.some.injEq, Prod.mk.injEq] at h
        obtain ⟨rfl, rfl, rfl⟩ := h
        exact rc_i hx hb hr hlocks hS dX12_kin_29 rfl hP
    · replace h := ifp h hc
      refine lv_iconst (v := (-1)) hx hb dX12_kin_14 ki_m1 ?_
      simp only [Option.some.injEq, Prod.mk.injEq] at h
      obtain ⟨rfl, rfl, rfl⟩ := h
      exact rc_i hx hb hr hlocks hS dX12_kin_15 rfl hP
noncomputable def mo_kinAt_J67  (a_drawer : Nat → Int64) (v4 : Int32) (y_kin : Int32) (a_mkin : Nat → Int64)  : Option (Int64 × Int32 × (Nat → Int64)) :=
  if y_kin ≤ v4 then (some (((-3) : Int64), y_kin, a_mkin)) else
  ck v4 400 <|
  some (a_mkin v4.toNatClampNeg, y_kin, a_mkin)
noncomputable def mo_kinAt (v1 : Int32) (v2 : Int32) (v3 : Int32) (v4 : Int32) (y_kin : Int32) (a_drawer : Nat → Int64) (a_mkin : Nat → Int64) : Option (Int64 × Int32 × (Nat → Int64)) :=
  bd1 (mo_isDrawer v1) fun r_1 =>
  if r_1 = 0 then (some (((-1) : Int64), y_kin, a_mkin)) else
  bd1 (mo_isKind v2) fun r_3 =>
  if r_3 = 0 then (some (((-1) : Int64), y_kin, a_mkin)) else
  if 0 ≤ v4 then (ck v1 8 <|
  if (a_drawer v1.toNatClampNeg) = 0 then (some (((-2) : Int64), y_kin, a_mkin)) else
  if v3 = 0 then (ck v1 8 <|
  bd2 (mo_laysShrunk (a_drawer v1.toNatClampNeg) v2 y_kin a_mkin) fun y_kin_5 a_mkin_6 =>
  mo_kinAt_J67 a_drawer v4 y_kin_5 a_mkin_6) else
  ck v1 8 <|
  bd2 (mo_laysGrown (a_drawer v1.toNatClampNeg) v2 y_kin a_mkin) fun y_kin_8 a_mkin_9 =>
  mo_kinAt_J67 a_drawer v4 y_kin_8 a_mkin_9) else
  some (((-1) : Int64), y_kin, a_mkin)
set_option maxHeartbeats 4000000 in
set_option maxRecDepth 100000 in
theorem c_mo_kinAt (l : Launch) (D : va_G) (ct : Nat → ClassId) (ad : Nat → Nat) (hI : mI ad) {y_km y_tp y_goes y_kin y_qd y_sides y_cuts y_flat y_cp y_cA y_cB y_1X y_1Y y_2X y_2Y y_tm y_cells : Int32} {a_mtape a_flood a_going a_field a_from a_mcrowds a_steps a_queue a_letter a_lineX a_lineY a_triedAt a_cellAt a_besideIn a_apart : Nat → Int32} {a_drawer a_mkept a_listed a_mkin a_tried a_takenAt a_waysOf : Nat → Int64} (v1 : Int32) (v2 : Int32) (v3 : Int32) (v4 : Int32) (r : Int64) (z_y_kin : Int32) (z_a_mkin : Nat → Int64) (h : mo_kinAt v1 v2 v3 v4 y_kin a_drawer a_mkin = some (r, z_y_kin, z_a_mkin)) : Met l yX12_kinAt (wm yX12_kinAt cX12_kinAt 5 (some .long)) (rmm 4 102) (va_Pc [.ref (ad 0), .int v1, .int v2, .int v3, .int v4] (mB D ct ad y_km y_tp y_goes y_kin y_qd y_sides y_cuts y_flat y_cp y_cA y_cB y_1X y_1Y y_2X y_2Y y_tm y_cells a_mtape a_flood a_going a_field a_from a_mcrowds a_steps a_queue a_letter a_lineX a_lineY a_triedAt a_cellAt a_besideIn a_apart a_drawer a_mkept a_listed a_mkin a_tried a_takenAt a_waysOf)) (va_Ql (fun z (_ : Unit) => z = r) (fun _ t => mP D ct ad y_km y_tp y_goes z_y_kin y_qd y_sides y_cuts y_flat y_cp y_cA y_cB y_1X y_1Y y_2X y_2Y y_tm y_cells a_mtape a_flood a_going a_field a_from a_mcrowds a_steps a_queue a_letter a_lineX a_lineY a_triedAt a_cellAt a_besideIn a_apart a_drawer a_mkept a_listed z_a_mkin a_tried a_takenAt a_waysOf t.heap) (mA ad)) 0 0 (mA ad) := by
  refine met_s (y := yX12_kinAt) (rm := rmm 4 102) (by decide) (Nat.le_of_ble_eq_true rfl) ?_
  intro p e s m below meth c hx hb hr hw hown hlocks _ hml hB ls hl
  obtain ⟨hN, hK, hP⟩ := hB
  replace hl : lv_has ls 5 [(0, .ref (ad 0)), (1, .int v1), (2, .int v2), (3, .int v3), (4, .int v4)] := hl
  have hS : va_S (mA ad) s.heap s.heap [] := va_S.rf
  generalize (([.ref (ad 0), .int v1, .int v2, .int v3, .int v4] : List Value).toArray) = av at hw ⊢
  rw [mo_kinAt] at h
  have hJ67 : ∀ (H : Heap) (locs : List Loc) (ls : Array Slot) (a_drawer : Nat → Int64) (v4 : Int32) (y_kin : Int32) (a_mkin : Nat → Int64) , lv_has ls 5 [(0, .ref (ad 0)), (4, .int v4)] → mP D ct ad y_km y_tp y_goes y_kin y_qd y_sides y_cuts y_flat y_cp y_cA y_cB y_1X y_1Y y_2X y_2Y y_tm y_cells a_mtape a_flood a_going a_field a_from a_mcrowds a_steps a_queue a_letter a_lineX a_lineY a_triedAt a_cellAt a_besideIn a_apart a_drawer a_mkept a_listed a_mkin a_tried a_takenAt a_waysOf H → va_S (mA ad) s.heap H locs → mo_kinAt_J67 a_drawer v4 y_kin a_mkin = some (r, z_y_kin, z_a_mkin) → W p l e (rmm 4 102) s m av below meth c H locs 0 0 (MQ below (va_Ql (fun z (_ : Unit) => z = r) (fun _ t => mP D ct ad y_km y_tp y_goes z_y_kin y_qd y_sides y_cuts y_flat y_cp y_cA y_cB y_1X y_1Y y_2X y_2Y y_tm y_cells a_mtape a_flood a_going a_field a_from a_mcrowds a_steps a_queue a_letter a_lineX a_lineY a_triedAt a_cellAt a_besideIn a_apart a_drawer a_mkept a_listed z_a_mkin a_tried a_takenAt a_waysOf t.heap) (mA ad)) av s 0 0 (mA ad)) (F0 m 67 ls []) := by
    intro H locs ls a_drawer v4 y_kin a_mkin  hl hP hS h
    rw [mo_kinAt_J67] at h
    refine lv_iload hx hb dX12_kinAt_67 (lv_at hl 1 rfl) ?_
    refine lv_aload_n hx hb dX12_kinAt_69 rfl (lv_at hl 0 rfl) ?_
    refine mg_MO_12 hx hb hw hown hK hP dX12_kinAt_70 ?_
    refine lv_icmp_ge hx hb dX12_kinAt_73 (tgt := 86) rfl (fun hc => ?_) (fun hc => ?_)
    · replace h := ifp h hc
      refine lv_ldc2 hx hb hown (hw _ tw_32_20) dX12_kinAt_86 ?_
      simp only [Option.some.injEq, Prod.mk.injEq] at h
      obtain ⟨rfl, rfl, rfl⟩ := h
      exact rc_l hx hb hr hlocks hS dX12_kinAt_89 rfl hP
    · replace h := ifn h hc
      refine lv_aload_n hx hb dX12_kinAt_76 rfl (lv_at hl 0 rfl) ?_
      refine mg_MO_10 hx hb hw hown hK hP dX12_kinAt_77 ?_
      refine lv_iload hx hb dX12_kinAt_80 (lv_at hl 1 rfl) ?_
      obtain ⟨hin, h⟩ := ck_s h
      refine md_mkin hx hb hK hP hin dX12_kinAt_82 ?_
      refine lv_goto hx hb dX12_kinAt_83 (tgt := 89) rfl ?_
      simp only [Option.some.injEq, Prod.mk.injEq] at h
      obtain ⟨rfl, rfl, rfl⟩ := h
      exact rc_l hx hb hr hlocks hS dX12_kinAt_89 rfl hP
  refine lv_iload_n hx hb dX12_kinAt_0 rfl (lv_at hl 1 rfl) ?_
  obtain ⟨r_11, hr_12, h⟩ := bd1_s h
  refine sc_i hx hb hml hown hw hN (c_mo_isDrawer l v1 r_11 hr_12) g_RX12_135 hd_X12_isDrawer (rest := []) hl.1 hS dX12_kinAt_1 rfl rfl ⟨Nat.le_of_ble_eq_true rfl, Nat.le_of_ble_eq_true rfl⟩ rfl rfl (Nat.le_of_ble_eq_true rfl) ⟨Nat.zero_le _, Nat.zero_le _⟩ (fun H locs hk hS => ?_)
  have hP := mP_kept hP hk
  refine lv_if_eq hx hb dX12_kinAt_4 (tgt := 19) rfl (fun hc => ?_) (fun hc => ?_)
  · replace h := ifp h hc
    refine lv_ldc2 hx hb hown (hw _ tw_12_20) dX12_kinAt_19 ?_
    simp only [Option.some.injEq, Prod.mk.injEq] at h
    obtain ⟨rfl, rfl, rfl⟩ := h
    exact rc_l hx hb hr hlocks hS dX12_kinAt_22 rfl hP
  · replace h := ifn h hc
    refine lv_iload_n hx hb dX12_kinAt_7 rfl (lv_at hl 2 rfl) ?_
    obtain ⟨r_13, hr_14, h⟩ := bd1_s h
    refine sc_i hx hb hml hown hw hN (c_mo_isKind l v2 r_13 hr_14) g_RX12_194 hd_X12_isKind (rest := []) hl.1 hS dX12_kinAt_8 rfl rfl ⟨Nat.le_of_ble_eq_true rfl, Nat.le_of_ble_eq_true rfl⟩ rfl rfl (Nat.le_of_ble_eq_true rfl) ⟨Nat.zero_le _, Nat.zero_le _⟩ (fun H locs hk hS => ?_)
    have hP := mP_kept hP hk
    refine lv_if_eq hx hb dX12_kinAt_11 (tgt := 19) rfl (fun hc => ?_) (fun hc => ?_)
    · replace h := ifp h hc
      refine lv_ldc2 hx hb hown (hw _ tw_12_20) dX12_kinAt_19 ?_
      simp only [Option.some.injEq, Prod.mk.injEq] at h
      obtain ⟨rfl, rfl, rfl⟩ := h
      exact rc_l hx hb hr hlocks hS dX12_kinAt_22 rfl hP
    · replace h := ifn h hc
      refine lv_iload hx hb dX12_kinAt_14 (lv_at hl 4 rfl) ?_
      refine lv_if_ge hx hb dX12_kinAt_16 (tgt := 23) rfl (fun hc => ?_) (fun hc => ?_)
      · replace h := ifp h hc
        refine lv_aload_n hx hb dX12_kinAt_23 rfl (lv_at hl 0 rfl) ?_
        refine mg_MO_0 hx hb hw hown hK hP dX12_kinAt_24 ?_
        refine lv_iload_n hx hb dX12_kinAt_27 rfl (lv_at hl 1 rfl) ?_
        obtain ⟨hin, h⟩ := ck_s h
        refine md_drawer hx hb hK hP hin dX12_kinAt_28 ?_
        refine lv_lconst (v := 0) hx hb dX12_kinAt_29 kl_0 ?_
        refine W.lcmp hx hb dX12_kinAt_30 ?_
        refine lv_if_ne hx hb dX12_kinAt_31 (tgt := 38) rfl (fun hc => ?_) (fun hc => ?_)
        · replace h := ifn h (fun q => hc ((lg_cmp_eq _ _).mpr q))
          refine lv_iload_n hx hb dX12_kinAt_38 rfl (lv_at hl 3 rfl) ?_
          refine lv_if_eq hx hb dX12_kinAt_39 (tgt := 56) rfl (fun hc => ?_) (fun hc => ?_)
          · replace h := ifp h hc
            refine lv_aload_n hx hb dX12_kinAt_56 rfl (lv_at hl 0 rfl) ?_
            refine lv_aload_n hx hb dX12_kinAt_57 rfl (lv_at hl 0 rfl) ?_
            refine mg_MO_0 hx hb hw hown hK hP dX12_kinAt_58 ?_
            refine lv_iload_n hx hb dX12_kinAt_61 rfl (lv_at hl 1 rfl) ?_
            obtain ⟨hin, h⟩ := ck_s h
            refine md_drawer hx hb hK hP hin dX12_kinAt_62 ?_
            refine lv_iload_n hx hb dX12_kinAt_63 rfl (lv_at hl 2 rfl) ?_
            obtain ⟨y_kin_15, a_mkin_16, hr_17, h⟩ := bd2_s h
            refine hv_v hx hb hml hown hw mB_bl (mB_of hN hK hP) (mr_MO hK hP) (c_mo_laysShrunk l D ct ad hI (a_drawer v1.toNatClampNeg) v2 y_kin_15 a_mkin_16 hr_17) g_RX12_251 ⟨rfl, hd_X12_laysShrunk⟩ (rest := []) hl.1 hS (fun q h => h) dX12_kinAt_64 rfl rfl ⟨Nat.le_of_ble_eq_true rfl, Nat.le_of_ble_eq_true rfl⟩ rfl rfl (Nat.le_of_ble_eq_true rfl) ⟨Nat.zero_le _, Nat.zero_le _⟩ (fun H locs hP _ hS => ?_)
            exact hJ67 _ _ _ a_drawer v4 y_kin_15 a_mkin_16 (lv_sub hl [0, 4] rfl) hP hS h
          · replace h := ifn h hc
            refine lv_aload_n hx hb dX12_kinAt_42 rfl (lv_at hl 0 rfl) ?_
            refine lv_aload_n hx hb dX12_kinAt_43 rfl (lv_at hl 0 rfl) ?_
            refine mg_MO_0 hx hb hw hown hK hP dX12_kinAt_44 ?_
            refine lv_iload_n hx hb dX12_kinAt_47 rfl (lv_at hl 1 rfl) ?_
            obtain ⟨hin, h⟩ := ck_s h
            refine md_drawer hx hb hK hP hin dX12_kinAt_48 ?_
            refine lv_iload_n hx hb dX12_kinAt_49 rfl (lv_at hl 2 rfl) ?_
            obtain ⟨y_kin_18, a_mkin_19, hr_20, h⟩ := bd2_s h
            refine hv_v hx hb hml hown hw mB_bl (mB_of hN hK hP) (mr_MO hK hP) (c_mo_laysGrown l D ct ad hI (a_drawer v1.toNatClampNeg) v2 y_kin_18 a_mkin_19 hr_20) g_RX12_225 ⟨rfl, hd_X12_laysGrown⟩ (rest := []) hl.1 hS (fun q h => h) dX12_kinAt_50 rfl rfl ⟨Nat.le_of_ble_eq_true rfl, Nat.le_of_ble_eq_true rfl⟩ rfl rfl (Nat.le_of_ble_eq_true rfl) ⟨Nat.zero_le _, Nat.zero_le _⟩ (fun H locs hP _ hS => ?_)
            refine lv_goto hx hb dX12_kinAt_53 (tgt := 67) rfl ?_
            exact hJ67 _ _ _ a_drawer v4 y_kin_18 a_mkin_19 (lv_sub hl [0, 4] rfl) hP hS h
        · replace h := ifp h ((lg_cmp_eq _ _).mp hc)
          refine lv_ldc2 hx hb hown (hw _ tw_20_10) dX12_kinAt_34 ?_
          simp only [Option.some.injEq, Prod.mk.injEq] at h
          obtain ⟨rfl, rfl, rfl⟩ := h
          exact rc_l hx hb hr hlocks hS dX12_kinAt_37 rfl hP
      · replace h := ifn h hc
        refine lv_ldc2 hx hb hown (hw _ tw_12_20) dX12_kinAt_19 ?_
        simp only [Option.some.injEq, Prod.mk.injEq] at h
        obtain ⟨rfl, rfl, rfl⟩ := h
        exact rc_l hx hb hr hlocks hS dX12_kinAt_22 rfl hP
noncomputable def mo_reaches_B26 (v3 : Int32) (v4 : Int32) (v5 : Int64) (y_qd : Int32) (a_listed : Nat → Int64) (a_from : Nat → Int32) (a_steps : Nat → Int32) (a_queue : Nat → Int32)  (k26 : Int32 → Option (Int32 × (Nat → Int32) × (Nat → Int32))) (v7 : Int32) : Option (Int32 × (Nat → Int32) × (Nat → Int32)) :=
  ck v7 1600 <|
  if (a_listed v7.toNatClampNeg) = v5 then (bd1 (mo_begin v3 2 a_from) fun r_1 =>
  nm (v7 - r_1 : Int32) fun v7_3 =>
  ck v7_3 110 <|
  if (a_steps v7_3.toNatClampNeg) = (-1) then (ck v7_3 110 <|
  nm (upd a_steps v7_3.toNatClampNeg v4) fun a_steps_4 =>
  ck y_qd 110 <|
  nm (upd a_queue y_qd.toNatClampNeg v7_3) fun a_queue_5 =>
  nm (y_qd + 1 : Int32) fun y_qd_6 =>
  some (y_qd_6, a_steps_4, a_queue_5)) else
  some (y_qd, a_steps, a_queue)) else
  nm (v7 + 1 : Int32) fun v7_7 =>
  k26 v7_7
noncomputable def mo_reaches (v1 : Int64) (v3 : Int32) (v4 : Int32) (y_qd : Int32) (a_listed : Nat → Int64) (a_from : Nat → Int32) (a_steps : Nat → Int32) (a_queue : Nat → Int32) : Option (Int32 × (Nat → Int32) × (Nat → Int32)) :=
  bd1 (mo_hangs v1) fun r_8 =>
  if r_8 = 0 then (some (y_qd, a_steps, a_queue)) else
  bd1 (mo_moved v1) fun r_10 =>
  bd1 (mo_ownOf r_10 2) fun r_12 =>
  bd1 (mo_begin v3 2 a_from) fun r_14 =>
  fl1 (mo_reaches_B26 v3 v4 r_12 y_qd a_listed a_from a_steps a_queue) FU r_14
set_option maxHeartbeats 4000000 in
set_option maxRecDepth 100000 in
theorem c_mo_reaches (l : Launch) (D : va_G) (ct : Nat → ClassId) (ad : Nat → Nat) (hI : mI ad) {y_km y_tp y_goes y_kin y_qd y_sides y_cuts y_flat y_cp y_cA y_cB y_1X y_1Y y_2X y_2Y y_tm y_cells : Int32} {a_mtape a_flood a_going a_field a_from a_mcrowds a_steps a_queue a_letter a_lineX a_lineY a_triedAt a_cellAt a_besideIn a_apart : Nat → Int32} {a_drawer a_mkept a_listed a_mkin a_tried a_takenAt a_waysOf : Nat → Int64} (v1 : Int64) (v3 : Int32) (v4 : Int32)  (z_y_qd : Int32) (z_a_steps : Nat → Int32) (z_a_queue : Nat → Int32) (h : mo_reaches v1 v3 v4 y_qd a_listed a_from a_steps a_queue = some (z_y_qd, z_a_steps, z_a_queue)) : Met l yX12_reaches (wm yX12_reaches cX12_reaches 8 none) (rmm 3 75) (va_Pc [.ref (ad 0), .long v1, .int v3, .int v4] (mB D ct ad y_km y_tp y_goes y_kin y_qd y_sides y_cuts y_flat y_cp y_cA y_cB y_1X y_1Y y_2X y_2Y y_tm y_cells a_mtape a_flood a_going a_field a_from a_mcrowds a_steps a_queue a_letter a_lineX a_lineY a_triedAt a_cellAt a_besideIn a_apart a_drawer a_mkept a_listed a_mkin a_tried a_takenAt a_waysOf)) (va_Qv (fun (_ : Unit) => True) (fun _ t => mP D ct ad y_km y_tp y_goes y_kin z_y_qd y_sides y_cuts y_flat y_cp y_cA y_cB y_1X y_1Y y_2X y_2Y y_tm y_cells a_mtape a_flood a_going a_field a_from a_mcrowds z_a_steps z_a_queue a_letter a_lineX a_lineY a_triedAt a_cellAt a_besideIn a_apart a_drawer a_mkept a_listed a_mkin a_tried a_takenAt a_waysOf t.heap) (mA ad)) 0 0 (mA ad) := by
  refine met_s (y := yX12_reaches) (rm := rmm 3 75) (by decide) (Nat.le_of_ble_eq_true rfl) ?_
  intro p e s m below meth c hx hb hr hw hown hlocks _ hml hB ls hl
  obtain ⟨hN, hK, hP⟩ := hB
  replace hl : lv_has ls 8 [(0, .ref (ad 0)), (1, .long v1), (3, .int v3), (4, .int v4)] := hl
  have hS : va_S (mA ad) s.heap s.heap [] := va_S.rf
  generalize (([.ref (ad 0), .long v1, .int v3, .int v4] : List Value).toArray) = av at hw ⊢
  rw [mo_reaches] at h
  have hL26 : ∀ (v3 : Int32), ∀ (v4 : Int32), ∀ (v5 : Int64), ∀ (y_qd : Int32), ∀ (a_listed : Nat → Int64), ∀ (a_from : Nat → Int32), ∀ (a_steps : Nat → Int32), ∀ (a_queue : Nat → Int32), ∀ (n26 : Nat) (H : Heap) (locs : List Loc) (ls : Array Slot) (v7 : Int32), lv_has ls 8 [(0, .ref (ad 0)), (3, .int v3), (4, .int v4), (5, .long v5), (7, .int v7)] → mP D ct ad y_km y_tp y_goes y_kin y_qd y_sides y_cuts y_flat y_cp y_cA y_cB y_1X y_1Y y_2X y_2Y y_tm y_cells a_mtape a_flood a_going a_field a_from a_mcrowds a_steps a_queue a_letter a_lineX a_lineY a_triedAt a_cellAt a_besideIn a_apart a_drawer a_mkept a_listed a_mkin a_tried a_takenAt a_waysOf H → va_S (mA ad) s.heap H locs → fl1 (mo_reaches_B26 v3 v4 v5 y_qd a_listed a_from a_steps a_queue) n26 v7 = some (z_y_qd, z_a_steps, z_a_queue) → W p l e (rmm 3 75) s m av below meth c H locs 0 0 (MQ below (va_Qv (fun (_ : Unit) => True) (fun _ t => mP D ct ad y_km y_tp y_goes y_kin z_y_qd y_sides y_cuts y_flat y_cp y_cA y_cB y_1X y_1Y y_2X y_2Y y_tm y_cells a_mtape a_flood a_going a_field a_from a_mcrowds z_a_steps z_a_queue a_letter a_lineX a_lineY a_triedAt a_cellAt a_besideIn a_apart a_drawer a_mkept a_listed a_mkin a_tried a_takenAt a_waysOf t.heap) (mA ad)) av s 0 0 (mA ad)) (F0 m 26 ls []) := by
    intro v3 v4 v5 y_qd a_listed a_from a_steps a_queue n26
    induction n26 with
    | zero => intro H locs ls v7 hl hP hS h; cases h
    | succ n26 ih26 =>
      intro H locs ls v7 hl hP hS h
      replace h : mo_reaches_B26 v3 v4 v5 y_qd a_listed a_from a_steps a_queue (fl1 (mo_reaches_B26 v3 v4 v5 y_qd a_listed a_from a_steps a_queue) n26) v7 = some (z_y_qd, z_a_steps, z_a_queue) := h
      generalize fl1 (mo_reaches_B26 v3 v4 v5 y_qd a_listed a_from a_steps a_queue) n26 = k26 at h ih26
      rw [mo_reaches_B26] at h
      refine lv_aload_n hx hb dX12_reaches_26 rfl (lv_at hl 0 rfl) ?_
      refine mg_MO_9 hx hb hw hown hK hP dX12_reaches_27 ?_
      refine lv_iload hx hb dX12_reaches_30 (lv_at hl 4 rfl) ?_
      obtain ⟨hin, h⟩ := ck_s h
      refine md_listed hx hb hK hP hin dX12_reaches_32 ?_
      refine lv_lload hx hb dX12_reaches_33 (lv_at hl 3 rfl) ?_
      refine W.lcmp hx hb dX12_reaches_35 ?_
      refine lv_if_eq hx hb dX12_reaches_36 (tgt := 48) rfl (fun hc => ?_) (fun hc => ?_)
      · replace h := ifp h ((lg_cmp_eq _ _).mp hc)
        refine lv_iload hx hb dX12_reaches_48 (lv_at hl 4 rfl) ?_
        refine lv_aload_n hx hb dX12_reaches_50 rfl (lv_at hl 0 rfl) ?_
        refine lv_iload_n hx hb dX12_reaches_51 rfl (lv_at hl 1 rfl) ?_
        refine lv_iconst (v := 2) hx hb dX12_reaches_52 ki_2 ?_
        obtain ⟨r_16, hr_17, h⟩ := bd1_s h
        refine hv_i hx hb hml hown hw mB_bl (mB_of hN hK hP) (mr_MO hK hP) (c_mo_begin l D ct ad hI v3 2 r_16 hr_17) g_RX12_244 ⟨rfl, hd_X12_begin⟩ (rest := [.int v7]) hl.1 hS (fun q h => h) dX12_reaches_53 rfl rfl ⟨Nat.le_of_ble_eq_true rfl, Nat.le_of_ble_eq_true rfl⟩ rfl rfl (Nat.le_of_ble_eq_true rfl) ⟨Nat.zero_le _, Nat.zero_le _⟩ (fun H locs hP _ hS => ?_)
        refine lv_isub hx hb dX12_reaches_56 ?_
        obtain ⟨v7_18, ev7_18, h⟩ := nm_s h
        refine nmI ev7_18 ?_
        refine lv_istore hx hb dX12_reaches_57 hl (Nat.le_of_ble_eq_true rfl) (lv' := [(7, .int v7_18), (0, .ref (ad 0)), (3, .int v3), (4, .int v4), (5, .long v5)]) rfl (fun ls hl => ?_)
        refine lv_aload_n hx hb dX12_reaches_59 rfl (lv_at hl 1 rfl) ?_
        refine mg_MO_14 hx hb hw hown hK hP dX12_reaches_60 ?_
        refine lv_iload hx hb dX12_reaches_63 (lv_at hl 0 rfl) ?_
        obtain ⟨hin, h⟩ := ck_s h
        refine md_steps hx hb hK hP hin dX12_reaches_65 ?_
        refine lv_iconst (v := (-1)) hx hb dX12_reaches_66 ki_m1 ?_
        refine lv_icmp_eq hx hb dX12_reaches_67 (tgt := 71) rfl (fun hc => ?_) (fun hc => ?_)
        · replace h := ifp h hc
          refine lv_aload_n hx hb dX12_reaches_71 rfl (lv_at hl 1 rfl) ?_
          refine mg_MO_14 hx hb hw hown hK hP dX12_reaches_72 ?_
          refine lv_iload hx hb dX12_reaches_75 (lv_at hl 0 rfl) ?_
          refine lv_iload hx hb dX12_reaches_77 (lv_at hl 3 rfl) ?_
          obtain ⟨hin, h⟩ := ck_s h
          obtain ⟨a_steps_19, ea_steps_19, h⟩ := nm_s h
          refine ms_steps hx hb hK hP hI hS hin ea_steps_19 dX12_reaches_79 (fun H locs hP hS => ?_)
          refine lv_aload_n hx hb dX12_reaches_80 rfl (lv_at hl 1 rfl) ?_
          refine mg_MO_15 hx hb hw hown hK hP dX12_reaches_81 ?_
          refine lv_aload_n hx hb dX12_reaches_84 rfl (lv_at hl 1 rfl) ?_
          refine mg_MO_16 hx hb hw hown hK hP dX12_reaches_85 ?_
          refine lv_iload hx hb dX12_reaches_88 (lv_at hl 0 rfl) ?_
          obtain ⟨hin, h⟩ := ck_s h
          obtain ⟨a_queue_20, ea_queue_20, h⟩ := nm_s h
          refine ms_queue hx hb hK hP hI hS hin ea_queue_20 dX12_reaches_90 (fun H locs hP hS => ?_)
          refine lv_aload_n hx hb dX12_reaches_91 rfl (lv_at hl 1 rfl) ?_
          refine lv_aload_n hx hb dX12_reaches_92 rfl (lv_at hl 1 rfl) ?_
          refine mg_MO_16 hx hb hw hown hK hP dX12_reaches_93 ?_
          refine lv_iconst (v := 1) hx hb dX12_reaches_96 ki_1 ?_
          refine lv_iadd hx hb dX12_reaches_97 ?_
          obtain ⟨y_qd_21, ey_qd_21, h⟩ := nm_s h
          refine nmI ey_qd_21 ?_
          refine mp_MO_16 hx hb hw hown hK hP hI hS dX12_reaches_98 (fun H locs hP hS => ?_)
          simp only [Option.some.injEq, Prod.mk.injEq] at h
          obtain ⟨rfl, rfl, rfl⟩ := h
          exact rc_v hx hb hr hlocks hS dX12_reaches_101 hP
        · replace h := ifn h hc
          simp only [Option.some.injEq, Prod.mk.injEq] at h
          obtain ⟨rfl, rfl, rfl⟩ := h
          exact rc_v hx hb hr hlocks hS dX12_reaches_70 hP
      · replace h := ifn h (fun q => hc ((lg_cmp_eq _ _).mpr q))
        refine lv_iload hx hb dX12_reaches_39 (lv_at hl 4 rfl) ?_
        refine lv_iconst (v := 1) hx hb dX12_reaches_41 ki_1 ?_
        refine lv_iadd hx hb dX12_reaches_42 ?_
        obtain ⟨v7_22, ev7_22, h⟩ := nm_s h
        refine nmI ev7_22 ?_
        refine lv_istore hx hb dX12_reaches_43 hl (Nat.le_of_ble_eq_true rfl) (lv' := [(7, .int v7_22), (0, .ref (ad 0)), (3, .int v3), (4, .int v4), (5, .long v5)]) rfl (fun ls hl => ?_)
        refine lv_goto hx hb dX12_reaches_45 (tgt := 26) rfl ?_
        exact ih26 _ _ _ v7_22 (lv_sub hl [1, 2, 3, 4, 0] rfl) hP hS h
  refine lv_lload_n hx hb dX12_reaches_0 rfl (lv_at hl 1 rfl) ?_
  obtain ⟨r_23, hr_24, h⟩ := bd1_s h
  refine sc_i hx hb hml hown hw hN (c_mo_hangs l v1 r_23 hr_24) g_RX12_110 hd_X12_hangs (rest := []) hl.1 hS dX12_reaches_1 rfl rfl ⟨Nat.le_of_ble_eq_true rfl, Nat.le_of_ble_eq_true rfl⟩ rfl rfl (Nat.le_of_ble_eq_true rfl) ⟨Nat.zero_le _, Nat.zero_le _⟩ (fun H locs hk hS => ?_)
  have hP := mP_kept hP hk
  refine lv_if_ne hx hb dX12_reaches_4 (tgt := 8) rfl (fun hc => ?_) (fun hc => ?_)
  · replace h := ifn h hc
    refine lv_lload_n hx hb dX12_reaches_8 rfl (lv_at hl 1 rfl) ?_
    obtain ⟨r_25, hr_26, h⟩ := bd1_s h
    refine sc_l hx hb hml hown hw hN (c_mo_moved l v1 r_25 hr_26) g_RX12_114 hd_X12_moved (rest := []) hl.1 hS dX12_reaches_9 rfl rfl ⟨Nat.le_of_ble_eq_true rfl, Nat.le_of_ble_eq_true rfl⟩ rfl rfl (Nat.le_of_ble_eq_true rfl) ⟨Nat.zero_le _, Nat.zero_le _⟩ (fun H locs hk hS => ?_)
    have hP := mP_kept hP hk
    refine lv_iconst (v := 2) hx hb dX12_reaches_12 ki_2 ?_
    obtain ⟨r_27, hr_28, h⟩ := bd1_s h
    refine sc_l hx hb hml hown hw hN (c_mo_ownOf l r_25 2 r_27 hr_28) g_RX12_199 hd_X12_ownOf (rest := []) hl.1 hS dX12_reaches_13 rfl rfl ⟨Nat.le_of_ble_eq_true rfl, Nat.le_of_ble_eq_true rfl⟩ rfl rfl (Nat.le_of_ble_eq_true rfl) ⟨Nat.zero_le _, Nat.zero_le _⟩ (fun H locs hk hS => ?_)
    have hP := mP_kept hP hk
    refine lv_lstore hx hb dX12_reaches_16 hl (Nat.le_of_ble_eq_true rfl) (lv' := [(5, .long r_27), (0, .ref (ad 0)), (1, .long v1), (3, .int v3), (4, .int v4)]) rfl (fun ls hl => ?_)
    refine lv_aload_n hx hb dX12_reaches_18 rfl (lv_at hl 1 rfl) ?_
    refine lv_iload_n hx hb dX12_reaches_19 rfl (lv_at hl 3 rfl) ?_
    refine lv_iconst (v := 2) hx hb dX12_reaches_20 ki_2 ?_
    obtain ⟨r_29, hr_30, h⟩ := bd1_s h
    refine hv_i hx hb hml hown hw mB_bl (mB_of hN hK hP) (mr_MO hK hP) (c_mo_begin l D ct ad hI v3 2 r_29 hr_30) g_RX12_244 ⟨rfl, hd_X12_begin⟩ (rest := []) hl.1 hS (fun q h => h) dX12_reaches_21 rfl rfl ⟨Nat.le_of_ble_eq_true rfl, Nat.le_of_ble_eq_true rfl⟩ rfl rfl (Nat.le_of_ble_eq_true rfl) ⟨Nat.zero_le _, Nat.zero_le _⟩ (fun H locs hP _ hS => ?_)
    refine lv_istore hx hb dX12_reaches_24 hl (Nat.le_of_ble_eq_true rfl) (lv' := [(7, .int r_29), (5, .long r_27), (0, .ref (ad 0)), (1, .long v1), (3, .int v3), (4, .int v4)]) rfl (fun ls hl => ?_)
    exact hL26 v3 v4 r_27 y_qd a_listed a_from a_steps a_queue FU _ _ _ r_29 (lv_sub hl [2, 4, 5, 1, 0] rfl) hP hS h
  · replace h := ifp h hc
    simp only [Option.some.injEq, Prod.mk.injEq] at h
    obtain ⟨rfl, rfl, rfl⟩ := h
    exact rc_v hx hb hr hlocks hS dX12_reaches_7 hP
noncomputable def mo_laysSteps_B157 (v3 : Int32) (v5 : Int32) (v6 : Int64) (v8 : Int32) (v9 : Int64) (v13 : Int64) (a_listed : Nat → Int64) (a_from : Nat → Int32) (k59 : Int32 → Int32 → (Nat → Int32) → (Nat → Int32) → Option (Int32 × (Nat → Int32) × (Nat → Int32))) (k117 : Int64 → Int32 → (Nat → Int32) → (Nat → Int32) → Option (Int32 × (Nat → Int32) × (Nat → Int32))) (k157 : Int64 → Int32 → (Nat → Int32) → (Nat → Int32) → Option (Int32 × (Nat → Int32) × (Nat → Int32))) (v15 : Int64) (y_qd : Int32) (a_steps : Nat → Int32) (a_queue : Nat → Int32) : Option (Int32 × (Nat → Int32) × (Nat → Int32)) :=
  if v15 = 0 then (nm (v9 &&& (v9 - 1) : Int64) fun v9_1 =>
  k117 v9_1 y_qd a_steps a_queue) else
  bd3 (mo_reaches (v13 ||| (v15 &&& (-v15))) v3 v8 y_qd a_listed a_from a_steps a_queue) fun y_qd_2 a_steps_3 a_queue_4 =>
  nm (v15 &&& (v15 - 1) : Int64) fun v15_6 =>
  k157 v15_6 y_qd_2 a_steps_3 a_queue_4
noncomputable def mo_laysSteps_B117 (v3 : Int32) (v5 : Int32) (v6 : Int64) (v8 : Int32) (a_listed : Nat → Int64) (a_from : Nat → Int32) (k59 : Int32 → Int32 → (Nat → Int32) → (Nat → Int32) → Option (Int32 × (Nat → Int32) × (Nat → Int32))) (k117 : Int64 → Int32 → (Nat → Int32) → (Nat → Int32) → Option (Int32 × (Nat → Int32) × (Nat → Int32))) (v9 : Int64) (y_qd : Int32) (a_steps : Nat → Int32) (a_queue : Nat → Int32) : Option (Int32 × (Nat → Int32) × (Nat → Int32)) :=
  if v9 = 0 then (nm (v5 + Int32.ofInt 1) fun v5_7 =>
  k59 v5_7 y_qd a_steps a_queue) else
  nm (v9 &&& (-v9) : Int64) fun v11_8 =>
  nm (v6 &&& (v11_8 ^^^ (((-1) : Int64))) : Int64) fun v13_9 =>
  bd1 (mo_around v13_9) fun r_10 =>
  nm (r_10 &&& (v11_8 ^^^ (((-1) : Int64))) : Int64) fun v15_12 =>
  fl4 (mo_laysSteps_B157 v3 v5 v6 v8 v9 v13_9 a_listed a_from k59 k117) FU v15_12 y_qd a_steps a_queue
noncomputable def mo_laysSteps_B59 (v3 : Int32) (a_listed : Nat → Int64) (a_from : Nat → Int32)  (k59 : Int32 → Int32 → (Nat → Int32) → (Nat → Int32) → Option (Int32 × (Nat → Int32) × (Nat → Int32))) (v5 : Int32) (y_qd : Int32) (a_steps : Nat → Int32) (a_queue : Nat → Int32) : Option (Int32 × (Nat → Int32) × (Nat → Int32)) :=
  if y_qd ≤ v5 then (some (y_qd, a_steps, a_queue)) else
  if v3 ≤ 1 then (some (y_qd, a_steps, a_queue)) else
  bd1 (mo_begin v3 2 a_from) fun r_13 =>
  ck v5 110 <|
  nm (r_13 + (a_queue v5.toNatClampNeg) : Int32) fun i_15 =>
  ck i_15 1600 <|
  nm (sl (a_listed i_15.toNatClampNeg) 9 : Int64) fun v6_16 =>
  ck v5 110 <|
  nm (a_queue v5.toNatClampNeg : Int32) fun i_17 =>
  ck i_17 110 <|
  nm ((a_steps i_17.toNatClampNeg) + 1 : Int32) fun v8_18 =>
  fl4 (mo_laysSteps_B117 v3 v5 v6_16 v8_18 a_listed a_from k59) FU v6_16 y_qd a_steps a_queue
noncomputable def mo_laysSteps_B23 (v1 : Int64) (v3 : Int32) (v4 : Int32) (y_qd : Int32) (a_listed : Nat → Int64) (a_from : Nat → Int32) (a_queue : Nat → Int32)  (k23 : Int32 → (Nat → Int32) → Option (Int32 × (Nat → Int32) × (Nat → Int32))) (v5 : Int32) (a_steps : Nat → Int32) : Option (Int32 × (Nat → Int32) × (Nat → Int32)) :=
  if v4 ≤ v5 then (bd3 (mo_reaches v1 v3 0 0 a_listed a_from a_steps a_queue) fun y_qd_19 a_steps_20 a_queue_21 =>
  fl4 (mo_laysSteps_B59 v3 a_listed a_from) FU 0 y_qd_19 a_steps_20 a_queue_21) else
  ck v5 110 <|
  nm (upd a_steps v5.toNatClampNeg (-1)) fun a_steps_23 =>
  nm (v5 + Int32.ofInt 1) fun v5_24 =>
  k23 v5_24 a_steps_23
noncomputable def mo_laysSteps (v1 : Int64) (y_qd : Int32) (a_listed : Nat → Int64) (a_from : Nat → Int32) (a_steps : Nat → Int32) (a_queue : Nat → Int32) : Option (Int32 × (Nat → Int32) × (Nat → Int32)) :=
  bd1 (mo_bits v1) fun r_25 =>
  bd1 (mo_end r_25 2 a_from) fun r_27 =>
  bd1 (mo_begin r_25 2 a_from) fun r_29 =>
  nm (r_27 - r_29 : Int32) fun v4_31 =>
  fl2 (mo_laysSteps_B23 v1 r_25 v4_31 y_qd a_listed a_from a_queue) FU 0 a_steps
set_option maxHeartbeats 4000000 in
set_option maxRecDepth 100000 in
theorem c_mo_laysSteps (l : Launch) (D : va_G) (ct : Nat → ClassId) (ad : Nat → Nat) (hI : mI ad) {y_km y_tp y_goes y_kin y_qd y_sides y_cuts y_flat y_cp y_cA y_cB y_1X y_1Y y_2X y_2Y y_tm y_cells : Int32} {a_mtape a_flood a_going a_field a_from a_mcrowds a_steps a_queue a_letter a_lineX a_lineY a_triedAt a_cellAt a_besideIn a_apart : Nat → Int32} {a_drawer a_mkept a_listed a_mkin a_tried a_takenAt a_waysOf : Nat → Int64} (v1 : Int64)  (z_y_qd : Int32) (z_a_steps : Nat → Int32) (z_a_queue : Nat → Int32) (h : mo_laysSteps v1 y_qd a_listed a_from a_steps a_queue = some (z_y_qd, z_a_steps, z_a_queue)) : Met l yX12_laysSteps (wm yX12_laysSteps cX12_laysSteps 17 none) (rmm 4 102) (va_Pc [.ref (ad 0), .long v1] (mB D ct ad y_km y_tp y_goes y_kin y_qd y_sides y_cuts y_flat y_cp y_cA y_cB y_1X y_1Y y_2X y_2Y y_tm y_cells a_mtape a_flood a_going a_field a_from a_mcrowds a_steps a_queue a_letter a_lineX a_lineY a_triedAt a_cellAt a_besideIn a_apart a_drawer a_mkept a_listed a_mkin a_tried a_takenAt a_waysOf)) (va_Qv (fun (_ : Unit) => True) (fun _ t => mP D ct ad y_km y_tp y_goes y_kin z_y_qd y_sides y_cuts y_flat y_cp y_cA y_cB y_1X y_1Y y_2X y_2Y y_tm y_cells a_mtape a_flood a_going a_field a_from a_mcrowds z_a_steps z_a_queue a_letter a_lineX a_lineY a_triedAt a_cellAt a_besideIn a_apart a_drawer a_mkept a_listed a_mkin a_tried a_takenAt a_waysOf t.heap) (mA ad)) 0 0 (mA ad) := by
  refine met_s (y := yX12_laysSteps) (rm := rmm 4 102) (by decide) (Nat.le_of_ble_eq_true rfl) ?_
  intro p e s m below meth c hx hb hr hw hown hlocks _ hml hB ls hl
  obtain ⟨hN, hK, hP⟩ := hB
  replace hl : lv_has ls 17 [(0, .ref (ad 0)), (1, .long v1)] := hl
  have hS : va_S (mA ad) s.heap s.heap [] := va_S.rf
  generalize (([.ref (ad 0), .long v1] : List Value).toArray) = av at hw ⊢
  rw [mo_laysSteps] at h
  have hL59 : ∀ (v3 : Int32), ∀ (a_listed : Nat → Int64), ∀ (a_from : Nat → Int32), ∀ (n59 : Nat) (H : Heap) (locs : List Loc) (ls : Array Slot) (v5 : Int32) (y_qd : Int32) (a_steps : Nat → Int32) (a_queue : Nat → Int32), lv_has ls 17 [(0, .ref (ad 0)), (3, .int v3), (5, .int v5)] → mP D ct ad y_km y_tp y_goes y_kin y_qd y_sides y_cuts y_flat y_cp y_cA y_cB y_1X y_1Y y_2X y_2Y y_tm y_cells a_mtape a_flood a_going a_field a_from a_mcrowds a_steps a_queue a_letter a_lineX a_lineY a_triedAt a_cellAt a_besideIn a_apart a_drawer a_mkept a_listed a_mkin a_tried a_takenAt a_waysOf H → va_S (mA ad) s.heap H locs → fl4 (mo_laysSteps_B59 v3 a_listed a_from) n59 v5 y_qd a_steps a_queue = some (z_y_qd, z_a_steps, z_a_queue) → W p l e (rmm 4 102) s m av below meth c H locs 0 0 (MQ below (va_Qv (fun (_ : Unit) => True) (fun _ t => mP D ct ad y_km y_tp y_goes y_kin z_y_qd y_sides y_cuts y_flat y_cp y_cA y_cB y_1X y_1Y y_2X y_2Y y_tm y_cells a_mtape a_flood a_going a_field a_from a_mcrowds z_a_steps z_a_queue a_letter a_lineX a_lineY a_triedAt a_cellAt a_besideIn a_apart a_drawer a_mkept a_listed a_mkin a_tried a_takenAt a_waysOf t.heap) (mA ad)) av s 0 0 (mA ad)) (F0 m 59 ls []) := by
    intro v3 a_listed a_from n59
    induction n59 with
    | zero => intro H locs ls v5 y_qd a_steps a_queue hl hP hS h; cases h
    | succ n59 ih59 =>
      intro H locs ls v5 y_qd a_steps a_queue hl hP hS h
      replace h : mo_laysSteps_B59 v3 a_listed a_from (fl4 (mo_laysSteps_B59 v3 a_listed a_from) n59) v5 y_qd a_steps a_queue = some (z_y_qd, z_a_steps, z_a_queue) := h
      generalize fl4 (mo_laysSteps_B59 v3 a_listed a_from) n59 = k59 at h ih59
      have hL117 : ∀ (v5 : Int32), ∀ (v6 : Int64), ∀ (v8 : Int32), ∀ (n117 : Nat) (H : Heap) (locs : List Loc) (ls : Array Slot) (v9 : Int64) (y_qd : Int32) (a_steps : Nat → Int32) (a_queue : Nat → Int32), lv_has ls 17 [(0, .ref (ad 0)), (3, .int v3), (5, .int v5), (6, .long v6), (8, .int v8), (9, .long v9)] → mP D ct ad y_km y_tp y_goes y_kin y_qd y_sides y_cuts y_flat y_cp y_cA y_cB y_1X y_1Y y_2X y_2Y y_tm y_cells a_mtape a_flood a_going a_field a_from a_mcrowds a_steps a_queue a_letter a_lineX a_lineY a_triedAt a_cellAt a_besideIn a_apart a_drawer a_mkept a_listed a_mkin a_tried a_takenAt a_waysOf H → va_S (mA ad) s.heap H locs → fl4 (mo_laysSteps_B117 v3 v5 v6 v8 a_listed a_from k59) n117 v9 y_qd a_steps a_queue = some (z_y_qd, z_a_steps, z_a_queue) → W p l e (rmm 4 102) s m av below meth c H locs 0 0 (MQ below (va_Qv (fun (_ : Unit) => True) (fun _ t => mP D ct ad y_km y_tp y_goes y_kin z_y_qd y_sides y_cuts y_flat y_cp y_cA y_cB y_1X y_1Y y_2X y_2Y y_tm y_cells a_mtape a_flood a_going a_field a_from a_mcrowds z_a_steps z_a_queue a_letter a_lineX a_lineY a_triedAt a_cellAt a_besideIn a_apart a_drawer a_mkept a_listed a_mkin a_tried a_takenAt a_waysOf t.heap) (mA ad)) av s 0 0 (mA ad)) (F0 m 117 ls []) := by
        intro v5 v6 v8 n117
        induction n117 with
        | zero => intro H locs ls v9 y_qd a_steps a_queue hl hP hS h; cases h
        | succ n117 ih117 =>
          intro H locs ls v9 y_qd a_steps a_queue hl hP hS h
          replace h : mo_laysSteps_B117 v3 v5 v6 v8 a_listed a_from k59 (fl4 (mo_laysSteps_B117 v3 v5 v6 v8 a_listed a_from k59) n117) v9 y_qd a_steps a_queue = some (z_y_qd, z_a_steps, z_a_queue) := h
          generalize fl4 (mo_laysSteps_B117 v3 v5 v6 v8 a_listed a_from k59) n117 = k117 at h ih117
          have hL157 : ∀ (v9 : Int64), ∀ (v13 : Int64), ∀ (n157 : Nat) (H : Heap) (locs : List Loc) (ls : Array Slot) (v15 : Int64) (y_qd : Int32) (a_steps : Nat → Int32) (a_queue : Nat → Int32), lv_has ls 17 [(0, .ref (ad 0)), (3, .int v3), (5, .int v5), (6, .long v6), (8, .int v8), (9, .long v9), (13, .long v13), (15, .long v15)] → mP D ct ad y_km y_tp y_goes y_kin y_qd y_sides y_cuts y_flat y_cp y_cA y_cB y_1X y_1Y y_2X y_2Y y_tm y_cells a_mtape a_flood a_going a_field a_from a_mcrowds a_steps a_queue a_letter a_lineX a_lineY a_triedAt a_cellAt a_besideIn a_apart a_drawer a_mkept a_listed a_mkin a_tried a_takenAt a_waysOf H → va_S (mA ad) s.heap H locs → fl4 (mo_laysSteps_B157 v3 v5 v6 v8 v9 v13 a_listed a_from k59 k117) n157 v15 y_qd a_steps a_queue = some (z_y_qd, z_a_steps, z_a_queue) → W p l e (rmm 4 102) s m av below meth c H locs 0 0 (MQ below (va_Qv (fun (_ : Unit) => True) (fun _ t => mP D ct ad y_km y_tp y_goes y_kin z_y_qd y_sides y_cuts y_flat y_cp y_cA y_cB y_1X y_1Y y_2X y_2Y y_tm y_cells a_mtape a_flood a_going a_field a_from a_mcrowds z_a_steps z_a_queue a_letter a_lineX a_lineY a_triedAt a_cellAt a_besideIn a_apart a_drawer a_mkept a_listed a_mkin a_tried a_takenAt a_waysOf t.heap) (mA ad)) av s 0 0 (mA ad)) (F0 m 157 ls []) := by
            intro v9 v13 n157
            induction n157 with
            | zero => intro H locs ls v15 y_qd a_steps a_queue hl hP hS h; cases h
            | succ n157 ih157 =>
              intro H locs ls v15 y_qd a_steps a_queue hl hP hS h
              replace h : mo_laysSteps_B157 v3 v5 v6 v8 v9 v13 a_listed a_from k59 k117 (fl4 (mo_laysSteps_B157 v3 v5 v6 v8 v9 v13 a_listed a_from k59 k117) n157) v15 y_qd a_steps a_queue = some (z_y_qd, z_a_steps, z_a_queue) := h
              generalize fl4 (mo_laysSteps_B157 v3 v5 v6 v8 v9 v13 a_listed a_from k59 k117) n157 = k157 at h ih157
              rw [mo_laysSteps_B157] at h
              refine lv_lload hx hb dX12_laysSteps_157 (lv_at hl 7 rfl) ?_
              refine lv_lconst (v := 0) hx hb dX12_laysSteps_159 kl_0 ?_
              refine W.lcmp hx hb dX12_laysSteps_160 ?_
              refine lv_if_eq hx hb dX12_laysSteps_161 (tgt := 192) rfl (fun hc => ?_) (fun hc => ?_)
              · replace h := ifp h ((lg_cmp_eq _ _).mp hc)
                refine lv_lload hx hb dX12_laysSteps_192 (lv_at hl 5 rfl) ?_
                refine lv_lload hx hb dX12_laysSteps_194 (lv_at hl 5 rfl) ?_
                refine lv_lconst (v := 1) hx hb dX12_laysSteps_196 kl_1 ?_
                refine lv_lsub hx hb dX12_laysSteps_197 ?_
                refine lv_land hx hb dX12_laysSteps_198 ?_
                obtain ⟨v9_32, ev9_32, h⟩ := nm_s h
                refine nmL ev9_32 ?_
                refine lv_lstore hx hb dX12_laysSteps_199 hl (Nat.le_of_ble_eq_true rfl) (lv' := [(9, .long v9_32), (0, .ref (ad 0)), (3, .int v3), (5, .int v5), (6, .long v6), (8, .int v8), (13, .long v13), (15, .long v15)]) rfl (fun ls hl => ?_)
                refine lv_goto hx hb dX12_laysSteps_201 (tgt := 117) rfl ?_
                exact ih117 _ _ _ v9_32 y_qd a_steps a_queue (lv_sub hl [1, 2, 3, 4, 5, 0] rfl) hP hS h
              · replace h := ifn h (fun q => hc ((lg_cmp_eq _ _).mpr q))
                refine lv_aload_n hx hb dX12_laysSteps_164 rfl (lv_at hl 0 rfl) ?_
                refine lv_lload hx hb dX12_laysSteps_165 (lv_at hl 6 rfl) ?_
                refine lv_lload hx hb dX12_laysSteps_167 (lv_at hl 7 rfl) ?_
                refine lv_lload hx hb dX12_laysSteps_169 (lv_at hl 7 rfl) ?_
                refine lv_lneg hx hb dX12_laysSteps_171 ?_
                refine lv_land hx hb dX12_laysSteps_172 ?_
                refine lv_lor hx hb dX12_laysSteps_173 ?_
                refine lv_iload_n hx hb dX12_laysSteps_174 rfl (lv_at hl 1 rfl) ?_
                refine lv_iload hx hb dX12_laysSteps_175 (lv_at hl 4 rfl) ?_
                obtain ⟨y_qd_33, a_steps_34, a_queue_35, hr_36, h⟩ := bd3_s h
                refine hv_v hx hb hml hown hw mB_bl (mB_of hN hK hP) (mr_MO hK hP) (c_mo_reaches l D ct ad hI (v13 ||| (v15 &&& (-v15))) v3 v8 y_qd_33 a_steps_34 a_queue_35 hr_36) g_RX12_259 ⟨rfl, hd_X12_reaches⟩ (rest := []) hl.1 hS (fun q h => h) dX12_laysSteps_177 rfl rfl ⟨Nat.le_of_ble_eq_true rfl, Nat.le_of_ble_eq_true rfl⟩ rfl rfl (Nat.le_of_ble_eq_true rfl) ⟨Nat.zero_le _, Nat.zero_le _⟩ (fun H locs hP _ hS => ?_)
                refine lv_lload hx hb dX12_laysSteps_180 (lv_at hl 7 rfl) ?_
                refine lv_lload hx hb dX12_laysSteps_182 (lv_at hl 7 rfl) ?_
                refine lv_lconst (v := 1) hx hb dX12_laysSteps_184 kl_1 ?_
                refine lv_lsub hx hb dX12_laysSteps_185 ?_
                refine lv_land hx hb dX12_laysSteps_186 ?_
                obtain ⟨v15_37, ev15_37, h⟩ := nm_s h
                refine nmL ev15_37 ?_
                refine lv_lstore hx hb dX12_laysSteps_187 hl (Nat.le_of_ble_eq_true rfl) (lv' := [(15, .long v15_37), (0, .ref (ad 0)), (3, .int v3), (5, .int v5), (6, .long v6), (8, .int v8), (9, .long v9), (13, .long v13)]) rfl (fun ls hl => ?_)
                refine lv_goto hx hb dX12_laysSteps_189 (tgt := 157) rfl ?_
                exact ih157 _ _ _ v15_37 y_qd_33 a_steps_34 a_queue_35 (lv_sub hl [1, 2, 3, 4, 5, 6, 7, 0] rfl) hP hS h
          rw [mo_laysSteps_B117] at h
          refine lv_lload hx hb dX12_laysSteps_117 (lv_at hl 5 rfl) ?_
          refine lv_lconst (v := 0) hx hb dX12_laysSteps_119 kl_0 ?_
          refine W.lcmp hx hb dX12_laysSteps_120 ?_
          refine lv_if_eq hx hb dX12_laysSteps_121 (tgt := 204) rfl (fun hc => ?_) (fun hc => ?_)
          · replace h := ifp h ((lg_cmp_eq _ _).mp hc)
            obtain ⟨v5_38, ev5_38, h⟩ := nm_s h
            refine lv_iinc hx hb dX12_laysSteps_204 hl (k := 2) rfl ev5_38.symm (Nat.le_of_ble_eq_true rfl) (lv' := [(5, .int v5_38), (0, .ref (ad 0)), (3, .int v3), (6, .long v6), (8, .int v8), (9, .long v9)]) rfl (fun ls hl => ?_)
            refine lv_goto hx hb dX12_laysSteps_207 (tgt := 59) rfl ?_
            exact ih59 _ _ _ v5_38 y_qd a_steps a_queue (lv_sub hl [1, 2, 0] rfl) hP hS h
          · replace h := ifn h (fun q => hc ((lg_cmp_eq _ _).mpr q))
            refine lv_lload hx hb dX12_laysSteps_124 (lv_at hl 5 rfl) ?_
            refine lv_lload hx hb dX12_laysSteps_126 (lv_at hl 5 rfl) ?_
            refine lv_lneg hx hb dX12_laysSteps_128 ?_
            refine lv_land hx hb dX12_laysSteps_129 ?_
            obtain ⟨v11_39, ev11_39, h⟩ := nm_s h
            refine nmL ev11_39 ?_
            refine lv_lstore hx hb dX12_laysSteps_130 hl (Nat.le_of_ble_eq_true rfl) (lv' := [(11, .long v11_39), (0, .ref (ad 0)), (3, .int v3), (5, .int v5), (6, .long v6), (8, .int v8), (9, .long v9)]) rfl (fun ls hl => ?_)
            refine lv_lload hx hb dX12_laysSteps_132 (lv_at hl 4 rfl) ?_
            refine lv_lload hx hb dX12_laysSteps_134 (lv_at hl 0 rfl) ?_
            refine lv_ldc2 hx hb hown (hw _ tw_12_20) dX12_laysSteps_136 ?_
            refine lv_lxor hx hb dX12_laysSteps_139 ?_
            refine lv_land hx hb dX12_laysSteps_140 ?_
            obtain ⟨v13_40, ev13_40, h⟩ := nm_s h
            refine nmL ev13_40 ?_
            refine lv_lstore hx hb dX12_laysSteps_141 hl (Nat.le_of_ble_eq_true rfl) (lv' := [(13, .long v13_40), (11, .long v11_39), (0, .ref (ad 0)), (3, .int v3), (5, .int v5), (6, .long v6), (8, .int v8), (9, .long v9)]) rfl (fun ls hl => ?_)
            refine lv_lload hx hb dX12_laysSteps_143 (lv_at hl 0 rfl) ?_
            obtain ⟨r_41, hr_42, h⟩ := bd1_s h
            refine sc_l hx hb hml hown hw hN (c_mo_around l v13_40 r_41 hr_42) g_RX12_100 hd_X12_around (rest := []) hl.1 hS dX12_laysSteps_145 rfl rfl ⟨Nat.le_of_ble_eq_true rfl, Nat.le_of_ble_eq_true rfl⟩ rfl rfl (Nat.le_of_ble_eq_true rfl) ⟨Nat.zero_le _, Nat.zero_le _⟩ (fun H locs hk hS => ?_)
            have hP := mP_kept hP hk
            refine lv_lload hx hb dX12_laysSteps_148 (lv_at hl 1 rfl) ?_
            refine lv_ldc2 hx hb hown (hw _ tw_12_20) dX12_laysSteps_150 ?_
            refine lv_lxor hx hb dX12_laysSteps_153 ?_
            refine lv_land hx hb dX12_laysSteps_154 ?_
            obtain ⟨v15_43, ev15_43, h⟩ := nm_s h
            refine nmL ev15_43 ?_
            refine lv_lstore hx hb dX12_laysSteps_155 hl (Nat.le_of_ble_eq_true rfl) (lv' := [(15, .long v15_43), (13, .long v13_40), (11, .long v11_39), (0, .ref (ad 0)), (3, .int v3), (5, .int v5), (6, .long v6), (8, .int v8), (9, .long v9)]) rfl (fun ls hl => ?_)
            exact hL157 v9 v13_40 FU _ _ _ v15_43 y_qd a_steps a_queue (lv_sub hl [3, 4, 5, 6, 7, 8, 1, 0] rfl) hP hS h
      rw [mo_laysSteps_B59] at h
      refine lv_iload hx hb dX12_laysSteps_59 (lv_at hl 2 rfl) ?_
      refine lv_aload_n hx hb dX12_laysSteps_61 rfl (lv_at hl 0 rfl) ?_
      refine mg_MO_16 hx hb hw hown hK hP dX12_laysSteps_62 ?_
      refine lv_icmp_ge hx hb dX12_laysSteps_65 (tgt := 210) rfl (fun hc => ?_) (fun hc => ?_)
      · replace h := ifp h hc
        simp only [Option.some.injEq, Prod.mk.injEq] at h
        obtain ⟨rfl, rfl, rfl⟩ := h
        exact rc_v hx hb hr hlocks hS dX12_laysSteps_210 hP
      · replace h := ifn h hc
        refine lv_iload_n hx hb dX12_laysSteps_68 rfl (lv_at hl 1 rfl) ?_
        refine lv_iconst (v := 1) hx hb dX12_laysSteps_69 ki_1 ?_
        refine lv_icmp_le hx hb dX12_laysSteps_70 (tgt := 210) rfl (fun hc => ?_) (fun hc => ?_)
        · replace h := ifp h hc
          simp only [Option.some.injEq, Prod.mk.injEq] at h
          obtain ⟨rfl, rfl, rfl⟩ := h
          exact rc_v hx hb hr hlocks hS dX12_laysSteps_210 hP
        · replace h := ifn h hc
          refine lv_aload_n hx hb dX12_laysSteps_73 rfl (lv_at hl 0 rfl) ?_
          refine mg_MO_9 hx hb hw hown hK hP dX12_laysSteps_74 ?_
          refine lv_aload_n hx hb dX12_laysSteps_77 rfl (lv_at hl 0 rfl) ?_
          refine lv_iload_n hx hb dX12_laysSteps_78 rfl (lv_at hl 1 rfl) ?_
          refine lv_iconst (v := 2) hx hb dX12_laysSteps_79 ki_2 ?_
          obtain ⟨r_44, hr_45, h⟩ := bd1_s h
          refine hv_i hx hb hml hown hw mB_bl (mB_of hN hK hP) (mr_MO hK hP) (c_mo_begin l D ct ad hI v3 2 r_44 hr_45) g_RX12_244 ⟨rfl, hd_X12_begin⟩ (rest := [.ref (ad 7)]) hl.1 hS (fun q h => h) dX12_laysSteps_80 rfl rfl ⟨Nat.le_of_ble_eq_true rfl, Nat.le_of_ble_eq_true rfl⟩ rfl rfl (Nat.le_of_ble_eq_true rfl) ⟨Nat.zero_le _, Nat.zero_le _⟩ (fun H locs hP _ hS => ?_)
          refine lv_aload_n hx hb dX12_laysSteps_83 rfl (lv_at hl 0 rfl) ?_
          refine mg_MO_15 hx hb hw hown hK hP dX12_laysSteps_84 ?_
          refine lv_iload hx hb dX12_laysSteps_87 (lv_at hl 2 rfl) ?_
          obtain ⟨hin, h⟩ := ck_s h
          refine md_queue hx hb hK hP hin dX12_laysSteps_89 ?_
          refine lv_iadd hx hb dX12_laysSteps_90 ?_
          obtain ⟨i_46, ei_46, h⟩ := nm_s h
          refine nmI ei_46 ?_
          obtain ⟨hin, h⟩ := ck_s h
          refine md_listed hx hb hK hP hin dX12_laysSteps_91 ?_
          refine lv_bipush (v := 9) hx hb dX12_laysSteps_92 kb_9 ?_
          refine lv_lshl hx hb (v := sl (a_listed i_46.toNatClampNeg) 9) dX12_laysSteps_94 rfl ?_
          obtain ⟨v6_47, ev6_47, h⟩ := nm_s h
          refine nmL ev6_47 ?_
          refine lv_lstore hx hb dX12_laysSteps_95 hl (Nat.le_of_ble_eq_true rfl) (lv' := [(6, .long v6_47), (0, .ref (ad 0)), (3, .int v3), (5, .int v5)]) rfl (fun ls hl => ?_)
          refine lv_aload_n hx hb dX12_laysSteps_97 rfl (lv_at hl 1 rfl) ?_
          refine mg_MO_14 hx hb hw hown hK hP dX12_laysSteps_98 ?_
          refine lv_aload_n hx hb dX12_laysSteps_101 rfl (lv_at hl 1 rfl) ?_
          refine mg_MO_15 hx hb hw hown hK hP dX12_laysSteps_102 ?_
          refine lv_iload hx hb dX12_laysSteps_105 (lv_at hl 3 rfl) ?_
          obtain ⟨hin, h⟩ := ck_s h
          refine md_queue hx hb hK hP hin dX12_laysSteps_107 ?_
          obtain ⟨i_48, ei_48, h⟩ := nm_s h
          refine nmI ei_48 ?_
          obtain ⟨hin, h⟩ := ck_s h
          refine md_steps hx hb hK hP hin dX12_laysSteps_108 ?_
          refine lv_iconst (v := 1) hx hb dX12_laysSteps_109 ki_1 ?_
          refine lv_iadd hx hb dX12_laysSteps_110 ?_
          obtain ⟨v8_49, ev8_49, h⟩ := nm_s h
          refine nmI ev8_49 ?_
          refine lv_istore hx hb dX12_laysSteps_111 hl (Nat.le_of_ble_eq_true rfl) (lv' := [(8, .int v8_49), (6, .long v6_47), (0, .ref (ad 0)), (3, .int v3), (5, .int v5)]) rfl (fun ls hl => ?_)
          refine lv_lload hx hb dX12_laysSteps_113 (lv_at hl 1 rfl) ?_
          refine lv_lstore hx hb dX12_laysSteps_115 hl (Nat.le_of_ble_eq_true rfl) (lv' := [(9, .long v6_47), (8, .int v8_49), (6, .long v6_47), (0, .ref (ad 0)), (3, .int v3), (5, .int v5)]) rfl (fun ls hl => ?_)
          exact hL117 v5 v6_47 v8_49 FU _ _ _ v6_47 y_qd a_steps a_queue (lv_sub hl [3, 4, 5, 2, 1, 0] rfl) hP hS h
  have hL23 : ∀ (v1 : Int64), ∀ (v3 : Int32), ∀ (v4 : Int32), ∀ (y_qd : Int32), ∀ (a_listed : Nat → Int64), ∀ (a_from : Nat → Int32), ∀ (a_queue : Nat → Int32), ∀ (n23 : Nat) (H : Heap) (locs : List Loc) (ls : Array Slot) (v5 : Int32) (a_steps : Nat → Int32), lv_has ls 17 [(0, .ref (ad 0)), (1, .long v1), (3, .int v3), (4, .int v4), (5, .int v5)] → mP D ct ad y_km y_tp y_goes y_kin y_qd y_sides y_cuts y_flat y_cp y_cA y_cB y_1X y_1Y y_2X y_2Y y_tm y_cells a_mtape a_flood a_going a_field a_from a_mcrowds a_steps a_queue a_letter a_lineX a_lineY a_triedAt a_cellAt a_besideIn a_apart a_drawer a_mkept a_listed a_mkin a_tried a_takenAt a_waysOf H → va_S (mA ad) s.heap H locs → fl2 (mo_laysSteps_B23 v1 v3 v4 y_qd a_listed a_from a_queue) n23 v5 a_steps = some (z_y_qd, z_a_steps, z_a_queue) → W p l e (rmm 4 102) s m av below meth c H locs 0 0 (MQ below (va_Qv (fun (_ : Unit) => True) (fun _ t => mP D ct ad y_km y_tp y_goes y_kin z_y_qd y_sides y_cuts y_flat y_cp y_cA y_cB y_1X y_1Y y_2X y_2Y y_tm y_cells a_mtape a_flood a_going a_field a_from a_mcrowds z_a_steps z_a_queue a_letter a_lineX a_lineY a_triedAt a_cellAt a_besideIn a_apart a_drawer a_mkept a_listed a_mkin a_tried a_takenAt a_waysOf t.heap) (mA ad)) av s 0 0 (mA ad)) (F0 m 23 ls []) := by
    intro v1 v3 v4 y_qd a_listed a_from a_queue n23
    induction n23 with
    | zero => intro H locs ls v5 a_steps hl hP hS h; cases h
    | succ n23 ih23 =>
      intro H locs ls v5 a_steps hl hP hS h
      replace h : mo_laysSteps_B23 v1 v3 v4 y_qd a_listed a_from a_queue (fl2 (mo_laysSteps_B23 v1 v3 v4 y_qd a_listed a_from a_queue) n23) v5 a_steps = some (z_y_qd, z_a_steps, z_a_queue) := h
      generalize fl2 (mo_laysSteps_B23 v1 v3 v4 y_qd a_listed a_from a_queue) n23 = k23 at h ih23
      rw [mo_laysSteps_B23] at h
      refine lv_iload hx hb dX12_laysSteps_23 (lv_at hl 4 rfl) ?_
      refine lv_iload hx hb dX12_laysSteps_25 (lv_at hl 3 rfl) ?_
      refine lv_icmp_ge hx hb dX12_laysSteps_27 (tgt := 44) rfl (fun hc => ?_) (fun hc => ?_)
      · replace h := ifp h hc
        refine lv_aload_n hx hb dX12_laysSteps_44 rfl (lv_at hl 0 rfl) ?_
        refine lv_iconst (v := 0) hx hb dX12_laysSteps_45 ki_0 ?_
        refine mp_MO_16 hx hb hw hown hK hP hI hS dX12_laysSteps_46 (fun H locs hP hS => ?_)
        refine lv_aload_n hx hb dX12_laysSteps_49 rfl (lv_at hl 0 rfl) ?_
        refine lv_lload_n hx hb dX12_laysSteps_50 rfl (lv_at hl 1 rfl) ?_
        refine lv_iload_n hx hb dX12_laysSteps_51 rfl (lv_at hl 2 rfl) ?_
        refine lv_iconst (v := 0) hx hb dX12_laysSteps_52 ki_0 ?_
        obtain ⟨y_qd_50, a_steps_51, a_queue_52, hr_53, h⟩ := bd3_s h
        refine hv_v hx hb hml hown hw mB_bl (mB_of hN hK hP) (mr_MO hK hP) (c_mo_reaches l D ct ad hI v1 v3 0 y_qd_50 a_steps_51 a_queue_52 hr_53) g_RX12_259 ⟨rfl, hd_X12_reaches⟩ (rest := []) hl.1 hS (fun q h => h) dX12_laysSteps_53 rfl rfl ⟨Nat.le_of_ble_eq_true rfl, Nat.le_of_ble_eq_true rfl⟩ rfl rfl (Nat.le_of_ble_eq_true rfl) ⟨Nat.zero_le _, Nat.zero_le _⟩ (fun H locs hP _ hS => ?_)
        refine lv_iconst (v := 0) hx hb dX12_laysSteps_56 ki_0 ?_
        refine lv_istore hx hb dX12_laysSteps_57 hl (Nat.le_of_ble_eq_true rfl) (lv' := [(5, .int 0), (0, .ref (ad 0)), (1, .long v1), (3, .int v3), (4, .int v4)]) rfl (fun ls hl => ?_)
        exact hL59 v3 a_listed a_from FU _ _ _ 0 y_qd_50 a_steps_51 a_queue_52 (lv_sub hl [1, 3, 0] rfl) hP hS h
      · replace h := ifn h hc
        refine lv_aload_n hx hb dX12_laysSteps_30 rfl (lv_at hl 0 rfl) ?_
        refine mg_MO_14 hx hb hw hown hK hP dX12_laysSteps_31 ?_
        refine lv_iload hx hb dX12_laysSteps_34 (lv_at hl 4 rfl) ?_
        refine lv_iconst (v := (-1)) hx hb dX12_laysSteps_36 ki_m1 ?_
        obtain ⟨hin, h⟩ := ck_s h
        obtain ⟨a_steps_54, ea_steps_54, h⟩ := nm_s h
        refine ms_steps hx hb hK hP hI hS hin ea_steps_54 dX12_laysSteps_37 (fun H locs hP hS => ?_)
        obtain ⟨v5_55, ev5_55, h⟩ := nm_s h
        refine lv_iinc hx hb dX12_laysSteps_38 hl (k := 4) rfl ev5_55.symm (Nat.le_of_ble_eq_true rfl) (lv' := [(5, .int v5_55), (0, .ref (ad 0)), (1, .long v1), (3, .int v3), (4, .int v4)]) rfl (fun ls hl => ?_)
        refine lv_goto hx hb dX12_laysSteps_41 (tgt := 23) rfl ?_
        exact ih23 _ _ _ v5_55 a_steps_54 (lv_sub hl [1, 2, 3, 4, 0] rfl) hP hS h
  refine lv_lload_n hx hb dX12_laysSteps_0 rfl (lv_at hl 1 rfl) ?_
  obtain ⟨r_56, hr_57, h⟩ := bd1_s h
  refine sc_i hx hb hml hown hw hN (c_mo_bits l v1 r_56 hr_57) g_RX12_106 hd_X12_bits (rest := []) hl.1 hS dX12_laysSteps_1 rfl rfl ⟨Nat.le_of_ble_eq_true rfl, Nat.le_of_ble_eq_true rfl⟩ rfl rfl (Nat.le_of_ble_eq_true rfl) ⟨Nat.zero_le _, Nat.zero_le _⟩ (fun H locs hk hS => ?_)
  have hP := mP_kept hP hk
  refine lv_istore_n hx hb dX12_laysSteps_4 rfl hl (Nat.le_of_ble_eq_true rfl) (lv' := [(3, .int r_56), (0, .ref (ad 0)), (1, .long v1)]) rfl (fun ls hl => ?_)
  refine lv_aload_n hx hb dX12_laysSteps_5 rfl (lv_at hl 1 rfl) ?_
  refine lv_iload_n hx hb dX12_laysSteps_6 rfl (lv_at hl 0 rfl) ?_
  refine lv_iconst (v := 2) hx hb dX12_laysSteps_7 ki_2 ?_
  obtain ⟨r_58, hr_59, h⟩ := bd1_s h
  refine hv_i hx hb hml hown hw mB_bl (mB_of hN hK hP) (mr_MO hK hP) (c_mo_end l D ct ad hI r_56 2 r_58 hr_59) g_RX12_240 ⟨rfl, hd_X12_end⟩ (rest := []) hl.1 hS (fun q h => h) dX12_laysSteps_8 rfl rfl ⟨Nat.le_of_ble_eq_true rfl, Nat.le_of_ble_eq_true rfl⟩ rfl rfl (Nat.le_of_ble_eq_true rfl) ⟨Nat.zero_le _, Nat.zero_le _⟩ (fun H locs hP _ hS => ?_)
  refine lv_aload_n hx hb dX12_laysSteps_11 rfl (lv_at hl 1 rfl) ?_
  refine lv_iload_n hx hb dX12_laysSteps_12 rfl (lv_at hl 0 rfl) ?_
  refine lv_iconst (v := 2) hx hb dX12_laysSteps_13 ki_2 ?_
  obtain ⟨r_60, hr_61, h⟩ := bd1_s h
  refine hv_i hx hb hml hown hw mB_bl (mB_of hN hK hP) (mr_MO hK hP) (c_mo_begin l D ct ad hI r_56 2 r_60 hr_61) g_RX12_244 ⟨rfl, hd_X12_begin⟩ (rest := [.int r_58]) hl.1 hS (fun q h => h) dX12_laysSteps_14 rfl rfl ⟨Nat.le_of_ble_eq_true rfl, Nat.le_of_ble_eq_true rfl⟩ rfl rfl (Nat.le_of_ble_eq_true rfl) ⟨Nat.zero_le _, Nat.zero_le _⟩ (fun H locs hP _ hS => ?_)
  refine lv_isub hx hb dX12_laysSteps_17 ?_
  obtain ⟨v4_62, ev4_62, h⟩ := nm_s h
  refine nmI ev4_62 ?_
  refine lv_istore hx hb dX12_laysSteps_18 hl (Nat.le_of_ble_eq_true rfl) (lv' := [(4, .int v4_62), (3, .int r_56), (0, .ref (ad 0)), (1, .long v1)]) rfl (fun ls hl => ?_)
  refine lv_iconst (v := 0) hx hb dX12_laysSteps_20 ki_0 ?_
  refine lv_istore hx hb dX12_laysSteps_21 hl (Nat.le_of_ble_eq_true rfl) (lv' := [(5, .int 0), (4, .int v4_62), (3, .int r_56), (0, .ref (ad 0)), (1, .long v1)]) rfl (fun ls hl => ?_)
  exact hL23 v1 r_56 v4_62 y_qd a_listed a_from a_queue FU _ _ _ 0 a_steps (lv_sub hl [3, 4, 2, 1, 0] rfl) hP hS h
noncomputable def mo_way (v1 : Int32) (v2 : Int32) (y_qd : Int32) (a_drawer : Nat → Int64) (a_listed : Nat → Int64) (a_from : Nat → Int32) (a_steps : Nat → Int32) (a_queue : Nat → Int32) : Option (Int32 × Int32 × (Nat → Int32) × (Nat → Int32)) :=
  bd1 (mo_isDrawer v1) fun r_1 =>
  if r_1 = 0 then (some ((-1), y_qd, a_steps, a_queue)) else
  bd1 (mo_isDrawer v2) fun r_3 =>
  if r_3 = 0 then (some ((-1), y_qd, a_steps, a_queue)) else
  ck v1 8 <|
  if (a_drawer v1.toNatClampNeg) = 0 then (some ((-2), y_qd, a_steps, a_queue)) else
  ck v2 8 <|
  if (a_drawer v2.toNatClampNeg) = 0 then (some ((-2), y_qd, a_steps, a_queue)) else
  ck v1 8 <|
  bd1 (mo_bits (a_drawer v1.toNatClampNeg)) fun r_5 =>
  ck v2 8 <|
  bd1 (mo_bits (a_drawer v2.toNatClampNeg)) fun r_7 =>
  if r_5 = r_7 then (if r_5 ≤ 6 then (ck v1 8 <|
  bd3 (mo_laysSteps (a_drawer v1.toNatClampNeg) y_qd a_listed a_from a_steps a_queue) fun y_qd_9 a_steps_10 a_queue_11 =>
  bd1 (mo_place v2 2 a_drawer a_listed a_from) fun r_13 =>
  ck r_13 110 <|
  some (a_steps_10 r_13.toNatClampNeg, y_qd_9, a_steps_10, a_queue_11)) else
  some ((-3), y_qd, a_steps, a_queue)) else
  some ((-3), y_qd, a_steps, a_queue)
set_option maxHeartbeats 4000000 in
set_option maxRecDepth 100000 in
theorem c_mo_way (l : Launch) (D : va_G) (ct : Nat → ClassId) (ad : Nat → Nat) (hI : mI ad) {y_km y_tp y_goes y_kin y_qd y_sides y_cuts y_flat y_cp y_cA y_cB y_1X y_1Y y_2X y_2Y y_tm y_cells : Int32} {a_mtape a_flood a_going a_field a_from a_mcrowds a_steps a_queue a_letter a_lineX a_lineY a_triedAt a_cellAt a_besideIn a_apart : Nat → Int32} {a_drawer a_mkept a_listed a_mkin a_tried a_takenAt a_waysOf : Nat → Int64} (v1 : Int32) (v2 : Int32) (r : Int32) (z_y_qd : Int32) (z_a_steps : Nat → Int32) (z_a_queue : Nat → Int32) (h : mo_way v1 v2 y_qd a_drawer a_listed a_from a_steps a_queue = some (r, z_y_qd, z_a_steps, z_a_queue)) : Met l yX12_way (wm yX12_way cX12_way 4 (some .int)) (rmm 5 138) (va_Pc [.ref (ad 0), .int v1, .int v2] (mB D ct ad y_km y_tp y_goes y_kin y_qd y_sides y_cuts y_flat y_cp y_cA y_cB y_1X y_1Y y_2X y_2Y y_tm y_cells a_mtape a_flood a_going a_field a_from a_mcrowds a_steps a_queue a_letter a_lineX a_lineY a_triedAt a_cellAt a_besideIn a_apart a_drawer a_mkept a_listed a_mkin a_tried a_takenAt a_waysOf)) (va_Qi (fun z (_ : Unit) => z = r) (fun _ t => mP D ct ad y_km y_tp y_goes y_kin z_y_qd y_sides y_cuts y_flat y_cp y_cA y_cB y_1X y_1Y y_2X y_2Y y_tm y_cells a_mtape a_flood a_going a_field a_from a_mcrowds z_a_steps z_a_queue a_letter a_lineX a_lineY a_triedAt a_cellAt a_besideIn a_apart a_drawer a_mkept a_listed a_mkin a_tried a_takenAt a_waysOf t.heap) (mA ad)) 0 0 (mA ad) := by
  refine met_s (y := yX12_way) (rm := rmm 5 138) (by decide) (Nat.le_of_ble_eq_true rfl) ?_
  intro p e s m below meth c hx hb hr hw hown hlocks _ hml hB ls hl
  obtain ⟨hN, hK, hP⟩ := hB
  replace hl : lv_has ls 4 [(0, .ref (ad 0)), (1, .int v1), (2, .int v2)] := hl
  have hS : va_S (mA ad) s.heap s.heap [] := va_S.rf
  generalize (([.ref (ad 0), .int v1, .int v2] : List Value).toArray) = av at hw ⊢
  rw [mo_way] at h
  refine lv_iload_n hx hb dX12_way_0 rfl (lv_at hl 1 rfl) ?_
  obtain ⟨r_15, hr_16, h⟩ := bd1_s h
  refine sc_i hx hb hml hown hw hN (c_mo_isDrawer l v1 r_15 hr_16) g_RX12_135 hd_X12_isDrawer (rest := []) hl.1 hS dX12_way_1 rfl rfl ⟨Nat.le_of_ble_eq_true rfl, Nat.le_of_ble_eq_true rfl⟩ rfl rfl (Nat.le_of_ble_eq_true rfl) ⟨Nat.zero_le _, Nat.zero_le _⟩ (fun H locs hk hS => ?_)
  have hP := mP_kept hP hk
  refine lv_if_eq hx hb dX12_way_4 (tgt := 14) rfl (fun hc => ?_) (fun hc => ?_)
  · replace h := ifp h hc
    refine lv_iconst (v := (-1)) hx hb dX12_way_14 ki_m1 ?_
    simp only [Option.some.injEq, Prod.mk.injEq] at h
    obtain ⟨rfl, rfl, rfl, rfl⟩ := h
    exact rc_i hx hb hr hlocks hS dX12_way_15 rfl hP
  · replace h := ifn h hc
    refine lv_iload_n hx hb dX12_way_7 rfl (lv_at hl 2 rfl) ?_
    obtain ⟨r_17, hr_18, h⟩ := bd1_s h
    refine sc_i hx hb hml hown hw hN (c_mo_isDrawer l v2 r_17 hr_18) g_RX12_135 hd_X12_isDrawer (rest := []) hl.1 hS dX12_way_8 rfl rfl ⟨Nat.le_of_ble_eq_true rfl, Nat.le_of_ble_eq_true rfl⟩ rfl rfl (Nat.le_of_ble_eq_true rfl) ⟨Nat.zero_le _, Nat.zero_le _⟩ (fun H locs hk hS => ?_)
    have hP := mP_kept hP hk
    refine lv_if_ne hx hb dX12_way_11 (tgt := 16) rfl (fun hc => ?_) (fun hc => ?_)
    · replace h := ifn h hc
      refine lv_aload_n hx hb dX12_way_16 rfl (lv_at hl 0 rfl) ?_
      refine mg_MO_0 hx hb hw hown hK hP dX12_way_17 ?_
      refine lv_iload_n hx hb dX12_way_20 rfl (lv_at hl 1 rfl) ?_
      obtain ⟨hin, h⟩ := ck_s h
      refine md_drawer hx hb hK hP hin dX12_way_21 ?_
      refine lv_lconst (v := 0) hx hb dX12_way_22 kl_0 ?_
      refine W.lcmp hx hb dX12_way_23 ?_
      refine lv_if_eq hx hb dX12_way_24 (tgt := 38) rfl (fun hc => ?_) (fun hc => ?_)
      · replace h := ifp h ((lg_cmp_eq _ _).mp hc)
        refine lv_bipush (v := (-2)) hx hb dX12_way_38 kb_m2 ?_
        simp only [Option.some.injEq, Prod.mk.injEq] at h
        obtain ⟨rfl, rfl, rfl, rfl⟩ := h
        exact rc_i hx hb hr hlocks hS dX12_way_40 rfl hP
      · replace h := ifn h (fun q => hc ((lg_cmp_eq _ _).mpr q))
        refine lv_aload_n hx hb dX12_way_27 rfl (lv_at hl 0 rfl) ?_
        refine mg_MO_0 hx hb hw hown hK hP dX12_way_28 ?_
        refine lv_iload_n hx hb dX12_way_31 rfl (lv_at hl 2 rfl) ?_
        obtain ⟨hin, h⟩ := ck_s h
        refine md_drawer hx hb hK hP hin dX12_way_32 ?_
        refine lv_lconst (v := 0) hx hb dX12_way_33 kl_0 ?_
        refine W.lcmp hx hb dX12_way_34 ?_
        refine lv_if_ne hx hb dX12_way_35 (tgt := 41) rfl (fun hc => ?_) (fun hc => ?_)
        · replace h := ifn h (fun q => hc ((lg_cmp_eq _ _).mpr q))
          refine lv_aload_n hx hb dX12_way_41 rfl (lv_at hl 0 rfl) ?_
          refine mg_MO_0 hx hb hw hown hK hP dX12_way_42 ?_
          refine lv_iload_n hx hb dX12_way_45 rfl (lv_at hl 1 rfl) ?_
          obtain ⟨hin, h⟩ := ck_s h
          refine md_drawer hx hb hK hP hin dX12_way_46 ?_
          obtain ⟨r_19, hr_20, h⟩ := bd1_s h
          refine sc_i hx hb hml hown hw hN (c_mo_bits l (a_drawer v1.toNatClampNeg) r_19 hr_20) g_RX12_106 hd_X12_bits (rest := []) hl.1 hS dX12_way_47 rfl rfl ⟨Nat.le_of_ble_eq_true rfl, Nat.le_of_ble_eq_true rfl⟩ rfl rfl (Nat.le_of_ble_eq_true rfl) ⟨Nat.zero_le _, Nat.zero_le _⟩ (fun H locs hk hS => ?_)
          have hP := mP_kept hP hk
          refine lv_istore_n hx hb dX12_way_50 rfl hl (Nat.le_of_ble_eq_true rfl) (lv' := [(3, .int r_19), (0, .ref (ad 0)), (1, .int v1), (2, .int v2)]) rfl (fun ls hl => ?_)
          refine lv_iload_n hx hb dX12_way_51 rfl (lv_at hl 0 rfl) ?_
          refine lv_aload_n hx hb dX12_way_52 rfl (lv_at hl 1 rfl) ?_
          refine mg_MO_0 hx hb hw hown hK hP dX12_way_53 ?_
          refine lv_iload_n hx hb dX12_way_56 rfl (lv_at hl 3 rfl) ?_
          obtain ⟨hin, h⟩ := ck_s h
          refine md_drawer hx hb hK hP hin dX12_way_57 ?_
          obtain ⟨r_21, hr_22, h⟩ := bd1_s h
          refine sc_i hx hb hml hown hw hN (c_mo_bits l (a_drawer v2.toNatClampNeg) r_21 hr_22) g_RX12_106 hd_X12_bits (rest := [.int r_19]) hl.1 hS dX12_way_58 rfl rfl ⟨Nat.le_of_ble_eq_true rfl, Nat.le_of_ble_eq_true rfl⟩ rfl rfl (Nat.le_of_ble_eq_true rfl) ⟨Nat.zero_le _, Nat.zero_le _⟩ (fun H locs hk hS => ?_)
          have hP := mP_kept hP hk
          refine lv_icmp_ne hx hb dX12_way_61 (tgt := 70) rfl (fun hc => ?_) (fun hc => ?_)
          · replace h := ifn h hc
            refine lv_bipush (v := (-3)) hx hb dX12_way_70 kb_m3 ?_
            simp only [Option.some.injEq, Prod.mk.injEq] at h
            obtain ⟨rfl, rfl, rfl, rfl⟩ := h
            exact rc_i hx hb hr hlocks hS dX12_way_72 rfl hP
          · replace h := ifp h hc
            refine lv_iload_n hx hb dX12_way_64 rfl (lv_at hl 0 rfl) ?_
            refine lv_bipush (v := 6) hx hb dX12_way_65 kb_6 ?_
            refine lv_icmp_le hx hb dX12_way_67 (tgt := 73) rfl (fun hc => ?_) (fun hc => ?_)
            · replace h := ifp h hc
              refine lv_aload_n hx hb dX12_way_73 rfl (lv_at hl 1 rfl) ?_
              refine lv_aload_n hx hb dX12_way_74 rfl (lv_at hl 1 rfl) ?_
              refine mg_MO_0 hx hb hw hown hK hP dX12_way_75 ?_
              refine lv_iload_n hx hb dX12_way_78 rfl (lv_at hl 2 rfl) ?_
              obtain ⟨hin, h⟩ := ck_s h
              refine md_drawer hx hb hK hP hin dX12_way_79 ?_
              obtain ⟨y_qd_23, a_steps_24, a_queue_25, hr_26, h⟩ := bd3_s h
              refine hv_v hx hb hml hown hw mB_bl (mB_of hN hK hP) (mr_MO hK hP) (c_mo_laysSteps l D ct ad hI (a_drawer v1.toNatClampNeg) y_qd_23 a_steps_24 a_queue_25 hr_26) g_RX12_263 ⟨rfl, hd_X12_laysSteps⟩ (rest := []) hl.1 hS (fun q h => h) dX12_way_80 rfl rfl ⟨Nat.le_of_ble_eq_true rfl, Nat.le_of_ble_eq_true rfl⟩ rfl rfl (Nat.le_of_ble_eq_true rfl) ⟨Nat.zero_le _, Nat.zero_le _⟩ (fun H locs hP _ hS => ?_)
              refine lv_aload_n hx hb dX12_way_83 rfl (lv_at hl 1 rfl) ?_
              refine mg_MO_14 hx hb hw hown hK hP dX12_way_84 ?_
              refine lv_aload_n hx hb dX12_way_87 rfl (lv_at hl 1 rfl) ?_
              refine lv_iload_n hx hb dX12_way_88 rfl (lv_at hl 3 rfl) ?_
              refine lv_iconst (v := 2) hx hb dX12_way_89 ki_2 ?_
              obtain ⟨r_27, hr_28, h⟩ := bd1_s h
              refine hv_i hx hb hml hown hw mB_bl (mB_of hN hK hP) (mr_MO hK hP) (c_mo_place l D ct ad hI v2 2 r_27 hr_28) g_RX12_267 ⟨rfl, hd_X12_place⟩ (rest := [.ref (ad 11)]) hl.1 hS (fun q h => h) dX12_way_90 rfl rfl ⟨Nat.le_of_ble_eq_true rfl, Nat.le_of_ble_eq_true rfl⟩ rfl rfl (Nat.le_of_ble_eq_true rfl) ⟨Nat.zero_le _, Nat.zero_le _⟩ (fun H locs hP _ hS => ?_)
              obtain ⟨hin, h⟩ := ck_s h
              refine md_steps hx hb hK hP hin dX12_way_93 ?_
              simp only [Option.some.injEq, Prod.mk.injEq] at h
              obtain ⟨rfl, rfl, rfl, rfl⟩ := h
              exact rc_i hx hb hr hlocks hS dX12_way_94 rfl hP
            · replace h := ifn h hc
              refine lv_bipush (v := (-3)) hx hb dX12_way_70 kb_m3 ?_
              simp only [Option.some.injEq, Prod.mk.injEq] at h
              obtain ⟨rfl, rfl, rfl, rfl⟩ := h
              exact rc_i hx hb hr hlocks hS dX12_way_72 rfl hP
        · replace h := ifp h ((lg_cmp_eq _ _).mp hc)
          refine lv_bipush (v := (-2)) hx hb dX12_way_38 kb_m2 ?_
          simp only [Option.some.injEq, Prod.mk.injEq] at h
          obtain ⟨rfl, rfl, rfl, rfl⟩ := h
          exact rc_i hx hb hr hlocks hS dX12_way_40 rfl hP
    · replace h := ifp h hc
      refine lv_iconst (v := (-1)) hx hb dX12_way_14 ki_m1 ?_
      simp only [Option.some.injEq, Prod.mk.injEq] at h
      obtain ⟨rfl, rfl, rfl, rfl⟩ := h
      exact rc_i hx hb hr hlocks hS dX12_way_15 rfl hP
