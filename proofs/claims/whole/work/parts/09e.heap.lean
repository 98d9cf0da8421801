noncomputable def mo_fill_B203 (v5 : Int64) (y_tm : Int32) (a_drawer : Nat → Int64) (a_tried : Nat → Int64)  (k203 : Int32 → Int32 → Int32 → (Nat → Int64) → (Nat → Int32) → Option (Int32 × Int32 × (Nat → Int64) × (Nat → Int64) × (Nat → Int32))) (v7 : Int32) (v8 : Int32) (v9 : Int32) (a_takenAt : Nat → Int64) (a_triedAt : Nat → Int32) : Option (Int32 × Int32 × (Nat → Int64) × (Nat → Int64) × (Nat → Int32)) :=
  if v9 < 0 then (some (v7, y_tm, a_tried, a_takenAt, a_triedAt)) else
  ck v9 37 <|
  if (a_triedAt v9.toNatClampNeg) = y_tm then (nm (v9 - 1 : Int32) fun v9_19 =>
  k203 v7 v8 v9_19 a_takenAt a_triedAt) else
  if v8 = 20000 then (some ((-3), y_tm, a_tried, a_takenAt, a_triedAt)) else
  nm (v8 + 1 : Int32) fun v8_1 =>
  ck v9 37 <|
  nm (a_triedAt v9.toNatClampNeg : Int32) fun i_2 =>
  ck i_2 64 <|
  nm (a_tried i_2.toNatClampNeg : Int64) fun v10_3 =>
  ck v9 37 <|
  nm ((a_triedAt v9.toNatClampNeg) + 1 : Int32) fun w_4 =>
  ck v9 37 <|
  nm (upd a_triedAt v9.toNatClampNeg w_4) fun a_triedAt_5 =>
  ck v9 37 <|
  nm (v5 &&& ((a_takenAt v9.toNatClampNeg) ^^^ (((-1) : Int64))) : Int64) fun v12_6 =>
  bd1 (mo_lowest v12_6) fun r_7 =>
  bd1 (mo_lowest (v10_3 &&& (255 : Int64))) fun r_9 =>
  dzI 8 <|
  dzI 8 <|
  bd1 (mo_putAt v10_3 ((remI r_7 8) - r_9) (r_7 / 8)) fun r_11 =>
  if r_11 = 0 then (k203 v7 v8_1 v9 a_takenAt a_triedAt_5) else
  if (r_11 &&& (v12_6 ^^^ (((-1) : Int64)))) = 0 then (ck v9 37 <|
  if (r_11 ||| (a_takenAt v9.toNatClampNeg)) = v5 then (nm (v7 + 1 : Int32) fun v7_18 =>
  k203 v7_18 v8_1 v9 a_takenAt a_triedAt_5) else
  nm (v9 + 1 : Int32) fun v9_13 =>
  nm (v9_13 - 1 : Int32) fun i_14 =>
  ck i_14 37 <|
  nm ((a_takenAt i_14.toNatClampNeg) ||| r_11 : Int64) fun w_15 =>
  ck v9_13 37 <|
  nm (vp_updL a_takenAt v9_13.toNatClampNeg w_15) fun a_takenAt_16 =>
  ck v9_13 37 <|
  nm (upd a_triedAt_5 v9_13.toNatClampNeg 0) fun a_triedAt_17 =>
  k203 v7 v8_1 v9_13 a_takenAt_16 a_triedAt_17) else
  k203 v7 v8_1 v9 a_takenAt a_triedAt_5
noncomputable def mo_fill_B150 (v1 : Int32) (v2 : Int32) (v7 : Int32) (y_tm : Int32) (a_drawer : Nat → Int64) (a_tried : Nat → Int64) (a_takenAt : Nat → Int64) (a_triedAt : Nat → Int32) (k141 : Int64 → Int32 → Option (Int32 × Int32 × (Nat → Int64) × (Nat → Int64) × (Nat → Int32))) (k150 : Int64 → Int32 → Option (Int32 × Int32 × (Nat → Int64) × (Nat → Int64) × (Nat → Int32))) (v5 : Int64) (v8 : Int32) : Option (Int32 × Int32 × (Nat → Int64) × (Nat → Int64) × (Nat → Int32)) :=
  if v1 ≤ v8 then (nm (v7 + Int32.ofInt 1) fun v7_20 =>
  k141 v5 v7_20) else
  bd1 (mo_cellBit v8 v7) fun r_21 =>
  nm (v5 ||| r_21 : Int64) fun v5_23 =>
  nm (v8 + Int32.ofInt 1) fun v8_24 =>
  k150 v5_23 v8_24
noncomputable def mo_fill_B141 (v1 : Int32) (v2 : Int32) (y_tm : Int32) (a_drawer : Nat → Int64) (a_tried : Nat → Int64) (a_takenAt : Nat → Int64) (a_triedAt : Nat → Int32)  (k141 : Int64 → Int32 → Option (Int32 × Int32 × (Nat → Int64) × (Nat → Int64) × (Nat → Int32))) (v5 : Int64) (v7 : Int32) : Option (Int32 × Int32 × (Nat → Int64) × (Nat → Int64) × (Nat → Int32)) :=
  if v2 ≤ v7 then (ck 0 37 <|
  nm (vp_updL a_takenAt (0 : Int32).toNatClampNeg 0) fun a_takenAt_25 =>
  ck 0 37 <|
  nm (upd a_triedAt (0 : Int32).toNatClampNeg 0) fun a_triedAt_26 =>
  fl5 (mo_fill_B203 v5 y_tm a_drawer a_tried) FU 0 0 0 a_takenAt_25 a_triedAt_26) else
  fl2 (mo_fill_B150 v1 v2 v7 y_tm a_drawer a_tried a_takenAt a_triedAt k141) FU v5 0
noncomputable def mo_fill_J129 (k41 : Int32 → Int32 → (Nat → Int64) → Option (Int32 × Int32 × (Nat → Int64) × (Nat → Int64) × (Nat → Int32))) (a_drawer : Nat → Int64) (v1 : Int32) (v2 : Int32) (v3 : Int32) (v4 : Int32) (v5 : Int32) (y_tm : Int32) (a_tried : Nat → Int64) (a_takenAt : Nat → Int64) (a_triedAt : Nat → Int32)  : Option (Int32 × Int32 × (Nat → Int64) × (Nat → Int64) × (Nat → Int32)) :=
  nm (v5 + Int32.ofInt 1) fun v5_27 =>
  k41 v5_27 y_tm a_tried
noncomputable def mo_fill_J92 (k41 : Int32 → Int32 → (Nat → Int64) → Option (Int32 × Int32 × (Nat → Int64) × (Nat → Int64) × (Nat → Int32))) (k79 : Int32 → Int32 → (Nat → Int64) → Option (Int32 × Int32 × (Nat → Int64) × (Nat → Int64) × (Nat → Int32))) (a_drawer : Nat → Int64) (v1 : Int32) (v2 : Int32) (v3 : Int32) (v4 : Int32) (v5 : Int32) (v6 : Int32) (y_tm : Int32) (a_tried : Nat → Int64) (a_takenAt : Nat → Int64) (a_triedAt : Nat → Int32) (t0 : Int32) (t1 : Int32) : Option (Int32 × Int32 × (Nat → Int64) × (Nat → Int64) × (Nat → Int32)) :=
  if t1 ≤ t0 then (mo_fill_J129 k41 a_drawer v1 v2 v3 v4 v5 y_tm a_tried a_takenAt a_triedAt) else
  ck v5 8 <|
  bd1 (mo_turned (a_drawer v5.toNatClampNeg) v6) fun r_28 =>
  bd2 (mo_comesIn_tried 0 y_tm r_28 a_tried) fun r_30 a_tried_31 =>
  nm (v6 + Int32.ofInt 1) fun v6_33 =>
  k79 v6_33 r_30 a_tried_31
noncomputable def mo_fill_B79 (v1 : Int32) (v2 : Int32) (v3 : Int32) (v4 : Int32) (v5 : Int32) (a_drawer : Nat → Int64) (a_takenAt : Nat → Int64) (a_triedAt : Nat → Int32) (k41 : Int32 → Int32 → (Nat → Int64) → Option (Int32 × Int32 × (Nat → Int64) × (Nat → Int64) × (Nat → Int32))) (k79 : Int32 → Int32 → (Nat → Int64) → Option (Int32 × Int32 × (Nat → Int64) × (Nat → Int64) × (Nat → Int32))) (v6 : Int32) (y_tm : Int32) (a_tried : Nat → Int64) : Option (Int32 × Int32 × (Nat → Int64) × (Nat → Int64) × (Nat → Int32)) :=
  if v4 = 0 then (mo_fill_J92 k41 k79 a_drawer v1 v2 v3 v4 v5 v6 y_tm a_tried a_takenAt a_triedAt v6 1) else
  mo_fill_J92 k41 k79 a_drawer v1 v2 v3 v4 v5 v6 y_tm a_tried a_takenAt a_triedAt v6 8
noncomputable def mo_fill_B41 (v1 : Int32) (v2 : Int32) (v3 : Int32) (v4 : Int32) (a_drawer : Nat → Int64) (a_takenAt : Nat → Int64) (a_triedAt : Nat → Int32)  (k41 : Int32 → Int32 → (Nat → Int64) → Option (Int32 × Int32 × (Nat → Int64) × (Nat → Int64) × (Nat → Int32))) (v5 : Int32) (y_tm : Int32) (a_tried : Nat → Int64) : Option (Int32 × Int32 × (Nat → Int64) × (Nat → Int64) × (Nat → Int32)) :=
  if 8 ≤ v5 then (fl2 (mo_fill_B141 v1 v2 y_tm a_drawer a_tried a_takenAt a_triedAt) FU 0 0) else
  bd1 (mo_has (v3.toInt64) v5) fun r_34 =>
  if r_34 = 0 then (mo_fill_J129 k41 a_drawer v1 v2 v3 v4 v5 y_tm a_tried a_takenAt a_triedAt) else
  ck v5 8 <|
  if (a_drawer v5.toNatClampNeg) = 0 then (some ((-2), y_tm, a_tried, a_takenAt, a_triedAt)) else
  fl3 (mo_fill_B79 v1 v2 v3 v4 v5 a_drawer a_takenAt a_triedAt k41) FU 0 y_tm a_tried
noncomputable def mo_fill (v1 : Int32) (v2 : Int32) (v3 : Int32) (v4 : Int32) (y_tm : Int32) (a_drawer : Nat → Int64) (a_tried : Nat → Int64) (a_takenAt : Nat → Int64) (a_triedAt : Nat → Int32) : Option (Int32 × Int32 × (Nat → Int64) × (Nat → Int64) × (Nat → Int32)) :=
  bd1 (mo_in v1 1 6) fun r_36 =>
  if r_36 = 0 then (some ((-1), y_tm, a_tried, a_takenAt, a_triedAt)) else
  bd1 (mo_in v2 1 6) fun r_38 =>
  if r_38 = 0 then (some ((-1), y_tm, a_tried, a_takenAt, a_triedAt)) else
  bd1 (mo_in v3 1 255) fun r_40 =>
  if r_40 = 0 then (some ((-1), y_tm, a_tried, a_takenAt, a_triedAt)) else
  fl3 (mo_fill_B41 v1 v2 v3 v4 a_drawer a_takenAt a_triedAt) FU 0 0 a_tried
set_option maxHeartbeats 4000000 in
set_option maxRecDepth 100000 in
theorem c_mo_fill (l : Launch) (D : va_G) (ct : Nat → ClassId) (ad : Nat → Nat) (hI : mI ad) {y_km y_tp y_goes y_kin y_qd y_sides y_cuts y_flat y_cp y_cA y_cB y_1X y_1Y y_2X y_2Y y_tm y_cells : Int32} {a_mtape a_flood a_going a_field a_from a_mcrowds a_steps a_queue a_letter a_lineX a_lineY a_triedAt a_cellAt a_besideIn a_apart : Nat → Int32} {a_drawer a_mkept a_listed a_mkin a_tried a_takenAt a_waysOf : Nat → Int64} (v1 : Int32) (v2 : Int32) (v3 : Int32) (v4 : Int32) (r : Int32) (z_y_tm : Int32) (z_a_tried : Nat → Int64) (z_a_takenAt : Nat → Int64) (z_a_triedAt : Nat → Int32) (h : mo_fill v1 v2 v3 v4 y_tm a_drawer a_tried a_takenAt a_triedAt = some (r, z_y_tm, z_a_tried, z_a_takenAt, z_a_triedAt)) : Met l yX12_fill (wm yX12_fill cX12_fill 18 (some .int)) (rmm 3 73) (va_Pc [.ref (ad 0), .int v1, .int v2, .int v3, .int v4] (mB D ct ad y_km y_tp y_goes y_kin y_qd y_sides y_cuts y_flat y_cp y_cA y_cB y_1X y_1Y y_2X y_2Y y_tm y_cells a_mtape a_flood a_going a_field a_from a_mcrowds a_steps a_queue a_letter a_lineX a_lineY a_triedAt a_cellAt a_besideIn a_apart a_drawer a_mkept a_listed a_mkin a_tried a_takenAt a_waysOf)) (va_Qi (fun z (_ : Unit) => z = r) (fun _ t => mP D ct ad y_km y_tp y_goes y_kin y_qd y_sides y_cuts y_flat y_cp y_cA y_cB y_1X y_1Y y_2X y_2Y z_y_tm y_cells a_mtape a_flood a_going a_field a_from a_mcrowds a_steps a_queue a_letter a_lineX a_lineY z_a_triedAt a_cellAt a_besideIn a_apart a_drawer a_mkept a_listed a_mkin z_a_tried z_a_takenAt a_waysOf t.heap) (mA ad)) 0 0 (mA ad) := by
  refine met_s (y := yX12_fill) (rm := rmm 3 73) (by decide) (Nat.le_of_ble_eq_true rfl) ?_
  intro p e s m below meth c hx hb hr hw hown hlocks _ hml hB ls hl
  obtain ⟨hN, hK, hP⟩ := hB
  replace hl : lv_has ls 18 [(0, .ref (ad 0)), (1, .int v1), (2, .int v2), (3, .int v3), (4, .int v4)] := hl
  have hS : va_S (mA ad) s.heap s.heap [] := va_S.rf
  generalize (([.ref (ad 0), .int v1, .int v2, .int v3, .int v4] : List Value).toArray) = av at hw ⊢
  rw [mo_fill] at h
  have hL203 : ∀ (v5 : Int64), ∀ (y_tm : Int32), ∀ (a_drawer : Nat → Int64), ∀ (a_tried : Nat → Int64), ∀ (n203 : Nat) (H : Heap) (locs : List Loc) (ls : Array Slot) (v7 : Int32) (v8 : Int32) (v9 : Int32) (a_takenAt : Nat → Int64) (a_triedAt : Nat → Int32), lv_has ls 18 [(0, .ref (ad 0)), (5, .long v5), (7, .int v7), (8, .int v8), (9, .int v9)] → mP D ct ad y_km y_tp y_goes y_kin y_qd y_sides y_cuts y_flat y_cp y_cA y_cB y_1X y_1Y y_2X y_2Y y_tm y_cells a_mtape a_flood a_going a_field a_from a_mcrowds a_steps a_queue a_letter a_lineX a_lineY a_triedAt a_cellAt a_besideIn a_apart a_drawer a_mkept a_listed a_mkin a_tried a_takenAt a_waysOf H → va_S (mA ad) s.heap H locs → fl5 (mo_fill_B203 v5 y_tm a_drawer a_tried) n203 v7 v8 v9 a_takenAt a_triedAt = some (r, z_y_tm, z_a_tried, z_a_takenAt, z_a_triedAt) → W p l e (rmm 3 73) s m av below meth c H locs 0 0 (MQ below (va_Qi (fun z (_ : Unit) => z = r) (fun _ t => mP D ct ad y_km y_tp y_goes y_kin y_qd y_sides y_cuts y_flat y_cp y_cA y_cB y_1X y_1Y y_2X y_2Y z_y_tm y_cells a_mtape a_flood a_going a_field a_from a_mcrowds a_steps a_queue a_letter a_lineX a_lineY z_a_triedAt a_cellAt a_besideIn a_apart a_drawer a_mkept a_listed a_mkin z_a_tried z_a_takenAt a_waysOf t.heap) (mA ad)) av s 0 0 (mA ad)) (F0 m 203 ls []) := by
    intro v5 y_tm a_drawer a_tried n203
    induction n203 with
    | zero => intro H locs ls v7 v8 v9 a_takenAt a_triedAt hl hP hS h; cases h
    | succ n203 ih203 =>
      intro H locs ls v7 v8 v9 a_takenAt a_triedAt hl hP hS h
      replace h : mo_fill_B203 v5 y_tm a_drawer a_tried (fl5 (mo_fill_B203 v5 y_tm a_drawer a_tried) n203) v7 v8 v9 a_takenAt a_triedAt = some (r, z_y_tm, z_a_tried, z_a_takenAt, z_a_triedAt) := h
      generalize fl5 (mo_fill_B203 v5 y_tm a_drawer a_tried) n203 = k203 at h ih203
      rw [mo_fill_B203] at h
      refine lv_iload hx hb dX12_fill_203 (lv_at hl 4 rfl) ?_
      refine lv_if_lt hx hb dX12_fill_205 (tgt := 417) rfl (fun hc => ?_) (fun hc => ?_)
      · replace h := ifp h hc
        refine lv_iload hx hb dX12_fill_417 (lv_at hl 2 rfl) ?_
        simp only [Option.some.injEq, Prod.mk.injEq] at h
        obtain ⟨rfl, rfl, rfl, rfl, rfl⟩ := h
        exact rc_i hx hb hr hlocks hS dX12_fill_419 rfl hP
      · replace h := ifn h hc
        refine lv_aload_n hx hb dX12_fill_208 rfl (lv_at hl 0 rfl) ?_
        refine mg_MO_32 hx hb hw hown hK hP dX12_fill_209 ?_
        refine lv_iload hx hb dX12_fill_212 (lv_at hl 4 rfl) ?_
        obtain ⟨hin, h⟩ := ck_s h
        refine md_triedAt hx hb hK hP hin dX12_fill_214 ?_
        refine lv_aload_n hx hb dX12_fill_215 rfl (lv_at hl 0 rfl) ?_
        refine mg_MO_33 hx hb hw hown hK hP dX12_fill_216 ?_
        refine lv_icmp_ne hx hb dX12_fill_219 (tgt := 231) rfl (fun hc => ?_) (fun hc => ?_)
        · replace h := ifn h hc
          refine lv_iload hx hb dX12_fill_231 (lv_at hl 3 rfl) ?_
          refine lv_sipush (v := 20000) hx hb dX12_fill_233 ks_20000 ?_
          refine lv_icmp_ne hx hb dX12_fill_236 (tgt := 242) rfl (fun hc => ?_) (fun hc => ?_)
          · replace h := ifn h hc
            refine lv_iload hx hb dX12_fill_242 (lv_at hl 3 rfl) ?_
            refine lv_iconst (v := 1) hx hb dX12_fill_244 ki_1 ?_
            refine lv_iadd hx hb dX12_fill_245 ?_
            obtain ⟨v8_42, ev8_42, h⟩ := nm_s h
            refine nmI ev8_42 ?_
            refine lv_istore hx hb dX12_fill_246 hl (Nat.le_of_ble_eq_true rfl) (lv' := [(8, .int v8_42), (0, .ref (ad 0)), (5, .long v5), (7, .int v7), (9, .int v9)]) rfl (fun ls hl => ?_)
            refine lv_aload_n hx hb dX12_fill_248 rfl (lv_at hl 1 rfl) ?_
            refine mg_MO_30 hx hb hw hown hK hP dX12_fill_249 ?_
            refine lv_aload_n hx hb dX12_fill_252 rfl (lv_at hl 1 rfl) ?_
            refine mg_MO_32 hx hb hw hown hK hP dX12_fill_253 ?_
            refine lv_iload hx hb dX12_fill_256 (lv_at hl 4 rfl) ?_
            obtain ⟨hin, h⟩ := ck_s h
            refine md_triedAt hx hb hK hP hin dX12_fill_258 ?_
            obtain ⟨i_43, ei_43, h⟩ := nm_s h
            refine nmI ei_43 ?_
            obtain ⟨hin, h⟩ := ck_s h
            refine md_tried hx hb hK hP hin dX12_fill_259 ?_
            obtain ⟨v10_44, ev10_44, h⟩ := nm_s h
            refine nmL ev10_44 ?_
            refine lv_lstore hx hb dX12_fill_260 hl (Nat.le_of_ble_eq_true rfl) (lv' := [(10, .long v10_44), (8, .int v8_42), (0, .ref (ad 0)), (5, .long v5), (7, .int v7), (9, .int v9)]) rfl (fun ls hl => ?_)
            refine lv_aload_n hx hb dX12_fill_262 rfl (lv_at hl 2 rfl) ?_
            refine mg_MO_32 hx hb hw hown hK hP dX12_fill_263 ?_
            refine lv_iload hx hb dX12_fill_266 (lv_at hl 5 rfl) ?_
            refine lv_aload_n hx hb dX12_fill_268 rfl (lv_at hl 2 rfl) ?_
            refine mg_MO_32 hx hb hw hown hK hP dX12_fill_269 ?_
            refine lv_iload hx hb dX12_fill_272 (lv_at hl 5 rfl) ?_
            obtain ⟨hin, h⟩ := ck_s h
            refine md_triedAt hx hb hK hP hin dX12_fill_274 ?_
            refine lv_iconst (v := 1) hx hb dX12_fill_275 ki_1 ?_
            refine lv_iadd hx hb dX12_fill_276 ?_
            obtain ⟨w_45, ew_45, h⟩ := nm_s h
            refine nmI ew_45 ?_
            obtain ⟨hin, h⟩ := ck_s h
            obtain ⟨a_triedAt_46, ea_triedAt_46, h⟩ := nm_s h
            refine ms_triedAt hx hb hK hP hI hS hin ea_triedAt_46 dX12_fill_277 (fun H locs hP hS => ?_)
            refine lv_lload hx hb dX12_fill_278 (lv_at hl 3 rfl) ?_
            refine lv_aload_n hx hb dX12_fill_280 rfl (lv_at hl 2 rfl) ?_
            refine mg_MO_31 hx hb hw hown hK hP dX12_fill_281 ?_
            refine lv_iload hx hb dX12_fill_284 (lv_at hl 5 rfl) ?_
            obtain ⟨hin, h⟩ := ck_s h
            refine md_takenAt hx hb hK hP hin dX12_fill_286 ?_
            refine lv_ldc2 hx hb hown (hw _ tw_12_20) dX12_fill_287 ?_
            refine lv_lxor hx hb dX12_fill_290 ?_
            refine lv_land hx hb dX12_fill_291 ?_
            obtain ⟨v12_47, ev12_47, h⟩ := nm_s h
            refine nmL ev12_47 ?_
            refine lv_lstore hx hb dX12_fill_292 hl (Nat.le_of_ble_eq_true rfl) (lv' := [(12, .long v12_47), (10, .long v10_44), (8, .int v8_42), (0, .ref (ad 0)), (5, .long v5), (7, .int v7), (9, .int v9)]) rfl (fun ls hl => ?_)
            refine lv_lload hx hb dX12_fill_294 (lv_at hl 0 rfl) ?_
            obtain ⟨r_48, hr_49, h⟩ := bd1_s h
            refine sc_i hx hb hml hown hw hN (c_mo_lowest l v12_47 r_48 hr_49) g_RX12_270 hd_X12_lowest (rest := []) hl.1 hS dX12_fill_296 rfl rfl ⟨Nat.le_of_ble_eq_true rfl, Nat.le_of_ble_eq_true rfl⟩ rfl rfl (Nat.le_of_ble_eq_true rfl) ⟨Nat.zero_le _, Nat.zero_le _⟩ (fun H locs hk hS => ?_)
            have hP := mP_kept hP hk
            refine lv_istore hx hb dX12_fill_299 hl (Nat.le_of_ble_eq_true rfl) (lv' := [(14, .int r_48), (12, .long v12_47), (10, .long v10_44), (8, .int v8_42), (0, .ref (ad 0)), (5, .long v5), (7, .int v7), (9, .int v9)]) rfl (fun ls hl => ?_)
            refine lv_lload hx hb dX12_fill_301 (lv_at hl 2 rfl) ?_
            refine lv_ldc2 hx hb hown (hw _ tw_7_21) dX12_fill_303 ?_
            refine lv_land hx hb dX12_fill_306 ?_
            obtain ⟨r_50, hr_51, h⟩ := bd1_s h
            refine sc_i hx hb hml hown hw hN (c_mo_lowest l (v10_44 &&& (255 : Int64)) r_50 hr_51) g_RX12_270 hd_X12_lowest (rest := []) hl.1 hS dX12_fill_307 rfl rfl ⟨Nat.le_of_ble_eq_true rfl, Nat.le_of_ble_eq_true rfl⟩ rfl rfl (Nat.le_of_ble_eq_true rfl) ⟨Nat.zero_le _, Nat.zero_le _⟩ (fun H locs hk hS => ?_)
            have hP := mP_kept hP hk
            refine lv_istore hx hb dX12_fill_310 hl (Nat.le_of_ble_eq_true rfl) (lv' := [(15, .int r_50), (14, .int r_48), (12, .long v12_47), (10, .long v10_44), (8, .int v8_42), (0, .ref (ad 0)), (5, .long v5), (7, .int v7), (9, .int v9)]) rfl (fun ls hl => ?_)
            refine lv_lload hx hb dX12_fill_312 (lv_at hl 3 rfl) ?_
            refine lv_iload hx hb dX12_fill_314 (lv_at hl 1 rfl) ?_
            refine lv_bipush (v := 8) hx hb dX12_fill_316 kb_8 ?_
            obtain ⟨hne, h⟩ := dzI_s h
            refine lv_irem hx hb dX12_fill_318 hne ?_
            refine nmI (v := remI r_48 8) rfl ?_
            refine lv_iload hx hb dX12_fill_319 (lv_at hl 0 rfl) ?_
            refine lv_isub hx hb dX12_fill_321 ?_
            refine lv_iload hx hb dX12_fill_322 (lv_at hl 1 rfl) ?_
            refine lv_bipush (v := 8) hx hb dX12_fill_324 kb_8 ?_
            obtain ⟨hne, h⟩ := dzI_s h
            refine lv_idiv hx hb dX12_fill_326 hne ?_
            obtain ⟨r_52, hr_53, h⟩ := bd1_s h
            refine sc_l hx hb hml hown hw hN (c_mo_putAt l v10_44 ((remI r_48 8) - r_50) (r_48 / 8) r_52 hr_53) g_RX12_336 hd_X12_putAt (rest := []) hl.1 hS dX12_fill_327 rfl rfl ⟨Nat.le_of_ble_eq_true rfl, Nat.le_of_ble_eq_true rfl⟩ rfl rfl (Nat.le_of_ble_eq_true rfl) ⟨Nat.zero_le _, Nat.zero_le _⟩ (fun H locs hk hS => ?_)
            have hP := mP_kept hP hk
            refine lv_lstore hx hb dX12_fill_330 hl (Nat.le_of_ble_eq_true rfl) (lv' := [(16, .long r_52), (15, .int r_50), (14, .int r_48), (12, .long v12_47), (10, .long v10_44), (8, .int v8_42), (0, .ref (ad 0)), (5, .long v5), (7, .int v7), (9, .int v9)]) rfl (fun ls hl => ?_)
            refine lv_lload hx hb dX12_fill_332 (lv_at hl 0 rfl) ?_
            refine lv_lconst (v := 0) hx hb dX12_fill_334 kl_0 ?_
            refine W.lcmp hx hb dX12_fill_335 ?_
            refine lv_if_eq hx hb dX12_fill_336 (tgt := 203) rfl (fun hc => ?_) (fun hc => ?_)
            · replace h := ifp h ((lg_cmp_eq _ _).mp hc)
              exact ih203 _ _ _ v7 v8_42 v9 a_takenAt a_triedAt_46 (lv_sub hl [6, 7, 8, 5, 9] rfl) hP hS h
            · replace h := ifn h (fun q => hc ((lg_cmp_eq _ _).mpr q))
              refine lv_lload hx hb dX12_fill_339 (lv_at hl 0 rfl) ?_
              refine lv_lload hx hb dX12_fill_341 (lv_at hl 3 rfl) ?_
              refine lv_ldc2 hx hb hown (hw _ tw_12_20) dX12_fill_343 ?_
              refine lv_lxor hx hb dX12_fill_346 ?_
              refine lv_land hx hb dX12_fill_347 ?_
              refine lv_lconst (v := 0) hx hb dX12_fill_348 kl_0 ?_
              refine W.lcmp hx hb dX12_fill_349 ?_
              refine lv_if_eq hx hb dX12_fill_350 (tgt := 356) rfl (fun hc => ?_) (fun hc => ?_)
              · replace h := ifp h ((lg_cmp_eq _ _).mp hc)
                refine lv_lload hx hb dX12_fill_356 (lv_at hl 0 rfl) ?_
                refine lv_aload_n hx hb dX12_fill_358 rfl (lv_at hl 6 rfl) ?_
                refine mg_MO_31 hx hb hw hown hK hP dX12_fill_359 ?_
                refine lv_iload hx hb dX12_fill_362 (lv_at hl 9 rfl) ?_
                obtain ⟨hin, h⟩ := ck_s h
                refine md_takenAt hx hb hK hP hin dX12_fill_364 ?_
                refine lv_lor hx hb dX12_fill_365 ?_
                refine lv_lload hx hb dX12_fill_366 (lv_at hl 7 rfl) ?_
                refine W.lcmp hx hb dX12_fill_368 ?_
                refine lv_if_ne hx hb dX12_fill_369 (tgt := 381) rfl (fun hc => ?_) (fun hc => ?_)
                · replace h := ifn h (fun q => hc ((lg_cmp_eq _ _).mpr q))
                  refine lv_iload hx hb dX12_fill_381 (lv_at hl 9 rfl) ?_
                  refine lv_iconst (v := 1) hx hb dX12_fill_383 ki_1 ?_
                  refine lv_iadd hx hb dX12_fill_384 ?_
                  obtain ⟨v9_54, ev9_54, h⟩ := nm_s h
                  refine nmI ev9_54 ?_
                  refine lv_istore hx hb dX12_fill_385 hl (Nat.le_of_ble_eq_true rfl) (lv' := [(9, .int v9_54), (16, .long r_52), (15, .int r_50), (14, .int r_48), (12, .long v12_47), (10, .long v10_44), (8, .int v8_42), (0, .ref (ad 0)), (5, .long v5), (7, .int v7)]) rfl (fun ls hl => ?_)
                  refine lv_aload_n hx hb dX12_fill_387 rfl (lv_at hl 7 rfl) ?_
                  refine mg_MO_31 hx hb hw hown hK hP dX12_fill_388 ?_
                  refine lv_iload hx hb dX12_fill_391 (lv_at hl 0 rfl) ?_
                  refine lv_aload_n hx hb dX12_fill_393 rfl (lv_at hl 7 rfl) ?_
                  refine mg_MO_31 hx hb hw hown hK hP dX12_fill_394 ?_
                  refine lv_iload hx hb dX12_fill_397 (lv_at hl 0 rfl) ?_
                  refine lv_iconst (v := 1) hx hb dX12_fill_399 ki_1 ?_
                  refine lv_isub hx hb dX12_fill_400 ?_
                  obtain ⟨i_55, ei_55, h⟩ := nm_s h
                  refine nmI ei_55 ?_
                  obtain ⟨hin, h⟩ := ck_s h
                  refine md_takenAt hx hb hK hP hin dX12_fill_401 ?_
                  refine lv_lload hx hb dX12_fill_402 (lv_at hl 1 rfl) ?_
                  refine lv_lor hx hb dX12_fill_404 ?_
                  obtain ⟨w_56, ew_56, h⟩ := nm_s h
                  refine nmL ew_56 ?_
                  obtain ⟨hin, h⟩ := ck_s h
                  obtain ⟨a_takenAt_57, ea_takenAt_57, h⟩ := nm_s h
                  refine ms_takenAt hx hb hK hP hI hS hin ea_takenAt_57 dX12_fill_405 (fun H locs hP hS => ?_)
                  refine lv_aload_n hx hb dX12_fill_406 rfl (lv_at hl 7 rfl) ?_
                  refine mg_MO_32 hx hb hw hown hK hP dX12_fill_407 ?_
                  refine lv_iload hx hb dX12_fill_410 (lv_at hl 0 rfl) ?_
                  refine lv_iconst (v := 0) hx hb dX12_fill_412 ki_0 ?_
                  obtain ⟨hin, h⟩ := ck_s h
                  obtain ⟨a_triedAt_58, ea_triedAt_58, h⟩ := nm_s h
                  refine ms_triedAt hx hb hK hP hI hS hin ea_triedAt_58 dX12_fill_413 (fun H locs hP hS => ?_)
                  refine lv_goto hx hb dX12_fill_414 (tgt := 203) rfl ?_
                  exact ih203 _ _ _ v7 v8_42 v9_54 a_takenAt_57 a_triedAt_58 (lv_sub hl [7, 8, 9, 6, 0] rfl) hP hS h
                · replace h := ifp h ((lg_cmp_eq _ _).mp hc)
                  refine lv_iload hx hb dX12_fill_372 (lv_at hl 8 rfl) ?_
                  refine lv_iconst (v := 1) hx hb dX12_fill_374 ki_1 ?_
                  refine lv_iadd hx hb dX12_fill_375 ?_
                  obtain ⟨v7_59, ev7_59, h⟩ := nm_s h
                  refine nmI ev7_59 ?_
                  refine lv_istore hx hb dX12_fill_376 hl (Nat.le_of_ble_eq_true rfl) (lv' := [(7, .int v7_59), (16, .long r_52), (15, .int r_50), (14, .int r_48), (12, .long v12_47), (10, .long v10_44), (8, .int v8_42), (0, .ref (ad 0)), (5, .long v5), (9, .int v9)]) rfl (fun ls hl => ?_)
                  refine lv_goto hx hb dX12_fill_378 (tgt := 203) rfl ?_
                  exact ih203 _ _ _ v7_59 v8_42 v9 a_takenAt a_triedAt_46 (lv_sub hl [7, 8, 0, 6, 9] rfl) hP hS h
              · replace h := ifn h (fun q => hc ((lg_cmp_eq _ _).mpr q))
                refine lv_goto hx hb dX12_fill_353 (tgt := 203) rfl ?_
                exact ih203 _ _ _ v7 v8_42 v9 a_takenAt a_triedAt_46 (lv_sub hl [6, 7, 8, 5, 9] rfl) hP hS h
          · replace h := ifp h hc
            refine lv_bipush (v := (-3)) hx hb dX12_fill_239 kb_m3 ?_
            simp only [Option.some.injEq, Prod.mk.injEq] at h
            obtain ⟨rfl, rfl, rfl, rfl, rfl⟩ := h
            exact rc_i hx hb hr hlocks hS dX12_fill_241 rfl hP
        · replace h := ifp h hc
          refine lv_iload hx hb dX12_fill_222 (lv_at hl 4 rfl) ?_
          refine lv_iconst (v := 1) hx hb dX12_fill_224 ki_1 ?_
          refine lv_isub hx hb dX12_fill_225 ?_
          obtain ⟨v9_60, ev9_60, h⟩ := nm_s h
          refine nmI ev9_60 ?_
          refine lv_istore hx hb dX12_fill_226 hl (Nat.le_of_ble_eq_true rfl) (lv' := [(9, .int v9_60), (0, .ref (ad 0)), (5, .long v5), (7, .int v7), (8, .int v8)]) rfl (fun ls hl => ?_)
          refine lv_goto hx hb dX12_fill_228 (tgt := 203) rfl ?_
          exact ih203 _ _ _ v7 v8 v9_60 a_takenAt a_triedAt (lv_sub hl [1, 2, 3, 4, 0] rfl) hP hS h
  have hL141 : ∀ (v1 : Int32), ∀ (v2 : Int32), ∀ (y_tm : Int32), ∀ (a_drawer : Nat → Int64), ∀ (a_tried : Nat → Int64), ∀ (a_takenAt : Nat → Int64), ∀ (a_triedAt : Nat → Int32), ∀ (n141 : Nat) (H : Heap) (locs : List Loc) (ls : Array Slot) (v5 : Int64) (v7 : Int32), lv_has ls 18 [(0, .ref (ad 0)), (1, .int v1), (2, .int v2), (5, .long v5), (7, .int v7)] → mP D ct ad y_km y_tp y_goes y_kin y_qd y_sides y_cuts y_flat y_cp y_cA y_cB y_1X y_1Y y_2X y_2Y y_tm y_cells a_mtape a_flood a_going a_field a_from a_mcrowds a_steps a_queue a_letter a_lineX a_lineY a_triedAt a_cellAt a_besideIn a_apart a_drawer a_mkept a_listed a_mkin a_tried a_takenAt a_waysOf H → va_S (mA ad) s.heap H locs → fl2 (mo_fill_B141 v1 v2 y_tm a_drawer a_tried a_takenAt a_triedAt) n141 v5 v7 = some (r, z_y_tm, z_a_tried, z_a_takenAt, z_a_triedAt) → W p l e (rmm 3 73) s m av below meth c H locs 0 0 (MQ below (va_Qi (fun z (_ : Unit) => z = r) (fun _ t => mP D ct ad y_km y_tp y_goes y_kin y_qd y_sides y_cuts y_flat y_cp y_cA y_cB y_1X y_1Y y_2X y_2Y z_y_tm y_cells a_mtape a_flood a_going a_field a_from a_mcrowds a_steps a_queue a_letter a_lineX a_lineY z_a_triedAt a_cellAt a_besideIn a_apart a_drawer a_mkept a_listed a_mkin z_a_tried z_a_takenAt a_waysOf t.heap) (mA ad)) av s 0 0 (mA ad)) (F0 m 141 ls []) := by
    intro v1 v2 y_tm a_drawer a_tried a_takenAt a_triedAt n141
    induction n141 with
    | zero => intro H locs ls v5 v7 hl hP hS h; cases h
    | succ n141 ih141 =>
      intro H locs ls v5 v7 hl hP hS h
      replace h : mo_fill_B141 v1 v2 y_tm a_drawer a_tried a_takenAt a_triedAt (fl2 (mo_fill_B141 v1 v2 y_tm a_drawer a_tried a_takenAt a_triedAt) n141) v5 v7 = some (r, z_y_tm, z_a_tried, z_a_takenAt, z_a_triedAt) := h
      generalize fl2 (mo_fill_B141 v1 v2 y_tm a_drawer a_tried a_takenAt a_triedAt) n141 = k141 at h ih141
      have hL150 : ∀ (v7 : Int32), ∀ (n150 : Nat) (H : Heap) (locs : List Loc) (ls : Array Slot) (v5 : Int64) (v8 : Int32), lv_has ls 18 [(0, .ref (ad 0)), (1, .int v1), (2, .int v2), (5, .long v5), (7, .int v7), (8, .int v8)] → mP D ct ad y_km y_tp y_goes y_kin y_qd y_sides y_cuts y_flat y_cp y_cA y_cB y_1X y_1Y y_2X y_2Y y_tm y_cells a_mtape a_flood a_going a_field a_from a_mcrowds a_steps a_queue a_letter a_lineX a_lineY a_triedAt a_cellAt a_besideIn a_apart a_drawer a_mkept a_listed a_mkin a_tried a_takenAt a_waysOf H → va_S (mA ad) s.heap H locs → fl2 (mo_fill_B150 v1 v2 v7 y_tm a_drawer a_tried a_takenAt a_triedAt k141) n150 v5 v8 = some (r, z_y_tm, z_a_tried, z_a_takenAt, z_a_triedAt) → W p l e (rmm 3 73) s m av below meth c H locs 0 0 (MQ below (va_Qi (fun z (_ : Unit) => z = r) (fun _ t => mP D ct ad y_km y_tp y_goes y_kin y_qd y_sides y_cuts y_flat y_cp y_cA y_cB y_1X y_1Y y_2X y_2Y z_y_tm y_cells a_mtape a_flood a_going a_field a_from a_mcrowds a_steps a_queue a_letter a_lineX a_lineY z_a_triedAt a_cellAt a_besideIn a_apart a_drawer a_mkept a_listed a_mkin z_a_tried z_a_takenAt a_waysOf t.heap) (mA ad)) av s 0 0 (mA ad)) (F0 m 150 ls []) := by
        intro v7 n150
        induction n150 with
        | zero => intro H locs ls v5 v8 hl hP hS h; cases h
        | succ n150 ih150 =>
          intro H locs ls v5 v8 hl hP hS h
          replace h : mo_fill_B150 v1 v2 v7 y_tm a_drawer a_tried a_takenAt a_triedAt k141 (fl2 (mo_fill_B150 v1 v2 v7 y_tm a_drawer a_tried a_takenAt a_triedAt k141) n150) v5 v8 = some (r, z_y_tm, z_a_tried, z_a_takenAt, z_a_triedAt) := h
          generalize fl2 (mo_fill_B150 v1 v2 v7 y_tm a_drawer a_tried a_takenAt a_triedAt k141) n150 = k150 at h ih150
          rw [mo_fill_B150] at h
          refine lv_iload hx hb dX12_fill_150 (lv_at hl 5 rfl) ?_
          refine lv_iload_n hx hb dX12_fill_152 rfl (lv_at hl 1 rfl) ?_
          refine lv_icmp_ge hx hb dX12_fill_153 (tgt := 174) rfl (fun hc => ?_) (fun hc => ?_)
          · replace h := ifp h hc
            obtain ⟨v7_61, ev7_61, h⟩ := nm_s h
            refine lv_iinc hx hb dX12_fill_174 hl (k := 4) rfl ev7_61.symm (Nat.le_of_ble_eq_true rfl) (lv' := [(7, .int v7_61), (0, .ref (ad 0)), (1, .int v1), (2, .int v2), (5, .long v5), (8, .int v8)]) rfl (fun ls hl => ?_)
            refine lv_goto hx hb dX12_fill_177 (tgt := 141) rfl ?_
            exact ih141 _ _ _ v5 v7_61 (lv_sub hl [1, 2, 3, 4, 0] rfl) hP hS h
          · replace h := ifn h hc
            refine lv_lload hx hb dX12_fill_156 (lv_at hl 3 rfl) ?_
            refine lv_iload hx hb dX12_fill_158 (lv_at hl 5 rfl) ?_
            refine lv_iload hx hb dX12_fill_160 (lv_at hl 4 rfl) ?_
            obtain ⟨r_62, hr_63, h⟩ := bd1_s h
            refine sc_l hx hb hml hown hw hN (c_mo_cellBit l v8 v7 r_62 hr_63) g_RX12_117 hd_X12_cellBit (rest := [.long v5]) hl.1 hS dX12_fill_162 rfl rfl ⟨Nat.le_of_ble_eq_true rfl, Nat.le_of_ble_eq_true rfl⟩ rfl rfl (Nat.le_of_ble_eq_true rfl) ⟨Nat.zero_le _, Nat.zero_le _⟩ (fun H locs hk hS => ?_)
            have hP := mP_kept hP hk
            refine lv_lor hx hb dX12_fill_165 ?_
            obtain ⟨v5_64, ev5_64, h⟩ := nm_s h
            refine nmL ev5_64 ?_
            refine lv_lstore hx hb dX12_fill_166 hl (Nat.le_of_ble_eq_true rfl) (lv' := [(5, .long v5_64), (0, .ref (ad 0)), (1, .int v1), (2, .int v2), (7, .int v7), (8, .int v8)]) rfl (fun ls hl => ?_)
            obtain ⟨v8_65, ev8_65, h⟩ := nm_s h
            refine lv_iinc hx hb dX12_fill_168 hl (k := 5) rfl ev8_65.symm (Nat.le_of_ble_eq_true rfl) (lv' := [(8, .int v8_65), (5, .long v5_64), (0, .ref (ad 0)), (1, .int v1), (2, .int v2), (7, .int v7)]) rfl (fun ls hl => ?_)
            refine lv_goto hx hb dX12_fill_171 (tgt := 150) rfl ?_
            exact ih150 _ _ _ v5_64 v8_65 (lv_sub hl [2, 3, 4, 1, 5, 0] rfl) hP hS h
      rw [mo_fill_B141] at h
      refine lv_iload hx hb dX12_fill_141 (lv_at hl 4 rfl) ?_
      refine lv_iload_n hx hb dX12_fill_143 rfl (lv_at hl 2 rfl) ?_
      refine lv_icmp_ge hx hb dX12_fill_144 (tgt := 180) rfl (fun hc => ?_) (fun hc => ?_)
      · replace h := ifp h hc
        refine lv_iconst (v := 0) hx hb dX12_fill_180 ki_0 ?_
        refine lv_istore hx hb dX12_fill_181 hl (Nat.le_of_ble_eq_true rfl) (lv' := [(7, .int 0), (0, .ref (ad 0)), (1, .int v1), (2, .int v2), (5, .long v5)]) rfl (fun ls hl => ?_)
        refine lv_iconst (v := 0) hx hb dX12_fill_183 ki_0 ?_
        refine lv_istore hx hb dX12_fill_184 hl (Nat.le_of_ble_eq_true rfl) (lv' := [(8, .int 0), (7, .int 0), (0, .ref (ad 0)), (1, .int v1), (2, .int v2), (5, .long v5)]) rfl (fun ls hl => ?_)
        refine lv_iconst (v := 0) hx hb dX12_fill_186 ki_0 ?_
        refine lv_istore hx hb dX12_fill_187 hl (Nat.le_of_ble_eq_true rfl) (lv' := [(9, .int 0), (8, .int 0), (7, .int 0), (0, .ref (ad 0)), (1, .int v1), (2, .int v2), (5, .long v5)]) rfl (fun ls hl => ?_)
        refine lv_aload_n hx hb dX12_fill_189 rfl (lv_at hl 3 rfl) ?_
        refine mg_MO_31 hx hb hw hown hK hP dX12_fill_190 ?_
        refine lv_iconst (v := 0) hx hb dX12_fill_193 ki_0 ?_
        refine lv_lconst (v := 0) hx hb dX12_fill_194 kl_0 ?_
        obtain ⟨hin, h⟩ := ck_s h
        obtain ⟨a_takenAt_66, ea_takenAt_66, h⟩ := nm_s h
        refine ms_takenAt hx hb hK hP hI hS hin ea_takenAt_66 dX12_fill_195 (fun H locs hP hS => ?_)
        refine lv_aload_n hx hb dX12_fill_196 rfl (lv_at hl 3 rfl) ?_
        refine mg_MO_32 hx hb hw hown hK hP dX12_fill_197 ?_
        refine lv_iconst (v := 0) hx hb dX12_fill_200 ki_0 ?_
        refine lv_iconst (v := 0) hx hb dX12_fill_201 ki_0 ?_
        obtain ⟨hin, h⟩ := ck_s h
        obtain ⟨a_triedAt_67, ea_triedAt_67, h⟩ := nm_s h
        refine ms_triedAt hx hb hK hP hI hS hin ea_triedAt_67 dX12_fill_202 (fun H locs hP hS => ?_)
        exact hL203 v5 y_tm a_drawer a_tried FU _ _ _ 0 0 0 a_takenAt_66 a_triedAt_67 (lv_sub hl [3, 6, 2, 1, 0] rfl) hP hS h
      · replace h := ifn h hc
        refine lv_iconst (v := 0) hx hb dX12_fill_147 ki_0 ?_
        refine lv_istore hx hb dX12_fill_148 hl (Nat.le_of_ble_eq_true rfl) (lv' := [(8, .int 0), (0, .ref (ad 0)), (1, .int v1), (2, .int v2), (5, .long v5), (7, .int v7)]) rfl (fun ls hl => ?_)
        exact hL150 v7 FU _ _ _ v5 0 (lv_sub hl [1, 2, 3, 4, 5, 0] rfl) hP hS h
  have hL41 : ∀ (v1 : Int32), ∀ (v2 : Int32), ∀ (v3 : Int32), ∀ (v4 : Int32), ∀ (a_drawer : Nat → Int64), ∀ (a_takenAt : Nat → Int64), ∀ (a_triedAt : Nat → Int32), ∀ (n41 : Nat) (H : Heap) (locs : List Loc) (ls : Array Slot) (v5 : Int32) (y_tm : Int32) (a_tried : Nat → Int64), lv_has ls 18 [(0, .ref (ad 0)), (1, .int v1), (2, .int v2), (3, .int v3), (4, .int v4), (5, .int v5)] → mP D ct ad y_km y_tp y_goes y_kin y_qd y_sides y_cuts y_flat y_cp y_cA y_cB y_1X y_1Y y_2X y_2Y y_tm y_cells a_mtape a_flood a_going a_field a_from a_mcrowds a_steps a_queue a_letter a_lineX a_lineY a_triedAt a_cellAt a_besideIn a_apart a_drawer a_mkept a_listed a_mkin a_tried a_takenAt a_waysOf H → va_S (mA ad) s.heap H locs → fl3 (mo_fill_B41 v1 v2 v3 v4 a_drawer a_takenAt a_triedAt) n41 v5 y_tm a_tried = some (r, z_y_tm, z_a_tried, z_a_takenAt, z_a_triedAt) → W p l e (rmm 3 73) s m av below meth c H locs 0 0 (MQ below (va_Qi (fun z (_ : Unit) => z = r) (fun _ t => mP D ct ad y_km y_tp y_goes y_kin y_qd y_sides y_cuts y_flat y_cp y_cA y_cB y_1X y_1Y y_2X y_2Y z_y_tm y_cells a_mtape a_flood a_going a_field a_from a_mcrowds a_steps a_queue a_letter a_lineX a_lineY z_a_triedAt a_cellAt a_besideIn a_apart a_drawer a_mkept a_listed a_mkin z_a_tried z_a_takenAt a_waysOf t.heap) (mA ad)) av s 0 0 (mA ad)) (F0 m 41 ls []) := by
    intro v1 v2 v3 v4 a_drawer a_takenAt a_triedAt n41
    induction n41 with
    | zero => intro H locs ls v5 y_tm a_tried hl hP hS h; cases h
    | succ n41 ih41 =>
      intro H locs ls v5 y_tm a_tried hl hP hS h
      replace h : mo_fill_B41 v1 v2 v3 v4 a_drawer a_takenAt a_triedAt (fl3 (mo_fill_B41 v1 v2 v3 v4 a_drawer a_takenAt a_triedAt) n41) v5 y_tm a_tried = some (r, z_y_tm, z_a_tried, z_a_takenAt, z_a_triedAt) := h
      generalize fl3 (mo_fill_B41 v1 v2 v3 v4 a_drawer a_takenAt a_triedAt) n41 = k41 at h ih41
      have hJ129 : ∀ (H : Heap) (locs : List Loc) (ls : Array Slot) (v5 : Int32) (y_tm : Int32) (a_tried : Nat → Int64) , lv_has ls 18 [(0, .ref (ad 0)), (1, .int v1), (2, .int v2), (3, .int v3), (4, .int v4), (5, .int v5)] → mP D ct ad y_km y_tp y_goes y_kin y_qd y_sides y_cuts y_flat y_cp y_cA y_cB y_1X y_1Y y_2X y_2Y y_tm y_cells a_mtape a_flood a_going a_field a_from a_mcrowds a_steps a_queue a_letter a_lineX a_lineY a_triedAt a_cellAt a_besideIn a_apart a_drawer a_mkept a_listed a_mkin a_tried a_takenAt a_waysOf H → va_S (mA ad) s.heap H locs → mo_fill_J129 k41 a_drawer v1 v2 v3 v4 v5 y_tm a_tried a_takenAt a_triedAt = some (r, z_y_tm, z_a_tried, z_a_takenAt, z_a_triedAt) → W p l e (rmm 3 73) s m av below meth c H locs 0 0 (MQ below (va_Qi (fun z (_ : Unit) => z = r) (fun _ t => mP D ct ad y_km y_tp y_goes y_kin y_qd y_sides y_cuts y_flat y_cp y_cA y_cB y_1X y_1Y y_2X y_2Y z_y_tm y_cells a_mtape a_flood a_going a_field a_from a_mcrowds a_steps a_queue a_letter a_lineX a_lineY z_a_triedAt a_cellAt a_besideIn a_apart a_drawer a_mkept a_listed a_mkin z_a_tried z_a_takenAt a_waysOf t.heap) (mA ad)) av s 0 0 (mA ad)) (F0 m 129 ls []) := by
        intro H locs ls v5 y_tm a_tried  hl hP hS h
        rw [mo_fill_J129] at h
        obtain ⟨v5_68, ev5_68, h⟩ := nm_s h
        refine lv_iinc hx hb dX12_fill_129 hl (k := 5) rfl ev5_68.symm (Nat.le_of_ble_eq_true rfl) (lv' := [(5, .int v5_68), (0, .ref (ad 0)), (1, .int v1), (2, .int v2), (3, .int v3), (4, .int v4)]) rfl (fun ls hl => ?_)
        refine lv_goto hx hb dX12_fill_132 (tgt := 41) rfl ?_
        exact ih41 _ _ _ v5_68 y_tm a_tried (lv_sub hl [1, 2, 3, 4, 5, 0] rfl) hP hS h
      have hL79 : ∀ (v5 : Int32), ∀ (n79 : Nat) (H : Heap) (locs : List Loc) (ls : Array Slot) (v6 : Int32) (y_tm : Int32) (a_tried : Nat → Int64), lv_has ls 18 [(0, .ref (ad 0)), (1, .int v1), (2, .int v2), (3, .int v3), (4, .int v4), (5, .int v5), (6, .int v6)] → mP D ct ad y_km y_tp y_goes y_kin y_qd y_sides y_cuts y_flat y_cp y_cA y_cB y_1X y_1Y y_2X y_2Y y_tm y_cells a_mtape a_flood a_going a_field a_from a_mcrowds a_steps a_queue a_letter a_lineX a_lineY a_triedAt a_cellAt a_besideIn a_apart a_drawer a_mkept a_listed a_mkin a_tried a_takenAt a_waysOf H → va_S (mA ad) s.heap H locs → fl3 (mo_fill_B79 v1 v2 v3 v4 v5 a_drawer a_takenAt a_triedAt k41) n79 v6 y_tm a_tried = some (r, z_y_tm, z_a_tried, z_a_takenAt, z_a_triedAt) → W p l e (rmm 3 73) s m av below meth c H locs 0 0 (MQ below (va_Qi (fun z (_ : Unit) => z = r) (fun _ t => mP D ct ad y_km y_tp y_goes y_kin y_qd y_sides y_cuts y_flat y_cp y_cA y_cB y_1X y_1Y y_2X y_2Y z_y_tm y_cells a_mtape a_flood a_going a_field a_from a_mcrowds a_steps a_queue a_letter a_lineX a_lineY z_a_triedAt a_cellAt a_besideIn a_apart a_drawer a_mkept a_listed a_mkin z_a_tried z_a_takenAt a_waysOf t.heap) (mA ad)) av s 0 0 (mA ad)) (F0 m 79 ls []) := by
        intro v5 n79
        induction n79 with
        | zero => intro H locs ls v6 y_tm a_tried hl hP hS h; cases h
        | succ n79 ih79 =>
          intro H locs ls v6 y_tm a_tried hl hP hS h
          replace h : mo_fill_B79 v1 v2 v3 v4 v5 a_drawer a_takenAt a_triedAt k41 (fl3 (mo_fill_B79 v1 v2 v3 v4 v5 a_drawer a_takenAt a_triedAt k41) n79) v6 y_tm a_tried = some (r, z_y_tm, z_a_tried, z_a_takenAt, z_a_triedAt) := h
          generalize fl3 (mo_fill_B79 v1 v2 v3 v4 v5 a_drawer a_takenAt a_triedAt k41) n79 = k79 at h ih79
          have hJ92 : ∀ (H : Heap) (locs : List Loc) (ls : Array Slot) (v6 : Int32) (y_tm : Int32) (a_tried : Nat → Int64) (t0 : Int32) (t1 : Int32), lv_has ls 18 [(0, .ref (ad 0)), (1, .int v1), (2, .int v2), (3, .int v3), (4, .int v4), (5, .int v5), (6, .int v6)] → mP D ct ad y_km y_tp y_goes y_kin y_qd y_sides y_cuts y_flat y_cp y_cA y_cB y_1X y_1Y y_2X y_2Y y_tm y_cells a_mtape a_flood a_going a_field a_from a_mcrowds a_steps a_queue a_letter a_lineX a_lineY a_triedAt a_cellAt a_besideIn a_apart a_drawer a_mkept a_listed a_mkin a_tried a_takenAt a_waysOf H → va_S (mA ad) s.heap H locs → mo_fill_J92 k41 k79 a_drawer v1 v2 v3 v4 v5 v6 y_tm a_tried a_takenAt a_triedAt t0 t1 = some (r, z_y_tm, z_a_tried, z_a_takenAt, z_a_triedAt) → W p l e (rmm 3 73) s m av below meth c H locs 0 0 (MQ below (va_Qi (fun z (_ : Unit) => z = r) (fun _ t => mP D ct ad y_km y_tp y_goes y_kin y_qd y_sides y_cuts y_flat y_cp y_cA y_cB y_1X y_1Y y_2X y_2Y z_y_tm y_cells a_mtape a_flood a_going a_field a_from a_mcrowds a_steps a_queue a_letter a_lineX a_lineY z_a_triedAt a_cellAt a_besideIn a_apart a_drawer a_mkept a_listed a_mkin z_a_tried z_a_takenAt a_waysOf t.heap) (mA ad)) av s 0 0 (mA ad)) (F0 m 92 ls [.int t1, .int t0]) := by
            intro H locs ls v6 y_tm a_tried t0 t1 hl hP hS h
            rw [mo_fill_J92] at h
            refine lv_icmp_ge hx hb dX12_fill_92 (tgt := 129) rfl (fun hc => ?_) (fun hc => ?_)
            · replace h := ifp h hc
              exact hJ129 _ _ _ v5 y_tm a_tried (lv_sub hl [0, 1, 2, 3, 4, 5] rfl) hP hS h
            · replace h := ifn h hc
              refine lv_aload_n hx hb dX12_fill_95 rfl (lv_at hl 0 rfl) ?_
              refine lv_aload_n hx hb dX12_fill_96 rfl (lv_at hl 0 rfl) ?_
              refine mg_MO_30 hx hb hw hown hK hP dX12_fill_97 ?_
              refine lv_iconst (v := 0) hx hb dX12_fill_100 ki_0 ?_
              refine lv_aload_n hx hb dX12_fill_101 rfl (lv_at hl 0 rfl) ?_
              refine mg_MO_33 hx hb hw hown hK hP dX12_fill_102 ?_
              refine lv_aload_n hx hb dX12_fill_105 rfl (lv_at hl 0 rfl) ?_
              refine mg_MO_0 hx hb hw hown hK hP dX12_fill_106 ?_
              refine lv_iload hx hb dX12_fill_109 (lv_at hl 5 rfl) ?_
              obtain ⟨hin, h⟩ := ck_s h
              refine md_drawer hx hb hK hP hin dX12_fill_111 ?_
              refine lv_iload hx hb dX12_fill_112 (lv_at hl 6 rfl) ?_
              obtain ⟨r_69, hr_70, h⟩ := bd1_s h
              refine sc_l hx hb hml hown hw hN (c_mo_turned l (a_drawer v5.toNatClampNeg) v6 r_69 hr_70) g_RX12_159 hd_X12_turned (rest := [.int y_tm, .int 0, .ref (ad 16), .ref (ad 0)]) hl.1 hS dX12_fill_114 rfl rfl ⟨Nat.le_of_ble_eq_true rfl, Nat.le_of_ble_eq_true rfl⟩ rfl rfl (Nat.le_of_ble_eq_true rfl) ⟨Nat.zero_le _, Nat.zero_le _⟩ (fun H locs hk hS => ?_)
              have hP := mP_kept hP hk
              obtain ⟨r_71, a_tried_72, hr_73, h⟩ := bd2_s h
              refine hs_i hx hb hml hown hw mB_bl (mB_of hN hK hP) (c_mo_comesIn_tried l D ct ad hI 0 y_tm r_69 r_71 a_tried_72 hr_73) g_RX12_232 hd_X12_comesIn (rest := [.ref (ad 0)]) hl.1 hS (fun q h => h) dX12_fill_117 rfl rfl ⟨Nat.le_of_ble_eq_true rfl, Nat.le_of_ble_eq_true rfl⟩ rfl rfl (Nat.le_of_ble_eq_true rfl) ⟨Nat.zero_le _, Nat.zero_le _⟩ (fun H locs hP _ hS => ?_)
              refine mp_MO_33 hx hb hw hown hK hP hI hS dX12_fill_120 (fun H locs hP hS => ?_)
              obtain ⟨v6_74, ev6_74, h⟩ := nm_s h
              refine lv_iinc hx hb dX12_fill_123 hl (k := 6) rfl ev6_74.symm (Nat.le_of_ble_eq_true rfl) (lv' := [(6, .int v6_74), (0, .ref (ad 0)), (1, .int v1), (2, .int v2), (3, .int v3), (4, .int v4), (5, .int v5)]) rfl (fun ls hl => ?_)
              refine lv_goto hx hb dX12_fill_126 (tgt := 79) rfl ?_
              exact ih79 _ _ _ v6_74 r_71 a_tried_72 (lv_sub hl [1, 2, 3, 4, 5, 6, 0] rfl) hP hS h
          rw [mo_fill_B79] at h
          refine lv_iload hx hb dX12_fill_79 (lv_at hl 6 rfl) ?_
          refine lv_iload hx hb dX12_fill_81 (lv_at hl 4 rfl) ?_
          refine lv_if_eq hx hb dX12_fill_83 (tgt := 91) rfl (fun hc => ?_) (fun hc => ?_)
          · replace h := ifp h hc
            refine lv_iconst (v := 1) hx hb dX12_fill_91 ki_1 ?_
            exact hJ92 _ _ _ v6 y_tm a_tried v6 1 (lv_sub hl [0, 1, 2, 3, 4, 5, 6] rfl) hP hS h
          · replace h := ifn h hc
            refine lv_bipush (v := 8) hx hb dX12_fill_86 kb_8 ?_
            refine lv_goto hx hb dX12_fill_88 (tgt := 92) rfl ?_
            exact hJ92 _ _ _ v6 y_tm a_tried v6 8 (lv_sub hl [0, 1, 2, 3, 4, 5, 6] rfl) hP hS h
      rw [mo_fill_B41] at h
      refine lv_iload hx hb dX12_fill_41 (lv_at hl 5 rfl) ?_
      refine lv_bipush (v := 8) hx hb dX12_fill_43 kb_8 ?_
      refine lv_icmp_ge hx hb dX12_fill_45 (tgt := 135) rfl (fun hc => ?_) (fun hc => ?_)
      · replace h := ifp h hc
        refine lv_lconst (v := 0) hx hb dX12_fill_135 kl_0 ?_
        refine lv_lstore hx hb dX12_fill_136 hl (Nat.le_of_ble_eq_true rfl) (lv' := [(5, .long 0), (0, .ref (ad 0)), (1, .int v1), (2, .int v2), (3, .int v3), (4, .int v4)]) rfl (fun ls hl => ?_)
        refine lv_iconst (v := 0) hx hb dX12_fill_138 ki_0 ?_
        refine lv_istore hx hb dX12_fill_139 hl (Nat.le_of_ble_eq_true rfl) (lv' := [(7, .int 0), (5, .long 0), (0, .ref (ad 0)), (1, .int v1), (2, .int v2), (3, .int v3), (4, .int v4)]) rfl (fun ls hl => ?_)
        exact hL141 v1 v2 y_tm a_drawer a_tried a_takenAt a_triedAt FU _ _ _ 0 0 (lv_sub hl [2, 3, 4, 1, 0] rfl) hP hS h
      · replace h := ifn h hc
        refine lv_iload_n hx hb dX12_fill_48 rfl (lv_at hl 3 rfl) ?_
        refine lv_i2l hx hb (v := v3.toInt64) dX12_fill_49 rfl ?_
        refine lv_iload hx hb dX12_fill_50 (lv_at hl 5 rfl) ?_
        obtain ⟨r_75, hr_76, h⟩ := bd1_s h
        refine sc_i hx hb hml hown hw hN (c_mo_has l (v3.toInt64) v5 r_75 hr_76) g_RX12_86 hd_X12_has (rest := []) hl.1 hS dX12_fill_52 rfl rfl ⟨Nat.le_of_ble_eq_true rfl, Nat.le_of_ble_eq_true rfl⟩ rfl rfl (Nat.le_of_ble_eq_true rfl) ⟨Nat.zero_le _, Nat.zero_le _⟩ (fun H locs hk hS => ?_)
        have hP := mP_kept hP hk
        refine lv_if_ne hx hb dX12_fill_55 (tgt := 61) rfl (fun hc => ?_) (fun hc => ?_)
        · replace h := ifn h hc
          refine lv_aload_n hx hb dX12_fill_61 rfl (lv_at hl 0 rfl) ?_
          refine mg_MO_0 hx hb hw hown hK hP dX12_fill_62 ?_
          refine lv_iload hx hb dX12_fill_65 (lv_at hl 5 rfl) ?_
          obtain ⟨hin, h⟩ := ck_s h
          refine md_drawer hx hb hK hP hin dX12_fill_67 ?_
          refine lv_lconst (v := 0) hx hb dX12_fill_68 kl_0 ?_
          refine W.lcmp hx hb dX12_fill_69 ?_
          refine lv_if_ne hx hb dX12_fill_70 (tgt := 76) rfl (fun hc => ?_) (fun hc => ?_)
          · replace h := ifn h (fun q => hc ((lg_cmp_eq _ _).mpr q))
            refine lv_iconst (v := 0) hx hb dX12_fill_76 ki_0 ?_
            refine lv_istore hx hb dX12_fill_77 hl (Nat.le_of_ble_eq_true rfl) (lv' := [(6, .int 0), (0, .ref (ad 0)), (1, .int v1), (2, .int v2), (3, .int v3), (4, .int v4), (5, .int v5)]) rfl (fun ls hl => ?_)
            exact hL79 v5 FU _ _ _ 0 y_tm a_tried (lv_sub hl [1, 2, 3, 4, 5, 6, 0] rfl) hP hS h
          · replace h := ifp h ((lg_cmp_eq _ _).mp hc)
            refine lv_bipush (v := (-2)) hx hb dX12_fill_73 kb_m2 ?_
            simp only [Option.some.injEq, Prod.mk.injEq] at h
            obtain ⟨rfl, rfl, rfl, rfl, rfl⟩ := h
            exact rc_i hx hb hr hlocks hS dX12_fill_75 rfl hP
        · replace h := ifp h hc
          refine lv_goto hx hb dX12_fill_58 (tgt := 129) rfl ?_
          exact hJ129 _ _ _ v5 y_tm a_tried (lv_sub hl [0, 1, 2, 3, 4, 5] rfl) hP hS h
  refine lv_iload_n hx hb dX12_fill_0 rfl (lv_at hl 1 rfl) ?_
  refine lv_iconst (v := 1) hx hb dX12_fill_1 ki_1 ?_
  refine lv_bipush (v := 6) hx hb dX12_fill_2 kb_6 ?_
  obtain ⟨r_77, hr_78, h⟩ := bd1_s h
  refine sc_i hx hb hml hown hw hN (c_mo_in l v1 1 6 r_77 hr_78) g_RX12_82 hd_X12_in (rest := []) hl.1 hS dX12_fill_4 rfl rfl ⟨Nat.le_of_ble_eq_true rfl, Nat.le_of_ble_eq_true rfl⟩ rfl rfl (Nat.le_of_ble_eq_true rfl) ⟨Nat.zero_le _, Nat.zero_le _⟩ (fun H locs hk hS => ?_)
  have hP := mP_kept hP hk
  refine lv_if_eq hx hb dX12_fill_7 (tgt := 31) rfl (fun hc => ?_) (fun hc => ?_)
  · replace h := ifp h hc
    refine lv_iconst (v := (-1)) hx hb dX12_fill_31 ki_m1 ?_
    simp only [Option.some.injEq, Prod.mk.injEq] at h
    obtain ⟨rfl, rfl, rfl, rfl, rfl⟩ := h
    exact rc_i hx hb hr hlocks hS dX12_fill_32 rfl hP
  · replace h := ifn h hc
    refine lv_iload_n hx hb dX12_fill_10 rfl (lv_at hl 2 rfl) ?_
    refine lv_iconst (v := 1) hx hb dX12_fill_11 ki_1 ?_
    refine lv_bipush (v := 6) hx hb dX12_fill_12 kb_6 ?_
    obtain ⟨r_79, hr_80, h⟩ := bd1_s h
    refine sc_i hx hb hml hown hw hN (c_mo_in l v2 1 6 r_79 hr_80) g_RX12_82 hd_X12_in (rest := []) hl.1 hS dX12_fill_14 rfl rfl ⟨Nat.le_of_ble_eq_true rfl, Nat.le_of_ble_eq_true rfl⟩ rfl rfl (Nat.le_of_ble_eq_true rfl) ⟨Nat.zero_le _, Nat.zero_le _⟩ (fun H locs hk hS => ?_)
    have hP := mP_kept hP hk
    refine lv_if_eq hx hb dX12_fill_17 (tgt := 31) rfl (fun hc => ?_) (fun hc => ?_)
    · replace h := ifp h hc
      refine lv_iconst (v := (-1)) hx hb dX12_fill_31 ki_m1 ?_
      simp only [Option.some.injEq, Prod.mk.injEq] at h
      obtain ⟨rfl, rfl, rfl, rfl, rfl⟩ := h
      exact rc_i hx hb hr hlocks hS dX12_fill_32 rfl hP
    · replace h := ifn h hc
      refine lv_iload_n hx hb dX12_fill_20 rfl (lv_at hl 3 rfl) ?_
      refine lv_iconst (v := 1) hx hb dX12_fill_21 ki_1 ?_
      refine lv_sipush (v := 255) hx hb dX12_fill_22 ks_255 ?_
      obtain ⟨r_81, hr_82, h⟩ := bd1_s h
      refine sc_i hx hb hml hown hw hN (c_mo_in l v3 1 255 r_81 hr_82) g_RX12_82 hd_X12_in (rest := []) hl.1 hS dX12_fill_25 rfl rfl ⟨Nat.le_of_ble_eq_true rfl, Nat.le_of_ble_eq_true rfl⟩ rfl rfl (Nat.le_of_ble_eq_true rfl) ⟨Nat.zero_le _, Nat.zero_le _⟩ (fun H locs hk hS => ?_)
      have hP := mP_kept hP hk
      refine lv_if_ne hx hb dX12_fill_28 (tgt := 33) rfl (fun hc => ?_) (fun hc => ?_)
      · replace h := ifn h hc
        refine lv_aload_n hx hb dX12_fill_33 rfl (lv_at hl 0 rfl) ?_
        refine lv_iconst (v := 0) hx hb dX12_fill_34 ki_0 ?_
        refine mp_MO_33 hx hb hw hown hK hP hI hS dX12_fill_35 (fun H locs hP hS => ?_)
        refine lv_iconst (v := 0) hx hb dX12_fill_38 ki_0 ?_
        refine lv_istore hx hb dX12_fill_39 hl (Nat.le_of_ble_eq_true rfl) (lv' := [(5, .int 0), (0, .ref (ad 0)), (1, .int v1), (2, .int v2), (3, .int v3), (4, .int v4)]) rfl (fun ls hl => ?_)
        exact hL41 v1 v2 v3 v4 a_drawer a_takenAt a_triedAt FU _ _ _ 0 0 a_tried (lv_sub hl [1, 2, 3, 4, 5, 0] rfl) hP hS h
      · replace h := ifp h hc
        refine lv_iconst (v := (-1)) hx hb dX12_fill_31 ki_m1 ?_
        simp only [Option.some.injEq, Prod.mk.injEq] at h
        obtain ⟨rfl, rfl, rfl, rfl, rfl⟩ := h
        exact rc_i hx hb hr hlocks hS dX12_fill_32 rfl hP
noncomputable def mo_laysCells_J172 (k52 : Int32 → (Nat → Int32) → Option (Int32 × (Nat → Int32) × (Nat → Int32))) (k70 : Int32 → (Nat → Int32) → Option (Int32 × (Nat → Int32) × (Nat → Int32))) (v3 : Int32) (v4 : Int32) (y_cells : Int32) (a_cellAt : Nat → Int32) (a_besideIn : Nat → Int32)  : Option (Int32 × (Nat → Int32) × (Nat → Int32)) :=
  nm (v4 + Int32.ofInt 1) fun v4_1 =>
  k70 v4_1 a_besideIn
noncomputable def mo_laysCells_J155 (k52 : Int32 → (Nat → Int32) → Option (Int32 × (Nat → Int32) × (Nat → Int32))) (k70 : Int32 → (Nat → Int32) → Option (Int32 × (Nat → Int32) × (Nat → Int32))) (v3 : Int32) (v4 : Int32) (y_cells : Int32) (a_cellAt : Nat → Int32) (a_besideIn : Nat → Int32)  : Option (Int32 × (Nat → Int32) × (Nat → Int32)) :=
  ck v3 12 <|
  nm ((a_besideIn v3.toNatClampNeg) ||| (il 1 v4) : Int32) fun w_2 =>
  ck v3 12 <|
  nm (upd a_besideIn v3.toNatClampNeg w_2) fun a_besideIn_3 =>
  mo_laysCells_J172 k52 k70 v3 v4 y_cells a_cellAt a_besideIn_3
noncomputable def mo_laysCells_J122 (k52 : Int32 → (Nat → Int32) → Option (Int32 × (Nat → Int32) × (Nat → Int32))) (k70 : Int32 → (Nat → Int32) → Option (Int32 × (Nat → Int32) × (Nat → Int32))) (v3 : Int32) (v4 : Int32) (v5 : Int32) (y_cells : Int32) (a_cellAt : Nat → Int32) (a_besideIn : Nat → Int32) (t0 : Int32) : Option (Int32 × (Nat → Int32) × (Nat → Int32)) :=
  if v5 = 8 then (mo_laysCells_J155 k52 k70 v3 v4 y_cells a_cellAt a_besideIn) else
  if v5 = (-8) then (mo_laysCells_J155 k52 k70 v3 v4 y_cells a_cellAt a_besideIn) else
  if t0 = 0 then (mo_laysCells_J172 k52 k70 v3 v4 y_cells a_cellAt a_besideIn) else
  if v5 = 1 then (mo_laysCells_J155 k52 k70 v3 v4 y_cells a_cellAt a_besideIn) else
  if v5 = (-1) then (mo_laysCells_J155 k52 k70 v3 v4 y_cells a_cellAt a_besideIn) else
  mo_laysCells_J172 k52 k70 v3 v4 y_cells a_cellAt a_besideIn
noncomputable def mo_laysCells_B70 (v3 : Int32) (y_cells : Int32) (a_cellAt : Nat → Int32) (k52 : Int32 → (Nat → Int32) → Option (Int32 × (Nat → Int32) × (Nat → Int32))) (k70 : Int32 → (Nat → Int32) → Option (Int32 × (Nat → Int32) × (Nat → Int32))) (v4 : Int32) (a_besideIn : Nat → Int32) : Option (Int32 × (Nat → Int32) × (Nat → Int32)) :=
  if y_cells ≤ v4 then (nm (v3 + Int32.ofInt 1) fun v3_4 =>
  k52 v3_4 a_besideIn) else
  ck v3 12 <|
  ck v4 12 <|
  nm ((a_cellAt v3.toNatClampNeg) - (a_cellAt v4.toNatClampNeg) : Int32) fun v5_5 =>
  ck v3 12 <|
  dzI 8 <|
  ck v4 12 <|
  dzI 8 <|
  if ((a_cellAt v3.toNatClampNeg) / 8) = ((a_cellAt v4.toNatClampNeg) / 8) then (mo_laysCells_J122 k52 k70 v3 v4 v5_5 y_cells a_cellAt a_besideIn 1) else
  mo_laysCells_J122 k52 k70 v3 v4 v5_5 y_cells a_cellAt a_besideIn 0
noncomputable def mo_laysCells_B52 (y_cells : Int32) (a_cellAt : Nat → Int32)  (k52 : Int32 → (Nat → Int32) → Option (Int32 × (Nat → Int32) × (Nat → Int32))) (v3 : Int32) (a_besideIn : Nat → Int32) : Option (Int32 × (Nat → Int32) × (Nat → Int32)) :=
  if y_cells ≤ v3 then (some (y_cells, a_cellAt, a_besideIn)) else
  ck v3 12 <|
  nm (upd a_besideIn v3.toNatClampNeg 0) fun a_besideIn_6 =>
  fl2 (mo_laysCells_B70 v3 y_cells a_cellAt k52) FU 0 a_besideIn_6
noncomputable def mo_laysCells_J44 (k7 : Int32 → Int32 → (Nat → Int32) → Option (Int32 × (Nat → Int32) × (Nat → Int32))) (v1 : Int64) (v3 : Int32) (y_cells : Int32) (a_cellAt : Nat → Int32) (a_besideIn : Nat → Int32)  : Option (Int32 × (Nat → Int32) × (Nat → Int32)) :=
  nm (v3 + Int32.ofInt 1) fun v3_7 =>
  k7 v3_7 y_cells a_cellAt
noncomputable def mo_laysCells_B7 (v1 : Int64) (a_besideIn : Nat → Int32)  (k7 : Int32 → Int32 → (Nat → Int32) → Option (Int32 × (Nat → Int32) × (Nat → Int32))) (v3 : Int32) (y_cells : Int32) (a_cellAt : Nat → Int32) : Option (Int32 × (Nat → Int32) × (Nat → Int32)) :=
  if 64 ≤ v3 then (fl2 (mo_laysCells_B52 y_cells a_cellAt) FU 0 a_besideIn) else
  bd1 (mo_has v1 v3) fun r_8 =>
  if r_8 = 0 then (mo_laysCells_J44 k7 v1 v3 y_cells a_cellAt a_besideIn) else
  ck y_cells 12 <|
  nm (upd a_cellAt y_cells.toNatClampNeg v3) fun a_cellAt_10 =>
  nm (y_cells + 1 : Int32) fun y_cells_11 =>
  mo_laysCells_J44 k7 v1 v3 y_cells_11 a_cellAt_10 a_besideIn
noncomputable def mo_laysCells (v1 : Int64) (y_cells : Int32) (a_cellAt : Nat → Int32) (a_besideIn : Nat → Int32) : Option (Int32 × (Nat → Int32) × (Nat → Int32)) :=
  fl3 (mo_laysCells_B7 v1 a_besideIn) FU 0 0 a_cellAt
set_option maxHeartbeats 4000000 in
set_option maxRecDepth 100000 in
theorem c_mo_laysCells (l : Launch) (D : va_G) (ct : Nat → ClassId) (ad : Nat → Nat) (hI : mI ad) {y_km y_tp y_goes y_kin y_qd y_sides y_cuts y_flat y_cp y_cA y_cB y_1X y_1Y y_2X y_2Y y_tm y_cells : Int32} {a_mtape a_flood a_going a_field a_from a_mcrowds a_steps a_queue a_letter a_lineX a_lineY a_triedAt a_cellAt a_besideIn a_apart : Nat → Int32} {a_drawer a_mkept a_listed a_mkin a_tried a_takenAt a_waysOf : Nat → Int64} (v1 : Int64)  (z_y_cells : Int32) (z_a_cellAt : Nat → Int32) (z_a_besideIn : Nat → Int32) (h : mo_laysCells v1 y_cells a_cellAt a_besideIn = some (z_y_cells, z_a_cellAt, z_a_besideIn)) : Met l yX12_laysCells (wm yX12_laysCells cX12_laysCells 7 none) (rmm 1 22) (va_Pc [.ref (ad 0), .long v1] (mB D ct ad y_km y_tp y_goes y_kin y_qd y_sides y_cuts y_flat y_cp y_cA y_cB y_1X y_1Y y_2X y_2Y y_tm y_cells a_mtape a_flood a_going a_field a_from a_mcrowds a_steps a_queue a_letter a_lineX a_lineY a_triedAt a_cellAt a_besideIn a_apart a_drawer a_mkept a_listed a_mkin a_tried a_takenAt a_waysOf)) (va_Qv (fun (_ : Unit) => True) (fun _ t => mP D ct ad y_km y_tp y_goes y_kin y_qd y_sides y_cuts y_flat y_cp y_cA y_cB y_1X y_1Y y_2X y_2Y y_tm z_y_cells a_mtape a_flood a_going a_field a_from a_mcrowds a_steps a_queue a_letter a_lineX a_lineY a_triedAt z_a_cellAt z_a_besideIn a_apart a_drawer a_mkept a_listed a_mkin a_tried a_takenAt a_waysOf t.heap) (mA ad)) 0 0 (mA ad) := by
  refine met_s (y := yX12_laysCells) (rm := rmm 1 22) (by decide) (Nat.le_of_ble_eq_true rfl) ?_
  intro p e s m below meth c hx hb hr hw hown hlocks _ hml hB ls hl
  obtain ⟨hN, hK, hP⟩ := hB
  replace hl : lv_has ls 7 [(0, .ref (ad 0)), (1, .long v1)] := hl
  have hS : va_S (mA ad) s.heap s.heap [] := va_S.rf
  generalize (([.ref (ad 0), .long v1] : List Value).toArray) = av at hw ⊢
  rw [mo_laysCells] at h
  have hL52 : ∀ (y_cells : Int32), ∀ (a_cellAt : Nat → Int32), ∀ (n52 : Nat) (H : Heap) (locs : List Loc) (ls : Array Slot) (v3 : Int32) (a_besideIn : Nat → Int32), lv_has ls 7 [(0, .ref (ad 0)), (3, .int v3)] → mP D ct ad y_km y_tp y_goes y_kin y_qd y_sides y_cuts y_flat y_cp y_cA y_cB y_1X y_1Y y_2X y_2Y y_tm y_cells a_mtape a_flood a_going a_field a_from a_mcrowds a_steps a_queue a_letter a_lineX a_lineY a_triedAt a_cellAt a_besideIn a_apart a_drawer a_mkept a_listed a_mkin a_tried a_takenAt a_waysOf H → va_S (mA ad) s.heap H locs → fl2 (mo_laysCells_B52 y_cells a_cellAt) n52 v3 a_besideIn = some (z_y_cells, z_a_cellAt, z_a_besideIn) → W p l e (rmm 1 22) s m av below meth c H locs 0 0 (MQ below (va_Qv (fun (_ : Unit) => True) (fun _ t => mP D ct ad y_km y_tp y_goes y_kin y_qd y_sides y_cuts y_flat y_cp y_cA y_cB y_1X y_1Y y_2X y_2Y y_tm z_y_cells a_mtape a_flood a_going a_field a_from a_mcrowds a_steps a_queue a_letter a_lineX a_lineY a_triedAt z_a_cellAt z_a_besideIn a_apart a_drawer a_mkept a_listed a_mkin a_tried a_takenAt a_waysOf t.heap) (mA ad)) av s 0 0 (mA ad)) (F0 m 52 ls []) := by
    intro y_cells a_cellAt n52
    induction n52 with
    | zero => intro H locs ls v3 a_besideIn hl hP hS h; cases h
    | succ n52 ih52 =>
      intro H locs ls v3 a_besideIn hl hP hS h
      replace h : mo_laysCells_B52 y_cells a_cellAt (fl2 (mo_laysCells_B52 y_cells a_cellAt) n52) v3 a_besideIn = some (z_y_cells, z_a_cellAt, z_a_besideIn) := h
      generalize fl2 (mo_laysCells_B52 y_cells a_cellAt) n52 = k52 at h ih52
      have hL70 : ∀ (v3 : Int32), ∀ (n70 : Nat) (H : Heap) (locs : List Loc) (ls : Array Slot) (v4 : Int32) (a_besideIn : Nat → Int32), lv_has ls 7 [(0, .ref (ad 0)), (3, .int v3), (4, .int v4)] → mP D ct ad y_km y_tp y_goes y_kin y_qd y_sides y_cuts y_flat y_cp y_cA y_cB y_1X y_1Y y_2X y_2Y y_tm y_cells a_mtape a_flood a_going a_field a_from a_mcrowds a_steps a_queue a_letter a_lineX a_lineY a_triedAt a_cellAt a_besideIn a_apart a_drawer a_mkept a_listed a_mkin a_tried a_takenAt a_waysOf H → va_S (mA ad) s.heap H locs → fl2 (mo_laysCells_B70 v3 y_cells a_cellAt k52) n70 v4 a_besideIn = some (z_y_cells, z_a_cellAt, z_a_besideIn) → W p l e (rmm 1 22) s m av below meth c H locs 0 0 (MQ below (va_Qv (fun (_ : Unit) => True) (fun _ t => mP D ct ad y_km y_tp y_goes y_kin y_qd y_sides y_cuts y_flat y_cp y_cA y_cB y_1X y_1Y y_2X y_2Y y_tm z_y_cells a_mtape a_flood a_going a_field a_from a_mcrowds a_steps a_queue a_letter a_lineX a_lineY a_triedAt z_a_cellAt z_a_besideIn a_apart a_drawer a_mkept a_listed a_mkin a_tried a_takenAt a_waysOf t.heap) (mA ad)) av s 0 0 (mA ad)) (F0 m 70 ls []) := by
        intro v3 n70
        induction n70 with
        | zero => intro H locs ls v4 a_besideIn hl hP hS h; cases h
        | succ n70 ih70 =>
          intro H locs ls v4 a_besideIn hl hP hS h
          replace h : mo_laysCells_B70 v3 y_cells a_cellAt k52 (fl2 (mo_laysCells_B70 v3 y_cells a_cellAt k52) n70) v4 a_besideIn = some (z_y_cells, z_a_cellAt, z_a_besideIn) := h
          generalize fl2 (mo_laysCells_B70 v3 y_cells a_cellAt k52) n70 = k70 at h ih70
          have hJ172 : ∀ (H : Heap) (locs : List Loc) (ls : Array Slot) (v4 : Int32) (a_besideIn : Nat → Int32) , lv_has ls 7 [(0, .ref (ad 0)), (3, .int v3), (4, .int v4)] → mP D ct ad y_km y_tp y_goes y_kin y_qd y_sides y_cuts y_flat y_cp y_cA y_cB y_1X y_1Y y_2X y_2Y y_tm y_cells a_mtape a_flood a_going a_field a_from a_mcrowds a_steps a_queue a_letter a_lineX a_lineY a_triedAt a_cellAt a_besideIn a_apart a_drawer a_mkept a_listed a_mkin a_tried a_takenAt a_waysOf H → va_S (mA ad) s.heap H locs → mo_laysCells_J172 k52 k70 v3 v4 y_cells a_cellAt a_besideIn = some (z_y_cells, z_a_cellAt, z_a_besideIn) → W p l e (rmm 1 22) s m av below meth c H locs 0 0 (MQ below (va_Qv (fun (_ : Unit) => True) (fun _ t => mP D ct ad y_km y_tp y_goes y_kin y_qd y_sides y_cuts y_flat y_cp y_cA y_cB y_1X y_1Y y_2X y_2Y y_tm z_y_cells a_mtape a_flood a_going a_field a_from a_mcrowds a_steps a_queue a_letter a_lineX a_lineY a_triedAt z_a_cellAt z_a_besideIn a_apart a_drawer a_mkept a_listed a_mkin a_tried a_takenAt a_waysOf t.heap) (mA ad)) av s 0 0 (mA ad)) (F0 m 172 ls []) := by
            intro H locs ls v4 a_besideIn  hl hP hS h
            rw [mo_laysCells_J172] at h
            obtain ⟨v4_12, ev4_12, h⟩ := nm_s h
            refine lv_iinc hx hb dX12_laysCells_172 hl (k := 2) rfl ev4_12.symm (Nat.le_of_ble_eq_true rfl) (lv' := [(4, .int v4_12), (0, .ref (ad 0)), (3, .int v3)]) rfl (fun ls hl => ?_)
            refine lv_goto hx hb dX12_laysCells_175 (tgt := 70) rfl ?_
            exact ih70 _ _ _ v4_12 a_besideIn (lv_sub hl [1, 2, 0] rfl) hP hS h
          have hJ155 : ∀ (H : Heap) (locs : List Loc) (ls : Array Slot) (v4 : Int32) (a_besideIn : Nat → Int32) , lv_has ls 7 [(0, .ref (ad 0)), (3, .int v3), (4, .int v4)] → mP D ct ad y_km y_tp y_goes y_kin y_qd y_sides y_cuts y_flat y_cp y_cA y_cB y_1X y_1Y y_2X y_2Y y_tm y_cells a_mtape a_flood a_going a_field a_from a_mcrowds a_steps a_queue a_letter a_lineX a_lineY a_triedAt a_cellAt a_besideIn a_apart a_drawer a_mkept a_listed a_mkin a_tried a_takenAt a_waysOf H → va_S (mA ad) s.heap H locs → mo_laysCells_J155 k52 k70 v3 v4 y_cells a_cellAt a_besideIn = some (z_y_cells, z_a_cellAt, z_a_besideIn) → W p l e (rmm 1 22) s m av below meth c H locs 0 0 (MQ below (va_Qv (fun (_ : Unit) => True) (fun _ t => mP D ct ad y_km y_tp y_goes y_kin y_qd y_sides y_cuts y_flat y_cp y_cA y_cB y_1X y_1Y y_2X y_2Y y_tm z_y_cells a_mtape a_flood a_going a_field a_from a_mcrowds a_steps a_queue a_letter a_lineX a_lineY a_triedAt z_a_cellAt z_a_besideIn a_apart a_drawer a_mkept a_listed a_mkin a_tried a_takenAt a_waysOf t.heap) (mA ad)) av s 0 0 (mA ad)) (F0 m 155 ls []) := by
            intro H locs ls v4 a_besideIn  hl hP hS h
            rw [mo_laysCells_J155] at h
            refine lv_aload_n hx hb dX12_laysCells_155 rfl (lv_at hl 0 rfl) ?_
            refine mg_MO_35 hx hb hw hown hK hP dX12_laysCells_156 ?_
            refine lv_iload_n hx hb dX12_laysCells_159 rfl (lv_at hl 1 rfl) ?_
            refine lv_aload_n hx hb dX12_laysCells_160 rfl (lv_at hl 0 rfl) ?_
            refine mg_MO_35 hx hb hw hown hK hP dX12_laysCells_161 ?_
            refine lv_iload_n hx hb dX12_laysCells_164 rfl (lv_at hl 1 rfl) ?_
            obtain ⟨hin, h⟩ := ck_s h
            refine md_besideIn hx hb hK hP hin dX12_laysCells_165 ?_
            refine lv_iconst (v := 1) hx hb dX12_laysCells_166 ki_1 ?_
            refine lv_iload hx hb dX12_laysCells_167 (lv_at hl 2 rfl) ?_
            refine lv_ishl hx hb dX12_laysCells_169 ?_
            refine nmI (v := il 1 v4) rfl ?_
            refine lv_ior hx hb dX12_laysCells_170 ?_
            obtain ⟨w_13, ew_13, h⟩ := nm_s h
            refine nmI ew_13 ?_
            obtain ⟨hin, h⟩ := ck_s h
            obtain ⟨a_besideIn_14, ea_besideIn_14, h⟩ := nm_s h
            refine ms_besideIn hx hb hK hP hI hS hin ea_besideIn_14 dX12_laysCells_171 (fun H locs hP hS => ?_)
            exact hJ172 _ _ _ v4 a_besideIn_14 (lv_sub hl [0, 1, 2] rfl) hP hS h
          have hJ122 : ∀ (H : Heap) (locs : List Loc) (ls : Array Slot) (v4 : Int32) (v5 : Int32) (a_besideIn : Nat → Int32) (t0 : Int32), lv_has ls 7 [(0, .ref (ad 0)), (3, .int v3), (4, .int v4), (5, .int v5)] → mP D ct ad y_km y_tp y_goes y_kin y_qd y_sides y_cuts y_flat y_cp y_cA y_cB y_1X y_1Y y_2X y_2Y y_tm y_cells a_mtape a_flood a_going a_field a_from a_mcrowds a_steps a_queue a_letter a_lineX a_lineY a_triedAt a_cellAt a_besideIn a_apart a_drawer a_mkept a_listed a_mkin a_tried a_takenAt a_waysOf H → va_S (mA ad) s.heap H locs → mo_laysCells_J122 k52 k70 v3 v4 v5 y_cells a_cellAt a_besideIn t0 = some (z_y_cells, z_a_cellAt, z_a_besideIn) → W p l e (rmm 1 22) s m av below meth c H locs 0 0 (MQ below (va_Qv (fun (_ : Unit) => True) (fun _ t => mP D ct ad y_km y_tp y_goes y_kin y_qd y_sides y_cuts y_flat y_cp y_cA y_cB y_1X y_1Y y_2X y_2Y y_tm z_y_cells a_mtape a_flood a_going a_field a_from a_mcrowds a_steps a_queue a_letter a_lineX a_lineY a_triedAt z_a_cellAt z_a_besideIn a_apart a_drawer a_mkept a_listed a_mkin a_tried a_takenAt a_waysOf t.heap) (mA ad)) av s 0 0 (mA ad)) (F0 m 122 ls [.int t0]) := by
            intro H locs ls v4 v5 a_besideIn t0 hl hP hS h
            rw [mo_laysCells_J122] at h
            refine lv_istore hx hb dX12_laysCells_122 hl (Nat.le_of_ble_eq_true rfl) (lv' := [(6, .int t0), (0, .ref (ad 0)), (3, .int v3), (4, .int v4), (5, .int v5)]) rfl (fun ls hl => ?_)
            refine lv_iload hx hb dX12_laysCells_124 (lv_at hl 4 rfl) ?_
            refine lv_bipush (v := 8) hx hb dX12_laysCells_126 kb_8 ?_
            refine lv_icmp_eq hx hb dX12_laysCells_128 (tgt := 155) rfl (fun hc => ?_) (fun hc => ?_)
            · replace h := ifp h hc
              exact hJ155 _ _ _ v4 a_besideIn (lv_sub hl [1, 2, 3] rfl) hP hS h
            · replace h := ifn h hc
              refine lv_iload hx hb dX12_laysCells_131 (lv_at hl 4 rfl) ?_
              refine lv_bipush (v := (-8)) hx hb dX12_laysCells_133 kb_m8 ?_
              refine lv_icmp_eq hx hb dX12_laysCells_135 (tgt := 155) rfl (fun hc => ?_) (fun hc => ?_)
              · replace h := ifp h hc
                exact hJ155 _ _ _ v4 a_besideIn (lv_sub hl [1, 2, 3] rfl) hP hS h
              · replace h := ifn h hc
                refine lv_iload hx hb dX12_laysCells_138 (lv_at hl 0 rfl) ?_
                refine lv_if_eq hx hb dX12_laysCells_140 (tgt := 172) rfl (fun hc => ?_) (fun hc => ?_)
                · replace h := ifp h hc
                  exact hJ172 _ _ _ v4 a_besideIn (lv_sub hl [1, 2, 3] rfl) hP hS h
                · replace h := ifn h hc
                  refine lv_iload hx hb dX12_laysCells_143 (lv_at hl 4 rfl) ?_
                  refine lv_iconst (v := 1) hx hb dX12_laysCells_145 ki_1 ?_
                  refine lv_icmp_eq hx hb dX12_laysCells_146 (tgt := 155) rfl (fun hc => ?_) (fun hc => ?_)
                  · replace h := ifp h hc
                    exact hJ155 _ _ _ v4 a_besideIn (lv_sub hl [1, 2, 3] rfl) hP hS h
                  · replace h := ifn h hc
                    refine lv_iload hx hb dX12_laysCells_149 (lv_at hl 4 rfl) ?_
                    refine lv_iconst (v := (-1)) hx hb dX12_laysCells_151 ki_m1 ?_
                    refine lv_icmp_ne hx hb dX12_laysCells_152 (tgt := 172) rfl (fun hc => ?_) (fun hc => ?_)
                    · replace h := ifn h hc
                      exact hJ172 _ _ _ v4 a_besideIn (lv_sub hl [1, 2, 3] rfl) hP hS h
                    · replace h := ifp h hc
                      exact hJ155 _ _ _ v4 a_besideIn (lv_sub hl [1, 2, 3] rfl) hP hS h
          rw [mo_laysCells_B70] at h
          refine lv_iload hx hb dX12_laysCells_70 (lv_at hl 2 rfl) ?_
          refine lv_aload_n hx hb dX12_laysCells_72 rfl (lv_at hl 0 rfl) ?_
          refine mg_MO_38 hx hb hw hown hK hP dX12_laysCells_73 ?_
          refine lv_icmp_ge hx hb dX12_laysCells_76 (tgt := 178) rfl (fun hc => ?_) (fun hc => ?_)
          · replace h := ifp h hc
            obtain ⟨v3_15, ev3_15, h⟩ := nm_s h
            refine lv_iinc hx hb dX12_laysCells_178 hl (k := 1) rfl ev3_15.symm (Nat.le_of_ble_eq_true rfl) (lv' := [(3, .int v3_15), (0, .ref (ad 0)), (4, .int v4)]) rfl (fun ls hl => ?_)
            refine lv_goto hx hb dX12_laysCells_181 (tgt := 52) rfl ?_
            exact ih52 _ _ _ v3_15 a_besideIn (lv_sub hl [1, 0] rfl) hP hS h
          · replace h := ifn h hc
            refine lv_aload_n hx hb dX12_laysCells_79 rfl (lv_at hl 0 rfl) ?_
            refine mg_MO_34 hx hb hw hown hK hP dX12_laysCells_80 ?_
            refine lv_iload_n hx hb dX12_laysCells_83 rfl (lv_at hl 1 rfl) ?_
            obtain ⟨hin, h⟩ := ck_s h
            refine md_cellAt hx hb hK hP hin dX12_laysCells_84 ?_
            refine lv_aload_n hx hb dX12_laysCells_85 rfl (lv_at hl 0 rfl) ?_
            refine mg_MO_34 hx hb hw hown hK hP dX12_laysCells_86 ?_
            refine lv_iload hx hb dX12_laysCells_89 (lv_at hl 2 rfl) ?_
            obtain ⟨hin, h⟩ := ck_s h
            refine md_cellAt hx hb hK hP hin dX12_laysCells_91 ?_
            refine lv_isub hx hb dX12_laysCells_92 ?_
            obtain ⟨v5_16, ev5_16, h⟩ := nm_s h
            refine nmI ev5_16 ?_
            refine lv_istore hx hb dX12_laysCells_93 hl (Nat.le_of_ble_eq_true rfl) (lv' := [(5, .int v5_16), (0, .ref (ad 0)), (3, .int v3), (4, .int v4)]) rfl (fun ls hl => ?_)
            refine lv_aload_n hx hb dX12_laysCells_95 rfl (lv_at hl 1 rfl) ?_
            refine mg_MO_34 hx hb hw hown hK hP dX12_laysCells_96 ?_
            refine lv_iload_n hx hb dX12_laysCells_99 rfl (lv_at hl 2 rfl) ?_
            obtain ⟨hin, h⟩ := ck_s h
            refine md_cellAt hx hb hK hP hin dX12_laysCells_100 ?_
            refine lv_bipush (v := 8) hx hb dX12_laysCells_101 kb_8 ?_
            obtain ⟨hne, h⟩ := dzI_s h
            refine lv_idiv hx hb dX12_laysCells_103 hne ?_
            refine lv_aload_n hx hb dX12_laysCells_104 rfl (lv_at hl 1 rfl) ?_
            refine mg_MO_34 hx hb hw hown hK hP dX12_laysCells_105 ?_
            refine lv_iload hx hb dX12_laysCells_108 (lv_at hl 3 rfl) ?_
            obtain ⟨hin, h⟩ := ck_s h
            refine md_cellAt hx hb hK hP hin dX12_laysCells_110 ?_
            refine lv_bipush (v := 8) hx hb dX12_laysCells_111 kb_8 ?_
            obtain ⟨hne, h⟩ := dzI_s h
            refine lv_idiv hx hb dX12_laysCells_113 hne ?_
            refine lv_icmp_ne hx hb dX12_laysCells_114 (tgt := 121) rfl (fun hc => ?_) (fun hc => ?_)
            · replace h := ifn h hc
              refine lv_iconst (v := 0) hx hb dX12_laysCells_121 ki_0 ?_
              exact hJ122 _ _ _ v4 v5_16 a_besideIn 0 (lv_sub hl [1, 2, 3, 0] rfl) hP hS h
            · replace h := ifp h hc
              refine lv_iconst (v := 1) hx hb dX12_laysCells_117 ki_1 ?_
              refine lv_goto hx hb dX12_laysCells_118 (tgt := 122) rfl ?_
              exact hJ122 _ _ _ v4 v5_16 a_besideIn 1 (lv_sub hl [1, 2, 3, 0] rfl) hP hS h
      rw [mo_laysCells_B52] at h
      refine lv_iload_n hx hb dX12_laysCells_52 rfl (lv_at hl 1 rfl) ?_
      refine lv_aload_n hx hb dX12_laysCells_53 rfl (lv_at hl 0 rfl) ?_
      refine mg_MO_38 hx hb hw hown hK hP dX12_laysCells_54 ?_
      refine lv_icmp_ge hx hb dX12_laysCells_57 (tgt := 184) rfl (fun hc => ?_) (fun hc => ?_)
      · replace h := ifp h hc
        simp only [Option.some.injEq, Prod.mk.injEq] at h
        obtain ⟨rfl, rfl, rfl⟩ := h
        exact rc_v hx hb hr hlocks hS dX12_laysCells_184 hP
      · replace h := ifn h hc
        refine lv_aload_n hx hb dX12_laysCells_60 rfl (lv_at hl 0 rfl) ?_
        refine mg_MO_35 hx hb hw hown hK hP dX12_laysCells_61 ?_
        refine lv_iload_n hx hb dX12_laysCells_64 rfl (lv_at hl 1 rfl) ?_
        refine lv_iconst (v := 0) hx hb dX12_laysCells_65 ki_0 ?_
        obtain ⟨hin, h⟩ := ck_s h
        obtain ⟨a_besideIn_17, ea_besideIn_17, h⟩ := nm_s h
        refine ms_besideIn hx hb hK hP hI hS hin ea_besideIn_17 dX12_laysCells_66 (fun H locs hP hS => ?_)
        refine lv_iconst (v := 0) hx hb dX12_laysCells_67 ki_0 ?_
        refine lv_istore hx hb dX12_laysCells_68 hl (Nat.le_of_ble_eq_true rfl) (lv' := [(4, .int 0), (0, .ref (ad 0)), (3, .int v3)]) rfl (fun ls hl => ?_)
        exact hL70 v3 FU _ _ _ 0 a_besideIn_17 (lv_sub hl [1, 2, 0] rfl) hP hS h
  have hL7 : ∀ (v1 : Int64), ∀ (a_besideIn : Nat → Int32), ∀ (n7 : Nat) (H : Heap) (locs : List Loc) (ls : Array Slot) (v3 : Int32) (y_cells : Int32) (a_cellAt : Nat → Int32), lv_has ls 7 [(0, .ref (ad 0)), (1, .long v1), (3, .int v3)] → mP D ct ad y_km y_tp y_goes y_kin y_qd y_sides y_cuts y_flat y_cp y_cA y_cB y_1X y_1Y y_2X y_2Y y_tm y_cells a_mtape a_flood a_going a_field a_from a_mcrowds a_steps a_queue a_letter a_lineX a_lineY a_triedAt a_cellAt a_besideIn a_apart a_drawer a_mkept a_listed a_mkin a_tried a_takenAt a_waysOf H → va_S (mA ad) s.heap H locs → fl3 (mo_laysCells_B7 v1 a_besideIn) n7 v3 y_cells a_cellAt = some (z_y_cells, z_a_cellAt, z_a_besideIn) → W p l e (rmm 1 22) s m av below meth c H locs 0 0 (MQ below (va_Qv (fun (_ : Unit) => True) (fun _ t => mP D ct ad y_km y_tp y_goes y_kin y_qd y_sides y_cuts y_flat y_cp y_cA y_cB y_1X y_1Y y_2X y_2Y y_tm z_y_cells a_mtape a_flood a_going a_field a_from a_mcrowds a_steps a_queue a_letter a_lineX a_lineY a_triedAt z_a_cellAt z_a_besideIn a_apart a_drawer a_mkept a_listed a_mkin a_tried a_takenAt a_waysOf t.heap) (mA ad)) av s 0 0 (mA ad)) (F0 m 7 ls []) := by
    intro v1 a_besideIn n7
    induction n7 with
    | zero => intro H locs ls v3 y_cells a_cellAt hl hP hS h; cases h
    | succ n7 ih7 =>
      intro H locs ls v3 y_cells a_cellAt hl hP hS h
      replace h : mo_laysCells_B7 v1 a_besideIn (fl3 (mo_laysCells_B7 v1 a_besideIn) n7) v3 y_cells a_cellAt = some (z_y_cells, z_a_cellAt, z_a_besideIn) := h
      generalize fl3 (mo_laysCells_B7 v1 a_besideIn) n7 = k7 at h ih7
      have hJ44 : ∀ (H : Heap) (locs : List Loc) (ls : Array Slot) (v3 : Int32) (y_cells : Int32) (a_cellAt : Nat → Int32) , lv_has ls 7 [(0, .ref (ad 0)), (1, .long v1), (3, .int v3)] → mP D ct ad y_km y_tp y_goes y_kin y_qd y_sides y_cuts y_flat y_cp y_cA y_cB y_1X y_1Y y_2X y_2Y y_tm y_cells a_mtape a_flood a_going a_field a_from a_mcrowds a_steps a_queue a_letter a_lineX a_lineY a_triedAt a_cellAt a_besideIn a_apart a_drawer a_mkept a_listed a_mkin a_tried a_takenAt a_waysOf H → va_S (mA ad) s.heap H locs → mo_laysCells_J44 k7 v1 v3 y_cells a_cellAt a_besideIn = some (z_y_cells, z_a_cellAt, z_a_besideIn) → W p l e (rmm 1 22) s m av below meth c H locs 0 0 (MQ below (va_Qv (fun (_ : Unit) => True) (fun _ t => mP D ct ad y_km y_tp y_goes y_kin y_qd y_sides y_cuts y_flat y_cp y_cA y_cB y_1X y_1Y y_2X y_2Y y_tm z_y_cells a_mtape a_flood a_going a_field a_from a_mcrowds a_steps a_queue a_letter a_lineX a_lineY a_triedAt z_a_cellAt z_a_besideIn a_apart a_drawer a_mkept a_listed a_mkin a_tried a_takenAt a_waysOf t.heap) (mA ad)) av s 0 0 (mA ad)) (F0 m 44 ls []) := by
        intro H locs ls v3 y_cells a_cellAt  hl hP hS h
        rw [mo_laysCells_J44] at h
        obtain ⟨v3_18, ev3_18, h⟩ := nm_s h
        refine lv_iinc hx hb dX12_laysCells_44 hl (k := 2) rfl ev3_18.symm (Nat.le_of_ble_eq_true rfl) (lv' := [(3, .int v3_18), (0, .ref (ad 0)), (1, .long v1)]) rfl (fun ls hl => ?_)
        refine lv_goto hx hb dX12_laysCells_47 (tgt := 7) rfl ?_
        exact ih7 _ _ _ v3_18 y_cells a_cellAt (lv_sub hl [1, 2, 0] rfl) hP hS h
      rw [mo_laysCells_B7] at h
      refine lv_iload_n hx hb dX12_laysCells_7 rfl (lv_at hl 2 rfl) ?_
      refine lv_bipush (v := 64) hx hb dX12_laysCells_8 kb_64 ?_
      refine lv_icmp_ge hx hb dX12_laysCells_10 (tgt := 50) rfl (fun hc => ?_) (fun hc => ?_)
      · replace h := ifp h hc
        refine lv_iconst (v := 0) hx hb dX12_laysCells_50 ki_0 ?_
        refine lv_istore_n hx hb dX12_laysCells_51 rfl hl (Nat.le_of_ble_eq_true rfl) (lv' := [(3, .int 0), (0, .ref (ad 0)), (1, .long v1)]) rfl (fun ls hl => ?_)
        exact hL52 y_cells a_cellAt FU _ _ _ 0 a_besideIn (lv_sub hl [1, 0] rfl) hP hS h
      · replace h := ifn h hc
        refine lv_lload_n hx hb dX12_laysCells_13 rfl (lv_at hl 1 rfl) ?_
        refine lv_iload_n hx hb dX12_laysCells_14 rfl (lv_at hl 2 rfl) ?_
        obtain ⟨r_19, hr_20, h⟩ := bd1_s h
        refine sc_i hx hb hml hown hw hN (c_mo_has l v1 v3 r_19 hr_20) g_RX12_86 hd_X12_has (rest := []) hl.1 hS dX12_laysCells_15 rfl rfl ⟨Nat.le_of_ble_eq_true rfl, Nat.le_of_ble_eq_true rfl⟩ rfl rfl (Nat.le_of_ble_eq_true rfl) ⟨Nat.zero_le _, Nat.zero_le _⟩ (fun H locs hk hS => ?_)
        have hP := mP_kept hP hk
        refine lv_if_ne hx hb dX12_laysCells_18 (tgt := 24) rfl (fun hc => ?_) (fun hc => ?_)
        · replace h := ifn h hc
          refine lv_aload_n hx hb dX12_laysCells_24 rfl (lv_at hl 0 rfl) ?_
          refine mg_MO_34 hx hb hw hown hK hP dX12_laysCells_25 ?_
          refine lv_aload_n hx hb dX12_laysCells_28 rfl (lv_at hl 0 rfl) ?_
          refine mg_MO_38 hx hb hw hown hK hP dX12_laysCells_29 ?_
          refine lv_iload_n hx hb dX12_laysCells_32 rfl (lv_at hl 2 rfl) ?_
          obtain ⟨hin, h⟩ := ck_s h
          obtain ⟨a_cellAt_21, ea_cellAt_21, h⟩ := nm_s h
          refine ms_cellAt hx hb hK hP hI hS hin ea_cellAt_21 dX12_laysCells_33 (fun H locs hP hS => ?_)
          refine lv_aload_n hx hb dX12_laysCells_34 rfl (lv_at hl 0 rfl) ?_
          refine lv_aload_n hx hb dX12_laysCells_35 rfl (lv_at hl 0 rfl) ?_
          refine mg_MO_38 hx hb hw hown hK hP dX12_laysCells_36 ?_
          refine lv_iconst (v := 1) hx hb dX12_laysCells_39 ki_1 ?_
          refine lv_iadd hx hb dX12_laysCells_40 ?_
          obtain ⟨y_cells_22, ey_cells_22, h⟩ := nm_s h
          refine nmI ey_cells_22 ?_
          refine mp_MO_38 hx hb hw hown hK hP hI hS dX12_laysCells_41 (fun H locs hP hS => ?_)
          exact hJ44 _ _ _ v3 y_cells_22 a_cellAt_21 (lv_sub hl [0, 1, 2] rfl) hP hS h
        · replace h := ifp h hc
          refine lv_goto hx hb dX12_laysCells_21 (tgt := 44) rfl ?_
          exact hJ44 _ _ _ v3 y_cells a_cellAt (lv_sub hl [0, 1, 2] rfl) hP hS h
  refine lv_aload_n hx hb dX12_laysCells_0 rfl (lv_at hl 0 rfl) ?_
  refine lv_iconst (v := 0) hx hb dX12_laysCells_1 ki_0 ?_
  refine mp_MO_38 hx hb hw hown hK hP hI hS dX12_laysCells_2 (fun H locs hP hS => ?_)
  refine lv_iconst (v := 0) hx hb dX12_laysCells_5 ki_0 ?_
  refine lv_istore_n hx hb dX12_laysCells_6 rfl hl (Nat.le_of_ble_eq_true rfl) (lv' := [(3, .int 0), (0, .ref (ad 0)), (1, .long v1)]) rfl (fun ls hl => ?_)
  exact hL7 v1 a_besideIn FU _ _ _ 0 0 a_cellAt (lv_sub hl [1, 2, 0] rfl) hP hS h
noncomputable def mo_besideAll_J32 (k4 : Int32 → Int32 → Option (Int32)) (y_cells : Int32) (a_besideIn : Nat → Int32) (v1 : Int32) (v3 : Int32) (t0 : Int32) (t1 : Int32) : Option (Int32) :=
  nm (t0 ||| t1 : Int32) fun v2_1 =>
  nm (v3 + Int32.ofInt 1) fun v3_2 =>
  k4 v2_1 v3_2
noncomputable def mo_besideAll_B4 (v1 : Int32) (y_cells : Int32) (a_besideIn : Nat → Int32)  (k4 : Int32 → Int32 → Option (Int32)) (v2 : Int32) (v3 : Int32) : Option (Int32) :=
  if y_cells ≤ v3 then (some (v2 &&& (v1 ^^^ (-1)))) else
  bd1 (mo_has (v1.toInt64) v3) fun r_3 =>
  if r_3 = 0 then (mo_besideAll_J32 k4 y_cells a_besideIn v1 v3 v2 0) else
  ck v3 12 <|
  mo_besideAll_J32 k4 y_cells a_besideIn v1 v3 v2 (a_besideIn v3.toNatClampNeg)
noncomputable def mo_besideAll (v1 : Int32) (y_cells : Int32) (a_besideIn : Nat → Int32) : Option (Int32) :=
  fl2 (mo_besideAll_B4 v1 y_cells a_besideIn) FU 0 0
set_option maxHeartbeats 4000000 in
set_option maxRecDepth 100000 in
theorem c_mo_besideAll (l : Launch) (D : va_G) (ct : Nat → ClassId) (ad : Nat → Nat) (hI : mI ad) {y_km y_tp y_goes y_kin y_qd y_sides y_cuts y_flat y_cp y_cA y_cB y_1X y_1Y y_2X y_2Y y_tm y_cells : Int32} {a_mtape a_flood a_going a_field a_from a_mcrowds a_steps a_queue a_letter a_lineX a_lineY a_triedAt a_cellAt a_besideIn a_apart : Nat → Int32} {a_drawer a_mkept a_listed a_mkin a_tried a_takenAt a_waysOf : Nat → Int64} (v1 : Int32) (r : Int32)  (h : mo_besideAll v1 y_cells a_besideIn = some (r)) : Met l yX12_besideAll (wm yX12_besideAll cX12_besideAll 4 (some .int)) (rmm 1 22) (va_Pc [.ref (ad 0), .int v1] (mB D ct ad y_km y_tp y_goes y_kin y_qd y_sides y_cuts y_flat y_cp y_cA y_cB y_1X y_1Y y_2X y_2Y y_tm y_cells a_mtape a_flood a_going a_field a_from a_mcrowds a_steps a_queue a_letter a_lineX a_lineY a_triedAt a_cellAt a_besideIn a_apart a_drawer a_mkept a_listed a_mkin a_tried a_takenAt a_waysOf)) (va_Qi (fun z (_ : Unit) => z = r) (fun _ t => mP D ct ad y_km y_tp y_goes y_kin y_qd y_sides y_cuts y_flat y_cp y_cA y_cB y_1X y_1Y y_2X y_2Y y_tm y_cells a_mtape a_flood a_going a_field a_from a_mcrowds a_steps a_queue a_letter a_lineX a_lineY a_triedAt a_cellAt a_besideIn a_apart a_drawer a_mkept a_listed a_mkin a_tried a_takenAt a_waysOf t.heap) (mA ad)) 0 0 (mA ad) := by
  refine met_s (y := yX12_besideAll) (rm := rmm 1 22) (by decide) (Nat.le_of_ble_eq_true rfl) ?_
  intro p e s m below meth c hx hb hr hw hown hlocks _ hml hB ls hl
  obtain ⟨hN, hK, hP⟩ := hB
  replace hl : lv_has ls 4 [(0, .ref (ad 0)), (1, .int v1)] := hl
  have hS : va_S (mA ad) s.heap s.heap [] := va_S.rf
  generalize (([.ref (ad 0), .int v1] : List Value).toArray) = av at hw ⊢
  rw [mo_besideAll] at h
  have hL4 : ∀ (v1 : Int32), ∀ (y_cells : Int32), ∀ (a_besideIn : Nat → Int32), ∀ (n4 : Nat) (H : Heap) (locs : List Loc) (ls : Array Slot) (v2 : Int32) (v3 : Int32), lv_has ls 4 [(0, .ref (ad 0)), (1, .int v1), (2, .int v2), (3, .int v3)] → mP D ct ad y_km y_tp y_goes y_kin y_qd y_sides y_cuts y_flat y_cp y_cA y_cB y_1X y_1Y y_2X y_2Y y_tm y_cells a_mtape a_flood a_going a_field a_from a_mcrowds a_steps a_queue a_letter a_lineX a_lineY a_triedAt a_cellAt a_besideIn a_apart a_drawer a_mkept a_listed a_mkin a_tried a_takenAt a_waysOf H → va_S (mA ad) s.heap H locs → fl2 (mo_besideAll_B4 v1 y_cells a_besideIn) n4 v2 v3 = some (r) → W p l e (rmm 1 22) s m av below meth c H locs 0 0 (MQ below (va_Qi (fun z (_ : Unit) => z = r) (fun _ t => mP D ct ad y_km y_tp y_goes y_kin y_qd y_sides y_cuts y_flat y_cp y_cA y_cB y_1X y_1Y y_2X y_2Y y_tm y_cells a_mtape a_flood a_going a_field a_from a_mcrowds a_steps a_queue a_letter a_lineX a_lineY a_triedAt a_cellAt a_besideIn a_apart a_drawer a_mkept a_listed a_mkin a_tried a_takenAt a_waysOf t.heap) (mA ad)) av s 0 0 (mA ad)) (F0 m 4 ls []) := by
    intro v1 y_cells a_besideIn n4
    induction n4 with
    | zero => intro H locs ls v2 v3 hl hP hS h; cases h
    | succ n4 ih4 =>
      intro H locs ls v2 v3 hl hP hS h
      replace h : mo_besideAll_B4 v1 y_cells a_besideIn (fl2 (mo_besideAll_B4 v1 y_cells a_besideIn) n4) v2 v3 = some (r) := h
      generalize fl2 (mo_besideAll_B4 v1 y_cells a_besideIn) n4 = k4 at h ih4
      have hJ32 : ∀ (H : Heap) (locs : List Loc) (ls : Array Slot) (v3 : Int32) (t0 : Int32) (t1 : Int32), lv_has ls 4 [(0, .ref (ad 0)), (1, .int v1), (3, .int v3)] → mP D ct ad y_km y_tp y_goes y_kin y_qd y_sides y_cuts y_flat y_cp y_cA y_cB y_1X y_1Y y_2X y_2Y y_tm y_cells a_mtape a_flood a_going a_field a_from a_mcrowds a_steps a_queue a_letter a_lineX a_lineY a_triedAt a_cellAt a_besideIn a_apart a_drawer a_mkept a_listed a_mkin a_tried a_takenAt a_waysOf H → va_S (mA ad) s.heap H locs → mo_besideAll_J32 k4 y_cells a_besideIn v1 v3 t0 t1 = some (r) → W p l e (rmm 1 22) s m av below meth c H locs 0 0 (MQ below (va_Qi (fun z (_ : Unit) => z = r) (fun _ t => mP D ct ad y_km y_tp y_goes y_kin y_qd y_sides y_cuts y_flat y_cp y_cA y_cB y_1X y_1Y y_2X y_2Y y_tm y_cells a_mtape a_flood a_going a_field a_from a_mcrowds a_steps a_queue a_letter a_lineX a_lineY a_triedAt a_cellAt a_besideIn a_apart a_drawer a_mkept a_listed a_mkin a_tried a_takenAt a_waysOf t.heap) (mA ad)) av s 0 0 (mA ad)) (F0 m 32 ls [.int t1, .int t0]) := by
        intro H locs ls v3 t0 t1 hl hP hS h
        rw [mo_besideAll_J32] at h
        refine lv_ior hx hb dX12_besideAll_32 ?_
        obtain ⟨v2_5, ev2_5, h⟩ := nm_s h
        refine nmI ev2_5 ?_
        refine lv_istore_n hx hb dX12_besideAll_33 rfl hl (Nat.le_of_ble_eq_true rfl) (lv' := [(2, .int v2_5), (0, .ref (ad 0)), (1, .int v1), (3, .int v3)]) rfl (fun ls hl => ?_)
        obtain ⟨v3_6, ev3_6, h⟩ := nm_s h
        refine lv_iinc hx hb dX12_besideAll_34 hl (k := 3) rfl ev3_6.symm (Nat.le_of_ble_eq_true rfl) (lv' := [(3, .int v3_6), (2, .int v2_5), (0, .ref (ad 0)), (1, .int v1)]) rfl (fun ls hl => ?_)
        refine lv_goto hx hb dX12_besideAll_37 (tgt := 4) rfl ?_
        exact ih4 _ _ _ v2_5 v3_6 (lv_sub hl [2, 3, 1, 0] rfl) hP hS h
      rw [mo_besideAll_B4] at h
      refine lv_iload_n hx hb dX12_besideAll_4 rfl (lv_at hl 3 rfl) ?_
      refine lv_aload_n hx hb dX12_besideAll_5 rfl (lv_at hl 0 rfl) ?_
      refine mg_MO_38 hx hb hw hown hK hP dX12_besideAll_6 ?_
      refine lv_icmp_ge hx hb dX12_besideAll_9 (tgt := 40) rfl (fun hc => ?_) (fun hc => ?_)
      · replace h := ifp h hc
        refine lv_iload_n hx hb dX12_besideAll_40 rfl (lv_at hl 2 rfl) ?_
        refine lv_iload_n hx hb dX12_besideAll_41 rfl (lv_at hl 1 rfl) ?_
        refine lv_iconst (v := (-1)) hx hb dX12_besideAll_42 ki_m1 ?_
        refine lv_ixor hx hb dX12_besideAll_43 ?_
        refine lv_iand hx hb dX12_besideAll_44 ?_
        replace h := Option.some.inj h
        subst h
        exact rc_i hx hb hr hlocks hS dX12_besideAll_45 rfl hP
      · replace h := ifn h hc
        refine lv_iload_n hx hb dX12_besideAll_12 rfl (lv_at hl 2 rfl) ?_
        refine lv_iload_n hx hb dX12_besideAll_13 rfl (lv_at hl 1 rfl) ?_
        refine lv_i2l hx hb (v := v1.toInt64) dX12_besideAll_14 rfl ?_
        refine lv_iload_n hx hb dX12_besideAll_15 rfl (lv_at hl 3 rfl) ?_
        obtain ⟨r_7, hr_8, h⟩ := bd1_s h
        refine sc_i hx hb hml hown hw hN (c_mo_has l (v1.toInt64) v3 r_7 hr_8) g_RX12_86 hd_X12_has (rest := [.int v2]) hl.1 hS dX12_besideAll_16 rfl rfl ⟨Nat.le_of_ble_eq_true rfl, Nat.le_of_ble_eq_true rfl⟩ rfl rfl (Nat.le_of_ble_eq_true rfl) ⟨Nat.zero_le _, Nat.zero_le _⟩ (fun H locs hk hS => ?_)
        have hP := mP_kept hP hk
        refine lv_if_eq hx hb dX12_besideAll_19 (tgt := 31) rfl (fun hc => ?_) (fun hc => ?_)
        · replace h := ifp h hc
          refine lv_iconst (v := 0) hx hb dX12_besideAll_31 ki_0 ?_
          exact hJ32 _ _ _ v3 v2 0 (lv_sub hl [0, 1, 3] rfl) hP hS h
        · replace h := ifn h hc
          refine lv_aload_n hx hb dX12_besideAll_22 rfl (lv_at hl 0 rfl) ?_
          refine mg_MO_35 hx hb hw hown hK hP dX12_besideAll_23 ?_
          refine lv_iload_n hx hb dX12_besideAll_26 rfl (lv_at hl 3 rfl) ?_
          obtain ⟨hin, h⟩ := ck_s h
          refine md_besideIn hx hb hK hP hin dX12_besideAll_27 ?_
          refine lv_goto hx hb dX12_besideAll_28 (tgt := 32) rfl ?_
          exact hJ32 _ _ _ v3 v2 (a_besideIn v3.toNatClampNeg) (lv_sub hl [0, 1, 3] rfl) hP hS h
  refine lv_iconst (v := 0) hx hb dX12_besideAll_0 ki_0 ?_
  refine lv_istore_n hx hb dX12_besideAll_1 rfl hl (Nat.le_of_ble_eq_true rfl) (lv' := [(2, .int 0), (0, .ref (ad 0)), (1, .int v1)]) rfl (fun ls hl => ?_)
  refine lv_iconst (v := 0) hx hb dX12_besideAll_2 ki_0 ?_
  refine lv_istore_n hx hb dX12_besideAll_3 rfl hl (Nat.le_of_ble_eq_true rfl) (lv' := [(3, .int 0), (2, .int 0), (0, .ref (ad 0)), (1, .int v1)]) rfl (fun ls hl => ?_)
  exact hL4 v1 y_cells a_besideIn FU _ _ _ 0 0 (lv_sub hl [2, 3, 1, 0] rfl) hP hS h
noncomputable def mo_figureOf_J38 (k5 : Int64 → Int32 → Option (Int64)) (y_cells : Int32) (a_cellAt : Nat → Int32) (v1 : Int32) (v4 : Int32) (t0 : Int64) (t1 : Int64) : Option (Int64) :=
  nm (t0 ||| t1 : Int64) fun v2_1 =>
  nm (v4 + Int32.ofInt 1) fun v4_2 =>
  k5 v2_1 v4_2
noncomputable def mo_figureOf_B5 (v1 : Int32) (y_cells : Int32) (a_cellAt : Nat → Int32)  (k5 : Int64 → Int32 → Option (Int64)) (v2 : Int64) (v4 : Int32) : Option (Int64) :=
  if y_cells ≤ v4 then (some (v2)) else
  bd1 (mo_has (v1.toInt64) v4) fun r_3 =>
  if r_3 = 0 then (mo_figureOf_J38 k5 y_cells a_cellAt v1 v4 v2 0) else
  ck v4 12 <|
  mo_figureOf_J38 k5 y_cells a_cellAt v1 v4 v2 (sl 1 (a_cellAt v4.toNatClampNeg))
noncomputable def mo_figureOf (v1 : Int32) (y_cells : Int32) (a_cellAt : Nat → Int32) : Option (Int64) :=
  fl2 (mo_figureOf_B5 v1 y_cells a_cellAt) FU 0 0
set_option maxHeartbeats 4000000 in
set_option maxRecDepth 100000 in
theorem c_mo_figureOf (l : Launch) (D : va_G) (ct : Nat → ClassId) (ad : Nat → Nat) (hI : mI ad) {y_km y_tp y_goes y_kin y_qd y_sides y_cuts y_flat y_cp y_cA y_cB y_1X y_1Y y_2X y_2Y y_tm y_cells : Int32} {a_mtape a_flood a_going a_field a_from a_mcrowds a_steps a_queue a_letter a_lineX a_lineY a_triedAt a_cellAt a_besideIn a_apart : Nat → Int32} {a_drawer a_mkept a_listed a_mkin a_tried a_takenAt a_waysOf : Nat → Int64} (v1 : Int32) (r : Int64)  (h : mo_figureOf v1 y_cells a_cellAt = some (r)) : Met l yX12_figureOf (wm yX12_figureOf cX12_figureOf 5 (some .long)) (rmm 1 22) (va_Pc [.ref (ad 0), .int v1] (mB D ct ad y_km y_tp y_goes y_kin y_qd y_sides y_cuts y_flat y_cp y_cA y_cB y_1X y_1Y y_2X y_2Y y_tm y_cells a_mtape a_flood a_going a_field a_from a_mcrowds a_steps a_queue a_letter a_lineX a_lineY a_triedAt a_cellAt a_besideIn a_apart a_drawer a_mkept a_listed a_mkin a_tried a_takenAt a_waysOf)) (va_Ql (fun z (_ : Unit) => z = r) (fun _ t => mP D ct ad y_km y_tp y_goes y_kin y_qd y_sides y_cuts y_flat y_cp y_cA y_cB y_1X y_1Y y_2X y_2Y y_tm y_cells a_mtape a_flood a_going a_field a_from a_mcrowds a_steps a_queue a_letter a_lineX a_lineY a_triedAt a_cellAt a_besideIn a_apart a_drawer a_mkept a_listed a_mkin a_tried a_takenAt a_waysOf t.heap) (mA ad)) 0 0 (mA ad) := by
  refine met_s (y := yX12_figureOf) (rm := rmm 1 22) (by decide) (Nat.le_of_ble_eq_true rfl) ?_
  intro p e s m below meth c hx hb hr hw hown hlocks _ hml hB ls hl
  obtain ⟨hN, hK, hP⟩ := hB
  replace hl : lv_has ls 5 [(0, .ref (ad 0)), (1, .int v1)] := hl
  have hS : va_S (mA ad) s.heap s.heap [] := va_S.rf
  generalize (([.ref (ad 0), .int v1] : List Value).toArray) = av at hw ⊢
  rw [mo_figureOf] at h
  have hL5 : ∀ (v1 : Int32), ∀ (y_cells : Int32), ∀ (a_cellAt : Nat → Int32), ∀ (n5 : Nat) (H : Heap) (locs : List Loc) (ls : Array Slot) (v2 : Int64) (v4 : Int32), lv_has ls 5 [(0, .ref (ad 0)), (1, .int v1), (2, .long v2), (4, .int v4)] → mP D ct ad y_km y_tp y_goes y_kin y_qd y_sides y_cuts y_flat y_cp y_cA y_cB y_1X y_1Y y_2X y_2Y y_tm y_cells a_mtape a_flood a_going a_field a_from a_mcrowds a_steps a_queue a_letter a_lineX a_lineY a_triedAt a_cellAt a_besideIn a_apart a_drawer a_mkept a_listed a_mkin a_tried a_takenAt a_waysOf H → va_S (mA ad) s.heap H locs → fl2 (mo_figureOf_B5 v1 y_cells a_cellAt) n5 v2 v4 = some (r) → W p l e (rmm 1 22) s m av below meth c H locs 0 0 (MQ below (va_Ql (fun z (_ : Unit) => z = r) (fun _ t => mP D ct ad y_km y_tp y_goes y_kin y_qd y_sides y_cuts y_flat y_cp y_cA y_cB y_1X y_1Y y_2X y_2Y y_tm y_cells a_mtape a_flood a_going a_field a_from a_mcrowds a_steps a_queue a_letter a_lineX a_lineY a_triedAt a_cellAt a_besideIn a_apart a_drawer a_mkept a_listed a_mkin a_tried a_takenAt a_waysOf t.heap) (mA ad)) av s 0 0 (mA ad)) (F0 m 5 ls []) := by
    intro v1 y_cells a_cellAt n5
    induction n5 with
    | zero => intro H locs ls v2 v4 hl hP hS h; cases h
    | succ n5 ih5 =>
      intro H locs ls v2 v4 hl hP hS h
      replace h : mo_figureOf_B5 v1 y_cells a_cellAt (fl2 (mo_figureOf_B5 v1 y_cells a_cellAt) n5) v2 v4 = some (r) := h
      generalize fl2 (mo_figureOf_B5 v1 y_cells a_cellAt) n5 = k5 at h ih5
      have hJ38 : ∀ (H : Heap) (locs : List Loc) (ls : Array Slot) (v4 : Int32) (t0 : Int64) (t1 : Int64), lv_has ls 5 [(0, .ref (ad 0)), (1, .int v1), (4, .int v4)] → mP D ct ad y_km y_tp y_goes y_kin y_qd y_sides y_cuts y_flat y_cp y_cA y_cB y_1X y_1Y y_2X y_2Y y_tm y_cells a_mtape a_flood a_going a_field a_from a_mcrowds a_steps a_queue a_letter a_lineX a_lineY a_triedAt a_cellAt a_besideIn a_apart a_drawer a_mkept a_listed a_mkin a_tried a_takenAt a_waysOf H → va_S (mA ad) s.heap H locs → mo_figureOf_J38 k5 y_cells a_cellAt v1 v4 t0 t1 = some (r) → W p l e (rmm 1 22) s m av below meth c H locs 0 0 (MQ below (va_Ql (fun z (_ : Unit) => z = r) (fun _ t => mP D ct ad y_km y_tp y_goes y_kin y_qd y_sides y_cuts y_flat y_cp y_cA y_cB y_1X y_1Y y_2X y_2Y y_tm y_cells a_mtape a_flood a_going a_field a_from a_mcrowds a_steps a_queue a_letter a_lineX a_lineY a_triedAt a_cellAt a_besideIn a_apart a_drawer a_mkept a_listed a_mkin a_tried a_takenAt a_waysOf t.heap) (mA ad)) av s 0 0 (mA ad)) (F0 m 38 ls [.long t1, .long t0]) := by
        intro H locs ls v4 t0 t1 hl hP hS h
        rw [mo_figureOf_J38] at h
        refine lv_lor hx hb dX12_figureOf_38 ?_
        obtain ⟨v2_5, ev2_5, h⟩ := nm_s h
        refine nmL ev2_5 ?_
        refine lv_lstore_n hx hb dX12_figureOf_39 rfl hl (Nat.le_of_ble_eq_true rfl) (lv' := [(2, .long v2_5), (0, .ref (ad 0)), (1, .int v1), (4, .int v4)]) rfl (fun ls hl => ?_)
        obtain ⟨v4_6, ev4_6, h⟩ := nm_s h
        refine lv_iinc hx hb dX12_figureOf_40 hl (k := 3) rfl ev4_6.symm (Nat.le_of_ble_eq_true rfl) (lv' := [(4, .int v4_6), (2, .long v2_5), (0, .ref (ad 0)), (1, .int v1)]) rfl (fun ls hl => ?_)
        refine lv_goto hx hb dX12_figureOf_43 (tgt := 5) rfl ?_
        exact ih5 _ _ _ v2_5 v4_6 (lv_sub hl [2, 3, 1, 0] rfl) hP hS h
      rw [mo_figureOf_B5] at h
      refine lv_iload hx hb dX12_figureOf_5 (lv_at hl 3 rfl) ?_
      refine lv_aload_n hx hb dX12_figureOf_7 rfl (lv_at hl 0 rfl) ?_
      refine mg_MO_38 hx hb hw hown hK hP dX12_figureOf_8 ?_
      refine lv_icmp_ge hx hb dX12_figureOf_11 (tgt := 46) rfl (fun hc => ?_) (fun hc => ?_)
      · replace h := ifp h hc
        refine lv_lload_n hx hb dX12_figureOf_46 rfl (lv_at hl 2 rfl) ?_
        replace h := Option.some.inj h
        subst h
        exact rc_l hx hb hr hlocks hS dX12_figureOf_47 rfl hP
      · replace h := ifn h hc
        refine lv_lload_n hx hb dX12_figureOf_14 rfl (lv_at hl 2 rfl) ?_
        refine lv_iload_n hx hb dX12_figureOf_15 rfl (lv_at hl 1 rfl) ?_
        refine lv_i2l hx hb (v := v1.toInt64) dX12_figureOf_16 rfl ?_
        refine lv_iload hx hb dX12_figureOf_17 (lv_at hl 3 rfl) ?_
        obtain ⟨r_7, hr_8, h⟩ := bd1_s h
        refine sc_i hx hb hml hown hw hN (c_mo_has l (v1.toInt64) v4 r_7 hr_8) g_RX12_86 hd_X12_has (rest := [.long v2]) hl.1 hS dX12_figureOf_19 rfl rfl ⟨Nat.le_of_ble_eq_true rfl, Nat.le_of_ble_eq_true rfl⟩ rfl rfl (Nat.le_of_ble_eq_true rfl) ⟨Nat.zero_le _, Nat.zero_le _⟩ (fun H locs hk hS => ?_)
        have hP := mP_kept hP hk
        refine lv_if_eq hx hb dX12_figureOf_22 (tgt := 37) rfl (fun hc => ?_) (fun hc => ?_)
        · replace h := ifp h hc
          refine lv_lconst (v := 0) hx hb dX12_figureOf_37 kl_0 ?_
          exact hJ38 _ _ _ v4 v2 0 (lv_sub hl [0, 1, 3] rfl) hP hS h
        · replace h := ifn h hc
          refine lv_lconst (v := 1) hx hb dX12_figureOf_25 kl_1 ?_
          refine lv_aload_n hx hb dX12_figureOf_26 rfl (lv_at hl 0 rfl) ?_
          refine mg_MO_34 hx hb hw hown hK hP dX12_figureOf_27 ?_
          refine lv_iload hx hb dX12_figureOf_30 (lv_at hl 3 rfl) ?_
          obtain ⟨hin, h⟩ := ck_s h
          refine md_cellAt hx hb hK hP hin dX12_figureOf_32 ?_
          refine lv_lshl hx hb (v := sl 1 (a_cellAt v4.toNatClampNeg)) dX12_figureOf_33 rfl ?_
          refine lv_goto hx hb dX12_figureOf_34 (tgt := 38) rfl ?_
          exact hJ38 _ _ _ v4 v2 (sl 1 (a_cellAt v4.toNatClampNeg)) (lv_sub hl [0, 1, 3] rfl) hP hS h
  refine lv_lconst (v := 0) hx hb dX12_figureOf_0 kl_0 ?_
  refine lv_lstore_n hx hb dX12_figureOf_1 rfl hl (Nat.le_of_ble_eq_true rfl) (lv' := [(2, .long 0), (0, .ref (ad 0)), (1, .int v1)]) rfl (fun ls hl => ?_)
  refine lv_iconst (v := 0) hx hb dX12_figureOf_2 ki_0 ?_
  refine lv_istore hx hb dX12_figureOf_3 hl (Nat.le_of_ble_eq_true rfl) (lv' := [(4, .int 0), (2, .long 0), (0, .ref (ad 0)), (1, .int v1)]) rfl (fun ls hl => ?_)
  exact hL5 v1 y_cells a_cellAt FU _ _ _ 0 0 (lv_sub hl [2, 3, 1, 0] rfl) hP hS h
noncomputable def mo_orders_J114 (k11 : Int32 → (Nat → Int64) → Option (Int64 × (Nat → Int64))) (y_cells : Int32) (a_besideIn : Nat → Int32) (v1 : Int32) (v2 : Int32) (a_waysOf : Nat → Int64)  : Option (Int64 × (Nat → Int64)) :=
  nm (v2 + Int32.ofInt 1) fun v2_1 =>
  k11 v2_1 a_waysOf
noncomputable def mo_orders_J108 (k11 : Int32 → (Nat → Int64) → Option (Int64 × (Nat → Int64))) (k40 : Int32 → (Nat → Int64) → Option (Int64 × (Nat → Int64))) (y_cells : Int32) (a_besideIn : Nat → Int32) (v1 : Int32) (v2 : Int32) (v3 : Int32) (a_waysOf : Nat → Int64)  : Option (Int64 × (Nat → Int64)) :=
  nm (v3 + Int32.ofInt 1) fun v3_2 =>
  k40 v3_2 a_waysOf
noncomputable def mo_orders_B40 (v1 : Int32) (v2 : Int32) (y_cells : Int32) (a_besideIn : Nat → Int32) (k11 : Int32 → (Nat → Int64) → Option (Int64 × (Nat → Int64))) (k40 : Int32 → (Nat → Int64) → Option (Int64 × (Nat → Int64))) (v3 : Int32) (a_waysOf : Nat → Int64) : Option (Int64 × (Nat → Int64)) :=
  if y_cells ≤ v3 then (mo_orders_J114 k11 y_cells a_besideIn v1 v2 a_waysOf) else
  if (v2 &&& (v2 - 1)) = 0 then (mo_orders_J114 k11 y_cells a_besideIn v1 v2 a_waysOf) else
  nm (v2 &&& ((il 1 v3) ^^^ (-1)) : Int32) fun v4_3 =>
  bd1 (mo_has (v2.toInt64) v3) fun r_4 =>
  if r_4 = 0 then (mo_orders_J108 k11 k40 y_cells a_besideIn v1 v2 v3 a_waysOf) else
  bd1 (mo_besideAll v4_3 y_cells a_besideIn) fun r_6 =>
  if ((ir r_6 v3) &&& 1) = 1 then (ck v2 4096 <|
  ck v4_3 4096 <|
  nm ((a_waysOf v2.toNatClampNeg) + (a_waysOf v4_3.toNatClampNeg) : Int64) fun w_8 =>
  ck v2 4096 <|
  nm (vp_updL a_waysOf v2.toNatClampNeg w_8) fun a_waysOf_9 =>
  mo_orders_J108 k11 k40 y_cells a_besideIn v1 v2 v3 a_waysOf_9) else
  mo_orders_J108 k11 k40 y_cells a_besideIn v1 v2 v3 a_waysOf
noncomputable def mo_orders_J38 (k11 : Int32 → (Nat → Int64) → Option (Int64 × (Nat → Int64))) (y_cells : Int32) (a_besideIn : Nat → Int32) (v1 : Int32) (v2 : Int32) (a_waysOf : Nat → Int64)  : Option (Int64 × (Nat → Int64)) :=
  fl2 (mo_orders_B40 v1 v2 y_cells a_besideIn k11) FU 0 a_waysOf
noncomputable def mo_orders_B11 (v1 : Int32) (y_cells : Int32) (a_besideIn : Nat → Int32)  (k11 : Int32 → (Nat → Int64) → Option (Int64 × (Nat → Int64))) (v2 : Int32) (a_waysOf : Nat → Int64) : Option (Int64 × (Nat → Int64)) :=
  if v1 < v2 then (ck v1 4096 <|
  some (a_waysOf v1.toNatClampNeg, a_waysOf)) else
  ck v2 4096 <|
  nm (vp_updL a_waysOf v2.toNatClampNeg 0) fun a_waysOf_10 =>
  if (v2 &&& (v2 - 1)) = 0 then (ck v2 4096 <|
  nm (vp_updL a_waysOf_10 v2.toNatClampNeg 1) fun a_waysOf_11 =>
  mo_orders_J38 k11 y_cells a_besideIn v1 v2 a_waysOf_11) else
  mo_orders_J38 k11 y_cells a_besideIn v1 v2 a_waysOf_10
noncomputable def mo_orders (y_cells : Int32) (a_besideIn : Nat → Int32) (a_waysOf : Nat → Int64) : Option (Int64 × (Nat → Int64)) :=
  nm ((il 1 y_cells) - 1 : Int32) fun v1_12 =>
  fl2 (mo_orders_B11 v1_12 y_cells a_besideIn) FU 1 a_waysOf
set_option maxHeartbeats 4000000 in
set_option maxRecDepth 100000 in
theorem c_mo_orders (l : Launch) (D : va_G) (ct : Nat → ClassId) (ad : Nat → Nat) (hI : mI ad) {y_km y_tp y_goes y_kin y_qd y_sides y_cuts y_flat y_cp y_cA y_cB y_1X y_1Y y_2X y_2Y y_tm y_cells : Int32} {a_mtape a_flood a_going a_field a_from a_mcrowds a_steps a_queue a_letter a_lineX a_lineY a_triedAt a_cellAt a_besideIn a_apart : Nat → Int32} {a_drawer a_mkept a_listed a_mkin a_tried a_takenAt a_waysOf : Nat → Int64}  (r : Int64) (z_a_waysOf : Nat → Int64) (h : mo_orders y_cells a_besideIn a_waysOf = some (r, z_a_waysOf)) : Met l yX12_orders (wm yX12_orders cX12_orders 5 (some .long)) (rmm 2 45) (va_Pc [.ref (ad 0)] (mB D ct ad y_km y_tp y_goes y_kin y_qd y_sides y_cuts y_flat y_cp y_cA y_cB y_1X y_1Y y_2X y_2Y y_tm y_cells a_mtape a_flood a_going a_field a_from a_mcrowds a_steps a_queue a_letter a_lineX a_lineY a_triedAt a_cellAt a_besideIn a_apart a_drawer a_mkept a_listed a_mkin a_tried a_takenAt a_waysOf)) (va_Ql (fun z (_ : Unit) => z = r) (fun _ t => mP D ct ad y_km y_tp y_goes y_kin y_qd y_sides y_cuts y_flat y_cp y_cA y_cB y_1X y_1Y y_2X y_2Y y_tm y_cells a_mtape a_flood a_going a_field a_from a_mcrowds a_steps a_queue a_letter a_lineX a_lineY a_triedAt a_cellAt a_besideIn a_apart a_drawer a_mkept a_listed a_mkin a_tried a_takenAt z_a_waysOf t.heap) (mA ad)) 0 0 (mA ad) := by
  refine met_s (y := yX12_orders) (rm := rmm 2 45) (by decide) (Nat.le_of_ble_eq_true rfl) ?_
  intro p e s m below meth c hx hb hr hw hown hlocks _ hml hB ls hl
  obtain ⟨hN, hK, hP⟩ := hB
  replace hl : lv_has ls 5 [(0, .ref (ad 0))] := hl
  have hS : va_S (mA ad) s.heap s.heap [] := va_S.rf
  generalize (([.ref (ad 0)] : List Value).toArray) = av at hw ⊢
  rw [mo_orders] at h
  have hL11 : ∀ (v1 : Int32), ∀ (y_cells : Int32), ∀ (a_besideIn : Nat → Int32), ∀ (n11 : Nat) (H : Heap) (locs : List Loc) (ls : Array Slot) (v2 : Int32) (a_waysOf : Nat → Int64), lv_has ls 5 [(0, .ref (ad 0)), (1, .int v1), (2, .int v2)] → mP D ct ad y_km y_tp y_goes y_kin y_qd y_sides y_cuts y_flat y_cp y_cA y_cB y_1X y_1Y y_2X y_2Y y_tm y_cells a_mtape a_flood a_going a_field a_from a_mcrowds a_steps a_queue a_letter a_lineX a_lineY a_triedAt a_cellAt a_besideIn a_apart a_drawer a_mkept a_listed a_mkin a_tried a_takenAt a_waysOf H → va_S (mA ad) s.heap H locs → fl2 (mo_orders_B11 v1 y_cells a_besideIn) n11 v2 a_waysOf = some (r, z_a_waysOf) → W p l e (rmm 2 45) s m av below meth c H locs 0 0 (MQ below (va_Ql (fun z (_ : Unit) => z = r) (fun _ t => mP D ct ad y_km y_tp y_goes y_kin y_qd y_sides y_cuts y_flat y_cp y_cA y_cB y_1X y_1Y y_2X y_2Y y_tm y_cells a_mtape a_flood a_going a_field a_from a_mcrowds a_steps a_queue a_letter a_lineX a_lineY a_triedAt a_cellAt a_besideIn a_apart a_drawer a_mkept a_listed a_mkin a_tried a_takenAt z_a_waysOf t.heap) (mA ad)) av s 0 0 (mA ad)) (F0 m 11 ls []) := by
    intro v1 y_cells a_besideIn n11
    induction n11 with
    | zero => intro H locs ls v2 a_waysOf hl hP hS h; cases h
    | succ n11 ih11 =>
      intro H locs ls v2 a_waysOf hl hP hS h
      replace h : mo_orders_B11 v1 y_cells a_besideIn (fl2 (mo_orders_B11 v1 y_cells a_besideIn) n11) v2 a_waysOf = some (r, z_a_waysOf) := h
      generalize fl2 (mo_orders_B11 v1 y_cells a_besideIn) n11 = k11 at h ih11
      have hJ114 : ∀ (H : Heap) (locs : List Loc) (ls : Array Slot) (v2 : Int32) (a_waysOf : Nat → Int64) , lv_has ls 5 [(0, .ref (ad 0)), (1, .int v1), (2, .int v2)] → mP D ct ad y_km y_tp y_goes y_kin y_qd y_sides y_cuts y_flat y_cp y_cA y_cB y_1X y_1Y y_2X y_2Y y_tm y_cells a_mtape a_flood a_going a_field a_from a_mcrowds a_steps a_queue a_letter a_lineX a_lineY a_triedAt a_cellAt a_besideIn a_apart a_drawer a_mkept a_listed a_mkin a_tried a_takenAt a_waysOf H → va_S (mA ad) s.heap H locs → mo_orders_J114 k11 y_cells a_besideIn v1 v2 a_waysOf = some (r, z_a_waysOf) → W p l e (rmm 2 45) s m av below meth c H locs 0 0 (MQ below (va_Ql (fun z (_ : Unit) => z = r) (fun _ t => mP D ct ad y_km y_tp y_goes y_kin y_qd y_sides y_cuts y_flat y_cp y_cA y_cB y_1X y_1Y y_2X y_2Y y_tm y_cells a_mtape a_flood a_going a_field a_from a_mcrowds a_steps a_queue a_letter a_lineX a_lineY a_triedAt a_cellAt a_besideIn a_apart a_drawer a_mkept a_listed a_mkin a_tried a_takenAt z_a_waysOf t.heap) (mA ad)) av s 0 0 (mA ad)) (F0 m 114 ls []) := by
        intro H locs ls v2 a_waysOf  hl hP hS h
        rw [mo_orders_J114] at h
        obtain ⟨v2_13, ev2_13, h⟩ := nm_s h
        refine lv_iinc hx hb dX12_orders_114 hl (k := 2) rfl ev2_13.symm (Nat.le_of_ble_eq_true rfl) (lv' := [(2, .int v2_13), (0, .ref (ad 0)), (1, .int v1)]) rfl (fun ls hl => ?_)
        refine lv_goto hx hb dX12_orders_117 (tgt := 11) rfl ?_
        exact ih11 _ _ _ v2_13 a_waysOf (lv_sub hl [1, 2, 0] rfl) hP hS h
      have hL40 : ∀ (v2 : Int32), ∀ (n40 : Nat) (H : Heap) (locs : List Loc) (ls : Array Slot) (v3 : Int32) (a_waysOf : Nat → Int64), lv_has ls 5 [(0, .ref (ad 0)), (1, .int v1), (2, .int v2), (3, .int v3)] → mP D ct ad y_km y_tp y_goes y_kin y_qd y_sides y_cuts y_flat y_cp y_cA y_cB y_1X y_1Y y_2X y_2Y y_tm y_cells a_mtape a_flood a_going a_field a_from a_mcrowds a_steps a_queue a_letter a_lineX a_lineY a_triedAt a_cellAt a_besideIn a_apart a_drawer a_mkept a_listed a_mkin a_tried a_takenAt a_waysOf H → va_S (mA ad) s.heap H locs → fl2 (mo_orders_B40 v1 v2 y_cells a_besideIn k11) n40 v3 a_waysOf = some (r, z_a_waysOf) → W p l e (rmm 2 45) s m av below meth c H locs 0 0 (MQ below (va_Ql (fun z (_ : Unit) => z = r) (fun _ t => mP D ct ad y_km y_tp y_goes y_kin y_qd y_sides y_cuts y_flat y_cp y_cA y_cB y_1X y_1Y y_2X y_2Y y_tm y_cells a_mtape a_flood a_going a_field a_from a_mcrowds a_steps a_queue a_letter a_lineX a_lineY a_triedAt a_cellAt a_besideIn a_apart a_drawer a_mkept a_listed a_mkin a_tried a_takenAt z_a_waysOf t.heap) (mA ad)) av s 0 0 (mA ad)) (F0 m 40 ls []) := by
        intro v2 n40
        induction n40 with
        | zero => intro H locs ls v3 a_waysOf hl hP hS h; cases h
        | succ n40 ih40 =>
          intro H locs ls v3 a_waysOf hl hP hS h
          replace h : mo_orders_B40 v1 v2 y_cells a_besideIn k11 (fl2 (mo_orders_B40 v1 v2 y_cells a_besideIn k11) n40) v3 a_waysOf = some (r, z_a_waysOf) := h
          generalize fl2 (mo_orders_B40 v1 v2 y_cells a_besideIn k11) n40 = k40 at h ih40
          have hJ108 : ∀ (H : Heap) (locs : List Loc) (ls : Array Slot) (v3 : Int32) (a_waysOf : Nat → Int64) , lv_has ls 5 [(0, .ref (ad 0)), (1, .int v1), (2, .int v2), (3, .int v3)] → mP D ct ad y_km y_tp y_goes y_kin y_qd y_sides y_cuts y_flat y_cp y_cA y_cB y_1X y_1Y y_2X y_2Y y_tm y_cells a_mtape a_flood a_going a_field a_from a_mcrowds a_steps a_queue a_letter a_lineX a_lineY a_triedAt a_cellAt a_besideIn a_apart a_drawer a_mkept a_listed a_mkin a_tried a_takenAt a_waysOf H → va_S (mA ad) s.heap H locs → mo_orders_J108 k11 k40 y_cells a_besideIn v1 v2 v3 a_waysOf = some (r, z_a_waysOf) → W p l e (rmm 2 45) s m av below meth c H locs 0 0 (MQ below (va_Ql (fun z (_ : Unit) => z = r) (fun _ t => mP D ct ad y_km y_tp y_goes y_kin y_qd y_sides y_cuts y_flat y_cp y_cA y_cB y_1X y_1Y y_2X y_2Y y_tm y_cells a_mtape a_flood a_going a_field a_from a_mcrowds a_steps a_queue a_letter a_lineX a_lineY a_triedAt a_cellAt a_besideIn a_apart a_drawer a_mkept a_listed a_mkin a_tried a_takenAt z_a_waysOf t.heap) (mA ad)) av s 0 0 (mA ad)) (F0 m 108 ls []) := by
            intro H locs ls v3 a_waysOf  hl hP hS h
            rw [mo_orders_J108] at h
            obtain ⟨v3_14, ev3_14, h⟩ := nm_s h
            refine lv_iinc hx hb dX12_orders_108 hl (k := 3) rfl ev3_14.symm (Nat.le_of_ble_eq_true rfl) (lv' := [(3, .int v3_14), (0, .ref (ad 0)), (1, .int v1), (2, .int v2)]) rfl (fun ls hl => ?_)
            refine lv_goto hx hb dX12_orders_111 (tgt := 40) rfl ?_
            exact ih40 _ _ _ v3_14 a_waysOf (lv_sub hl [1, 2, 3, 0] rfl) hP hS h
          rw [mo_orders_B40] at h
          refine lv_iload_n hx hb dX12_orders_40 rfl (lv_at hl 3 rfl) ?_
          refine lv_aload_n hx hb dX12_orders_41 rfl (lv_at hl 0 rfl) ?_
          refine mg_MO_38 hx hb hw hown hK hP dX12_orders_42 ?_
          refine lv_icmp_ge hx hb dX12_orders_45 (tgt := 114) rfl (fun hc => ?_) (fun hc => ?_)
          · replace h := ifp h hc
            exact hJ114 _ _ _ v2 a_waysOf (lv_sub hl [0, 1, 2] rfl) hP hS h
          · replace h := ifn h hc
            refine lv_iload_n hx hb dX12_orders_48 rfl (lv_at hl 2 rfl) ?_
            refine lv_iload_n hx hb dX12_orders_49 rfl (lv_at hl 2 rfl) ?_
            refine lv_iconst (v := 1) hx hb dX12_orders_50 ki_1 ?_
            refine lv_isub hx hb dX12_orders_51 ?_
            refine lv_iand hx hb dX12_orders_52 ?_
            refine lv_if_eq hx hb dX12_orders_53 (tgt := 114) rfl (fun hc => ?_) (fun hc => ?_)
            · replace h := ifp h hc
              exact hJ114 _ _ _ v2 a_waysOf (lv_sub hl [0, 1, 2] rfl) hP hS h
            · replace h := ifn h hc
              refine lv_iload_n hx hb dX12_orders_56 rfl (lv_at hl 2 rfl) ?_
              refine lv_iconst (v := 1) hx hb dX12_orders_57 ki_1 ?_
              refine lv_iload_n hx hb dX12_orders_58 rfl (lv_at hl 3 rfl) ?_
              refine lv_ishl hx hb dX12_orders_59 ?_
              refine nmI (v := il 1 v3) rfl ?_
              refine lv_iconst (v := (-1)) hx hb dX12_orders_60 ki_m1 ?_
              refine lv_ixor hx hb dX12_orders_61 ?_
              refine lv_iand hx hb dX12_orders_62 ?_
              obtain ⟨v4_15, ev4_15, h⟩ := nm_s h
              refine nmI ev4_15 ?_
              refine lv_istore hx hb dX12_orders_63 hl (Nat.le_of_ble_eq_true rfl) (lv' := [(4, .int v4_15), (0, .ref (ad 0)), (1, .int v1), (2, .int v2), (3, .int v3)]) rfl (fun ls hl => ?_)
              refine lv_iload_n hx hb dX12_orders_65 rfl (lv_at hl 3 rfl) ?_
              refine lv_i2l hx hb (v := v2.toInt64) dX12_orders_66 rfl ?_
              refine lv_iload_n hx hb dX12_orders_67 rfl (lv_at hl 4 rfl) ?_
              obtain ⟨r_16, hr_17, h⟩ := bd1_s h
              refine sc_i hx hb hml hown hw hN (c_mo_has l (v2.toInt64) v3 r_16 hr_17) g_RX12_86 hd_X12_has (rest := []) hl.1 hS dX12_orders_68 rfl rfl ⟨Nat.le_of_ble_eq_true rfl, Nat.le_of_ble_eq_true rfl⟩ rfl rfl (Nat.le_of_ble_eq_true rfl) ⟨Nat.zero_le _, Nat.zero_le _⟩ (fun H locs hk hS => ?_)
              have hP := mP_kept hP hk
              refine lv_if_eq hx hb dX12_orders_71 (tgt := 108) rfl (fun hc => ?_) (fun hc => ?_)
              · replace h := ifp h hc
                exact hJ108 _ _ _ v3 a_waysOf (lv_sub hl [1, 2, 3, 4] rfl) hP hS h
              · replace h := ifn h hc
                refine lv_aload_n hx hb dX12_orders_74 rfl (lv_at hl 1 rfl) ?_
                refine lv_iload hx hb dX12_orders_75 (lv_at hl 0 rfl) ?_
                obtain ⟨r_18, hr_19, h⟩ := bd1_s h
                refine hv_i hx hb hml hown hw mB_bl (mB_of hN hK hP) (mr_MO hK hP) (c_mo_besideAll l D ct ad hI v4_15 r_18 hr_19) g_RX12_342 ⟨rfl, hd_X12_besideAll⟩ (rest := []) hl.1 hS (fun q h => h) dX12_orders_77 rfl rfl ⟨Nat.le_of_ble_eq_true rfl, Nat.le_of_ble_eq_true rfl⟩ rfl rfl (Nat.le_of_ble_eq_true rfl) ⟨Nat.zero_le _, Nat.zero_le _⟩ (fun H locs hP _ hS => ?_)
                refine lv_iload_n hx hb dX12_orders_80 rfl (lv_at hl 4 rfl) ?_
                refine lv_ishr hx hb dX12_orders_81 ?_
                refine nmI (v := ir r_18 v3) rfl ?_
                refine lv_iconst (v := 1) hx hb dX12_orders_82 ki_1 ?_
                refine lv_iand hx hb dX12_orders_83 ?_
                refine lv_iconst (v := 1) hx hb dX12_orders_84 ki_1 ?_
                refine lv_icmp_ne hx hb dX12_orders_85 (tgt := 108) rfl (fun hc => ?_) (fun hc => ?_)
                · replace h := ifn h hc
                  exact hJ108 _ _ _ v3 a_waysOf (lv_sub hl [1, 2, 3, 4] rfl) hP hS h
                · replace h := ifp h hc
                  refine lv_aload_n hx hb dX12_orders_88 rfl (lv_at hl 1 rfl) ?_
                  refine mg_MO_37 hx hb hw hown hK hP dX12_orders_89 ?_
                  refine lv_iload_n hx hb dX12_orders_92 rfl (lv_at hl 3 rfl) ?_
                  refine lv_aload_n hx hb dX12_orders_93 rfl (lv_at hl 1 rfl) ?_
                  refine mg_MO_37 hx hb hw hown hK hP dX12_orders_94 ?_
                  refine lv_iload_n hx hb dX12_orders_97 rfl (lv_at hl 3 rfl) ?_
                  obtain ⟨hin, h⟩ := ck_s h
                  refine md_waysOf hx hb hK hP hin dX12_orders_98 ?_
                  refine lv_aload_n hx hb dX12_orders_99 rfl (lv_at hl 1 rfl) ?_
                  refine mg_MO_37 hx hb hw hown hK hP dX12_orders_100 ?_
                  refine lv_iload hx hb dX12_orders_103 (lv_at hl 0 rfl) ?_
                  obtain ⟨hin, h⟩ := ck_s h
                  refine md_waysOf hx hb hK hP hin dX12_orders_105 ?_
                  refine lv_ladd hx hb dX12_orders_106 ?_
                  obtain ⟨w_20, ew_20, h⟩ := nm_s h
                  refine nmL ew_20 ?_
                  obtain ⟨hin, h⟩ := ck_s h
                  obtain ⟨a_waysOf_21, ea_waysOf_21, h⟩ := nm_s h
                  refine ms_waysOf hx hb hK hP hI hS hin ea_waysOf_21 dX12_orders_107 (fun H locs hP hS => ?_)
                  exact hJ108 _ _ _ v3 a_waysOf_21 (lv_sub hl [1, 2, 3, 4] rfl) hP hS h
      have hJ38 : ∀ (H : Heap) (locs : List Loc) (ls : Array Slot) (v2 : Int32) (a_waysOf : Nat → Int64) , lv_has ls 5 [(0, .ref (ad 0)), (1, .int v1), (2, .int v2)] → mP D ct ad y_km y_tp y_goes y_kin y_qd y_sides y_cuts y_flat y_cp y_cA y_cB y_1X y_1Y y_2X y_2Y y_tm y_cells a_mtape a_flood a_going a_field a_from a_mcrowds a_steps a_queue a_letter a_lineX a_lineY a_triedAt a_cellAt a_besideIn a_apart a_drawer a_mkept a_listed a_mkin a_tried a_takenAt a_waysOf H → va_S (mA ad) s.heap H locs → mo_orders_J38 k11 y_cells a_besideIn v1 v2 a_waysOf = some (r, z_a_waysOf) → W p l e (rmm 2 45) s m av below meth c H locs 0 0 (MQ below (va_Ql (fun z (_ : Unit) => z = r) (fun _ t => mP D ct ad y_km y_tp y_goes y_kin y_qd y_sides y_cuts y_flat y_cp y_cA y_cB y_1X y_1Y y_2X y_2Y y_tm y_cells a_mtape a_flood a_going a_field a_from a_mcrowds a_steps a_queue a_letter a_lineX a_lineY a_triedAt a_cellAt a_besideIn a_apart a_drawer a_mkept a_listed a_mkin a_tried a_takenAt z_a_waysOf t.heap) (mA ad)) av s 0 0 (mA ad)) (F0 m 38 ls []) := by
        intro H locs ls v2 a_waysOf  hl hP hS h
        rw [mo_orders_J38] at h
        refine lv_iconst (v := 0) hx hb dX12_orders_38 ki_0 ?_
        refine lv_istore_n hx hb dX12_orders_39 rfl hl (Nat.le_of_ble_eq_true rfl) (lv' := [(3, .int 0), (0, .ref (ad 0)), (1, .int v1), (2, .int v2)]) rfl (fun ls hl => ?_)
        exact hL40 v2 FU _ _ _ 0 a_waysOf (lv_sub hl [1, 2, 3, 0] rfl) hP hS h
      rw [mo_orders_B11] at h
      refine lv_iload_n hx hb dX12_orders_11 rfl (lv_at hl 2 rfl) ?_
      refine lv_iload_n hx hb dX12_orders_12 rfl (lv_at hl 1 rfl) ?_
      refine lv_icmp_gt hx hb dX12_orders_13 (tgt := 120) rfl (fun hc => ?_) (fun hc => ?_)
      · replace h := ifp h hc
        refine lv_aload_n hx hb dX12_orders_120 rfl (lv_at hl 0 rfl) ?_
        refine mg_MO_37 hx hb hw hown hK hP dX12_orders_121 ?_
        refine lv_iload_n hx hb dX12_orders_124 rfl (lv_at hl 1 rfl) ?_
        obtain ⟨hin, h⟩ := ck_s h
        refine md_waysOf hx hb hK hP hin dX12_orders_125 ?_
        simp only [Option.some.injEq, Prod.mk.injEq] at h
        obtain ⟨rfl, rfl⟩ := h
        exact rc_l hx hb hr hlocks hS dX12_orders_126 rfl hP
      · replace h := ifn h hc
        refine lv_aload_n hx hb dX12_orders_16 rfl (lv_at hl 0 rfl) ?_
        refine mg_MO_37 hx hb hw hown hK hP dX12_orders_17 ?_
        refine lv_iload_n hx hb dX12_orders_20 rfl (lv_at hl 2 rfl) ?_
        refine lv_lconst (v := 0) hx hb dX12_orders_21 kl_0 ?_
        obtain ⟨hin, h⟩ := ck_s h
        obtain ⟨a_waysOf_22, ea_waysOf_22, h⟩ := nm_s h
        refine ms_waysOf hx hb hK hP hI hS hin ea_waysOf_22 dX12_orders_22 (fun H locs hP hS => ?_)
        refine lv_iload_n hx hb dX12_orders_23 rfl (lv_at hl 2 rfl) ?_
        refine lv_iload_n hx hb dX12_orders_24 rfl (lv_at hl 2 rfl) ?_
        refine lv_iconst (v := 1) hx hb dX12_orders_25 ki_1 ?_
        refine lv_isub hx hb dX12_orders_26 ?_
        refine lv_iand hx hb dX12_orders_27 ?_
        refine lv_if_ne hx hb dX12_orders_28 (tgt := 38) rfl (fun hc => ?_) (fun hc => ?_)
        · replace h := ifn h hc
          exact hJ38 _ _ _ v2 a_waysOf_22 (lv_sub hl [0, 1, 2] rfl) hP hS h
        · replace h := ifp h hc
          refine lv_aload_n hx hb dX12_orders_31 rfl (lv_at hl 0 rfl) ?_
          refine mg_MO_37 hx hb hw hown hK hP dX12_orders_32 ?_
          refine lv_iload_n hx hb dX12_orders_35 rfl (lv_at hl 2 rfl) ?_
          refine lv_lconst (v := 1) hx hb dX12_orders_36 kl_1 ?_
          obtain ⟨hin, h⟩ := ck_s h
          obtain ⟨a_waysOf_23, ea_waysOf_23, h⟩ := nm_s h
          refine ms_waysOf hx hb hK hP hI hS hin ea_waysOf_23 dX12_orders_37 (fun H locs hP hS => ?_)
          exact hJ38 _ _ _ v2 a_waysOf_23 (lv_sub hl [0, 1, 2] rfl) hP hS h
  refine lv_iconst (v := 1) hx hb dX12_orders_0 ki_1 ?_
  refine lv_aload_n hx hb dX12_orders_1 rfl (lv_at hl 0 rfl) ?_
  refine mg_MO_38 hx hb hw hown hK hP dX12_orders_2 ?_
  refine lv_ishl hx hb dX12_orders_5 ?_
  refine nmI (v := il 1 y_cells) rfl ?_
  refine lv_iconst (v := 1) hx hb dX12_orders_6 ki_1 ?_
  refine lv_isub hx hb dX12_orders_7 ?_
  obtain ⟨v1_24, ev1_24, h⟩ := nm_s h
  refine nmI ev1_24 ?_
  refine lv_istore_n hx hb dX12_orders_8 rfl hl (Nat.le_of_ble_eq_true rfl) (lv' := [(1, .int v1_24), (0, .ref (ad 0))]) rfl (fun ls hl => ?_)
  refine lv_iconst (v := 1) hx hb dX12_orders_9 ki_1 ?_
  refine lv_istore_n hx hb dX12_orders_10 rfl hl (Nat.le_of_ble_eq_true rfl) (lv' := [(2, .int 1), (1, .int v1_24), (0, .ref (ad 0))]) rfl (fun ls hl => ?_)
  exact hL11 v1_24 y_cells a_besideIn FU _ _ _ 1 a_waysOf (lv_sub hl [2, 1, 0] rfl) hP hS h
noncomputable def mo_paired_J107 (k18 : Int32 → (Nat → Int64) → Option (Int64 × (Nat → Int64))) (k41 : Int32 → (Nat → Int64) → Option (Int64 × (Nat → Int64))) (y_cells : Int32) (a_besideIn : Nat → Int32) (v1 : Int32) (v2 : Int32) (v3 : Int32) (v4 : Int32) (a_waysOf : Nat → Int64)  : Option (Int64 × (Nat → Int64)) :=
  nm (v4 + Int32.ofInt 1) fun v4_1 =>
  k41 v4_1 a_waysOf
noncomputable def mo_paired_B41 (v1 : Int32) (v2 : Int32) (v3 : Int32) (y_cells : Int32) (a_besideIn : Nat → Int32) (k18 : Int32 → (Nat → Int64) → Option (Int64 × (Nat → Int64))) (k41 : Int32 → (Nat → Int64) → Option (Int64 × (Nat → Int64))) (v4 : Int32) (a_waysOf : Nat → Int64) : Option (Int64 × (Nat → Int64)) :=
  if y_cells ≤ v4 then (nm (v2 + Int32.ofInt 1) fun v2_2 =>
  k18 v2_2 a_waysOf) else
  bd1 (mo_has (v2.toInt64) v4) fun r_3 =>
  if r_3 = 0 then (mo_paired_J107 k18 k41 y_cells a_besideIn v1 v2 v3 v4 a_waysOf) else
  ck v3 12 <|
  bd1 (mo_has ((a_besideIn v3.toNatClampNeg).toInt64) v4) fun r_5 =>
  if r_5 = 0 then (mo_paired_J107 k18 k41 y_cells a_besideIn v1 v2 v3 v4 a_waysOf) else
  ck v2 4096 <|
  nm ((v2 &&& ((il 1 v3) ^^^ (-1))) &&& ((il 1 v4) ^^^ (-1)) : Int32) fun i_7 =>
  ck i_7 4096 <|
  nm ((a_waysOf v2.toNatClampNeg) + (a_waysOf i_7.toNatClampNeg) : Int64) fun w_8 =>
  ck v2 4096 <|
  nm (vp_updL a_waysOf v2.toNatClampNeg w_8) fun a_waysOf_9 =>
  mo_paired_J107 k18 k41 y_cells a_besideIn v1 v2 v3 v4 a_waysOf_9
noncomputable def mo_paired_B18 (v1 : Int32) (y_cells : Int32) (a_besideIn : Nat → Int32)  (k18 : Int32 → (Nat → Int64) → Option (Int64 × (Nat → Int64))) (v2 : Int32) (a_waysOf : Nat → Int64) : Option (Int64 × (Nat → Int64)) :=
  if v1 < v2 then (ck v1 4096 <|
  some (a_waysOf v1.toNatClampNeg, a_waysOf)) else
  ck v2 4096 <|
  nm (vp_updL a_waysOf v2.toNatClampNeg 0) fun a_waysOf_10 =>
  bd1 (mo_lowest (v2.toInt64)) fun r_11 =>
  nm (r_11 + 1 : Int32) fun v4_13 =>
  fl2 (mo_paired_B41 v1 v2 r_11 y_cells a_besideIn k18) FU v4_13 a_waysOf_10
noncomputable def mo_paired (y_cells : Int32) (a_besideIn : Nat → Int32) (a_waysOf : Nat → Int64) : Option (Int64 × (Nat → Int64)) :=
  nm ((il 1 y_cells) - 1 : Int32) fun v1_14 =>
  ck 0 4096 <|
  nm (vp_updL a_waysOf (0 : Int32).toNatClampNeg 1) fun a_waysOf_15 =>
  fl2 (mo_paired_B18 v1_14 y_cells a_besideIn) FU 1 a_waysOf_15
set_option maxHeartbeats 4000000 in
set_option maxRecDepth 100000 in
theorem c_mo_paired (l : Launch) (D : va_G) (ct : Nat → ClassId) (ad : Nat → Nat) (hI : mI ad) {y_km y_tp y_goes y_kin y_qd y_sides y_cuts y_flat y_cp y_cA y_cB y_1X y_1Y y_2X y_2Y y_tm y_cells : Int32} {a_mtape a_flood a_going a_field a_from a_mcrowds a_steps a_queue a_letter a_lineX a_lineY a_triedAt a_cellAt a_besideIn a_apart : Nat → Int32} {a_drawer a_mkept a_listed a_mkin a_tried a_takenAt a_waysOf : Nat → Int64}  (r : Int64) (z_a_waysOf : Nat → Int64) (h : mo_paired y_cells a_besideIn a_waysOf = some (r, z_a_waysOf)) : Met l yX12_paired (wm yX12_paired cX12_paired 5 (some .long)) (rmm 1 22) (va_Pc [.ref (ad 0)] (mB D ct ad y_km y_tp y_goes y_kin y_qd y_sides y_cuts y_flat y_cp y_cA y_cB y_1X y_1Y y_2X y_2Y y_tm y_cells a_mtape a_flood a_going a_field a_from a_mcrowds a_steps a_queue a_letter a_lineX a_lineY a_triedAt a_cellAt a_besideIn a_apart a_drawer a_mkept a_listed a_mkin a_tried a_takenAt a_waysOf)) (va_Ql (fun z (_ : Unit) => z = r) (fun _ t => mP D ct ad y_km y_tp y_goes y_kin y_qd y_sides y_cuts y_flat y_cp y_cA y_cB y_1X y_1Y y_2X y_2Y y_tm y_cells a_mtape a_flood a_going a_field a_from a_mcrowds a_steps a_queue a_letter a_lineX a_lineY a_triedAt a_cellAt a_besideIn a_apart a_drawer a_mkept a_listed a_mkin a_tried a_takenAt z_a_waysOf t.heap) (mA ad)) 0 0 (mA ad) := by
  refine met_s (y := yX12_paired) (rm := rmm 1 22) (by decide) (Nat.le_of_ble_eq_true rfl) ?_
  intro p e s m below meth c hx hb hr hw hown hlocks _ hml hB ls hl
  obtain ⟨hN, hK, hP⟩ := hB
  replace hl : lv_has ls 5 [(0, .ref (ad 0))] := hl
  have hS : va_S (mA ad) s.heap s.heap [] := va_S.rf
  generalize (([.ref (ad 0)] : List Value).toArray) = av at hw ⊢
  rw [mo_paired] at h
  have hL18 : ∀ (v1 : Int32), ∀ (y_cells : Int32), ∀ (a_besideIn : Nat → Int32), ∀ (n18 : Nat) (H : Heap) (locs : List Loc) (ls : Array Slot) (v2 : Int32) (a_waysOf : Nat → Int64), lv_has ls 5 [(0, .ref (ad 0)), (1, .int v1), (2, .int v2)] → mP D ct ad y_km y_tp y_goes y_kin y_qd y_sides y_cuts y_flat y_cp y_cA y_cB y_1X y_1Y y_2X y_2Y y_tm y_cells a_mtape a_flood a_going a_field a_from a_mcrowds a_steps a_queue a_letter a_lineX a_lineY a_triedAt a_cellAt a_besideIn a_apart a_drawer a_mkept a_listed a_mkin a_tried a_takenAt a_waysOf H → va_S (mA ad) s.heap H locs → fl2 (mo_paired_B18 v1 y_cells a_besideIn) n18 v2 a_waysOf = some (r, z_a_waysOf) → W p l e (rmm 1 22) s m av below meth c H locs 0 0 (MQ below (va_Ql (fun z (_ : Unit) => z = r) (fun _ t => mP D ct ad y_km y_tp y_goes y_kin y_qd y_sides y_cuts y_flat y_cp y_cA y_cB y_1X y_1Y y_2X y_2Y y_tm y_cells a_mtape a_flood a_going a_field a_from a_mcrowds a_steps a_queue a_letter a_lineX a_lineY a_triedAt a_cellAt a_besideIn a_apart a_drawer a_mkept a_listed a_mkin a_tried a_takenAt z_a_waysOf t.heap) (mA ad)) av s 0 0 (mA ad)) (F0 m 18 ls []) := by
    intro v1 y_cells a_besideIn n18
    induction n18 with
    | zero => intro H locs ls v2 a_waysOf hl hP hS h; cases h
    | succ n18 ih18 =>
      intro H locs ls v2 a_waysOf hl hP hS h
      replace h : mo_paired_B18 v1 y_cells a_besideIn (fl2 (mo_paired_B18 v1 y_cells a_besideIn) n18) v2 a_waysOf = some (r, z_a_waysOf) := h
      generalize fl2 (mo_paired_B18 v1 y_cells a_besideIn) n18 = k18 at h ih18
      have hL41 : ∀ (v2 : Int32), ∀ (v3 : Int32), ∀ (n41 : Nat) (H : Heap) (locs : List Loc) (ls : Array Slot) (v4 : Int32) (a_waysOf : Nat → Int64), lv_has ls 5 [(0, .ref (ad 0)), (1, .int v1), (2, .int v2), (3, .int v3), (4, .int v4)] → mP D ct ad y_km y_tp y_goes y_kin y_qd y_sides y_cuts y_flat y_cp y_cA y_cB y_1X y_1Y y_2X y_2Y y_tm y_cells a_mtape a_flood a_going a_field a_from a_mcrowds a_steps a_queue a_letter a_lineX a_lineY a_triedAt a_cellAt a_besideIn a_apart a_drawer a_mkept a_listed a_mkin a_tried a_takenAt a_waysOf H → va_S (mA ad) s.heap H locs → fl2 (mo_paired_B41 v1 v2 v3 y_cells a_besideIn k18) n41 v4 a_waysOf = some (r, z_a_waysOf) → W p l e (rmm 1 22) s m av below meth c H locs 0 0 (MQ below (va_Ql (fun z (_ : Unit) => z = r) (fun _ t => mP D ct ad y_km y_tp y_goes y_kin y_qd y_sides y_cuts y_flat y_cp y_cA y_cB y_1X y_1Y y_2X y_2Y y_tm y_cells a_mtape a_flood a_going a_field a_from a_mcrowds a_steps a_queue a_letter a_lineX a_lineY a_triedAt a_cellAt a_besideIn a_apart a_drawer a_mkept a_listed a_mkin a_tried a_takenAt z_a_waysOf t.heap) (mA ad)) av s 0 0 (mA ad)) (F0 m 41 ls []) := by
        intro v2 v3 n41
        induction n41 with
        | zero => intro H locs ls v4 a_waysOf hl hP hS h; cases h
        | succ n41 ih41 =>
          intro H locs ls v4 a_waysOf hl hP hS h
          replace h : mo_paired_B41 v1 v2 v3 y_cells a_besideIn k18 (fl2 (mo_paired_B41 v1 v2 v3 y_cells a_besideIn k18) n41) v4 a_waysOf = some (r, z_a_waysOf) := h
          generalize fl2 (mo_paired_B41 v1 v2 v3 y_cells a_besideIn k18) n41 = k41 at h ih41
          have hJ107 : ∀ (H : Heap) (locs : List Loc) (ls : Array Slot) (v4 : Int32) (a_waysOf : Nat → Int64) , lv_has ls 5 [(0, .ref (ad 0)), (1, .int v1), (2, .int v2), (3, .int v3), (4, .int v4)] → mP D ct ad y_km y_tp y_goes y_kin y_qd y_sides y_cuts y_flat y_cp y_cA y_cB y_1X y_1Y y_2X y_2Y y_tm y_cells a_mtape a_flood a_going a_field a_from a_mcrowds a_steps a_queue a_letter a_lineX a_lineY a_triedAt a_cellAt a_besideIn a_apart a_drawer a_mkept a_listed a_mkin a_tried a_takenAt a_waysOf H → va_S (mA ad) s.heap H locs → mo_paired_J107 k18 k41 y_cells a_besideIn v1 v2 v3 v4 a_waysOf = some (r, z_a_waysOf) → W p l e (rmm 1 22) s m av below meth c H locs 0 0 (MQ below (va_Ql (fun z (_ : Unit) => z = r) (fun _ t => mP D ct ad y_km y_tp y_goes y_kin y_qd y_sides y_cuts y_flat y_cp y_cA y_cB y_1X y_1Y y_2X y_2Y y_tm y_cells a_mtape a_flood a_going a_field a_from a_mcrowds a_steps a_queue a_letter a_lineX a_lineY a_triedAt a_cellAt a_besideIn a_apart a_drawer a_mkept a_listed a_mkin a_tried a_takenAt z_a_waysOf t.heap) (mA ad)) av s 0 0 (mA ad)) (F0 m 107 ls []) := by
            intro H locs ls v4 a_waysOf  hl hP hS h
            rw [mo_paired_J107] at h
            obtain ⟨v4_16, ev4_16, h⟩ := nm_s h
            refine lv_iinc hx hb dX12_paired_107 hl (k := 4) rfl ev4_16.symm (Nat.le_of_ble_eq_true rfl) (lv' := [(4, .int v4_16), (0, .ref (ad 0)), (1, .int v1), (2, .int v2), (3, .int v3)]) rfl (fun ls hl => ?_)
            refine lv_goto hx hb dX12_paired_110 (tgt := 41) rfl ?_
            exact ih41 _ _ _ v4_16 a_waysOf (lv_sub hl [1, 2, 3, 4, 0] rfl) hP hS h
          rw [mo_paired_B41] at h
          refine lv_iload hx hb dX12_paired_41 (lv_at hl 4 rfl) ?_
          refine lv_aload_n hx hb dX12_paired_43 rfl (lv_at hl 0 rfl) ?_
          refine mg_MO_38 hx hb hw hown hK hP dX12_paired_44 ?_
          refine lv_icmp_ge hx hb dX12_paired_47 (tgt := 113) rfl (fun hc => ?_) (fun hc => ?_)
          · replace h := ifp h hc
            obtain ⟨v2_17, ev2_17, h⟩ := nm_s h
            refine lv_iinc hx hb dX12_paired_113 hl (k := 2) rfl ev2_17.symm (Nat.le_of_ble_eq_true rfl) (lv' := [(2, .int v2_17), (0, .ref (ad 0)), (1, .int v1), (3, .int v3), (4, .int v4)]) rfl (fun ls hl => ?_)
            refine lv_goto hx hb dX12_paired_116 (tgt := 18) rfl ?_
            exact ih18 _ _ _ v2_17 a_waysOf (lv_sub hl [1, 2, 0] rfl) hP hS h
          · replace h := ifn h hc
            refine lv_iload_n hx hb dX12_paired_50 rfl (lv_at hl 2 rfl) ?_
            refine lv_i2l hx hb (v := v2.toInt64) dX12_paired_51 rfl ?_
            refine lv_iload hx hb dX12_paired_52 (lv_at hl 4 rfl) ?_
            obtain ⟨r_18, hr_19, h⟩ := bd1_s h
            refine sc_i hx hb hml hown hw hN (c_mo_has l (v2.toInt64) v4 r_18 hr_19) g_RX12_86 hd_X12_has (rest := []) hl.1 hS dX12_paired_54 rfl rfl ⟨Nat.le_of_ble_eq_true rfl, Nat.le_of_ble_eq_true rfl⟩ rfl rfl (Nat.le_of_ble_eq_true rfl) ⟨Nat.zero_le _, Nat.zero_le _⟩ (fun H locs hk hS => ?_)
            have hP := mP_kept hP hk
            refine lv_if_eq hx hb dX12_paired_57 (tgt := 107) rfl (fun hc => ?_) (fun hc => ?_)
            · replace h := ifp h hc
              exact hJ107 _ _ _ v4 a_waysOf (lv_sub hl [0, 1, 2, 3, 4] rfl) hP hS h
            · replace h := ifn h hc
              refine lv_aload_n hx hb dX12_paired_60 rfl (lv_at hl 0 rfl) ?_
              refine mg_MO_35 hx hb hw hown hK hP dX12_paired_61 ?_
              refine lv_iload_n hx hb dX12_paired_64 rfl (lv_at hl 3 rfl) ?_
              obtain ⟨hin, h⟩ := ck_s h
              refine md_besideIn hx hb hK hP hin dX12_paired_65 ?_
              refine lv_i2l hx hb (v := (a_besideIn v3.toNatClampNeg).toInt64) dX12_paired_66 rfl ?_
              refine lv_iload hx hb dX12_paired_67 (lv_at hl 4 rfl) ?_
              obtain ⟨r_20, hr_21, h⟩ := bd1_s h
              refine sc_i hx hb hml hown hw hN (c_mo_has l ((a_besideIn v3.toNatClampNeg).toInt64) v4 r_20 hr_21) g_RX12_86 hd_X12_has (rest := []) hl.1 hS dX12_paired_69 rfl rfl ⟨Nat.le_of_ble_eq_true rfl, Nat.le_of_ble_eq_true rfl⟩ rfl rfl (Nat.le_of_ble_eq_true rfl) ⟨Nat.zero_le _, Nat.zero_le _⟩ (fun H locs hk hS => ?_)
              have hP := mP_kept hP hk
              refine lv_if_eq hx hb dX12_paired_72 (tgt := 107) rfl (fun hc => ?_) (fun hc => ?_)
              · replace h := ifp h hc
                exact hJ107 _ _ _ v4 a_waysOf (lv_sub hl [0, 1, 2, 3, 4] rfl) hP hS h
              · replace h := ifn h hc
                refine lv_aload_n hx hb dX12_paired_75 rfl (lv_at hl 0 rfl) ?_
                refine mg_MO_37 hx hb hw hown hK hP dX12_paired_76 ?_
                refine lv_iload_n hx hb dX12_paired_79 rfl (lv_at hl 2 rfl) ?_
                refine lv_aload_n hx hb dX12_paired_80 rfl (lv_at hl 0 rfl) ?_
                refine mg_MO_37 hx hb hw hown hK hP dX12_paired_81 ?_
                refine lv_iload_n hx hb dX12_paired_84 rfl (lv_at hl 2 rfl) ?_
                obtain ⟨hin, h⟩ := ck_s h
                refine md_waysOf hx hb hK hP hin dX12_paired_85 ?_
                refine lv_aload_n hx hb dX12_paired_86 rfl (lv_at hl 0 rfl) ?_
                refine mg_MO_37 hx hb hw hown hK hP dX12_paired_87 ?_
                refine lv_iload_n hx hb dX12_paired_90 rfl (lv_at hl 2 rfl) ?_
                refine lv_iconst (v := 1) hx hb dX12_paired_91 ki_1 ?_
                refine lv_iload_n hx hb dX12_paired_92 rfl (lv_at hl 3 rfl) ?_
                refine lv_ishl hx hb dX12_paired_93 ?_
                refine nmI (v := il 1 v3) rfl ?_
                refine lv_iconst (v := (-1)) hx hb dX12_paired_94 ki_m1 ?_
                refine lv_ixor hx hb dX12_paired_95 ?_
                refine lv_iand hx hb dX12_paired_96 ?_
                refine lv_iconst (v := 1) hx hb dX12_paired_97 ki_1 ?_
                refine lv_iload hx hb dX12_paired_98 (lv_at hl 4 rfl) ?_
                refine lv_ishl hx hb dX12_paired_100 ?_
                refine nmI (v := il 1 v4) rfl ?_
                refine lv_iconst (v := (-1)) hx hb dX12_paired_101 ki_m1 ?_
                refine lv_ixor hx hb dX12_paired_102 ?_
                refine lv_iand hx hb dX12_paired_103 ?_
                obtain ⟨i_22, ei_22, h⟩ := nm_s h
                refine nmI ei_22 ?_
                obtain ⟨hin, h⟩ := ck_s h
                refine md_waysOf hx hb hK hP hin dX12_paired_104 ?_
                refine lv_ladd hx hb dX12_paired_105 ?_
                obtain ⟨w_23, ew_23, h⟩ := nm_s h
                refine nmL ew_23 ?_
                obtain ⟨hin, h⟩ := ck_s h
                obtain ⟨a_waysOf_24, ea_waysOf_24, h⟩ := nm_s h
                refine ms_waysOf hx hb hK hP hI hS hin ea_waysOf_24 dX12_paired_106 (fun H locs hP hS => ?_)
                exact hJ107 _ _ _ v4 a_waysOf_24 (lv_sub hl [0, 1, 2, 3, 4] rfl) hP hS h
      rw [mo_paired_B18] at h
      refine lv_iload_n hx hb dX12_paired_18 rfl (lv_at hl 2 rfl) ?_
      refine lv_iload_n hx hb dX12_paired_19 rfl (lv_at hl 1 rfl) ?_
      refine lv_icmp_gt hx hb dX12_paired_20 (tgt := 119) rfl (fun hc => ?_) (fun hc => ?_)
      · replace h := ifp h hc
        refine lv_aload_n hx hb dX12_paired_119 rfl (lv_at hl 0 rfl) ?_
        refine mg_MO_37 hx hb hw hown hK hP dX12_paired_120 ?_
        refine lv_iload_n hx hb dX12_paired_123 rfl (lv_at hl 1 rfl) ?_
        obtain ⟨hin, h⟩ := ck_s h
        refine md_waysOf hx hb hK hP hin dX12_paired_124 ?_
        simp only [Option.some.injEq, Prod.mk.injEq] at h
        obtain ⟨rfl, rfl⟩ := h
        exact rc_l hx hb hr hlocks hS dX12_paired_125 rfl hP
      · replace h := ifn h hc
        refine lv_aload_n hx hb dX12_paired_23 rfl (lv_at hl 0 rfl) ?_
        refine mg_MO_37 hx hb hw hown hK hP dX12_paired_24 ?_
        refine lv_iload_n hx hb dX12_paired_27 rfl (lv_at hl 2 rfl) ?_
        refine lv_lconst (v := 0) hx hb dX12_paired_28 kl_0 ?_
        obtain ⟨hin, h⟩ := ck_s h
        obtain ⟨a_waysOf_25, ea_waysOf_25, h⟩ := nm_s h
        refine ms_waysOf hx hb hK hP hI hS hin ea_waysOf_25 dX12_paired_29 (fun H locs hP hS => ?_)
        refine lv_iload_n hx hb dX12_paired_30 rfl (lv_at hl 2 rfl) ?_
        refine lv_i2l hx hb (v := v2.toInt64) dX12_paired_31 rfl ?_
        obtain ⟨r_26, hr_27, h⟩ := bd1_s h
        refine sc_i hx hb hml hown hw hN (c_mo_lowest l (v2.toInt64) r_26 hr_27) g_RX12_270 hd_X12_lowest (rest := []) hl.1 hS dX12_paired_32 rfl rfl ⟨Nat.le_of_ble_eq_true rfl, Nat.le_of_ble_eq_true rfl⟩ rfl rfl (Nat.le_of_ble_eq_true rfl) ⟨Nat.zero_le _, Nat.zero_le _⟩ (fun H locs hk hS => ?_)
        have hP := mP_kept hP hk
        refine lv_istore_n hx hb dX12_paired_35 rfl hl (Nat.le_of_ble_eq_true rfl) (lv' := [(3, .int r_26), (0, .ref (ad 0)), (1, .int v1), (2, .int v2)]) rfl (fun ls hl => ?_)
        refine lv_iload_n hx hb dX12_paired_36 rfl (lv_at hl 0 rfl) ?_
        refine lv_iconst (v := 1) hx hb dX12_paired_37 ki_1 ?_
        refine lv_iadd hx hb dX12_paired_38 ?_
        obtain ⟨v4_28, ev4_28, h⟩ := nm_s h
        refine nmI ev4_28 ?_
        refine lv_istore hx hb dX12_paired_39 hl (Nat.le_of_ble_eq_true rfl) (lv' := [(4, .int v4_28), (3, .int r_26), (0, .ref (ad 0)), (1, .int v1), (2, .int v2)]) rfl (fun ls hl => ?_)
        exact hL41 v2 r_26 FU _ _ _ v4_28 a_waysOf_25 (lv_sub hl [2, 3, 4, 1, 0] rfl) hP hS h
  refine lv_iconst (v := 1) hx hb dX12_paired_0 ki_1 ?_
  refine lv_aload_n hx hb dX12_paired_1 rfl (lv_at hl 0 rfl) ?_
  refine mg_MO_38 hx hb hw hown hK hP dX12_paired_2 ?_
  refine lv_ishl hx hb dX12_paired_5 ?_
  refine nmI (v := il 1 y_cells) rfl ?_
  refine lv_iconst (v := 1) hx hb dX12_paired_6 ki_1 ?_
  refine lv_isub hx hb dX12_paired_7 ?_
  obtain ⟨v1_29, ev1_29, h⟩ := nm_s h
  refine nmI ev1_29 ?_
  refine lv_istore_n hx hb dX12_paired_8 rfl hl (Nat.le_of_ble_eq_true rfl) (lv' := [(1, .int v1_29), (0, .ref (ad 0))]) rfl (fun ls hl => ?_)
  refine lv_aload_n hx hb dX12_paired_9 rfl (lv_at hl 1 rfl) ?_
  refine mg_MO_37 hx hb hw hown hK hP dX12_paired_10 ?_
  refine lv_iconst (v := 0) hx hb dX12_paired_13 ki_0 ?_
  refine lv_lconst (v := 1) hx hb dX12_paired_14 kl_1 ?_
  obtain ⟨hin, h⟩ := ck_s h
  obtain ⟨a_waysOf_30, ea_waysOf_30, h⟩ := nm_s h
  refine ms_waysOf hx hb hK hP hI hS hin ea_waysOf_30 dX12_paired_15 (fun H locs hP hS => ?_)
  refine lv_iconst (v := 1) hx hb dX12_paired_16 ki_1 ?_
  refine lv_istore_n hx hb dX12_paired_17 rfl hl (Nat.le_of_ble_eq_true rfl) (lv' := [(2, .int 1), (1, .int v1_29), (0, .ref (ad 0))]) rfl (fun ls hl => ?_)
  exact hL18 v1_29 y_cells a_besideIn FU _ _ _ 1 a_waysOf_30 (lv_sub hl [2, 1, 0] rfl) hP hS h
noncomputable def mo_halved_J112 (k26 : Int32 → Int32 → Option (Int64)) (y_cells : Int32) (a_cellAt : Nat → Int32) (v1 : Int32) (v2 : Int32) (v3 : Int32) (v4 : Int32)  : Option (Int64) :=
  nm (v4 + 2 : Int32) fun v4_1 =>
  k26 v3 v4_1
noncomputable def mo_halved_B26 (v1 : Int32) (v2 : Int32) (y_cells : Int32) (a_cellAt : Nat → Int32)  (k26 : Int32 → Int32 → Option (Int64)) (v3 : Int32) (v4 : Int32) : Option (Int64) :=
  if v2 ≤ v4 then (some (v3.toInt64)) else
  bd1 (mo_bits (v4.toInt64)) fun r_2 =>
  if (r_2 * 2) = y_cells then (bd1 (mo_figureOf v4 y_cells a_cellAt) fun r_4 =>
  bd1 (mo_figureOf (v2 &&& (v4 ^^^ (-1))) y_cells a_cellAt) fun r_6 =>
  bd1 (mo_hangs r_4) fun r_8 =>
  if r_8 = 0 then (mo_halved_J112 k26 y_cells a_cellAt v1 v2 v3 v4) else
  bd1 (mo_hangs r_6) fun r_10 =>
  if r_10 = 0 then (mo_halved_J112 k26 y_cells a_cellAt v1 v2 v3 v4) else
  bd1 (mo_moved r_4) fun r_12 =>
  bd1 (mo_ownOf r_12 v1) fun r_14 =>
  bd1 (mo_moved r_6) fun r_16 =>
  bd1 (mo_ownOf r_16 v1) fun r_18 =>
  if r_14 = r_18 then (nm (v3 + 1 : Int32) fun v3_20 =>
  mo_halved_J112 k26 y_cells a_cellAt v1 v2 v3_20 v4) else
  mo_halved_J112 k26 y_cells a_cellAt v1 v2 v3 v4) else
  mo_halved_J112 k26 y_cells a_cellAt v1 v2 v3 v4
noncomputable def mo_halved (v1 : Int32) (y_cells : Int32) (a_cellAt : Nat → Int32) : Option (Int64) :=
  dzI 2 <|
  if (remI y_cells 2) = 1 then (some (0)) else
  nm ((il 1 y_cells) - 1 : Int32) fun v2_21 =>
  fl2 (mo_halved_B26 v1 v2_21 y_cells a_cellAt) FU 0 1
set_option maxHeartbeats 4000000 in
set_option maxRecDepth 100000 in
theorem c_mo_halved (l : Launch) (D : va_G) (ct : Nat → ClassId) (ad : Nat → Nat) (hI : mI ad) {y_km y_tp y_goes y_kin y_qd y_sides y_cuts y_flat y_cp y_cA y_cB y_1X y_1Y y_2X y_2Y y_tm y_cells : Int32} {a_mtape a_flood a_going a_field a_from a_mcrowds a_steps a_queue a_letter a_lineX a_lineY a_triedAt a_cellAt a_besideIn a_apart : Nat → Int32} {a_drawer a_mkept a_listed a_mkin a_tried a_takenAt a_waysOf : Nat → Int64} (v1 : Int32) (r : Int64)  (h : mo_halved v1 y_cells a_cellAt = some (r)) : Met l yX12_halved (wm yX12_halved cX12_halved 9 (some .long)) (rmm 3 75) (va_Pc [.ref (ad 0), .int v1] (mB D ct ad y_km y_tp y_goes y_kin y_qd y_sides y_cuts y_flat y_cp y_cA y_cB y_1X y_1Y y_2X y_2Y y_tm y_cells a_mtape a_flood a_going a_field a_from a_mcrowds a_steps a_queue a_letter a_lineX a_lineY a_triedAt a_cellAt a_besideIn a_apart a_drawer a_mkept a_listed a_mkin a_tried a_takenAt a_waysOf)) (va_Ql (fun z (_ : Unit) => z = r) (fun _ t => mP D ct ad y_km y_tp y_goes y_kin y_qd y_sides y_cuts y_flat y_cp y_cA y_cB y_1X y_1Y y_2X y_2Y y_tm y_cells a_mtape a_flood a_going a_field a_from a_mcrowds a_steps a_queue a_letter a_lineX a_lineY a_triedAt a_cellAt a_besideIn a_apart a_drawer a_mkept a_listed a_mkin a_tried a_takenAt a_waysOf t.heap) (mA ad)) 0 0 (mA ad) := by
  refine met_s (y := yX12_halved) (rm := rmm 3 75) (by decide) (Nat.le_of_ble_eq_true rfl) ?_
  intro p e s m below meth c hx hb hr hw hown hlocks _ hml hB ls hl
  obtain ⟨hN, hK, hP⟩ := hB
  replace hl : lv_has ls 9 [(0, .ref (ad 0)), (1, .int v1)] := hl
  have hS : va_S (mA ad) s.heap s.heap [] := va_S.rf
  generalize (([.ref (ad 0), .int v1] : List Value).toArray) = av at hw ⊢
  rw [mo_halved] at h
  have hL26 : ∀ (v1 : Int32), ∀ (v2 : Int32), ∀ (y_cells : Int32), ∀ (a_cellAt : Nat → Int32), ∀ (n26 : Nat) (H : Heap) (locs : List Loc) (ls : Array Slot) (v3 : Int32) (v4 : Int32), lv_has ls 9 [(0, .ref (ad 0)), (1, .int v1), (2, .int v2), (3, .int v3), (4, .int v4)] → mP D ct ad y_km y_tp y_goes y_kin y_qd y_sides y_cuts y_flat y_cp y_cA y_cB y_1X y_1Y y_2X y_2Y y_tm y_cells a_mtape a_flood a_going a_field a_from a_mcrowds a_steps a_queue a_letter a_lineX a_lineY a_triedAt a_cellAt a_besideIn a_apart a_drawer a_mkept a_listed a_mkin a_tried a_takenAt a_waysOf H → va_S (mA ad) s.heap H locs → fl2 (mo_halved_B26 v1 v2 y_cells a_cellAt) n26 v3 v4 = some (r) → W p l e (rmm 3 75) s m av below meth c H locs 0 0 (MQ below (va_Ql (fun z (_ : Unit) => z = r) (fun _ t => mP D ct ad y_km y_tp y_goes y_kin y_qd y_sides y_cuts y_flat y_cp y_cA y_cB y_1X y_1Y y_2X y_2Y y_tm y_cells a_mtape a_flood a_going a_field a_from a_mcrowds a_steps a_queue a_letter a_lineX a_lineY a_triedAt a_cellAt a_besideIn a_apart a_drawer a_mkept a_listed a_mkin a_tried a_takenAt a_waysOf t.heap) (mA ad)) av s 0 0 (mA ad)) (F0 m 26 ls []) := by
    intro v1 v2 y_cells a_cellAt n26
    induction n26 with
    | zero => intro H locs ls v3 v4 hl hP hS h; cases h
    | succ n26 ih26 =>
      intro H locs ls v3 v4 hl hP hS h
      replace h : mo_halved_B26 v1 v2 y_cells a_cellAt (fl2 (mo_halved_B26 v1 v2 y_cells a_cellAt) n26) v3 v4 = some (r) := h
      generalize fl2 (mo_halved_B26 v1 v2 y_cells a_cellAt) n26 = k26 at h ih26
      have hJ112 : ∀ (H : Heap) (locs : List Loc) (ls : Array Slot) (v3 : Int32) (v4 : Int32) , lv_has ls 9 [(0, .ref (ad 0)), (1, .int v1), (2, .int v2), (3, .int v3), (4, .int v4)] → mP D ct ad y_km y_tp y_goes y_kin y_qd y_sides y_cuts y_flat y_cp y_cA y_cB y_1X y_1Y y_2X y_2Y y_tm y_cells a_mtape a_flood a_going a_field a_from a_mcrowds a_steps a_queue a_letter a_lineX a_lineY a_triedAt a_cellAt a_besideIn a_apart a_drawer a_mkept a_listed a_mkin a_tried a_takenAt a_waysOf H → va_S (mA ad) s.heap H locs → mo_halved_J112 k26 y_cells a_cellAt v1 v2 v3 v4 = some (r) → W p l e (rmm 3 75) s m av below meth c H locs 0 0 (MQ below (va_Ql (fun z (_ : Unit) => z = r) (fun _ t => mP D ct ad y_km y_tp y_goes y_kin y_qd y_sides y_cuts y_flat y_cp y_cA y_cB y_1X y_1Y y_2X y_2Y y_tm y_cells a_mtape a_flood a_going a_field a_from a_mcrowds a_steps a_queue a_letter a_lineX a_lineY a_triedAt a_cellAt a_besideIn a_apart a_drawer a_mkept a_listed a_mkin a_tried a_takenAt a_waysOf t.heap) (mA ad)) av s 0 0 (mA ad)) (F0 m 112 ls []) := by
        intro H locs ls v3 v4  hl hP hS h
        rw [mo_halved_J112] at h
        refine lv_iload hx hb dX12_halved_112 (lv_at hl 4 rfl) ?_
        refine lv_iconst (v := 2) hx hb dX12_halved_114 ki_2 ?_
        refine lv_iadd hx hb dX12_halved_115 ?_
        obtain ⟨v4_22, ev4_22, h⟩ := nm_s h
        refine nmI ev4_22 ?_
        refine lv_istore hx hb dX12_halved_116 hl (Nat.le_of_ble_eq_true rfl) (lv' := [(4, .int v4_22), (0, .ref (ad 0)), (1, .int v1), (2, .int v2), (3, .int v3)]) rfl (fun ls hl => ?_)
        refine lv_goto hx hb dX12_halved_118 (tgt := 26) rfl ?_
        exact ih26 _ _ _ v3 v4_22 (lv_sub hl [1, 2, 3, 4, 0] rfl) hP hS h
      rw [mo_halved_B26] at h
      refine lv_iload hx hb dX12_halved_26 (lv_at hl 4 rfl) ?_
      refine lv_iload_n hx hb dX12_halved_28 rfl (lv_at hl 2 rfl) ?_
      refine lv_icmp_ge hx hb dX12_halved_29 (tgt := 121) rfl (fun hc => ?_) (fun hc => ?_)
      · replace h := ifp h hc
        refine lv_iload_n hx hb dX12_halved_121 rfl (lv_at hl 3 rfl) ?_
        refine lv_i2l hx hb (v := v3.toInt64) dX12_halved_122 rfl ?_
        replace h := Option.some.inj h
        subst h
        exact rc_l hx hb hr hlocks hS dX12_halved_123 rfl hP
      · replace h := ifn h hc
        refine lv_iload hx hb dX12_halved_32 (lv_at hl 4 rfl) ?_
        refine lv_i2l hx hb (v := v4.toInt64) dX12_halved_34 rfl ?_
        obtain ⟨r_23, hr_24, h⟩ := bd1_s h
        refine sc_i hx hb hml hown hw hN (c_mo_bits l (v4.toInt64) r_23 hr_24) g_RX12_106 hd_X12_bits (rest := []) hl.1 hS dX12_halved_35 rfl rfl ⟨Nat.le_of_ble_eq_true rfl, Nat.le_of_ble_eq_true rfl⟩ rfl rfl (Nat.le_of_ble_eq_true rfl) ⟨Nat.zero_le _, Nat.zero_le _⟩ (fun H locs hk hS => ?_)
        have hP := mP_kept hP hk
        refine lv_iconst (v := 2) hx hb dX12_halved_38 ki_2 ?_
        refine lv_imul hx hb dX12_halved_39 ?_
        refine lv_aload_n hx hb dX12_halved_40 rfl (lv_at hl 0 rfl) ?_
        refine mg_MO_38 hx hb hw hown hK hP dX12_halved_41 ?_
        refine lv_icmp_eq hx hb dX12_halved_44 (tgt := 50) rfl (fun hc => ?_) (fun hc => ?_)
        · replace h := ifp h hc
          refine lv_aload_n hx hb dX12_halved_50 rfl (lv_at hl 0 rfl) ?_
          refine lv_iload hx hb dX12_halved_51 (lv_at hl 4 rfl) ?_
          obtain ⟨r_25, hr_26, h⟩ := bd1_s h
          refine hv_l hx hb hml hown hw mB_bl (mB_of hN hK hP) (mr_MO hK hP) (c_mo_figureOf l D ct ad hI v4 r_25 hr_26) g_RX12_345 ⟨rfl, hd_X12_figureOf⟩ (rest := []) hl.1 hS (fun q h => h) dX12_halved_53 rfl rfl ⟨Nat.le_of_ble_eq_true rfl, Nat.le_of_ble_eq_true rfl⟩ rfl rfl (Nat.le_of_ble_eq_true rfl) ⟨Nat.zero_le _, Nat.zero_le _⟩ (fun H locs hP _ hS => ?_)
          refine lv_lstore hx hb dX12_halved_56 hl (Nat.le_of_ble_eq_true rfl) (lv' := [(5, .long r_25), (0, .ref (ad 0)), (1, .int v1), (2, .int v2), (3, .int v3), (4, .int v4)]) rfl (fun ls hl => ?_)
          refine lv_aload_n hx hb dX12_halved_58 rfl (lv_at hl 1 rfl) ?_
          refine lv_iload_n hx hb dX12_halved_59 rfl (lv_at hl 3 rfl) ?_
          refine lv_iload hx hb dX12_halved_60 (lv_at hl 5 rfl) ?_
          refine lv_iconst (v := (-1)) hx hb dX12_halved_62 ki_m1 ?_
          refine lv_ixor hx hb dX12_halved_63 ?_
          refine lv_iand hx hb dX12_halved_64 ?_
          obtain ⟨r_27, hr_28, h⟩ := bd1_s h
          refine hv_l hx hb hml hown hw mB_bl (mB_of hN hK hP) (mr_MO hK hP) (c_mo_figureOf l D ct ad hI (v2 &&& (v4 ^^^ (-1))) r_27 hr_28) g_RX12_345 ⟨rfl, hd_X12_figureOf⟩ (rest := []) hl.1 hS (fun q h => h) dX12_halved_65 rfl rfl ⟨Nat.le_of_ble_eq_true rfl, Nat.le_of_ble_eq_true rfl⟩ rfl rfl (Nat.le_of_ble_eq_true rfl) ⟨Nat.zero_le _, Nat.zero_le _⟩ (fun H locs hP _ hS => ?_)
          refine lv_lstore hx hb dX12_halved_68 hl (Nat.le_of_ble_eq_true rfl) (lv' := [(7, .long r_27), (5, .long r_25), (0, .ref (ad 0)), (1, .int v1), (2, .int v2), (3, .int v3), (4, .int v4)]) rfl (fun ls hl => ?_)
          refine lv_lload hx hb dX12_halved_70 (lv_at hl 1 rfl) ?_
          obtain ⟨r_29, hr_30, h⟩ := bd1_s h
          refine sc_i hx hb hml hown hw hN (c_mo_hangs l r_25 r_29 hr_30) g_RX12_110 hd_X12_hangs (rest := []) hl.1 hS dX12_halved_72 rfl rfl ⟨Nat.le_of_ble_eq_true rfl, Nat.le_of_ble_eq_true rfl⟩ rfl rfl (Nat.le_of_ble_eq_true rfl) ⟨Nat.zero_le _, Nat.zero_le _⟩ (fun H locs hk hS => ?_)
          have hP := mP_kept hP hk
          refine lv_if_eq hx hb dX12_halved_75 (tgt := 112) rfl (fun hc => ?_) (fun hc => ?_)
          · replace h := ifp h hc
            exact hJ112 _ _ _ v3 v4 (lv_sub hl [2, 3, 4, 5, 6] rfl) hP hS h
          · replace h := ifn h hc
            refine lv_lload hx hb dX12_halved_78 (lv_at hl 0 rfl) ?_
            obtain ⟨r_31, hr_32, h⟩ := bd1_s h
            refine sc_i hx hb hml hown hw hN (c_mo_hangs l r_27 r_31 hr_32) g_RX12_110 hd_X12_hangs (rest := []) hl.1 hS dX12_halved_80 rfl rfl ⟨Nat.le_of_ble_eq_true rfl, Nat.le_of_ble_eq_true rfl⟩ rfl rfl (Nat.le_of_ble_eq_true rfl) ⟨Nat.zero_le _, Nat.zero_le _⟩ (fun H locs hk hS => ?_)
            have hP := mP_kept hP hk
            refine lv_if_eq hx hb dX12_halved_83 (tgt := 112) rfl (fun hc => ?_) (fun hc => ?_)
            · replace h := ifp h hc
              exact hJ112 _ _ _ v3 v4 (lv_sub hl [2, 3, 4, 5, 6] rfl) hP hS h
            · replace h := ifn h hc
              refine lv_lload hx hb dX12_halved_86 (lv_at hl 1 rfl) ?_
              obtain ⟨r_33, hr_34, h⟩ := bd1_s h
              refine sc_l hx hb hml hown hw hN (c_mo_moved l r_25 r_33 hr_34) g_RX12_114 hd_X12_moved (rest := []) hl.1 hS dX12_halved_88 rfl rfl ⟨Nat.le_of_ble_eq_true rfl, Nat.le_of_ble_eq_true rfl⟩ rfl rfl (Nat.le_of_ble_eq_true rfl) ⟨Nat.zero_le _, Nat.zero_le _⟩ (fun H locs hk hS => ?_)
              have hP := mP_kept hP hk
              refine lv_iload_n hx hb dX12_halved_91 rfl (lv_at hl 3 rfl) ?_
              obtain ⟨r_35, hr_36, h⟩ := bd1_s h
              refine sc_l hx hb hml hown hw hN (c_mo_ownOf l r_33 v1 r_35 hr_36) g_RX12_199 hd_X12_ownOf (rest := []) hl.1 hS dX12_halved_92 rfl rfl ⟨Nat.le_of_ble_eq_true rfl, Nat.le_of_ble_eq_true rfl⟩ rfl rfl (Nat.le_of_ble_eq_true rfl) ⟨Nat.zero_le _, Nat.zero_le _⟩ (fun H locs hk hS => ?_)
              have hP := mP_kept hP hk
              refine lv_lload hx hb dX12_halved_95 (lv_at hl 0 rfl) ?_
              obtain ⟨r_37, hr_38, h⟩ := bd1_s h
              refine sc_l hx hb hml hown hw hN (c_mo_moved l r_27 r_37 hr_38) g_RX12_114 hd_X12_moved (rest := [.long r_35]) hl.1 hS dX12_halved_97 rfl rfl ⟨Nat.le_of_ble_eq_true rfl, Nat.le_of_ble_eq_true rfl⟩ rfl rfl (Nat.le_of_ble_eq_true rfl) ⟨Nat.zero_le _, Nat.zero_le _⟩ (fun H locs hk hS => ?_)
              have hP := mP_kept hP hk
              refine lv_iload_n hx hb dX12_halved_100 rfl (lv_at hl 3 rfl) ?_
              obtain ⟨r_39, hr_40, h⟩ := bd1_s h
              refine sc_l hx hb hml hown hw hN (c_mo_ownOf l r_37 v1 r_39 hr_40) g_RX12_199 hd_X12_ownOf (rest := [.long r_35]) hl.1 hS dX12_halved_101 rfl rfl ⟨Nat.le_of_ble_eq_true rfl, Nat.le_of_ble_eq_true rfl⟩ rfl rfl (Nat.le_of_ble_eq_true rfl) ⟨Nat.zero_le _, Nat.zero_le _⟩ (fun H locs hk hS => ?_)
              have hP := mP_kept hP hk
              refine W.lcmp hx hb dX12_halved_104 ?_
              refine lv_if_ne hx hb dX12_halved_105 (tgt := 112) rfl (fun hc => ?_) (fun hc => ?_)
              · replace h := ifn h (fun q => hc ((lg_cmp_eq _ _).mpr q))
                exact hJ112 _ _ _ v3 v4 (lv_sub hl [2, 3, 4, 5, 6] rfl) hP hS h
              · replace h := ifp h ((lg_cmp_eq _ _).mp hc)
                refine lv_iload_n hx hb dX12_halved_108 rfl (lv_at hl 5 rfl) ?_
                refine lv_iconst (v := 1) hx hb dX12_halved_109 ki_1 ?_
                refine lv_iadd hx hb dX12_halved_110 ?_
                obtain ⟨v3_41, ev3_41, h⟩ := nm_s h
                refine nmI ev3_41 ?_
                refine lv_istore_n hx hb dX12_halved_111 rfl hl (Nat.le_of_ble_eq_true rfl) (lv' := [(3, .int v3_41), (7, .long r_27), (5, .long r_25), (0, .ref (ad 0)), (1, .int v1), (2, .int v2), (4, .int v4)]) rfl (fun ls hl => ?_)
                exact hJ112 _ _ _ v3_41 v4 (lv_sub hl [3, 4, 5, 0, 6] rfl) hP hS h
        · replace h := ifn h hc
          refine lv_goto hx hb dX12_halved_47 (tgt := 112) rfl ?_
          exact hJ112 _ _ _ v3 v4 (lv_sub hl [0, 1, 2, 3, 4] rfl) hP hS h
  refine lv_aload_n hx hb dX12_halved_0 rfl (lv_at hl 0 rfl) ?_
  refine mg_MO_38 hx hb hw hown hK hP dX12_halved_1 ?_
  refine lv_iconst (v := 2) hx hb dX12_halved_4 ki_2 ?_
  obtain ⟨hne, h⟩ := dzI_s h
  refine lv_irem hx hb dX12_halved_5 hne ?_
  refine nmI (v := remI y_cells 2) rfl ?_
  refine lv_iconst (v := 1) hx hb dX12_halved_6 ki_1 ?_
  refine lv_icmp_ne hx hb dX12_halved_7 (tgt := 12) rfl (fun hc => ?_) (fun hc => ?_)
  · replace h := ifn h hc
    refine lv_iconst (v := 1) hx hb dX12_halved_12 ki_1 ?_
    refine lv_aload_n hx hb dX12_halved_13 rfl (lv_at hl 0 rfl) ?_
    refine mg_MO_38 hx hb hw hown hK hP dX12_halved_14 ?_
    refine lv_ishl hx hb dX12_halved_17 ?_
    refine nmI (v := il 1 y_cells) rfl ?_
    refine lv_iconst (v := 1) hx hb dX12_halved_18 ki_1 ?_
    refine lv_isub hx hb dX12_halved_19 ?_
    obtain ⟨v2_42, ev2_42, h⟩ := nm_s h
    refine nmI ev2_42 ?_
    refine lv_istore_n hx hb dX12_halved_20 rfl hl (Nat.le_of_ble_eq_true rfl) (lv' := [(2, .int v2_42), (0, .ref (ad 0)), (1, .int v1)]) rfl (fun ls hl => ?_)
    refine lv_iconst (v := 0) hx hb dX12_halved_21 ki_0 ?_
    refine lv_istore_n hx hb dX12_halved_22 rfl hl (Nat.le_of_ble_eq_true rfl) (lv' := [(3, .int 0), (2, .int v2_42), (0, .ref (ad 0)), (1, .int v1)]) rfl (fun ls hl => ?_)
    refine lv_iconst (v := 1) hx hb dX12_halved_23 ki_1 ?_
    refine lv_istore hx hb dX12_halved_24 hl (Nat.le_of_ble_eq_true rfl) (lv' := [(4, .int 1), (3, .int 0), (2, .int v2_42), (0, .ref (ad 0)), (1, .int v1)]) rfl (fun ls hl => ?_)
    exact hL26 v1 v2_42 y_cells a_cellAt FU _ _ _ 0 1 (lv_sub hl [3, 4, 2, 1, 0] rfl) hP hS h
  · replace h := ifp h hc
    refine lv_lconst (v := 0) hx hb dX12_halved_10 kl_0 ?_
    replace h := Option.some.inj h
    subst h
    exact rc_l hx hb hr hlocks hS dX12_halved_11 rfl hP
noncomputable def mo_across_J56 (k4 : Int32 → Int32 → Option (Int64)) (y_cells : Int32) (a_besideIn : Nat → Int32) (v2 : Int32) (t0 : Int32) : Option (Int64) :=
  nm (v2 + Int32.ofInt 1) fun v2_1 =>
  k4 t0 v2_1
noncomputable def mo_across_B19 (v1 : Int32) (v2 : Int32) (y_cells : Int32) (a_besideIn : Nat → Int32) (k4 : Int32 → Int32 → Option (Int64)) (k19 : Int32 → Int32 → Option (Int64)) (v3 : Int32) (v4 : Int32) : Option (Int64) :=
  bd1 (mo_besideAll v3 y_cells a_besideIn) fun r_2 =>
  if r_2 = 0 then (if v4 ≤ v1 then (mo_across_J56 k4 y_cells a_besideIn v2 v1) else
  mo_across_J56 k4 y_cells a_besideIn v2 v4) else
  bd1 (mo_besideAll v3 y_cells a_besideIn) fun r_4 =>
  nm (v3 ||| r_4 : Int32) fun v3_6 =>
  nm (v4 + 1 : Int32) fun v4_7 =>
  k19 v3_6 v4_7
noncomputable def mo_across_B4 (y_cells : Int32) (a_besideIn : Nat → Int32)  (k4 : Int32 → Int32 → Option (Int64)) (v1 : Int32) (v2 : Int32) : Option (Int64) :=
  if y_cells ≤ v2 then (some (v1.toInt64)) else
  nm (il 1 v2 : Int32) fun v3_8 =>
  fl2 (mo_across_B19 v1 v2 y_cells a_besideIn k4) FU v3_8 0
noncomputable def mo_across (y_cells : Int32) (a_besideIn : Nat → Int32) : Option (Int64) :=
  fl2 (mo_across_B4 y_cells a_besideIn) FU 0 0
set_option maxHeartbeats 4000000 in
set_option maxRecDepth 100000 in
theorem c_mo_across (l : Launch) (D : va_G) (ct : Nat → ClassId) (ad : Nat → Nat) (hI : mI ad) {y_km y_tp y_goes y_kin y_qd y_sides y_cuts y_flat y_cp y_cA y_cB y_1X y_1Y y_2X y_2Y y_tm y_cells : Int32} {a_mtape a_flood a_going a_field a_from a_mcrowds a_steps a_queue a_letter a_lineX a_lineY a_triedAt a_cellAt a_besideIn a_apart : Nat → Int32} {a_drawer a_mkept a_listed a_mkin a_tried a_takenAt a_waysOf : Nat → Int64}  (r : Int64)  (h : mo_across y_cells a_besideIn = some (r)) : Met l yX12_across (wm yX12_across cX12_across 5 (some .long)) (rmm 2 45) (va_Pc [.ref (ad 0)] (mB D ct ad y_km y_tp y_goes y_kin y_qd y_sides y_cuts y_flat y_cp y_cA y_cB y_1X y_1Y y_2X y_2Y y_tm y_cells a_mtape a_flood a_going a_field a_from a_mcrowds a_steps a_queue a_letter a_lineX a_lineY a_triedAt a_cellAt a_besideIn a_apart a_drawer a_mkept a_listed a_mkin a_tried a_takenAt a_waysOf)) (va_Ql (fun z (_ : Unit) => z = r) (fun _ t => mP D ct ad y_km y_tp y_goes y_kin y_qd y_sides y_cuts y_flat y_cp y_cA y_cB y_1X y_1Y y_2X y_2Y y_tm y_cells a_mtape a_flood a_going a_field a_from a_mcrowds a_steps a_queue a_letter a_lineX a_lineY a_triedAt a_cellAt a_besideIn a_apart a_drawer a_mkept a_listed a_mkin a_tried a_takenAt a_waysOf t.heap) (mA ad)) 0 0 (mA ad) := by
  refine met_s (y := yX12_across) (rm := rmm 2 45) (by decide) (Nat.le_of_ble_eq_true rfl) ?_
  intro p e s m below meth c hx hb hr hw hown hlocks _ hml hB ls hl
  obtain ⟨hN, hK, hP⟩ := hB
  replace hl : lv_has ls 5 [(0, .ref (ad 0))] := hl
  have hS : va_S (mA ad) s.heap s.heap [] := va_S.rf
  generalize (([.ref (ad 0)] : List Value).toArray) = av at hw ⊢
  rw [mo_across] at h
  have hL4 : ∀ (y_cells : Int32), ∀ (a_besideIn : Nat → Int32), ∀ (n4 : Nat) (H : Heap) (locs : List Loc) (ls : Array Slot) (v1 : Int32) (v2 : Int32), lv_has ls 5 [(0, .ref (ad 0)), (1, .int v1), (2, .int v2)] → mP D ct ad y_km y_tp y_goes y_kin y_qd y_sides y_cuts y_flat y_cp y_cA y_cB y_1X y_1Y y_2X y_2Y y_tm y_cells a_mtape a_flood a_going a_field a_from a_mcrowds a_steps a_queue a_letter a_lineX a_lineY a_triedAt a_cellAt a_besideIn a_apart a_drawer a_mkept a_listed a_mkin a_tried a_takenAt a_waysOf H → va_S (mA ad) s.heap H locs → fl2 (mo_across_B4 y_cells a_besideIn) n4 v1 v2 = some (r) → W p l e (rmm 2 45) s m av below meth c H locs 0 0 (MQ below (va_Ql (fun z (_ : Unit) => z = r) (fun _ t => mP D ct ad y_km y_tp y_goes y_kin y_qd y_sides y_cuts y_flat y_cp y_cA y_cB y_1X y_1Y y_2X y_2Y y_tm y_cells a_mtape a_flood a_going a_field a_from a_mcrowds a_steps a_queue a_letter a_lineX a_lineY a_triedAt a_cellAt a_besideIn a_apart a_drawer a_mkept a_listed a_mkin a_tried a_takenAt a_waysOf t.heap) (mA ad)) av s 0 0 (mA ad)) (F0 m 4 ls []) := by
    intro y_cells a_besideIn n4
    induction n4 with
    | zero => intro H locs ls v1 v2 hl hP hS h; cases h
    | succ n4 ih4 =>
      intro H locs ls v1 v2 hl hP hS h
      replace h : mo_across_B4 y_cells a_besideIn (fl2 (mo_across_B4 y_cells a_besideIn) n4) v1 v2 = some (r) := h
      generalize fl2 (mo_across_B4 y_cells a_besideIn) n4 = k4 at h ih4
      have hJ56 : ∀ (H : Heap) (locs : List Loc) (ls : Array Slot) (v2 : Int32) (t0 : Int32), lv_has ls 5 [(0, .ref (ad 0)), (2, .int v2)] → mP D ct ad y_km y_tp y_goes y_kin y_qd y_sides y_cuts y_flat y_cp y_cA y_cB y_1X y_1Y y_2X y_2Y y_tm y_cells a_mtape a_flood a_going a_field a_from a_mcrowds a_steps a_queue a_letter a_lineX a_lineY a_triedAt a_cellAt a_besideIn a_apart a_drawer a_mkept a_listed a_mkin a_tried a_takenAt a_waysOf H → va_S (mA ad) s.heap H locs → mo_across_J56 k4 y_cells a_besideIn v2 t0 = some (r) → W p l e (rmm 2 45) s m av below meth c H locs 0 0 (MQ below (va_Ql (fun z (_ : Unit) => z = r) (fun _ t => mP D ct ad y_km y_tp y_goes y_kin y_qd y_sides y_cuts y_flat y_cp y_cA y_cB y_1X y_1Y y_2X y_2Y y_tm y_cells a_mtape a_flood a_going a_field a_from a_mcrowds a_steps a_queue a_letter a_lineX a_lineY a_triedAt a_cellAt a_besideIn a_apart a_drawer a_mkept a_listed a_mkin a_tried a_takenAt a_waysOf t.heap) (mA ad)) av s 0 0 (mA ad)) (F0 m 56 ls [.int t0]) := by
        intro H locs ls v2 t0 hl hP hS h
        rw [mo_across_J56] at h
        refine lv_istore_n hx hb dX12_across_56 rfl hl (Nat.le_of_ble_eq_true rfl) (lv' := [(1, .int t0), (0, .ref (ad 0)), (2, .int v2)]) rfl (fun ls hl => ?_)
        obtain ⟨v2_9, ev2_9, h⟩ := nm_s h
        refine lv_iinc hx hb dX12_across_57 hl (k := 2) rfl ev2_9.symm (Nat.le_of_ble_eq_true rfl) (lv' := [(2, .int v2_9), (1, .int t0), (0, .ref (ad 0))]) rfl (fun ls hl => ?_)
        refine lv_goto hx hb dX12_across_60 (tgt := 4) rfl ?_
        exact ih4 _ _ _ t0 v2_9 (lv_sub hl [2, 1, 0] rfl) hP hS h
      have hL19 : ∀ (v1 : Int32), ∀ (v2 : Int32), ∀ (n19 : Nat) (H : Heap) (locs : List Loc) (ls : Array Slot) (v3 : Int32) (v4 : Int32), lv_has ls 5 [(0, .ref (ad 0)), (1, .int v1), (2, .int v2), (3, .int v3), (4, .int v4)] → mP D ct ad y_km y_tp y_goes y_kin y_qd y_sides y_cuts y_flat y_cp y_cA y_cB y_1X y_1Y y_2X y_2Y y_tm y_cells a_mtape a_flood a_going a_field a_from a_mcrowds a_steps a_queue a_letter a_lineX a_lineY a_triedAt a_cellAt a_besideIn a_apart a_drawer a_mkept a_listed a_mkin a_tried a_takenAt a_waysOf H → va_S (mA ad) s.heap H locs → fl2 (mo_across_B19 v1 v2 y_cells a_besideIn k4) n19 v3 v4 = some (r) → W p l e (rmm 2 45) s m av below meth c H locs 0 0 (MQ below (va_Ql (fun z (_ : Unit) => z = r) (fun _ t => mP D ct ad y_km y_tp y_goes y_kin y_qd y_sides y_cuts y_flat y_cp y_cA y_cB y_1X y_1Y y_2X y_2Y y_tm y_cells a_mtape a_flood a_going a_field a_from a_mcrowds a_steps a_queue a_letter a_lineX a_lineY a_triedAt a_cellAt a_besideIn a_apart a_drawer a_mkept a_listed a_mkin a_tried a_takenAt a_waysOf t.heap) (mA ad)) av s 0 0 (mA ad)) (F0 m 19 ls []) := by
        intro v1 v2 n19
        induction n19 with
        | zero => intro H locs ls v3 v4 hl hP hS h; cases h
        | succ n19 ih19 =>
          intro H locs ls v3 v4 hl hP hS h
          replace h : mo_across_B19 v1 v2 y_cells a_besideIn k4 (fl2 (mo_across_B19 v1 v2 y_cells a_besideIn k4) n19) v3 v4 = some (r) := h
          generalize fl2 (mo_across_B19 v1 v2 y_cells a_besideIn k4) n19 = k19 at h ih19
          rw [mo_across_B19] at h
          refine lv_aload_n hx hb dX12_across_19 rfl (lv_at hl 0 rfl) ?_
          refine lv_iload_n hx hb dX12_across_20 rfl (lv_at hl 3 rfl) ?_
          obtain ⟨r_10, hr_11, h⟩ := bd1_s h
          refine hv_i hx hb hml hown hw mB_bl (mB_of hN hK hP) (mr_MO hK hP) (c_mo_besideAll l D ct ad hI v3 r_10 hr_11) g_RX12_342 ⟨rfl, hd_X12_besideAll⟩ (rest := []) hl.1 hS (fun q h => h) dX12_across_21 rfl rfl ⟨Nat.le_of_ble_eq_true rfl, Nat.le_of_ble_eq_true rfl⟩ rfl rfl (Nat.le_of_ble_eq_true rfl) ⟨Nat.zero_le _, Nat.zero_le _⟩ (fun H locs hP _ hS => ?_)
          refine lv_if_eq hx hb dX12_across_24 (tgt := 44) rfl (fun hc => ?_) (fun hc => ?_)
          · replace h := ifp h hc
            refine lv_iload hx hb dX12_across_44 (lv_at hl 4 rfl) ?_
            refine lv_iload_n hx hb dX12_across_46 rfl (lv_at hl 1 rfl) ?_
            refine lv_icmp_le hx hb dX12_across_47 (tgt := 55) rfl (fun hc => ?_) (fun hc => ?_)
            · replace h := ifp h hc
              refine lv_iload_n hx hb dX12_across_55 rfl (lv_at hl 1 rfl) ?_
              exact hJ56 _ _ _ v2 v1 (lv_sub hl [0, 2] rfl) hP hS h
            · replace h := ifn h hc
              refine lv_iload hx hb dX12_across_50 (lv_at hl 4 rfl) ?_
              refine lv_goto hx hb dX12_across_52 (tgt := 56) rfl ?_
              exact hJ56 _ _ _ v2 v4 (lv_sub hl [0, 2] rfl) hP hS h
          · replace h := ifn h hc
            refine lv_iload_n hx hb dX12_across_27 rfl (lv_at hl 3 rfl) ?_
            refine lv_aload_n hx hb dX12_across_28 rfl (lv_at hl 0 rfl) ?_
            refine lv_iload_n hx hb dX12_across_29 rfl (lv_at hl 3 rfl) ?_
            obtain ⟨r_12, hr_13, h⟩ := bd1_s h
            refine hv_i hx hb hml hown hw mB_bl (mB_of hN hK hP) (mr_MO hK hP) (c_mo_besideAll l D ct ad hI v3 r_12 hr_13) g_RX12_342 ⟨rfl, hd_X12_besideAll⟩ (rest := [.int v3]) hl.1 hS (fun q h => h) dX12_across_30 rfl rfl ⟨Nat.le_of_ble_eq_true rfl, Nat.le_of_ble_eq_true rfl⟩ rfl rfl (Nat.le_of_ble_eq_true rfl) ⟨Nat.zero_le _, Nat.zero_le _⟩ (fun H locs hP _ hS => ?_)
            refine lv_ior hx hb dX12_across_33 ?_
            obtain ⟨v3_14, ev3_14, h⟩ := nm_s h
            refine nmI ev3_14 ?_
            refine lv_istore_n hx hb dX12_across_34 rfl hl (Nat.le_of_ble_eq_true rfl) (lv' := [(3, .int v3_14), (0, .ref (ad 0)), (1, .int v1), (2, .int v2), (4, .int v4)]) rfl (fun ls hl => ?_)
            refine lv_iload hx hb dX12_across_35 (lv_at hl 4 rfl) ?_
            refine lv_iconst (v := 1) hx hb dX12_across_37 ki_1 ?_
            refine lv_iadd hx hb dX12_across_38 ?_
            obtain ⟨v4_15, ev4_15, h⟩ := nm_s h
            refine nmI ev4_15 ?_
            refine lv_istore hx hb dX12_across_39 hl (Nat.le_of_ble_eq_true rfl) (lv' := [(4, .int v4_15), (3, .int v3_14), (0, .ref (ad 0)), (1, .int v1), (2, .int v2)]) rfl (fun ls hl => ?_)
            refine lv_goto hx hb dX12_across_41 (tgt := 19) rfl ?_
            exact ih19 _ _ _ v3_14 v4_15 (lv_sub hl [2, 3, 4, 1, 0] rfl) hP hS h
      rw [mo_across_B4] at h
      refine lv_iload_n hx hb dX12_across_4 rfl (lv_at hl 2 rfl) ?_
      refine lv_aload_n hx hb dX12_across_5 rfl (lv_at hl 0 rfl) ?_
      refine mg_MO_38 hx hb hw hown hK hP dX12_across_6 ?_
      refine lv_icmp_ge hx hb dX12_across_9 (tgt := 63) rfl (fun hc => ?_) (fun hc => ?_)
      · replace h := ifp h hc
        refine lv_iload_n hx hb dX12_across_63 rfl (lv_at hl 1 rfl) ?_
        refine lv_i2l hx hb (v := v1.toInt64) dX12_across_64 rfl ?_
        replace h := Option.some.inj h
        subst h
        exact rc_l hx hb hr hlocks hS dX12_across_65 rfl hP
      · replace h := ifn h hc
        refine lv_iconst (v := 1) hx hb dX12_across_12 ki_1 ?_
        refine lv_iload_n hx hb dX12_across_13 rfl (lv_at hl 2 rfl) ?_
        refine lv_ishl hx hb dX12_across_14 ?_
        refine nmI (v := il 1 v2) rfl ?_
        obtain ⟨v3_16, ev3_16, h⟩ := nm_s h
        refine nmI ev3_16 ?_
        refine lv_istore_n hx hb dX12_across_15 rfl hl (Nat.le_of_ble_eq_true rfl) (lv' := [(3, .int v3_16), (0, .ref (ad 0)), (1, .int v1), (2, .int v2)]) rfl (fun ls hl => ?_)
        refine lv_iconst (v := 0) hx hb dX12_across_16 ki_0 ?_
        refine lv_istore hx hb dX12_across_17 hl (Nat.le_of_ble_eq_true rfl) (lv' := [(4, .int 0), (3, .int v3_16), (0, .ref (ad 0)), (1, .int v1), (2, .int v2)]) rfl (fun ls hl => ?_)
        exact hL19 v1 v2 FU _ _ _ v3_16 0 (lv_sub hl [2, 3, 4, 1, 0] rfl) hP hS h
  refine lv_iconst (v := 0) hx hb dX12_across_0 ki_0 ?_
  refine lv_istore_n hx hb dX12_across_1 rfl hl (Nat.le_of_ble_eq_true rfl) (lv' := [(1, .int 0), (0, .ref (ad 0))]) rfl (fun ls hl => ?_)
  refine lv_iconst (v := 0) hx hb dX12_across_2 ki_0 ?_
  refine lv_istore_n hx hb dX12_across_3 rfl hl (Nat.le_of_ble_eq_true rfl) (lv' := [(2, .int 0), (1, .int 0), (0, .ref (ad 0))]) rfl (fun ls hl => ?_)
  exact hL4 y_cells a_besideIn FU _ _ _ 0 0 (lv_sub hl [2, 1, 0] rfl) hP hS h
noncomputable def mo_trees_B110 (v1 : Int32) (v2 : Int64) (v4 : Int32) (v5 : Int32) (y_cells : Int32) (a_besideIn : Nat → Int32) (k86 : Int64 → Int32 → (Nat → Int32) → Option (Int64 × (Nat → Int32))) (k98 : Int32 → (Nat → Int32) → Option (Int64 × (Nat → Int32))) (k110 : Int32 → (Nat → Int32) → Option (Int64 × (Nat → Int32))) (v6 : Int32) (a_apart : Nat → Int32) : Option (Int64 × (Nat → Int32)) :=
  if v1 ≤ v6 then (nm (v5 + Int32.ofInt 1) fun v5_1 =>
  k98 v5_1 a_apart) else
  nm ((12 * v5) + v6 : Int32) fun i_2 =>
  ck i_2 144 <|
  nm ((12 * v4) + v4 : Int32) fun i_3 =>
  ck i_3 144 <|
  nm ((12 * v5) + v4 : Int32) fun i_4 =>
  ck i_4 144 <|
  nm ((12 * v4) + v6 : Int32) fun i_5 =>
  ck i_5 144 <|
  nm ((((a_apart i_2.toNatClampNeg).toInt64) * ((a_apart i_3.toNatClampNeg).toInt64)) - (((a_apart i_4.toNatClampNeg).toInt64) * ((a_apart i_5.toNatClampNeg).toInt64)) : Int64) fun t_6 =>
  dzL v2 <|
  nm ((t_6 / v2).toInt32 : Int32) fun w_7 =>
  nm ((12 * v5) + v6 : Int32) fun i_8 =>
  ck i_8 144 <|
  nm (upd a_apart i_8.toNatClampNeg w_7) fun a_apart_9 =>
  nm (v6 + Int32.ofInt 1) fun v6_10 =>
  k110 v6_10 a_apart_9
noncomputable def mo_trees_B98 (v1 : Int32) (v2 : Int64) (v4 : Int32) (y_cells : Int32) (a_besideIn : Nat → Int32) (k86 : Int64 → Int32 → (Nat → Int32) → Option (Int64 × (Nat → Int32))) (k98 : Int32 → (Nat → Int32) → Option (Int64 × (Nat → Int32))) (v5 : Int32) (a_apart : Nat → Int32) : Option (Int64 × (Nat → Int32)) :=
  if v1 ≤ v5 then (nm ((12 * v4) + v4 : Int32) fun i_11 =>
  ck i_11 144 <|
  nm ((a_apart i_11.toNatClampNeg).toInt64 : Int64) fun v2_12 =>
  nm (v4 + Int32.ofInt 1) fun v4_13 =>
  k86 v2_12 v4_13 a_apart) else
  nm (v4 + 1 : Int32) fun v6_14 =>
  fl2 (mo_trees_B110 v1 v2 v4 v5 y_cells a_besideIn k86 k98) FU v6_14 a_apart
noncomputable def mo_trees_B86 (v1 : Int32) (y_cells : Int32) (a_besideIn : Nat → Int32)  (k86 : Int64 → Int32 → (Nat → Int32) → Option (Int64 × (Nat → Int32))) (v2 : Int64) (v4 : Int32) (a_apart : Nat → Int32) : Option (Int64 × (Nat → Int32)) :=
  if v1 ≤ v4 then (some (v2, a_apart)) else
  nm (v4 + 1 : Int32) fun v5_15 =>
  fl2 (mo_trees_B98 v1 v2 v4 y_cells a_besideIn k86) FU v5_15 a_apart
noncomputable def mo_trees_J68 (k9 : Int32 → (Nat → Int32) → Option (Int64 × (Nat → Int32))) (k16 : Int32 → (Nat → Int32) → Option (Int64 × (Nat → Int32))) (y_cells : Int32) (a_besideIn : Nat → Int32) (v1 : Int32) (v2 : Int32) (v3 : Int32) (a_apart : Nat → Int32) (t1 : Int32) (t2 : Int32) : Option (Int64 × (Nat → Int32)) :=
  ck t1 144 <|
  nm (upd a_apart t1.toNatClampNeg t2) fun a_apart_16 =>
  nm (v3 + Int32.ofInt 1) fun v3_17 =>
  k16 v3_17 a_apart_16
noncomputable def mo_trees_B16 (v1 : Int32) (v2 : Int32) (y_cells : Int32) (a_besideIn : Nat → Int32) (k9 : Int32 → (Nat → Int32) → Option (Int64 × (Nat → Int32))) (k16 : Int32 → (Nat → Int32) → Option (Int64 × (Nat → Int32))) (v3 : Int32) (a_apart : Nat → Int32) : Option (Int64 × (Nat → Int32)) :=
  if v1 ≤ v3 then (nm (v2 + Int32.ofInt 1) fun v2_18 =>
  k9 v2_18 a_apart) else
  if v2 = v3 then (ck v2 12 <|
  bd1 (mo_bits ((a_besideIn v2.toNatClampNeg).toInt64)) fun r_21 =>
  mo_trees_J68 k9 k16 y_cells a_besideIn v1 v2 v3 a_apart ((12 * v2) + v3) r_21) else
  ck v2 12 <|
  bd1 (mo_has ((a_besideIn v2.toNatClampNeg).toInt64) v3) fun r_19 =>
  if r_19 = 0 then (mo_trees_J68 k9 k16 y_cells a_besideIn v1 v2 v3 a_apart ((12 * v2) + v3) 0) else
  mo_trees_J68 k9 k16 y_cells a_besideIn v1 v2 v3 a_apart ((12 * v2) + v3) (-1)
noncomputable def mo_trees_B9 (v1 : Int32) (y_cells : Int32) (a_besideIn : Nat → Int32)  (k9 : Int32 → (Nat → Int32) → Option (Int64 × (Nat → Int32))) (v2 : Int32) (a_apart : Nat → Int32) : Option (Int64 × (Nat → Int32)) :=
  if v1 ≤ v2 then (fl3 (mo_trees_B86 v1 y_cells a_besideIn) FU 1 0 a_apart) else
  fl2 (mo_trees_B16 v1 v2 y_cells a_besideIn k9) FU 0 a_apart
noncomputable def mo_trees (y_cells : Int32) (a_besideIn : Nat → Int32) (a_apart : Nat → Int32) : Option (Int64 × (Nat → Int32)) :=
  nm (y_cells - 1 : Int32) fun v1_23 =>
  fl2 (mo_trees_B9 v1_23 y_cells a_besideIn) FU 0 a_apart
set_option maxHeartbeats 4000000 in
set_option maxRecDepth 100000 in
theorem c_mo_trees (l : Launch) (D : va_G) (ct : Nat → ClassId) (ad : Nat → Nat) (hI : mI ad) {y_km y_tp y_goes y_kin y_qd y_sides y_cuts y_flat y_cp y_cA y_cB y_1X y_1Y y_2X y_2Y y_tm y_cells : Int32} {a_mtape a_flood a_going a_field a_from a_mcrowds a_steps a_queue a_letter a_lineX a_lineY a_triedAt a_cellAt a_besideIn a_apart : Nat → Int32} {a_drawer a_mkept a_listed a_mkin a_tried a_takenAt a_waysOf : Nat → Int64}  (r : Int64) (z_a_apart : Nat → Int32) (h : mo_trees y_cells a_besideIn a_apart = some (r, z_a_apart)) : Met l yX12_trees (wm yX12_trees cX12_trees 9 (some .long)) (rmm 1 24) (va_Pc [.ref (ad 0)] (mB D ct ad y_km y_tp y_goes y_kin y_qd y_sides y_cuts y_flat y_cp y_cA y_cB y_1X y_1Y y_2X y_2Y y_tm y_cells a_mtape a_flood a_going a_field a_from a_mcrowds a_steps a_queue a_letter a_lineX a_lineY a_triedAt a_cellAt a_besideIn a_apart a_drawer a_mkept a_listed a_mkin a_tried a_takenAt a_waysOf)) (va_Ql (fun z (_ : Unit) => z = r) (fun _ t => mP D ct ad y_km y_tp y_goes y_kin y_qd y_sides y_cuts y_flat y_cp y_cA y_cB y_1X y_1Y y_2X y_2Y y_tm y_cells a_mtape a_flood a_going a_field a_from a_mcrowds a_steps a_queue a_letter a_lineX a_lineY a_triedAt a_cellAt a_besideIn z_a_apart a_drawer a_mkept a_listed a_mkin a_tried a_takenAt a_waysOf t.heap) (mA ad)) 0 0 (mA ad) := by
  refine met_s (y := yX12_trees) (rm := rmm 1 24) (by decide) (Nat.le_of_ble_eq_true rfl) ?_
  intro p e s m below meth c hx hb hr hw hown hlocks _ hml hB ls hl
  obtain ⟨hN, hK, hP⟩ := hB
  replace hl : lv_has ls 9 [(0, .ref (ad 0))] := hl
  have hS : va_S (mA ad) s.heap s.heap [] := va_S.rf
  generalize (([.ref (ad 0)] : List Value).toArray) = av at hw ⊢
  rw [mo_trees] at h
  have hL86 : ∀ (v1 : Int32), ∀ (y_cells : Int32), ∀ (a_besideIn : Nat → Int32), ∀ (n86 : Nat) (H : Heap) (locs : List Loc) (ls : Array Slot) (v2 : Int64) (v4 : Int32) (a_apart : Nat → Int32), lv_has ls 9 [(0, .ref (ad 0)), (1, .int v1), (2, .long v2), (4, .int v4)] → mP D ct ad y_km y_tp y_goes y_kin y_qd y_sides y_cuts y_flat y_cp y_cA y_cB y_1X y_1Y y_2X y_2Y y_tm y_cells a_mtape a_flood a_going a_field a_from a_mcrowds a_steps a_queue a_letter a_lineX a_lineY a_triedAt a_cellAt a_besideIn a_apart a_drawer a_mkept a_listed a_mkin a_tried a_takenAt a_waysOf H → va_S (mA ad) s.heap H locs → fl3 (mo_trees_B86 v1 y_cells a_besideIn) n86 v2 v4 a_apart = some (r, z_a_apart) → W p l e (rmm 1 24) s m av below meth c H locs 0 0 (MQ below (va_Ql (fun z (_ : Unit) => z = r) (fun _ t => mP D ct ad y_km y_tp y_goes y_kin y_qd y_sides y_cuts y_flat y_cp y_cA y_cB y_1X y_1Y y_2X y_2Y y_tm y_cells a_mtape a_flood a_going a_field a_from a_mcrowds a_steps a_queue a_letter a_lineX a_lineY a_triedAt a_cellAt a_besideIn z_a_apart a_drawer a_mkept a_listed a_mkin a_tried a_takenAt a_waysOf t.heap) (mA ad)) av s 0 0 (mA ad)) (F0 m 86 ls []) := by
    intro v1 y_cells a_besideIn n86
    induction n86 with
    | zero => intro H locs ls v2 v4 a_apart hl hP hS h; cases h
    | succ n86 ih86 =>
      intro H locs ls v2 v4 a_apart hl hP hS h
      replace h : mo_trees_B86 v1 y_cells a_besideIn (fl3 (mo_trees_B86 v1 y_cells a_besideIn) n86) v2 v4 a_apart = some (r, z_a_apart) := h
      generalize fl3 (mo_trees_B86 v1 y_cells a_besideIn) n86 = k86 at h ih86
      have hL98 : ∀ (v2 : Int64), ∀ (v4 : Int32), ∀ (n98 : Nat) (H : Heap) (locs : List Loc) (ls : Array Slot) (v5 : Int32) (a_apart : Nat → Int32), lv_has ls 9 [(0, .ref (ad 0)), (1, .int v1), (2, .long v2), (4, .int v4), (5, .int v5)] → mP D ct ad y_km y_tp y_goes y_kin y_qd y_sides y_cuts y_flat y_cp y_cA y_cB y_1X y_1Y y_2X y_2Y y_tm y_cells a_mtape a_flood a_going a_field a_from a_mcrowds a_steps a_queue a_letter a_lineX a_lineY a_triedAt a_cellAt a_besideIn a_apart a_drawer a_mkept a_listed a_mkin a_tried a_takenAt a_waysOf H → va_S (mA ad) s.heap H locs → fl2 (mo_trees_B98 v1 v2 v4 y_cells a_besideIn k86) n98 v5 a_apart = some (r, z_a_apart) → W p l e (rmm 1 24) s m av below meth c H locs 0 0 (MQ below (va_Ql (fun z (_ : Unit) => z = r) (fun _ t => mP D ct ad y_km y_tp y_goes y_kin y_qd y_sides y_cuts y_flat y_cp y_cA y_cB y_1X y_1Y y_2X y_2Y y_tm y_cells a_mtape a_flood a_going a_field a_from a_mcrowds a_steps a_queue a_letter a_lineX a_lineY a_triedAt a_cellAt a_besideIn z_a_apart a_drawer a_mkept a_listed a_mkin a_tried a_takenAt a_waysOf t.heap) (mA ad)) av s 0 0 (mA ad)) (F0 m 98 ls []) := by
        intro v2 v4 n98
        induction n98 with
        | zero => intro H locs ls v5 a_apart hl hP hS h; cases h
        | succ n98 ih98 =>
          intro H locs ls v5 a_apart hl hP hS h
          replace h : mo_trees_B98 v1 v2 v4 y_cells a_besideIn k86 (fl2 (mo_trees_B98 v1 v2 v4 y_cells a_besideIn k86) n98) v5 a_apart = some (r, z_a_apart) := h
          generalize fl2 (mo_trees_B98 v1 v2 v4 y_cells a_besideIn k86) n98 = k98 at h ih98
          have hL110 : ∀ (v5 : Int32), ∀ (n110 : Nat) (H : Heap) (locs : List Loc) (ls : Array Slot) (v6 : Int32) (a_apart : Nat → Int32), lv_has ls 9 [(0, .ref (ad 0)), (1, .int v1), (2, .long v2), (4, .int v4), (5, .int v5), (6, .int v6)] → mP D ct ad y_km y_tp y_goes y_kin y_qd y_sides y_cuts y_flat y_cp y_cA y_cB y_1X y_1Y y_2X y_2Y y_tm y_cells a_mtape a_flood a_going a_field a_from a_mcrowds a_steps a_queue a_letter a_lineX a_lineY a_triedAt a_cellAt a_besideIn a_apart a_drawer a_mkept a_listed a_mkin a_tried a_takenAt a_waysOf H → va_S (mA ad) s.heap H locs → fl2 (mo_trees_B110 v1 v2 v4 v5 y_cells a_besideIn k86 k98) n110 v6 a_apart = some (r, z_a_apart) → W p l e (rmm 1 24) s m av below meth c H locs 0 0 (MQ below (va_Ql (fun z (_ : Unit) => z = r) (fun _ t => mP D ct ad y_km y_tp y_goes y_kin y_qd y_sides y_cuts y_flat y_cp y_cA y_cB y_1X y_1Y y_2X y_2Y y_tm y_cells a_mtape a_flood a_going a_field a_from a_mcrowds a_steps a_queue a_letter a_lineX a_lineY a_triedAt a_cellAt a_besideIn z_a_apart a_drawer a_mkept a_listed a_mkin a_tried a_takenAt a_waysOf t.heap) (mA ad)) av s 0 0 (mA ad)) (F0 m 110 ls []) := by
            intro v5 n110
            induction n110 with
            | zero => intro H locs ls v6 a_apart hl hP hS h; cases h
            | succ n110 ih110 =>
              intro H locs ls v6 a_apart hl hP hS h
              replace h : mo_trees_B110 v1 v2 v4 v5 y_cells a_besideIn k86 k98 (fl2 (mo_trees_B110 v1 v2 v4 v5 y_cells a_besideIn k86 k98) n110) v6 a_apart = some (r, z_a_apart) := h
              generalize fl2 (mo_trees_B110 v1 v2 v4 v5 y_cells a_besideIn k86 k98) n110 = k110 at h ih110
              rw [mo_trees_B110] at h
              refine lv_iload hx hb dX12_trees_110 (lv_at hl 5 rfl) ?_
              refine lv_iload_n hx hb dX12_trees_112 rfl (lv_at hl 1 rfl) ?_
              refine lv_icmp_ge hx hb dX12_trees_113 (tgt := 201) rfl (fun hc => ?_) (fun hc => ?_)
              · replace h := ifp h hc
                obtain ⟨v5_24, ev5_24, h⟩ := nm_s h
                refine lv_iinc hx hb dX12_trees_201 hl (k := 4) rfl ev5_24.symm (Nat.le_of_ble_eq_true rfl) (lv' := [(5, .int v5_24), (0, .ref (ad 0)), (1, .int v1), (2, .long v2), (4, .int v4), (6, .int v6)]) rfl (fun ls hl => ?_)
                refine lv_goto hx hb dX12_trees_204 (tgt := 98) rfl ?_
                exact ih98 _ _ _ v5_24 a_apart (lv_sub hl [1, 2, 3, 4, 0] rfl) hP hS h
              · replace h := ifn h hc
                refine lv_aload_n hx hb dX12_trees_116 rfl (lv_at hl 0 rfl) ?_
                refine mg_MO_36 hx hb hw hown hK hP dX12_trees_117 ?_
                refine lv_bipush (v := 12) hx hb dX12_trees_120 kb_12 ?_
                refine lv_iload hx hb dX12_trees_122 (lv_at hl 4 rfl) ?_
                refine lv_imul hx hb dX12_trees_124 ?_
                refine lv_iload hx hb dX12_trees_125 (lv_at hl 5 rfl) ?_
                refine lv_iadd hx hb dX12_trees_127 ?_
                obtain ⟨i_25, ei_25, h⟩ := nm_s h
                refine nmI ei_25 ?_
                obtain ⟨hin, h⟩ := ck_s h
                refine md_apart hx hb hK hP hin dX12_trees_128 ?_
                refine lv_i2l hx hb (v := (a_apart i_25.toNatClampNeg).toInt64) dX12_trees_129 rfl ?_
                refine lv_aload_n hx hb dX12_trees_130 rfl (lv_at hl 0 rfl) ?_
                refine mg_MO_36 hx hb hw hown hK hP dX12_trees_131 ?_
                refine lv_bipush (v := 12) hx hb dX12_trees_134 kb_12 ?_
                refine lv_iload hx hb dX12_trees_136 (lv_at hl 3 rfl) ?_
                refine lv_imul hx hb dX12_trees_138 ?_
                refine lv_iload hx hb dX12_trees_139 (lv_at hl 3 rfl) ?_
                refine lv_iadd hx hb dX12_trees_141 ?_
                obtain ⟨i_26, ei_26, h⟩ := nm_s h
                refine nmI ei_26 ?_
                obtain ⟨hin, h⟩ := ck_s h
                refine md_apart hx hb hK hP hin dX12_trees_142 ?_
                refine lv_i2l hx hb (v := (a_apart i_26.toNatClampNeg).toInt64) dX12_trees_143 rfl ?_
                refine lv_lmul hx hb dX12_trees_144 ?_
                refine lv_aload_n hx hb dX12_trees_145 rfl (lv_at hl 0 rfl) ?_
                refine mg_MO_36 hx hb hw hown hK hP dX12_trees_146 ?_
                refine lv_bipush (v := 12) hx hb dX12_trees_149 kb_12 ?_
                refine lv_iload hx hb dX12_trees_151 (lv_at hl 4 rfl) ?_
                refine lv_imul hx hb dX12_trees_153 ?_
                refine lv_iload hx hb dX12_trees_154 (lv_at hl 3 rfl) ?_
                refine lv_iadd hx hb dX12_trees_156 ?_
                obtain ⟨i_27, ei_27, h⟩ := nm_s h
                refine nmI ei_27 ?_
                obtain ⟨hin, h⟩ := ck_s h
                refine md_apart hx hb hK hP hin dX12_trees_157 ?_
                refine lv_i2l hx hb (v := (a_apart i_27.toNatClampNeg).toInt64) dX12_trees_158 rfl ?_
                refine lv_aload_n hx hb dX12_trees_159 rfl (lv_at hl 0 rfl) ?_
                refine mg_MO_36 hx hb hw hown hK hP dX12_trees_160 ?_
                refine lv_bipush (v := 12) hx hb dX12_trees_163 kb_12 ?_
                refine lv_iload hx hb dX12_trees_165 (lv_at hl 3 rfl) ?_
                refine lv_imul hx hb dX12_trees_167 ?_
                refine lv_iload hx hb dX12_trees_168 (lv_at hl 5 rfl) ?_
                refine lv_iadd hx hb dX12_trees_170 ?_
                obtain ⟨i_28, ei_28, h⟩ := nm_s h
                refine nmI ei_28 ?_
                obtain ⟨hin, h⟩ := ck_s h
                refine md_apart hx hb hK hP hin dX12_trees_171 ?_
                refine lv_i2l hx hb (v := (a_apart i_28.toNatClampNeg).toInt64) dX12_trees_172 rfl ?_
                refine lv_lmul hx hb dX12_trees_173 ?_
                refine lv_lsub hx hb dX12_trees_174 ?_
                obtain ⟨t_29, et_29, h⟩ := nm_s h
                refine nmL et_29 ?_
                refine lv_lstore hx hb dX12_trees_175 hl (Nat.le_of_ble_eq_true rfl) (lv' := [(7, .long t_29), (0, .ref (ad 0)), (1, .int v1), (2, .long v2), (4, .int v4), (5, .int v5), (6, .int v6)]) rfl (fun ls hl => ?_)
                refine lv_aload_n hx hb dX12_trees_177 rfl (lv_at hl 1 rfl) ?_
                refine mg_MO_36 hx hb hw hown hK hP dX12_trees_178 ?_
                refine lv_bipush (v := 12) hx hb dX12_trees_181 kb_12 ?_
                refine lv_iload hx hb dX12_trees_183 (lv_at hl 5 rfl) ?_
                refine lv_imul hx hb dX12_trees_185 ?_
                refine lv_iload hx hb dX12_trees_186 (lv_at hl 6 rfl) ?_
                refine lv_iadd hx hb dX12_trees_188 ?_
                refine lv_lload hx hb dX12_trees_189 (lv_at hl 0 rfl) ?_
                refine lv_lload_n hx hb dX12_trees_191 rfl (lv_at hl 3 rfl) ?_
                obtain ⟨hne, h⟩ := dzL_s h
                refine lv_ldiv hx hb dX12_trees_192 hne ?_
                refine lv_l2i hx hb (v := (t_29 / v2).toInt32) dX12_trees_193 rfl ?_
                obtain ⟨w_30, ew_30, h⟩ := nm_s h
                refine nmI ew_30 ?_
                obtain ⟨i_31, ei_31, h⟩ := nm_s h
                refine nmI2 ei_31 ?_
                obtain ⟨hin, h⟩ := ck_s h
                obtain ⟨a_apart_32, ea_apart_32, h⟩ := nm_s h
                refine ms_apart hx hb hK hP hI hS hin ea_apart_32 dX12_trees_194 (fun H locs hP hS => ?_)
                obtain ⟨v6_33, ev6_33, h⟩ := nm_s h
                refine lv_iinc hx hb dX12_trees_195 hl (k := 6) rfl ev6_33.symm (Nat.le_of_ble_eq_true rfl) (lv' := [(6, .int v6_33), (7, .long t_29), (0, .ref (ad 0)), (1, .int v1), (2, .long v2), (4, .int v4), (5, .int v5)]) rfl (fun ls hl => ?_)
                refine lv_goto hx hb dX12_trees_198 (tgt := 110) rfl ?_
                exact ih110 _ _ _ v6_33 a_apart_32 (lv_sub hl [2, 3, 4, 5, 6, 0] rfl) hP hS h
          rw [mo_trees_B98] at h
          refine lv_iload hx hb dX12_trees_98 (lv_at hl 4 rfl) ?_
          refine lv_iload_n hx hb dX12_trees_100 rfl (lv_at hl 1 rfl) ?_
          refine lv_icmp_ge hx hb dX12_trees_101 (tgt := 207) rfl (fun hc => ?_) (fun hc => ?_)
          · replace h := ifp h hc
            refine lv_aload_n hx hb dX12_trees_207 rfl (lv_at hl 0 rfl) ?_
            refine mg_MO_36 hx hb hw hown hK hP dX12_trees_208 ?_
            refine lv_bipush (v := 12) hx hb dX12_trees_211 kb_12 ?_
            refine lv_iload hx hb dX12_trees_213 (lv_at hl 3 rfl) ?_
            refine lv_imul hx hb dX12_trees_215 ?_
            refine lv_iload hx hb dX12_trees_216 (lv_at hl 3 rfl) ?_
            refine lv_iadd hx hb dX12_trees_218 ?_
            obtain ⟨i_34, ei_34, h⟩ := nm_s h
            refine nmI ei_34 ?_
            obtain ⟨hin, h⟩ := ck_s h
            refine md_apart hx hb hK hP hin dX12_trees_219 ?_
            refine lv_i2l hx hb (v := (a_apart i_34.toNatClampNeg).toInt64) dX12_trees_220 rfl ?_
            obtain ⟨v2_35, ev2_35, h⟩ := nm_s h
            refine nmL ev2_35 ?_
            refine lv_lstore_n hx hb dX12_trees_221 rfl hl (Nat.le_of_ble_eq_true rfl) (lv' := [(2, .long v2_35), (0, .ref (ad 0)), (1, .int v1), (4, .int v4), (5, .int v5)]) rfl (fun ls hl => ?_)
            obtain ⟨v4_36, ev4_36, h⟩ := nm_s h
            refine lv_iinc hx hb dX12_trees_222 hl (k := 3) rfl ev4_36.symm (Nat.le_of_ble_eq_true rfl) (lv' := [(4, .int v4_36), (2, .long v2_35), (0, .ref (ad 0)), (1, .int v1), (5, .int v5)]) rfl (fun ls hl => ?_)
            refine lv_goto hx hb dX12_trees_225 (tgt := 86) rfl ?_
            exact ih86 _ _ _ v2_35 v4_36 a_apart (lv_sub hl [2, 3, 1, 0] rfl) hP hS h
          · replace h := ifn h hc
            refine lv_iload hx hb dX12_trees_104 (lv_at hl 3 rfl) ?_
            refine lv_iconst (v := 1) hx hb dX12_trees_106 ki_1 ?_
            refine lv_iadd hx hb dX12_trees_107 ?_
            obtain ⟨v6_37, ev6_37, h⟩ := nm_s h
            refine nmI ev6_37 ?_
            refine lv_istore hx hb dX12_trees_108 hl (Nat.le_of_ble_eq_true rfl) (lv' := [(6, .int v6_37), (0, .ref (ad 0)), (1, .int v1), (2, .long v2), (4, .int v4), (5, .int v5)]) rfl (fun ls hl => ?_)
            exact hL110 v5 FU _ _ _ v6_37 a_apart (lv_sub hl [1, 2, 3, 4, 5, 0] rfl) hP hS h
      rw [mo_trees_B86] at h
      refine lv_iload hx hb dX12_trees_86 (lv_at hl 3 rfl) ?_
      refine lv_iload_n hx hb dX12_trees_88 rfl (lv_at hl 1 rfl) ?_
      refine lv_icmp_ge hx hb dX12_trees_89 (tgt := 228) rfl (fun hc => ?_) (fun hc => ?_)
      · replace h := ifp h hc
        refine lv_lload_n hx hb dX12_trees_228 rfl (lv_at hl 2 rfl) ?_
        simp only [Option.some.injEq, Prod.mk.injEq] at h
        obtain ⟨rfl, rfl⟩ := h
        exact rc_l hx hb hr hlocks hS dX12_trees_229 rfl hP
      · replace h := ifn h hc
        refine lv_iload hx hb dX12_trees_92 (lv_at hl 3 rfl) ?_
        refine lv_iconst (v := 1) hx hb dX12_trees_94 ki_1 ?_
        refine lv_iadd hx hb dX12_trees_95 ?_
        obtain ⟨v5_38, ev5_38, h⟩ := nm_s h
        refine nmI ev5_38 ?_
        refine lv_istore hx hb dX12_trees_96 hl (Nat.le_of_ble_eq_true rfl) (lv' := [(5, .int v5_38), (0, .ref (ad 0)), (1, .int v1), (2, .long v2), (4, .int v4)]) rfl (fun ls hl => ?_)
        exact hL98 v2 v4 FU _ _ _ v5_38 a_apart (lv_sub hl [1, 2, 3, 4, 0] rfl) hP hS h
  have hL9 : ∀ (v1 : Int32), ∀ (y_cells : Int32), ∀ (a_besideIn : Nat → Int32), ∀ (n9 : Nat) (H : Heap) (locs : List Loc) (ls : Array Slot) (v2 : Int32) (a_apart : Nat → Int32), lv_has ls 9 [(0, .ref (ad 0)), (1, .int v1), (2, .int v2)] → mP D ct ad y_km y_tp y_goes y_kin y_qd y_sides y_cuts y_flat y_cp y_cA y_cB y_1X y_1Y y_2X y_2Y y_tm y_cells a_mtape a_flood a_going a_field a_from a_mcrowds a_steps a_queue a_letter a_lineX a_lineY a_triedAt a_cellAt a_besideIn a_apart a_drawer a_mkept a_listed a_mkin a_tried a_takenAt a_waysOf H → va_S (mA ad) s.heap H locs → fl2 (mo_trees_B9 v1 y_cells a_besideIn) n9 v2 a_apart = some (r, z_a_apart) → W p l e (rmm 1 24) s m av below meth c H locs 0 0 (MQ below (va_Ql (fun z (_ : Unit) => z = r) (fun _ t => mP D ct ad y_km y_tp y_goes y_kin y_qd y_sides y_cuts y_flat y_cp y_cA y_cB y_1X y_1Y y_2X y_2Y y_tm y_cells a_mtape a_flood a_going a_field a_from a_mcrowds a_steps a_queue a_letter a_lineX a_lineY a_triedAt a_cellAt a_besideIn z_a_apart a_drawer a_mkept a_listed a_mkin a_tried a_takenAt a_waysOf t.heap) (mA ad)) av s 0 0 (mA ad)) (F0 m 9 ls []) := by
    intro v1 y_cells a_besideIn n9
    induction n9 with
    | zero => intro H locs ls v2 a_apart hl hP hS h; cases h
    | succ n9 ih9 =>
      intro H locs ls v2 a_apart hl hP hS h
      replace h : mo_trees_B9 v1 y_cells a_besideIn (fl2 (mo_trees_B9 v1 y_cells a_besideIn) n9) v2 a_apart = some (r, z_a_apart) := h
      generalize fl2 (mo_trees_B9 v1 y_cells a_besideIn) n9 = k9 at h ih9
      have hL16 : ∀ (v2 : Int32), ∀ (n16 : Nat) (H : Heap) (locs : List Loc) (ls : Array Slot) (v3 : Int32) (a_apart : Nat → Int32), lv_has ls 9 [(0, .ref (ad 0)), (1, .int v1), (2, .int v2), (3, .int v3)] → mP D ct ad y_km y_tp y_goes y_kin y_qd y_sides y_cuts y_flat y_cp y_cA y_cB y_1X y_1Y y_2X y_2Y y_tm y_cells a_mtape a_flood a_going a_field a_from a_mcrowds a_steps a_queue a_letter a_lineX a_lineY a_triedAt a_cellAt a_besideIn a_apart a_drawer a_mkept a_listed a_mkin a_tried a_takenAt a_waysOf H → va_S (mA ad) s.heap H locs → fl2 (mo_trees_B16 v1 v2 y_cells a_besideIn k9) n16 v3 a_apart = some (r, z_a_apart) → W p l e (rmm 1 24) s m av below meth c H locs 0 0 (MQ below (va_Ql (fun z (_ : Unit) => z = r) (fun _ t => mP D ct ad y_km y_tp y_goes y_kin y_qd y_sides y_cuts y_flat y_cp y_cA y_cB y_1X y_1Y y_2X y_2Y y_tm y_cells a_mtape a_flood a_going a_field a_from a_mcrowds a_steps a_queue a_letter a_lineX a_lineY a_triedAt a_cellAt a_besideIn z_a_apart a_drawer a_mkept a_listed a_mkin a_tried a_takenAt a_waysOf t.heap) (mA ad)) av s 0 0 (mA ad)) (F0 m 16 ls []) := by
        intro v2 n16
        induction n16 with
        | zero => intro H locs ls v3 a_apart hl hP hS h; cases h
        | succ n16 ih16 =>
          intro H locs ls v3 a_apart hl hP hS h
          replace h : mo_trees_B16 v1 v2 y_cells a_besideIn k9 (fl2 (mo_trees_B16 v1 v2 y_cells a_besideIn k9) n16) v3 a_apart = some (r, z_a_apart) := h
          generalize fl2 (mo_trees_B16 v1 v2 y_cells a_besideIn k9) n16 = k16 at h ih16
          have hJ68 : ∀ (H : Heap) (locs : List Loc) (ls : Array Slot) (v3 : Int32) (a_apart : Nat → Int32) (t1 : Int32) (t2 : Int32), lv_has ls 9 [(0, .ref (ad 0)), (1, .int v1), (2, .int v2), (3, .int v3)] → mP D ct ad y_km y_tp y_goes y_kin y_qd y_sides y_cuts y_flat y_cp y_cA y_cB y_1X y_1Y y_2X y_2Y y_tm y_cells a_mtape a_flood a_going a_field a_from a_mcrowds a_steps a_queue a_letter a_lineX a_lineY a_triedAt a_cellAt a_besideIn a_apart a_drawer a_mkept a_listed a_mkin a_tried a_takenAt a_waysOf H → va_S (mA ad) s.heap H locs → mo_trees_J68 k9 k16 y_cells a_besideIn v1 v2 v3 a_apart t1 t2 = some (r, z_a_apart) → W p l e (rmm 1 24) s m av below meth c H locs 0 0 (MQ below (va_Ql (fun z (_ : Unit) => z = r) (fun _ t => mP D ct ad y_km y_tp y_goes y_kin y_qd y_sides y_cuts y_flat y_cp y_cA y_cB y_1X y_1Y y_2X y_2Y y_tm y_cells a_mtape a_flood a_going a_field a_from a_mcrowds a_steps a_queue a_letter a_lineX a_lineY a_triedAt a_cellAt a_besideIn z_a_apart a_drawer a_mkept a_listed a_mkin a_tried a_takenAt a_waysOf t.heap) (mA ad)) av s 0 0 (mA ad)) (F0 m 68 ls [.int t2, .int t1, .ref (ad 21)]) := by
            intro H locs ls v3 a_apart t1 t2 hl hP hS h
            rw [mo_trees_J68] at h
            obtain ⟨hin, h⟩ := ck_s h
            obtain ⟨a_apart_39, ea_apart_39, h⟩ := nm_s h
            refine ms_apart hx hb hK hP hI hS hin ea_apart_39 dX12_trees_68 (fun H locs hP hS => ?_)
            obtain ⟨v3_40, ev3_40, h⟩ := nm_s h
            refine lv_iinc hx hb dX12_trees_69 hl (k := 3) rfl ev3_40.symm (Nat.le_of_ble_eq_true rfl) (lv' := [(3, .int v3_40), (0, .ref (ad 0)), (1, .int v1), (2, .int v2)]) rfl (fun ls hl => ?_)
            refine lv_goto hx hb dX12_trees_72 (tgt := 16) rfl ?_
            exact ih16 _ _ _ v3_40 a_apart_39 (lv_sub hl [1, 2, 3, 0] rfl) hP hS h
          rw [mo_trees_B16] at h
          refine lv_iload_n hx hb dX12_trees_16 rfl (lv_at hl 3 rfl) ?_
          refine lv_iload_n hx hb dX12_trees_17 rfl (lv_at hl 1 rfl) ?_
          refine lv_icmp_ge hx hb dX12_trees_18 (tgt := 75) rfl (fun hc => ?_) (fun hc => ?_)
          · replace h := ifp h hc
            obtain ⟨v2_41, ev2_41, h⟩ := nm_s h
            refine lv_iinc hx hb dX12_trees_75 hl (k := 2) rfl ev2_41.symm (Nat.le_of_ble_eq_true rfl) (lv' := [(2, .int v2_41), (0, .ref (ad 0)), (1, .int v1), (3, .int v3)]) rfl (fun ls hl => ?_)
            refine lv_goto hx hb dX12_trees_78 (tgt := 9) rfl ?_
            exact ih9 _ _ _ v2_41 a_apart (lv_sub hl [1, 2, 0] rfl) hP hS h
          · replace h := ifn h hc
            refine lv_aload_n hx hb dX12_trees_21 rfl (lv_at hl 0 rfl) ?_
            refine mg_MO_36 hx hb hw hown hK hP dX12_trees_22 ?_
            refine lv_bipush (v := 12) hx hb dX12_trees_25 kb_12 ?_
            refine lv_iload_n hx hb dX12_trees_27 rfl (lv_at hl 2 rfl) ?_
            refine lv_imul hx hb dX12_trees_28 ?_
            refine lv_iload_n hx hb dX12_trees_29 rfl (lv_at hl 3 rfl) ?_
            refine lv_iadd hx hb dX12_trees_30 ?_
            refine lv_iload_n hx hb dX12_trees_31 rfl (lv_at hl 2 rfl) ?_
            refine lv_iload_n hx hb dX12_trees_32 rfl (lv_at hl 3 rfl) ?_
            refine lv_icmp_ne hx hb dX12_trees_33 (tgt := 49) rfl (fun hc => ?_) (fun hc => ?_)
            · replace h := ifn h hc
              refine lv_aload_n hx hb dX12_trees_49 rfl (lv_at hl 0 rfl) ?_
              refine mg_MO_35 hx hb hw hown hK hP dX12_trees_50 ?_
              refine lv_iload_n hx hb dX12_trees_53 rfl (lv_at hl 2 rfl) ?_
              obtain ⟨hin, h⟩ := ck_s h
              refine md_besideIn hx hb hK hP hin dX12_trees_54 ?_
              refine lv_i2l hx hb (v := (a_besideIn v2.toNatClampNeg).toInt64) dX12_trees_55 rfl ?_
              refine lv_iload_n hx hb dX12_trees_56 rfl (lv_at hl 3 rfl) ?_
              obtain ⟨r_42, hr_43, h⟩ := bd1_s h
              refine sc_i hx hb hml hown hw hN (c_mo_has l ((a_besideIn v2.toNatClampNeg).toInt64) v3 r_42 hr_43) g_RX12_86 hd_X12_has (rest := [.int ((12 * v2) + v3), .ref (ad 21)]) hl.1 hS dX12_trees_57 rfl rfl ⟨Nat.le_of_ble_eq_true rfl, Nat.le_of_ble_eq_true rfl⟩ rfl rfl (Nat.le_of_ble_eq_true rfl) ⟨Nat.zero_le _, Nat.zero_le _⟩ (fun H locs hk hS => ?_)
              have hP := mP_kept hP hk
              refine lv_if_eq hx hb dX12_trees_60 (tgt := 67) rfl (fun hc => ?_) (fun hc => ?_)
              · replace h := ifp h hc
                refine lv_iconst (v := 0) hx hb dX12_trees_67 ki_0 ?_
                exact hJ68 _ _ _ v3 a_apart ((12 * v2) + v3) 0 (lv_sub hl [0, 1, 2, 3] rfl) hP hS h
              · replace h := ifn h hc
                refine lv_iconst (v := (-1)) hx hb dX12_trees_63 ki_m1 ?_
                refine lv_goto hx hb dX12_trees_64 (tgt := 68) rfl ?_
                exact hJ68 _ _ _ v3 a_apart ((12 * v2) + v3) (-1) (lv_sub hl [0, 1, 2, 3] rfl) hP hS h
            · replace h := ifp h hc
              refine lv_aload_n hx hb dX12_trees_36 rfl (lv_at hl 0 rfl) ?_
              refine mg_MO_35 hx hb hw hown hK hP dX12_trees_37 ?_
              refine lv_iload_n hx hb dX12_trees_40 rfl (lv_at hl 2 rfl) ?_
              obtain ⟨hin, h⟩ := ck_s h
              refine md_besideIn hx hb hK hP hin dX12_trees_41 ?_
              refine lv_i2l hx hb (v := (a_besideIn v2.toNatClampNeg).toInt64) dX12_trees_42 rfl ?_
              obtain ⟨r_44, hr_45, h⟩ := bd1_s h
              refine sc_i hx hb hml hown hw hN (c_mo_bits l ((a_besideIn v2.toNatClampNeg).toInt64) r_44 hr_45) g_RX12_106 hd_X12_bits (rest := [.int ((12 * v2) + v3), .ref (ad 21)]) hl.1 hS dX12_trees_43 rfl rfl ⟨Nat.le_of_ble_eq_true rfl, Nat.le_of_ble_eq_true rfl⟩ rfl rfl (Nat.le_of_ble_eq_true rfl) ⟨Nat.zero_le _, Nat.zero_le _⟩ (fun H locs hk hS => ?_)
              have hP := mP_kept hP hk
              refine lv_goto hx hb dX12_trees_46 (tgt := 68) rfl ?_
              exact hJ68 _ _ _ v3 a_apart ((12 * v2) + v3) r_44 (lv_sub hl [0, 1, 2, 3] rfl) hP hS h
      rw [mo_trees_B9] at h
      refine lv_iload_n hx hb dX12_trees_9 rfl (lv_at hl 2 rfl) ?_
      refine lv_iload_n hx hb dX12_trees_10 rfl (lv_at hl 1 rfl) ?_
      refine lv_icmp_ge hx hb dX12_trees_11 (tgt := 81) rfl (fun hc => ?_) (fun hc => ?_)
      · replace h := ifp h hc
        refine lv_lconst (v := 1) hx hb dX12_trees_81 kl_1 ?_
        refine lv_lstore_n hx hb dX12_trees_82 rfl hl (Nat.le_of_ble_eq_true rfl) (lv' := [(2, .long 1), (0, .ref (ad 0)), (1, .int v1)]) rfl (fun ls hl => ?_)
        refine lv_iconst (v := 0) hx hb dX12_trees_83 ki_0 ?_
        refine lv_istore hx hb dX12_trees_84 hl (Nat.le_of_ble_eq_true rfl) (lv' := [(4, .int 0), (2, .long 1), (0, .ref (ad 0)), (1, .int v1)]) rfl (fun ls hl => ?_)
        exact hL86 v1 y_cells a_besideIn FU _ _ _ 1 0 a_apart (lv_sub hl [2, 3, 1, 0] rfl) hP hS h
      · replace h := ifn h hc
        refine lv_iconst (v := 0) hx hb dX12_trees_14 ki_0 ?_
        refine lv_istore_n hx hb dX12_trees_15 rfl hl (Nat.le_of_ble_eq_true rfl) (lv' := [(3, .int 0), (0, .ref (ad 0)), (1, .int v1), (2, .int v2)]) rfl (fun ls hl => ?_)
        exact hL16 v2 FU _ _ _ 0 a_apart (lv_sub hl [1, 2, 3, 0] rfl) hP hS h
  refine lv_aload_n hx hb dX12_trees_0 rfl (lv_at hl 0 rfl) ?_
  refine mg_MO_38 hx hb hw hown hK hP dX12_trees_1 ?_
  refine lv_iconst (v := 1) hx hb dX12_trees_4 ki_1 ?_
  refine lv_isub hx hb dX12_trees_5 ?_
  obtain ⟨v1_46, ev1_46, h⟩ := nm_s h
  refine nmI ev1_46 ?_
  refine lv_istore_n hx hb dX12_trees_6 rfl hl (Nat.le_of_ble_eq_true rfl) (lv' := [(1, .int v1_46), (0, .ref (ad 0))]) rfl (fun ls hl => ?_)
  refine lv_iconst (v := 0) hx hb dX12_trees_7 ki_0 ?_
  refine lv_istore_n hx hb dX12_trees_8 rfl hl (Nat.le_of_ble_eq_true rfl) (lv' := [(2, .int 0), (1, .int v1_46), (0, .ref (ad 0))]) rfl (fun ls hl => ?_)
  exact hL9 v1_46 y_cells a_besideIn FU _ _ _ 0 a_apart (lv_sub hl [2, 1, 0] rfl) hP hS h
