noncomputable def ca_insert_J98  (v1 : Int32) (v2 : Int64) (v4 : Int32) (v5 : Int32) (a_numbers : Nat → Int64) (a_ends : Nat → Int32)  : Option ((Nat → Int64) × (Nat → Int32)) :=
  if v5 < 1067 then (cpk v4 (v4 + 1) (v5 - v4) 1067 1067 <|
  nm (va_cpy a_numbers a_numbers v4.toNatClampNeg (v4 + 1).toNatClampNeg (v5 - v4).toNatClampNeg) fun a_numbers_1 =>
  ck v4 1067 <|
  nm (vp_updL a_numbers_1 v4.toNatClampNeg v2) fun a_numbers_2 =>
  nm (v5 + 1 : Int32) fun w_3 =>
  ck v1 24 <|
  nm (upd a_ends v1.toNatClampNeg w_3) fun a_ends_4 =>
  some (a_numbers_2, a_ends_4)) else
  some (a_numbers, a_ends)
noncomputable def ca_insert_J79  (v1 : Int32) (v2 : Int64) (v4 : Int32) (v5 : Int32) (a_numbers : Nat → Int64) (a_ends : Nat → Int32)  : Option ((Nat → Int64) × (Nat → Int32)) :=
  if v5 ≤ v4 then (ca_insert_J98 v1 v2 v4 v5 a_numbers a_ends) else
  ck v4 1067 <|
  if (a_numbers v4.toNatClampNeg) = v2 then (some (a_numbers, a_ends)) else
  ca_insert_J98 v1 v2 v4 v5 a_numbers a_ends
noncomputable def ca_insert_J73 (k25 : Int32 → Int32 → Int32 → Option ((Nat → Int64) × (Nat → Int32))) (v1 : Int32) (v2 : Int64) (v4 : Int32) (v5 : Int32) (v6 : Int32) (v7 : Int32) (a_numbers : Nat → Int64) (a_ends : Nat → Int32)  : Option ((Nat → Int64) × (Nat → Int32)) :=
  nm (v7 + Int32.ofInt 1) fun v7_5 =>
  k25 v4 v6 v7_5
noncomputable def ca_insert_B25 (v1 : Int32) (v2 : Int64) (v5 : Int32) (a_numbers : Nat → Int64) (a_ends : Nat → Int32)  (k25 : Int32 → Int32 → Int32 → Option ((Nat → Int64) × (Nat → Int32))) (v4 : Int32) (v6 : Int32) (v7 : Int32) : Option ((Nat → Int64) × (Nat → Int32)) :=
  if 32 ≤ v7 then (ca_insert_J79 v1 v2 v4 v5 a_numbers a_ends) else
  if v6 ≤ v4 then (ca_insert_J79 v1 v2 v4 v5 a_numbers a_ends) else
  nm (ui (v4 + v6) 1 : Int32) fun v8_6 =>
  ck v8_6 1067 <|
  if v2 ≤ (a_numbers v8_6.toNatClampNeg) then (ca_insert_J73 k25 v1 v2 v4 v5 v8_6 v7 a_numbers a_ends) else
  nm (v8_6 + 1 : Int32) fun v4_7 =>
  ca_insert_J73 k25 v1 v2 v4_7 v5 v6 v7 a_numbers a_ends
noncomputable def ca_insert (v1 : Int32) (v2 : Int64) (a_numbers : Nat → Int64) (a_ends : Nat → Int32) : Option ((Nat → Int64) × (Nat → Int32)) :=
  nm (v1 - 1 : Int32) fun i_8 =>
  ck i_8 24 <|
  nm (a_ends i_8.toNatClampNeg : Int32) fun v4_9 =>
  ck v1 24 <|
  nm (a_ends v1.toNatClampNeg : Int32) fun v5_10 =>
  fl3 (ca_insert_B25 v1 v2 v5_10 a_numbers a_ends) FU v4_9 v5_10 0
set_option maxHeartbeats 4000000 in
set_option maxRecDepth 100000 in
theorem c_ca_insert (l : Launch) (D : va_G) (ct : Nat → ClassId) (ad : Nat → Nat) (hI : cI ad) {x_fed x_tk x_col x_line x_rcells x_rsize x_len x_cuts x_bare x_place x_lA x_lB x_lC x_fX x_fY x_sX x_sY x_made x_fsize x_psize x_over x_touch x_most x_mU x_mV x_area : Int32} {x_board : Int64} {a_tape a_letters a_oneSided a_free a_ends a_crowds a_wmade a_firsts a_widths a_heights a_places a_next a_pnear a_table a_overlaps : Nat → Int32} {a_drawers a_kept a_items a_numbers a_marks a_near a_figures a_covered a_pcells a_matrix : Nat → Int64} (v1 : Int32) (v2 : Int64)  (z_a_numbers : Nat → Int64) (z_a_ends : Nat → Int32) (h : ca_insert v1 v2 a_numbers a_ends = some (z_a_numbers, z_a_ends)) : Met l yX0_insert (wm yX0_insert cX0_insert 9 none) (rmm 1 38) (va_Pc [.ref (ad 9), .int v1, .long v2] (cB D ct ad x_fed x_tk x_col x_line x_rcells x_rsize x_len x_cuts x_bare x_place x_lA x_lB x_lC x_fX x_fY x_sX x_sY x_made x_fsize x_psize x_over x_touch x_most x_mU x_mV x_area x_board a_tape a_letters a_oneSided a_free a_ends a_crowds a_wmade a_firsts a_widths a_heights a_places a_next a_pnear a_table a_overlaps a_drawers a_kept a_items a_numbers a_marks a_near a_figures a_covered a_pcells a_matrix)) (va_Qv (fun (_ : Unit) => True) (fun _ t => cP D ct ad x_fed x_tk x_col x_line x_rcells x_rsize x_len x_cuts x_bare x_place x_lA x_lB x_lC x_fX x_fY x_sX x_sY x_made x_fsize x_psize x_over x_touch x_most x_mU x_mV x_area x_board a_tape a_letters a_oneSided a_free z_a_ends a_crowds a_wmade a_firsts a_widths a_heights a_places a_next a_pnear a_table a_overlaps a_drawers a_kept a_items z_a_numbers a_marks a_near a_figures a_covered a_pcells a_matrix t.heap) (cA ad)) 0 0 (cA ad) := by
  refine met_s (y := yX0_insert) (rm := rmm 1 38) (by decide) (Nat.le_of_ble_eq_true rfl) ?_
  intro p e s m below meth c hx hb hr hw hown hlocks _ hml hB ls hl
  obtain ⟨hN, hK, hP⟩ := hB
  replace hl : lv_has ls 9 [(0, .ref (ad 9)), (1, .int v1), (2, .long v2)] := hl
  have hS : va_S (cA ad) s.heap s.heap [] := va_S.rf
  generalize (([.ref (ad 9), .int v1, .long v2] : List Value).toArray) = av at hw ⊢
  rw [ca_insert] at h
  have hJ98 : ∀ (H : Heap) (locs : List Loc) (ls : Array Slot) (v1 : Int32) (v2 : Int64) (v4 : Int32) (v5 : Int32) (a_numbers : Nat → Int64) (a_ends : Nat → Int32) , lv_has ls 9 [(0, .ref (ad 9)), (1, .int v1), (2, .long v2), (4, .int v4), (5, .int v5)] → cP D ct ad x_fed x_tk x_col x_line x_rcells x_rsize x_len x_cuts x_bare x_place x_lA x_lB x_lC x_fX x_fY x_sX x_sY x_made x_fsize x_psize x_over x_touch x_most x_mU x_mV x_area x_board a_tape a_letters a_oneSided a_free a_ends a_crowds a_wmade a_firsts a_widths a_heights a_places a_next a_pnear a_table a_overlaps a_drawers a_kept a_items a_numbers a_marks a_near a_figures a_covered a_pcells a_matrix H → va_S (cA ad) s.heap H locs → ca_insert_J98 v1 v2 v4 v5 a_numbers a_ends = some (z_a_numbers, z_a_ends) → W p l e (rmm 1 38) s m av below meth c H locs 0 0 (MQ below (va_Qv (fun (_ : Unit) => True) (fun _ t => cP D ct ad x_fed x_tk x_col x_line x_rcells x_rsize x_len x_cuts x_bare x_place x_lA x_lB x_lC x_fX x_fY x_sX x_sY x_made x_fsize x_psize x_over x_touch x_most x_mU x_mV x_area x_board a_tape a_letters a_oneSided a_free z_a_ends a_crowds a_wmade a_firsts a_widths a_heights a_places a_next a_pnear a_table a_overlaps a_drawers a_kept a_items z_a_numbers a_marks a_near a_figures a_covered a_pcells a_matrix t.heap) (cA ad)) av s 0 0 (cA ad)) (F0 m 98 ls []) := by
    intro H locs ls v1 v2 v4 v5 a_numbers a_ends  hl hP hS h
    rw [ca_insert_J98] at h
    refine lv_iload hx hb dX0_insert_98 (lv_at hl 4 rfl) ?_
    refine lv_sipush (v := 1067) hx hb dX0_insert_100 ks_1067 ?_
    refine lv_icmp_lt hx hb dX0_insert_103 (tgt := 107) rfl (fun hc => ?_) (fun hc => ?_)
    · replace h := ifp h hc
      refine lv_aload_n hx hb dX0_insert_107 rfl (lv_at hl 0 rfl) ?_
      refine cg_CA_0 hx hb hw hown hK hP dX0_insert_108 ?_
      refine lv_iload hx hb dX0_insert_111 (lv_at hl 3 rfl) ?_
      refine lv_aload_n hx hb dX0_insert_113 rfl (lv_at hl 0 rfl) ?_
      refine cg_CA_0 hx hb hw hown hK hP dX0_insert_114 ?_
      refine lv_iload hx hb dX0_insert_117 (lv_at hl 3 rfl) ?_
      refine lv_iconst (v := 1) hx hb dX0_insert_119 ki_1 ?_
      refine lv_iadd hx hb dX0_insert_120 ?_
      refine lv_iload hx hb dX0_insert_121 (lv_at hl 4 rfl) ?_
      refine lv_iload hx hb dX0_insert_123 (lv_at hl 3 rfl) ?_
      refine lv_isub hx hb dX0_insert_125 ?_
      obtain ⟨hcp, h⟩ := cpk_s h
      obtain ⟨a_numbers_11, ea_numbers_11, h⟩ := nm_s h
      refine cy_numbers_numbers hx hb (hml.trans hl.1.symm) hw hown hK hP hI hS hcp ea_numbers_11 (Nat.le_of_ble_eq_true rfl) (by decide) dX0_insert_126 (fun H locs hP hS => ?_)
      refine lv_aload_n hx hb dX0_insert_129 rfl (lv_at hl 0 rfl) ?_
      refine cg_CA_0 hx hb hw hown hK hP dX0_insert_130 ?_
      refine lv_iload hx hb dX0_insert_133 (lv_at hl 3 rfl) ?_
      refine lv_lload_n hx hb dX0_insert_135 rfl (lv_at hl 2 rfl) ?_
      obtain ⟨hin, h⟩ := ck_s h
      obtain ⟨a_numbers_12, ea_numbers_12, h⟩ := nm_s h
      refine cs_numbers hx hb hK hP hI hS hin ea_numbers_12 dX0_insert_136 (fun H locs hP hS => ?_)
      refine lv_aload_n hx hb dX0_insert_137 rfl (lv_at hl 0 rfl) ?_
      refine cg_CA_3 hx hb hw hown hK hP dX0_insert_138 ?_
      refine lv_iload_n hx hb dX0_insert_141 rfl (lv_at hl 1 rfl) ?_
      refine lv_iload hx hb dX0_insert_142 (lv_at hl 4 rfl) ?_
      refine lv_iconst (v := 1) hx hb dX0_insert_144 ki_1 ?_
      refine lv_iadd hx hb dX0_insert_145 ?_
      obtain ⟨w_13, ew_13, h⟩ := nm_s h
      refine nmI ew_13 ?_
      obtain ⟨hin, h⟩ := ck_s h
      obtain ⟨a_ends_14, ea_ends_14, h⟩ := nm_s h
      refine cs_ends hx hb hK hP hI hS hin ea_ends_14 dX0_insert_146 (fun H locs hP hS => ?_)
      simp only [Option.some.injEq, Prod.mk.injEq] at h
      obtain ⟨rfl, rfl⟩ := h
      exact rc_v hx hb hr hlocks hS dX0_insert_147 hP
    · replace h := ifn h hc
      simp only [Option.some.injEq, Prod.mk.injEq] at h
      obtain ⟨rfl, rfl⟩ := h
      exact rc_v hx hb hr hlocks hS dX0_insert_106 hP
  have hJ79 : ∀ (H : Heap) (locs : List Loc) (ls : Array Slot) (v1 : Int32) (v2 : Int64) (v4 : Int32) (v5 : Int32) (a_numbers : Nat → Int64) (a_ends : Nat → Int32) , lv_has ls 9 [(0, .ref (ad 9)), (1, .int v1), (2, .long v2), (4, .int v4), (5, .int v5)] → cP D ct ad x_fed x_tk x_col x_line x_rcells x_rsize x_len x_cuts x_bare x_place x_lA x_lB x_lC x_fX x_fY x_sX x_sY x_made x_fsize x_psize x_over x_touch x_most x_mU x_mV x_area x_board a_tape a_letters a_oneSided a_free a_ends a_crowds a_wmade a_firsts a_widths a_heights a_places a_next a_pnear a_table a_overlaps a_drawers a_kept a_items a_numbers a_marks a_near a_figures a_covered a_pcells a_matrix H → va_S (cA ad) s.heap H locs → ca_insert_J79 v1 v2 v4 v5 a_numbers a_ends = some (z_a_numbers, z_a_ends) → W p l e (rmm 1 38) s m av below meth c H locs 0 0 (MQ below (va_Qv (fun (_ : Unit) => True) (fun _ t => cP D ct ad x_fed x_tk x_col x_line x_rcells x_rsize x_len x_cuts x_bare x_place x_lA x_lB x_lC x_fX x_fY x_sX x_sY x_made x_fsize x_psize x_over x_touch x_most x_mU x_mV x_area x_board a_tape a_letters a_oneSided a_free z_a_ends a_crowds a_wmade a_firsts a_widths a_heights a_places a_next a_pnear a_table a_overlaps a_drawers a_kept a_items z_a_numbers a_marks a_near a_figures a_covered a_pcells a_matrix t.heap) (cA ad)) av s 0 0 (cA ad)) (F0 m 79 ls []) := by
    intro H locs ls v1 v2 v4 v5 a_numbers a_ends  hl hP hS h
    rw [ca_insert_J79] at h
    refine lv_iload hx hb dX0_insert_79 (lv_at hl 3 rfl) ?_
    refine lv_iload hx hb dX0_insert_81 (lv_at hl 4 rfl) ?_
    refine lv_icmp_ge hx hb dX0_insert_83 (tgt := 98) rfl (fun hc => ?_) (fun hc => ?_)
    · replace h := ifp h hc
      exact hJ98 _ _ _ v1 v2 v4 v5 a_numbers a_ends (lv_sub hl [0, 1, 2, 3, 4] rfl) hP hS h
    · replace h := ifn h hc
      refine lv_aload_n hx hb dX0_insert_86 rfl (lv_at hl 0 rfl) ?_
      refine cg_CA_0 hx hb hw hown hK hP dX0_insert_87 ?_
      refine lv_iload hx hb dX0_insert_90 (lv_at hl 3 rfl) ?_
      obtain ⟨hin, h⟩ := ck_s h
      refine cd_numbers hx hb hK hP hin dX0_insert_92 ?_
      refine lv_lload_n hx hb dX0_insert_93 rfl (lv_at hl 2 rfl) ?_
      refine W.lcmp hx hb dX0_insert_94 ?_
      refine lv_if_eq hx hb dX0_insert_95 (tgt := 106) rfl (fun hc => ?_) (fun hc => ?_)
      · replace h := ifp h ((lg_cmp_eq _ _).mp hc)
        simp only [Option.some.injEq, Prod.mk.injEq] at h
        obtain ⟨rfl, rfl⟩ := h
        exact rc_v hx hb hr hlocks hS dX0_insert_106 hP
      · replace h := ifn h (fun q => hc ((lg_cmp_eq _ _).mpr q))
        exact hJ98 _ _ _ v1 v2 v4 v5 a_numbers a_ends (lv_sub hl [0, 1, 2, 3, 4] rfl) hP hS h
  have hL25 : ∀ (v1 : Int32), ∀ (v2 : Int64), ∀ (v5 : Int32), ∀ (a_numbers : Nat → Int64), ∀ (a_ends : Nat → Int32), ∀ (n25 : Nat) (H : Heap) (locs : List Loc) (ls : Array Slot) (v4 : Int32) (v6 : Int32) (v7 : Int32), lv_has ls 9 [(0, .ref (ad 9)), (1, .int v1), (2, .long v2), (4, .int v4), (5, .int v5), (6, .int v6), (7, .int v7)] → cP D ct ad x_fed x_tk x_col x_line x_rcells x_rsize x_len x_cuts x_bare x_place x_lA x_lB x_lC x_fX x_fY x_sX x_sY x_made x_fsize x_psize x_over x_touch x_most x_mU x_mV x_area x_board a_tape a_letters a_oneSided a_free a_ends a_crowds a_wmade a_firsts a_widths a_heights a_places a_next a_pnear a_table a_overlaps a_drawers a_kept a_items a_numbers a_marks a_near a_figures a_covered a_pcells a_matrix H → va_S (cA ad) s.heap H locs → fl3 (ca_insert_B25 v1 v2 v5 a_numbers a_ends) n25 v4 v6 v7 = some (z_a_numbers, z_a_ends) → W p l e (rmm 1 38) s m av below meth c H locs 0 0 (MQ below (va_Qv (fun (_ : Unit) => True) (fun _ t => cP D ct ad x_fed x_tk x_col x_line x_rcells x_rsize x_len x_cuts x_bare x_place x_lA x_lB x_lC x_fX x_fY x_sX x_sY x_made x_fsize x_psize x_over x_touch x_most x_mU x_mV x_area x_board a_tape a_letters a_oneSided a_free z_a_ends a_crowds a_wmade a_firsts a_widths a_heights a_places a_next a_pnear a_table a_overlaps a_drawers a_kept a_items z_a_numbers a_marks a_near a_figures a_covered a_pcells a_matrix t.heap) (cA ad)) av s 0 0 (cA ad)) (F0 m 25 ls []) := by
    intro v1 v2 v5 a_numbers a_ends n25
    induction n25 with
    | zero => intro H locs ls v4 v6 v7 hl hP hS h; cases h
    | succ n25 ih25 =>
      intro H locs ls v4 v6 v7 hl hP hS h
      replace h : ca_insert_B25 v1 v2 v5 a_numbers a_ends (fl3 (ca_insert_B25 v1 v2 v5 a_numbers a_ends) n25) v4 v6 v7 = some (z_a_numbers, z_a_ends) := h
      generalize fl3 (ca_insert_B25 v1 v2 v5 a_numbers a_ends) n25 = k25 at h ih25
      have hJ73 : ∀ (H : Heap) (locs : List Loc) (ls : Array Slot) (v4 : Int32) (v6 : Int32) (v7 : Int32) , lv_has ls 9 [(0, .ref (ad 9)), (1, .int v1), (2, .long v2), (4, .int v4), (5, .int v5), (6, .int v6), (7, .int v7)] → cP D ct ad x_fed x_tk x_col x_line x_rcells x_rsize x_len x_cuts x_bare x_place x_lA x_lB x_lC x_fX x_fY x_sX x_sY x_made x_fsize x_psize x_over x_touch x_most x_mU x_mV x_area x_board a_tape a_letters a_oneSided a_free a_ends a_crowds a_wmade a_firsts a_widths a_heights a_places a_next a_pnear a_table a_overlaps a_drawers a_kept a_items a_numbers a_marks a_near a_figures a_covered a_pcells a_matrix H → va_S (cA ad) s.heap H locs → ca_insert_J73 k25 v1 v2 v4 v5 v6 v7 a_numbers a_ends = some (z_a_numbers, z_a_ends) → W p l e (rmm 1 38) s m av below meth c H locs 0 0 (MQ below (va_Qv (fun (_ : Unit) => True) (fun _ t => cP D ct ad x_fed x_tk x_col x_line x_rcells x_rsize x_len x_cuts x_bare x_place x_lA x_lB x_lC x_fX x_fY x_sX x_sY x_made x_fsize x_psize x_over x_touch x_most x_mU x_mV x_area x_board a_tape a_letters a_oneSided a_free z_a_ends a_crowds a_wmade a_firsts a_widths a_heights a_places a_next a_pnear a_table a_overlaps a_drawers a_kept a_items z_a_numbers a_marks a_near a_figures a_covered a_pcells a_matrix t.heap) (cA ad)) av s 0 0 (cA ad)) (F0 m 73 ls []) := by
        intro H locs ls v4 v6 v7  hl hP hS h
        rw [ca_insert_J73] at h
        obtain ⟨v7_15, ev7_15, h⟩ := nm_s h
        refine lv_iinc hx hb dX0_insert_73 hl (k := 6) rfl ev7_15.symm (Nat.le_of_ble_eq_true rfl) (lv' := [(7, .int v7_15), (0, .ref (ad 9)), (1, .int v1), (2, .long v2), (4, .int v4), (5, .int v5), (6, .int v6)]) rfl (fun ls hl => ?_)
        refine lv_goto hx hb dX0_insert_76 (tgt := 25) rfl ?_
        exact ih25 _ _ _ v4 v6 v7_15 (lv_sub hl [1, 2, 3, 4, 5, 6, 0] rfl) hP hS h
      rw [ca_insert_B25] at h
      refine lv_iload hx hb dX0_insert_25 (lv_at hl 6 rfl) ?_
      refine lv_bipush (v := 32) hx hb dX0_insert_27 kb_32 ?_
      refine lv_icmp_ge hx hb dX0_insert_29 (tgt := 79) rfl (fun hc => ?_) (fun hc => ?_)
      · replace h := ifp h hc
        exact hJ79 _ _ _ v1 v2 v4 v5 a_numbers a_ends (lv_sub hl [0, 1, 2, 3, 4] rfl) hP hS h
      · replace h := ifn h hc
        refine lv_iload hx hb dX0_insert_32 (lv_at hl 3 rfl) ?_
        refine lv_iload hx hb dX0_insert_34 (lv_at hl 5 rfl) ?_
        refine lv_icmp_ge hx hb dX0_insert_36 (tgt := 79) rfl (fun hc => ?_) (fun hc => ?_)
        · replace h := ifp h hc
          exact hJ79 _ _ _ v1 v2 v4 v5 a_numbers a_ends (lv_sub hl [0, 1, 2, 3, 4] rfl) hP hS h
        · replace h := ifn h hc
          refine lv_iload hx hb dX0_insert_39 (lv_at hl 3 rfl) ?_
          refine lv_iload hx hb dX0_insert_41 (lv_at hl 5 rfl) ?_
          refine lv_iadd hx hb dX0_insert_43 ?_
          refine lv_iconst (v := 1) hx hb dX0_insert_44 ki_1 ?_
          refine lv_iushr hx hb (v := ui (v4 + v6) 1) dX0_insert_45 rfl ?_
          obtain ⟨v8_16, ev8_16, h⟩ := nm_s h
          refine nmI ev8_16 ?_
          refine lv_istore hx hb dX0_insert_46 hl (Nat.le_of_ble_eq_true rfl) (lv' := [(8, .int v8_16), (0, .ref (ad 9)), (1, .int v1), (2, .long v2), (4, .int v4), (5, .int v5), (6, .int v6), (7, .int v7)]) rfl (fun ls hl => ?_)
          refine lv_aload_n hx hb dX0_insert_48 rfl (lv_at hl 1 rfl) ?_
          refine cg_CA_0 hx hb hw hown hK hP dX0_insert_49 ?_
          refine lv_iload hx hb dX0_insert_52 (lv_at hl 0 rfl) ?_
          obtain ⟨hin, h⟩ := ck_s h
          refine cd_numbers hx hb hK hP hin dX0_insert_54 ?_
          refine lv_lload_n hx hb dX0_insert_55 rfl (lv_at hl 3 rfl) ?_
          refine W.lcmp hx hb dX0_insert_56 ?_
          refine lv_if_ge hx hb dX0_insert_57 (tgt := 69) rfl (fun hc => ?_) (fun hc => ?_)
          · replace h := ifp h ((lg_cmp_ge _ _).mp hc)
            refine lv_iload hx hb dX0_insert_69 (lv_at hl 0 rfl) ?_
            refine lv_istore hx hb dX0_insert_71 hl (Nat.le_of_ble_eq_true rfl) (lv' := [(6, .int v8_16), (8, .int v8_16), (0, .ref (ad 9)), (1, .int v1), (2, .long v2), (4, .int v4), (5, .int v5), (7, .int v7)]) rfl (fun ls hl => ?_)
            exact hJ73 _ _ _ v4 v8_16 v7 (lv_sub hl [2, 3, 4, 5, 6, 0, 7] rfl) hP hS h
          · replace h := ifn h (fun q => hc ((lg_cmp_ge _ _).mpr q))
            refine lv_iload hx hb dX0_insert_60 (lv_at hl 0 rfl) ?_
            refine lv_iconst (v := 1) hx hb dX0_insert_62 ki_1 ?_
            refine lv_iadd hx hb dX0_insert_63 ?_
            obtain ⟨v4_17, ev4_17, h⟩ := nm_s h
            refine nmI ev4_17 ?_
            refine lv_istore hx hb dX0_insert_64 hl (Nat.le_of_ble_eq_true rfl) (lv' := [(4, .int v4_17), (8, .int v8_16), (0, .ref (ad 9)), (1, .int v1), (2, .long v2), (5, .int v5), (6, .int v6), (7, .int v7)]) rfl (fun ls hl => ?_)
            refine lv_goto hx hb dX0_insert_66 (tgt := 73) rfl ?_
            exact hJ73 _ _ _ v4_17 v6 v7 (lv_sub hl [2, 3, 4, 0, 5, 6, 7] rfl) hP hS h
  refine lv_aload_n hx hb dX0_insert_0 rfl (lv_at hl 0 rfl) ?_
  refine cg_CA_3 hx hb hw hown hK hP dX0_insert_1 ?_
  refine lv_iload_n hx hb dX0_insert_4 rfl (lv_at hl 1 rfl) ?_
  refine lv_iconst (v := 1) hx hb dX0_insert_5 ki_1 ?_
  refine lv_isub hx hb dX0_insert_6 ?_
  obtain ⟨i_18, ei_18, h⟩ := nm_s h
  refine nmI ei_18 ?_
  obtain ⟨hin, h⟩ := ck_s h
  refine cd_ends hx hb hK hP hin dX0_insert_7 ?_
  obtain ⟨v4_19, ev4_19, h⟩ := nm_s h
  refine nmI ev4_19 ?_
  refine lv_istore hx hb dX0_insert_8 hl (Nat.le_of_ble_eq_true rfl) (lv' := [(4, .int v4_19), (0, .ref (ad 9)), (1, .int v1), (2, .long v2)]) rfl (fun ls hl => ?_)
  refine lv_aload_n hx hb dX0_insert_10 rfl (lv_at hl 1 rfl) ?_
  refine cg_CA_3 hx hb hw hown hK hP dX0_insert_11 ?_
  refine lv_iload_n hx hb dX0_insert_14 rfl (lv_at hl 2 rfl) ?_
  obtain ⟨hin, h⟩ := ck_s h
  refine cd_ends hx hb hK hP hin dX0_insert_15 ?_
  obtain ⟨v5_20, ev5_20, h⟩ := nm_s h
  refine nmI ev5_20 ?_
  refine lv_istore hx hb dX0_insert_16 hl (Nat.le_of_ble_eq_true rfl) (lv' := [(5, .int v5_20), (4, .int v4_19), (0, .ref (ad 9)), (1, .int v1), (2, .long v2)]) rfl (fun ls hl => ?_)
  refine lv_iload hx hb dX0_insert_18 (lv_at hl 0 rfl) ?_
  refine lv_istore hx hb dX0_insert_20 hl (Nat.le_of_ble_eq_true rfl) (lv' := [(6, .int v5_20), (5, .int v5_20), (4, .int v4_19), (0, .ref (ad 9)), (1, .int v1), (2, .long v2)]) rfl (fun ls hl => ?_)
  refine lv_iconst (v := 0) hx hb dX0_insert_22 ki_0 ?_
  refine lv_istore hx hb dX0_insert_23 hl (Nat.le_of_ble_eq_true rfl) (lv' := [(7, .int 0), (6, .int v5_20), (5, .int v5_20), (4, .int v4_19), (0, .ref (ad 9)), (1, .int v1), (2, .long v2)]) rfl (fun ls hl => ?_)
  exact hL25 v1 v2 v5_20 a_numbers a_ends FU _ _ _ v4_19 v5_20 0 (lv_sub hl [4, 5, 6, 3, 2, 1, 0] rfl) hP hS h
noncomputable def ca_insertGrown_B24 (v1 : Int32) (v4 : Int64) (v8 : Int32)  (k24 : Int64 → Int32 → (Nat → Int64) → (Nat → Int32) → Option ((Nat → Int64) × (Nat → Int32))) (v6 : Int64) (v9 : Int32) (a_numbers : Nat → Int64) (a_ends : Nat → Int32) : Option ((Nat → Int64) × (Nat → Int32)) :=
  if v8 ≤ v9 then (some (a_numbers, a_ends)) else
  nm (v6 &&& (-v6) : Int64) fun v10_1 =>
  nm (v6 ^^^ v10_1 : Int64) fun v6_2 =>
  bd1 (gr_settled (v4 ||| v10_1)) fun r_3 =>
  bd2 (ca_insert v1 r_3 a_numbers a_ends) fun a_numbers_5 a_ends_6 =>
  nm (v9 + Int32.ofInt 1) fun v9_8 =>
  k24 v6_2 v9_8 a_numbers_5 a_ends_6
noncomputable def ca_insertGrown (v1 : Int32) (v2 : Int64) (a_numbers : Nat → Int64) (a_ends : Nat → Int32) : Option ((Nat → Int64) × (Nat → Int32)) :=
  bd1 (gr_roomed v2) fun r_9 =>
  bd1 (gr_sites v2 r_9) fun r_11 =>
  bd1 (jl_bitCount r_11) fun r_13 =>
  fl4 (ca_insertGrown_B24 v1 r_9 r_13) FU r_11 0 a_numbers a_ends
set_option maxHeartbeats 4000000 in
set_option maxRecDepth 100000 in
theorem c_ca_insertGrown (l : Launch) (D : va_G) (ct : Nat → ClassId) (ad : Nat → Nat) (hI : cI ad) {x_fed x_tk x_col x_line x_rcells x_rsize x_len x_cuts x_bare x_place x_lA x_lB x_lC x_fX x_fY x_sX x_sY x_made x_fsize x_psize x_over x_touch x_most x_mU x_mV x_area : Int32} {x_board : Int64} {a_tape a_letters a_oneSided a_free a_ends a_crowds a_wmade a_firsts a_widths a_heights a_places a_next a_pnear a_table a_overlaps : Nat → Int32} {a_drawers a_kept a_items a_numbers a_marks a_near a_figures a_covered a_pcells a_matrix : Nat → Int64} (v1 : Int32) (v2 : Int64)  (z_a_numbers : Nat → Int64) (z_a_ends : Nat → Int32) (h : ca_insertGrown v1 v2 a_numbers a_ends = some (z_a_numbers, z_a_ends)) : Met l yX0_insertGrown (wm yX0_insertGrown cX0_insertGrown 12 none) (rmm 3 69) (va_Pc [.ref (ad 9), .int v1, .long v2] (cB D ct ad x_fed x_tk x_col x_line x_rcells x_rsize x_len x_cuts x_bare x_place x_lA x_lB x_lC x_fX x_fY x_sX x_sY x_made x_fsize x_psize x_over x_touch x_most x_mU x_mV x_area x_board a_tape a_letters a_oneSided a_free a_ends a_crowds a_wmade a_firsts a_widths a_heights a_places a_next a_pnear a_table a_overlaps a_drawers a_kept a_items a_numbers a_marks a_near a_figures a_covered a_pcells a_matrix)) (va_Qv (fun (_ : Unit) => True) (fun _ t => cP D ct ad x_fed x_tk x_col x_line x_rcells x_rsize x_len x_cuts x_bare x_place x_lA x_lB x_lC x_fX x_fY x_sX x_sY x_made x_fsize x_psize x_over x_touch x_most x_mU x_mV x_area x_board a_tape a_letters a_oneSided a_free z_a_ends a_crowds a_wmade a_firsts a_widths a_heights a_places a_next a_pnear a_table a_overlaps a_drawers a_kept a_items z_a_numbers a_marks a_near a_figures a_covered a_pcells a_matrix t.heap) (cA ad)) 0 0 (cA ad) := by
  refine met_s (y := yX0_insertGrown) (rm := rmm 3 69) (by decide) (Nat.le_of_ble_eq_true rfl) ?_
  intro p e s m below meth c hx hb hr hw hown hlocks _ hml hB ls hl
  obtain ⟨hN, hK, hP⟩ := hB
  replace hl : lv_has ls 12 [(0, .ref (ad 9)), (1, .int v1), (2, .long v2)] := hl
  have hS : va_S (cA ad) s.heap s.heap [] := va_S.rf
  generalize (([.ref (ad 9), .int v1, .long v2] : List Value).toArray) = av at hw ⊢
  rw [ca_insertGrown] at h
  have hL24 : ∀ (v1 : Int32), ∀ (v4 : Int64), ∀ (v8 : Int32), ∀ (n24 : Nat) (H : Heap) (locs : List Loc) (ls : Array Slot) (v6 : Int64) (v9 : Int32) (a_numbers : Nat → Int64) (a_ends : Nat → Int32), lv_has ls 12 [(0, .ref (ad 9)), (1, .int v1), (4, .long v4), (6, .long v6), (8, .int v8), (9, .int v9)] → cP D ct ad x_fed x_tk x_col x_line x_rcells x_rsize x_len x_cuts x_bare x_place x_lA x_lB x_lC x_fX x_fY x_sX x_sY x_made x_fsize x_psize x_over x_touch x_most x_mU x_mV x_area x_board a_tape a_letters a_oneSided a_free a_ends a_crowds a_wmade a_firsts a_widths a_heights a_places a_next a_pnear a_table a_overlaps a_drawers a_kept a_items a_numbers a_marks a_near a_figures a_covered a_pcells a_matrix H → va_S (cA ad) s.heap H locs → fl4 (ca_insertGrown_B24 v1 v4 v8) n24 v6 v9 a_numbers a_ends = some (z_a_numbers, z_a_ends) → W p l e (rmm 3 69) s m av below meth c H locs 0 0 (MQ below (va_Qv (fun (_ : Unit) => True) (fun _ t => cP D ct ad x_fed x_tk x_col x_line x_rcells x_rsize x_len x_cuts x_bare x_place x_lA x_lB x_lC x_fX x_fY x_sX x_sY x_made x_fsize x_psize x_over x_touch x_most x_mU x_mV x_area x_board a_tape a_letters a_oneSided a_free z_a_ends a_crowds a_wmade a_firsts a_widths a_heights a_places a_next a_pnear a_table a_overlaps a_drawers a_kept a_items z_a_numbers a_marks a_near a_figures a_covered a_pcells a_matrix t.heap) (cA ad)) av s 0 0 (cA ad)) (F0 m 24 ls []) := by
    intro v1 v4 v8 n24
    induction n24 with
    | zero => intro H locs ls v6 v9 a_numbers a_ends hl hP hS h; cases h
    | succ n24 ih24 =>
      intro H locs ls v6 v9 a_numbers a_ends hl hP hS h
      replace h : ca_insertGrown_B24 v1 v4 v8 (fl4 (ca_insertGrown_B24 v1 v4 v8) n24) v6 v9 a_numbers a_ends = some (z_a_numbers, z_a_ends) := h
      generalize fl4 (ca_insertGrown_B24 v1 v4 v8) n24 = k24 at h ih24
      rw [ca_insertGrown_B24] at h
      refine lv_iload hx hb dX0_insertGrown_24 (lv_at hl 5 rfl) ?_
      refine lv_iload hx hb dX0_insertGrown_26 (lv_at hl 4 rfl) ?_
      refine lv_icmp_ge hx hb dX0_insertGrown_28 (tgt := 65) rfl (fun hc => ?_) (fun hc => ?_)
      · replace h := ifp h hc
        simp only [Option.some.injEq, Prod.mk.injEq] at h
        obtain ⟨rfl, rfl⟩ := h
        exact rc_v hx hb hr hlocks hS dX0_insertGrown_65 hP
      · replace h := ifn h hc
        refine lv_lload hx hb dX0_insertGrown_31 (lv_at hl 3 rfl) ?_
        refine lv_lload hx hb dX0_insertGrown_33 (lv_at hl 3 rfl) ?_
        refine lv_lneg hx hb dX0_insertGrown_35 ?_
        refine lv_land hx hb dX0_insertGrown_36 ?_
        obtain ⟨v10_15, ev10_15, h⟩ := nm_s h
        refine nmL ev10_15 ?_
        refine lv_lstore hx hb dX0_insertGrown_37 hl (Nat.le_of_ble_eq_true rfl) (lv' := [(10, .long v10_15), (0, .ref (ad 9)), (1, .int v1), (4, .long v4), (6, .long v6), (8, .int v8), (9, .int v9)]) rfl (fun ls hl => ?_)
        refine lv_lload hx hb dX0_insertGrown_39 (lv_at hl 4 rfl) ?_
        refine lv_lload hx hb dX0_insertGrown_41 (lv_at hl 0 rfl) ?_
        refine lv_lxor hx hb dX0_insertGrown_43 ?_
        obtain ⟨v6_16, ev6_16, h⟩ := nm_s h
        refine nmL ev6_16 ?_
        refine lv_lstore hx hb dX0_insertGrown_44 hl (Nat.le_of_ble_eq_true rfl) (lv' := [(6, .long v6_16), (10, .long v10_15), (0, .ref (ad 9)), (1, .int v1), (4, .long v4), (8, .int v8), (9, .int v9)]) rfl (fun ls hl => ?_)
        refine lv_aload_n hx hb dX0_insertGrown_46 rfl (lv_at hl 2 rfl) ?_
        refine lv_iload_n hx hb dX0_insertGrown_47 rfl (lv_at hl 3 rfl) ?_
        refine lv_lload hx hb dX0_insertGrown_48 (lv_at hl 4 rfl) ?_
        refine lv_lload hx hb dX0_insertGrown_50 (lv_at hl 1 rfl) ?_
        refine lv_lor hx hb dX0_insertGrown_52 ?_
        obtain ⟨r_17, hr_18, h⟩ := bd1_s h
        refine sc_l hx hb hml hown hw hN (c_gr_settled l (v4 ||| v10_15) r_17 hr_18) g_RX0_107 hd_X2_settled (rest := [.int v1, .ref (ad 9)]) hl.1 hS dX0_insertGrown_53 rfl rfl ⟨Nat.le_of_ble_eq_true rfl, Nat.le_of_ble_eq_true rfl⟩ rfl rfl (Nat.le_of_ble_eq_true rfl) ⟨Nat.zero_le _, Nat.zero_le _⟩ (fun H locs hk hS => ?_)
        have hP := cP_kept hP hk
        obtain ⟨a_numbers_19, a_ends_20, hr_21, h⟩ := bd2_s h
        refine hv_v hx hb hml hown hw cB_bl (cB_of hN hK hP) (cr_CA hK hP) (c_ca_insert l D ct ad hI v1 r_17 a_numbers_19 a_ends_20 hr_21) g_RX0_87 ⟨rfl, hd_X0_insert⟩ (rest := []) hl.1 hS (fun q h => h) dX0_insertGrown_56 rfl rfl ⟨Nat.le_of_ble_eq_true rfl, Nat.le_of_ble_eq_true rfl⟩ rfl rfl (Nat.le_of_ble_eq_true rfl) ⟨Nat.zero_le _, Nat.zero_le _⟩ (fun H locs hP _ hS => ?_)
        obtain ⟨v9_22, ev9_22, h⟩ := nm_s h
        refine lv_iinc hx hb dX0_insertGrown_59 hl (k := 6) rfl ev9_22.symm (Nat.le_of_ble_eq_true rfl) (lv' := [(9, .int v9_22), (6, .long v6_16), (10, .long v10_15), (0, .ref (ad 9)), (1, .int v1), (4, .long v4), (8, .int v8)]) rfl (fun ls hl => ?_)
        refine lv_goto hx hb dX0_insertGrown_62 (tgt := 24) rfl ?_
        exact ih24 _ _ _ v6_16 v9_22 a_numbers_19 a_ends_20 (lv_sub hl [3, 4, 5, 1, 6, 0] rfl) hP hS h
  refine lv_lload_n hx hb dX0_insertGrown_0 rfl (lv_at hl 2 rfl) ?_
  obtain ⟨r_23, hr_24, h⟩ := bd1_s h
  refine sc_l hx hb hml hown hw hN (c_gr_roomed l v2 r_23 hr_24) g_RX0_94 hd_X2_roomed (rest := []) hl.1 hS dX0_insertGrown_1 rfl rfl ⟨Nat.le_of_ble_eq_true rfl, Nat.le_of_ble_eq_true rfl⟩ rfl rfl (Nat.le_of_ble_eq_true rfl) ⟨Nat.zero_le _, Nat.zero_le _⟩ (fun H locs hk hS => ?_)
  have hP := cP_kept hP hk
  refine lv_lstore hx hb dX0_insertGrown_4 hl (Nat.le_of_ble_eq_true rfl) (lv' := [(4, .long r_23), (0, .ref (ad 9)), (1, .int v1), (2, .long v2)]) rfl (fun ls hl => ?_)
  refine lv_lload_n hx hb dX0_insertGrown_6 rfl (lv_at hl 3 rfl) ?_
  refine lv_lload hx hb dX0_insertGrown_7 (lv_at hl 0 rfl) ?_
  obtain ⟨r_25, hr_26, h⟩ := bd1_s h
  refine sc_l hx hb hml hown hw hN (c_gr_sites l v2 r_23 r_25 hr_26) g_RX0_98 hd_X2_sites (rest := []) hl.1 hS dX0_insertGrown_9 rfl rfl ⟨Nat.le_of_ble_eq_true rfl, Nat.le_of_ble_eq_true rfl⟩ rfl rfl (Nat.le_of_ble_eq_true rfl) ⟨Nat.zero_le _, Nat.zero_le _⟩ (fun H locs hk hS => ?_)
  have hP := cP_kept hP hk
  refine lv_lstore hx hb dX0_insertGrown_12 hl (Nat.le_of_ble_eq_true rfl) (lv' := [(6, .long r_25), (4, .long r_23), (0, .ref (ad 9)), (1, .int v1), (2, .long v2)]) rfl (fun ls hl => ?_)
  refine lv_lload hx hb dX0_insertGrown_14 (lv_at hl 0 rfl) ?_
  obtain ⟨r_27, hr_28, h⟩ := bd1_s h
  refine sc_i hx hb hml hown hw hN (c_jl_bitCount l r_25 r_27 hr_28) g_RX0_102 hd_J13_bitCount_95d88 (rest := []) hl.1 hS dX0_insertGrown_16 rfl rfl ⟨Nat.le_of_ble_eq_true rfl, Nat.le_of_ble_eq_true rfl⟩ rfl rfl (Nat.le_of_ble_eq_true rfl) ⟨Nat.zero_le _, Nat.zero_le _⟩ (fun H locs hk hS => ?_)
  have hP := cP_kept hP hk
  refine lv_istore hx hb dX0_insertGrown_19 hl (Nat.le_of_ble_eq_true rfl) (lv' := [(8, .int r_27), (6, .long r_25), (4, .long r_23), (0, .ref (ad 9)), (1, .int v1), (2, .long v2)]) rfl (fun ls hl => ?_)
  refine lv_iconst (v := 0) hx hb dX0_insertGrown_21 ki_0 ?_
  refine lv_istore hx hb dX0_insertGrown_22 hl (Nat.le_of_ble_eq_true rfl) (lv' := [(9, .int 0), (8, .int r_27), (6, .long r_25), (4, .long r_23), (0, .ref (ad 9)), (1, .int v1), (2, .long v2)]) rfl (fun ls hl => ?_)
  exact hL24 v1 r_23 r_27 FU _ _ _ r_25 0 a_numbers a_ends (lv_sub hl [4, 5, 3, 2, 1, 0] rfl) hP hS h
noncomputable def ca_makeFixed_B35 (v1 : Int32)  (k35 : Int32 → (Nat → Int64) → (Nat → Int32) → Option ((Nat → Int64) × (Nat → Int32))) (v2 : Int32) (a_numbers : Nat → Int64) (a_ends : Nat → Int32) : Option ((Nat → Int64) × (Nat → Int32)) :=
  nm (v1 - 1 : Int32) fun i_1 =>
  ck i_1 24 <|
  if (a_ends i_1.toNatClampNeg) ≤ v2 then (some (a_numbers, a_ends)) else
  if 1067 ≤ v2 then (some (a_numbers, a_ends)) else
  ck v2 1067 <|
  bd2 (ca_insertGrown v1 (a_numbers v2.toNatClampNeg) a_numbers a_ends) fun a_numbers_2 a_ends_3 =>
  nm (v2 + Int32.ofInt 1) fun v2_5 =>
  k35 v2_5 a_numbers_2 a_ends_3
noncomputable def ca_makeFixed (v1 : Int32) (a_numbers : Nat → Int64) (a_ends : Nat → Int32) : Option ((Nat → Int64) × (Nat → Int32)) :=
  nm (v1 - 1 : Int32) fun i_6 =>
  ck i_6 24 <|
  nm (a_ends i_6.toNatClampNeg : Int32) fun w_7 =>
  ck v1 24 <|
  nm (upd a_ends v1.toNatClampNeg w_7) fun a_ends_8 =>
  if v1 = 1 then (bd2 (ca_insert 1 1 a_numbers a_ends_8) fun a_numbers_11 a_ends_12 =>
  some (a_numbers_11, a_ends_12)) else
  nm (v1 - 2 : Int32) fun i_9 =>
  ck i_9 24 <|
  nm (a_ends_8 i_9.toNatClampNeg : Int32) fun v2_10 =>
  fl3 (ca_makeFixed_B35 v1) FU v2_10 a_numbers a_ends_8
set_option maxHeartbeats 4000000 in
set_option maxRecDepth 100000 in
theorem c_ca_makeFixed (l : Launch) (D : va_G) (ct : Nat → ClassId) (ad : Nat → Nat) (hI : cI ad) {x_fed x_tk x_col x_line x_rcells x_rsize x_len x_cuts x_bare x_place x_lA x_lB x_lC x_fX x_fY x_sX x_sY x_made x_fsize x_psize x_over x_touch x_most x_mU x_mV x_area : Int32} {x_board : Int64} {a_tape a_letters a_oneSided a_free a_ends a_crowds a_wmade a_firsts a_widths a_heights a_places a_next a_pnear a_table a_overlaps : Nat → Int32} {a_drawers a_kept a_items a_numbers a_marks a_near a_figures a_covered a_pcells a_matrix : Nat → Int64} (v1 : Int32)  (z_a_numbers : Nat → Int64) (z_a_ends : Nat → Int32) (h : ca_makeFixed v1 a_numbers a_ends = some (z_a_numbers, z_a_ends)) : Met l yX0_makeFixed (wm yX0_makeFixed cX0_makeFixed 3 none) (rmm 4 100) (va_Pc [.ref (ad 9), .int v1] (cB D ct ad x_fed x_tk x_col x_line x_rcells x_rsize x_len x_cuts x_bare x_place x_lA x_lB x_lC x_fX x_fY x_sX x_sY x_made x_fsize x_psize x_over x_touch x_most x_mU x_mV x_area x_board a_tape a_letters a_oneSided a_free a_ends a_crowds a_wmade a_firsts a_widths a_heights a_places a_next a_pnear a_table a_overlaps a_drawers a_kept a_items a_numbers a_marks a_near a_figures a_covered a_pcells a_matrix)) (va_Qv (fun (_ : Unit) => True) (fun _ t => cP D ct ad x_fed x_tk x_col x_line x_rcells x_rsize x_len x_cuts x_bare x_place x_lA x_lB x_lC x_fX x_fY x_sX x_sY x_made x_fsize x_psize x_over x_touch x_most x_mU x_mV x_area x_board a_tape a_letters a_oneSided a_free z_a_ends a_crowds a_wmade a_firsts a_widths a_heights a_places a_next a_pnear a_table a_overlaps a_drawers a_kept a_items z_a_numbers a_marks a_near a_figures a_covered a_pcells a_matrix t.heap) (cA ad)) 0 0 (cA ad) := by
  refine met_s (y := yX0_makeFixed) (rm := rmm 4 100) (by decide) (Nat.le_of_ble_eq_true rfl) ?_
  intro p e s m below meth c hx hb hr hw hown hlocks _ hml hB ls hl
  obtain ⟨hN, hK, hP⟩ := hB
  replace hl : lv_has ls 3 [(0, .ref (ad 9)), (1, .int v1)] := hl
  have hS : va_S (cA ad) s.heap s.heap [] := va_S.rf
  generalize (([.ref (ad 9), .int v1] : List Value).toArray) = av at hw ⊢
  rw [ca_makeFixed] at h
  have hL35 : ∀ (v1 : Int32), ∀ (n35 : Nat) (H : Heap) (locs : List Loc) (ls : Array Slot) (v2 : Int32) (a_numbers : Nat → Int64) (a_ends : Nat → Int32), lv_has ls 3 [(0, .ref (ad 9)), (1, .int v1), (2, .int v2)] → cP D ct ad x_fed x_tk x_col x_line x_rcells x_rsize x_len x_cuts x_bare x_place x_lA x_lB x_lC x_fX x_fY x_sX x_sY x_made x_fsize x_psize x_over x_touch x_most x_mU x_mV x_area x_board a_tape a_letters a_oneSided a_free a_ends a_crowds a_wmade a_firsts a_widths a_heights a_places a_next a_pnear a_table a_overlaps a_drawers a_kept a_items a_numbers a_marks a_near a_figures a_covered a_pcells a_matrix H → va_S (cA ad) s.heap H locs → fl3 (ca_makeFixed_B35 v1) n35 v2 a_numbers a_ends = some (z_a_numbers, z_a_ends) → W p l e (rmm 4 100) s m av below meth c H locs 0 0 (MQ below (va_Qv (fun (_ : Unit) => True) (fun _ t => cP D ct ad x_fed x_tk x_col x_line x_rcells x_rsize x_len x_cuts x_bare x_place x_lA x_lB x_lC x_fX x_fY x_sX x_sY x_made x_fsize x_psize x_over x_touch x_most x_mU x_mV x_area x_board a_tape a_letters a_oneSided a_free z_a_ends a_crowds a_wmade a_firsts a_widths a_heights a_places a_next a_pnear a_table a_overlaps a_drawers a_kept a_items z_a_numbers a_marks a_near a_figures a_covered a_pcells a_matrix t.heap) (cA ad)) av s 0 0 (cA ad)) (F0 m 35 ls []) := by
    intro v1 n35
    induction n35 with
    | zero => intro H locs ls v2 a_numbers a_ends hl hP hS h; cases h
    | succ n35 ih35 =>
      intro H locs ls v2 a_numbers a_ends hl hP hS h
      replace h : ca_makeFixed_B35 v1 (fl3 (ca_makeFixed_B35 v1) n35) v2 a_numbers a_ends = some (z_a_numbers, z_a_ends) := h
      generalize fl3 (ca_makeFixed_B35 v1) n35 = k35 at h ih35
      rw [ca_makeFixed_B35] at h
      refine lv_iload_n hx hb dX0_makeFixed_35 rfl (lv_at hl 2 rfl) ?_
      refine lv_aload_n hx hb dX0_makeFixed_36 rfl (lv_at hl 0 rfl) ?_
      refine cg_CA_3 hx hb hw hown hK hP dX0_makeFixed_37 ?_
      refine lv_iload_n hx hb dX0_makeFixed_40 rfl (lv_at hl 1 rfl) ?_
      refine lv_iconst (v := 1) hx hb dX0_makeFixed_41 ki_1 ?_
      refine lv_isub hx hb dX0_makeFixed_42 ?_
      obtain ⟨i_14, ei_14, h⟩ := nm_s h
      refine nmI ei_14 ?_
      obtain ⟨hin, h⟩ := ck_s h
      refine cd_ends hx hb hK hP hin dX0_makeFixed_43 ?_
      refine lv_icmp_ge hx hb dX0_makeFixed_44 (tgt := 71) rfl (fun hc => ?_) (fun hc => ?_)
      · replace h := ifp h hc
        simp only [Option.some.injEq, Prod.mk.injEq] at h
        obtain ⟨rfl, rfl⟩ := h
        exact rc_v hx hb hr hlocks hS dX0_makeFixed_71 hP
      · replace h := ifn h hc
        refine lv_iload_n hx hb dX0_makeFixed_47 rfl (lv_at hl 2 rfl) ?_
        refine lv_sipush (v := 1067) hx hb dX0_makeFixed_48 ks_1067 ?_
        refine lv_icmp_ge hx hb dX0_makeFixed_51 (tgt := 71) rfl (fun hc => ?_) (fun hc => ?_)
        · replace h := ifp h hc
          simp only [Option.some.injEq, Prod.mk.injEq] at h
          obtain ⟨rfl, rfl⟩ := h
          exact rc_v hx hb hr hlocks hS dX0_makeFixed_71 hP
        · replace h := ifn h hc
          refine lv_aload_n hx hb dX0_makeFixed_54 rfl (lv_at hl 0 rfl) ?_
          refine lv_iload_n hx hb dX0_makeFixed_55 rfl (lv_at hl 1 rfl) ?_
          refine lv_aload_n hx hb dX0_makeFixed_56 rfl (lv_at hl 0 rfl) ?_
          refine cg_CA_0 hx hb hw hown hK hP dX0_makeFixed_57 ?_
          refine lv_iload_n hx hb dX0_makeFixed_60 rfl (lv_at hl 2 rfl) ?_
          obtain ⟨hin, h⟩ := ck_s h
          refine cd_numbers hx hb hK hP hin dX0_makeFixed_61 ?_
          obtain ⟨a_numbers_15, a_ends_16, hr_17, h⟩ := bd2_s h
          refine hv_v hx hb hml hown hw cB_bl (cB_of hN hK hP) (cr_CA hK hP) (c_ca_insertGrown l D ct ad hI v1 (a_numbers v2.toNatClampNeg) a_numbers_15 a_ends_16 hr_17) g_RX0_91 ⟨rfl, hd_X0_insertGrown⟩ (rest := []) hl.1 hS (fun q h => h) dX0_makeFixed_62 rfl rfl ⟨Nat.le_of_ble_eq_true rfl, Nat.le_of_ble_eq_true rfl⟩ rfl rfl (Nat.le_of_ble_eq_true rfl) ⟨Nat.zero_le _, Nat.zero_le _⟩ (fun H locs hP _ hS => ?_)
          obtain ⟨v2_18, ev2_18, h⟩ := nm_s h
          refine lv_iinc hx hb dX0_makeFixed_65 hl (k := 2) rfl ev2_18.symm (Nat.le_of_ble_eq_true rfl) (lv' := [(2, .int v2_18), (0, .ref (ad 9)), (1, .int v1)]) rfl (fun ls hl => ?_)
          refine lv_goto hx hb dX0_makeFixed_68 (tgt := 35) rfl ?_
          exact ih35 _ _ _ v2_18 a_numbers_15 a_ends_16 (lv_sub hl [1, 2, 0] rfl) hP hS h
  refine lv_aload_n hx hb dX0_makeFixed_0 rfl (lv_at hl 0 rfl) ?_
  refine cg_CA_3 hx hb hw hown hK hP dX0_makeFixed_1 ?_
  refine lv_iload_n hx hb dX0_makeFixed_4 rfl (lv_at hl 1 rfl) ?_
  refine lv_aload_n hx hb dX0_makeFixed_5 rfl (lv_at hl 0 rfl) ?_
  refine cg_CA_3 hx hb hw hown hK hP dX0_makeFixed_6 ?_
  refine lv_iload_n hx hb dX0_makeFixed_9 rfl (lv_at hl 1 rfl) ?_
  refine lv_iconst (v := 1) hx hb dX0_makeFixed_10 ki_1 ?_
  refine lv_isub hx hb dX0_makeFixed_11 ?_
  obtain ⟨i_19, ei_19, h⟩ := nm_s h
  refine nmI ei_19 ?_
  obtain ⟨hin, h⟩ := ck_s h
  refine cd_ends hx hb hK hP hin dX0_makeFixed_12 ?_
  obtain ⟨w_20, ew_20, h⟩ := nm_s h
  refine nmI ew_20 ?_
  obtain ⟨hin, h⟩ := ck_s h
  obtain ⟨a_ends_21, ea_ends_21, h⟩ := nm_s h
  refine cs_ends hx hb hK hP hI hS hin ea_ends_21 dX0_makeFixed_13 (fun H locs hP hS => ?_)
  refine lv_iload_n hx hb dX0_makeFixed_14 rfl (lv_at hl 1 rfl) ?_
  refine lv_iconst (v := 1) hx hb dX0_makeFixed_15 ki_1 ?_
  refine lv_icmp_ne hx hb dX0_makeFixed_16 (tgt := 26) rfl (fun hc => ?_) (fun hc => ?_)
  · replace h := ifn h hc
    refine lv_aload_n hx hb dX0_makeFixed_26 rfl (lv_at hl 0 rfl) ?_
    refine cg_CA_3 hx hb hw hown hK hP dX0_makeFixed_27 ?_
    refine lv_iload_n hx hb dX0_makeFixed_30 rfl (lv_at hl 1 rfl) ?_
    refine lv_iconst (v := 2) hx hb dX0_makeFixed_31 ki_2 ?_
    refine lv_isub hx hb dX0_makeFixed_32 ?_
    obtain ⟨i_22, ei_22, h⟩ := nm_s h
    refine nmI ei_22 ?_
    obtain ⟨hin, h⟩ := ck_s h
    refine cd_ends hx hb hK hP hin dX0_makeFixed_33 ?_
    obtain ⟨v2_23, ev2_23, h⟩ := nm_s h
    refine nmI ev2_23 ?_
    refine lv_istore_n hx hb dX0_makeFixed_34 rfl hl (Nat.le_of_ble_eq_true rfl) (lv' := [(2, .int v2_23), (0, .ref (ad 9)), (1, .int v1)]) rfl (fun ls hl => ?_)
    exact hL35 v1 FU _ _ _ v2_23 a_numbers a_ends_21 (lv_sub hl [1, 2, 0] rfl) hP hS h
  · replace h := ifp h hc
    refine lv_aload_n hx hb dX0_makeFixed_19 rfl (lv_at hl 0 rfl) ?_
    refine lv_iconst (v := 1) hx hb dX0_makeFixed_20 ki_1 ?_
    refine lv_lconst (v := 1) hx hb dX0_makeFixed_21 kl_1 ?_
    obtain ⟨a_numbers_24, a_ends_25, hr_26, h⟩ := bd2_s h
    refine hv_v hx hb hml hown hw cB_bl (cB_of hN hK hP) (cr_CA hK hP) (c_ca_insert l D ct ad hI 1 1 a_numbers_24 a_ends_25 hr_26) g_RX0_87 ⟨rfl, hd_X0_insert⟩ (rest := []) hl.1 hS (fun q h => h) dX0_makeFixed_22 rfl rfl ⟨Nat.le_of_ble_eq_true rfl, Nat.le_of_ble_eq_true rfl⟩ rfl rfl (Nat.le_of_ble_eq_true rfl) ⟨Nat.zero_le _, Nat.zero_le _⟩ (fun H locs hP _ hS => ?_)
    simp only [Option.some.injEq, Prod.mk.injEq] at h
    obtain ⟨rfl, rfl⟩ := h
    exact rc_v hx hb hr hlocks hS dX0_makeFixed_25 hP
noncomputable def ca_end (v1 : Int32) (v2 : Int32) (a_ends : Nat → Int32) : Option (Int32) :=
  nm ((v2 * 8) + v1 : Int32) fun v3_1 =>
  bd1 (cf_within v3_1 0 (24 - 1)) fun r_2 =>
  if r_2 = 0 then (some (0)) else
  ck v3_1 24 <|
  some (a_ends v3_1.toNatClampNeg)
set_option maxHeartbeats 4000000 in
set_option maxRecDepth 100000 in
theorem c_ca_end (l : Launch) (D : va_G) (ct : Nat → ClassId) (ad : Nat → Nat) (hI : cI ad) {x_fed x_tk x_col x_line x_rcells x_rsize x_len x_cuts x_bare x_place x_lA x_lB x_lC x_fX x_fY x_sX x_sY x_made x_fsize x_psize x_over x_touch x_most x_mU x_mV x_area : Int32} {x_board : Int64} {a_tape a_letters a_oneSided a_free a_ends a_crowds a_wmade a_firsts a_widths a_heights a_places a_next a_pnear a_table a_overlaps : Nat → Int32} {a_drawers a_kept a_items a_numbers a_marks a_near a_figures a_covered a_pcells a_matrix : Nat → Int64} (v1 : Int32) (v2 : Int32) (r : Int32)  (h : ca_end v1 v2 a_ends = some (r)) : Met l yX0_end (wm yX0_end cX0_end 4 (some .int)) (rmm 1 22) (va_Pc [.ref (ad 9), .int v1, .int v2] (cB D ct ad x_fed x_tk x_col x_line x_rcells x_rsize x_len x_cuts x_bare x_place x_lA x_lB x_lC x_fX x_fY x_sX x_sY x_made x_fsize x_psize x_over x_touch x_most x_mU x_mV x_area x_board a_tape a_letters a_oneSided a_free a_ends a_crowds a_wmade a_firsts a_widths a_heights a_places a_next a_pnear a_table a_overlaps a_drawers a_kept a_items a_numbers a_marks a_near a_figures a_covered a_pcells a_matrix)) (va_Qi (fun z (_ : Unit) => z = r) (fun _ t => cP D ct ad x_fed x_tk x_col x_line x_rcells x_rsize x_len x_cuts x_bare x_place x_lA x_lB x_lC x_fX x_fY x_sX x_sY x_made x_fsize x_psize x_over x_touch x_most x_mU x_mV x_area x_board a_tape a_letters a_oneSided a_free a_ends a_crowds a_wmade a_firsts a_widths a_heights a_places a_next a_pnear a_table a_overlaps a_drawers a_kept a_items a_numbers a_marks a_near a_figures a_covered a_pcells a_matrix t.heap) (cA ad)) 0 0 (cA ad) := by
  refine met_s (y := yX0_end) (rm := rmm 1 22) (by decide) (Nat.le_of_ble_eq_true rfl) ?_
  intro p e s m below meth c hx hb hr hw hown hlocks _ hml hB ls hl
  obtain ⟨hN, hK, hP⟩ := hB
  replace hl : lv_has ls 4 [(0, .ref (ad 9)), (1, .int v1), (2, .int v2)] := hl
  have hS : va_S (cA ad) s.heap s.heap [] := va_S.rf
  generalize (([.ref (ad 9), .int v1, .int v2] : List Value).toArray) = av at hw ⊢
  rw [ca_end] at h
  refine lv_iload_n hx hb dX0_end_0 rfl (lv_at hl 2 rfl) ?_
  refine lv_bipush (v := 8) hx hb dX0_end_1 kb_8 ?_
  refine lv_imul hx hb dX0_end_3 ?_
  refine lv_iload_n hx hb dX0_end_4 rfl (lv_at hl 1 rfl) ?_
  refine lv_iadd hx hb dX0_end_5 ?_
  obtain ⟨v3_4, ev3_4, h⟩ := nm_s h
  refine nmI ev3_4 ?_
  refine lv_istore_n hx hb dX0_end_6 rfl hl (Nat.le_of_ble_eq_true rfl) (lv' := [(3, .int v3_4), (0, .ref (ad 9)), (1, .int v1), (2, .int v2)]) rfl (fun ls hl => ?_)
  refine lv_iload_n hx hb dX0_end_7 rfl (lv_at hl 0 rfl) ?_
  refine lv_iconst (v := 0) hx hb dX0_end_8 ki_0 ?_
  refine lv_aload_n hx hb dX0_end_9 rfl (lv_at hl 1 rfl) ?_
  refine cg_CA_3 hx hb hw hown hK hP dX0_end_10 ?_
  refine cl_ends hx hb hK hP dX0_end_13 ?_
  refine lv_iconst (v := 1) hx hb dX0_end_14 ki_1 ?_
  refine lv_isub hx hb dX0_end_15 ?_
  obtain ⟨r_5, hr_6, h⟩ := bd1_s h
  refine sn_i hx hb hml hown hw hN (c_cf_within l v3_4 0 (24 - 1) r_5 hr_6) nq_RX0_59 tw_9_21 tw_9_20 tw_1_2 hd_X11_within (rest := []) hl.1 hS dX0_end_16 rfl rfl ⟨Nat.le_of_ble_eq_true rfl, Nat.le_of_ble_eq_true rfl⟩ rfl rfl (Nat.le_of_ble_eq_true rfl) ⟨Nat.zero_le _, Nat.zero_le _⟩ (fun H locs hk hS => ?_)
  have hP := cP_kept hP hk
  refine lv_if_eq hx hb dX0_end_19 (tgt := 31) rfl (fun hc => ?_) (fun hc => ?_)
  · replace h := ifp h hc
    refine lv_iconst (v := 0) hx hb dX0_end_31 ki_0 ?_
    replace h := Option.some.inj h
    subst h
    exact rc_i hx hb hr hlocks hS dX0_end_32 rfl hP
  · replace h := ifn h hc
    refine lv_aload_n hx hb dX0_end_22 rfl (lv_at hl 1 rfl) ?_
    refine cg_CA_3 hx hb hw hown hK hP dX0_end_23 ?_
    refine lv_iload_n hx hb dX0_end_26 rfl (lv_at hl 0 rfl) ?_
    obtain ⟨hin, h⟩ := ck_s h
    refine cd_ends hx hb hK hP hin dX0_end_27 ?_
    refine lv_goto hx hb dX0_end_28 (tgt := 32) rfl ?_
    replace h := Option.some.inj h
    subst h
    exact rc_i hx hb hr hlocks hS dX0_end_32 rfl hP
noncomputable def ca_sortKinds_J117  (a_numbers : Nat → Int64) (v1 : Int32) (v2 : Int32) (v3 : Int32) (a_oneSided : Nat → Int32) (a_free : Nat → Int32) (a_ends : Nat → Int32)  : Option ((Nat → Int32) × (Nat → Int32) × (Nat → Int32)) :=
  nm (8 + v1 : Int32) fun i_1 =>
  ck i_1 24 <|
  nm (upd a_ends i_1.toNatClampNeg v2) fun a_ends_2 =>
  nm (16 + v1 : Int32) fun i_3 =>
  ck i_3 24 <|
  nm (upd a_ends_2 i_3.toNatClampNeg v3) fun a_ends_4 =>
  some (a_oneSided, a_free, a_ends_4)
noncomputable def ca_sortKinds_J111 (k28 : Int32 → Int32 → Int32 → (Nat → Int32) → (Nat → Int32) → Option ((Nat → Int32) × (Nat → Int32) × (Nat → Int32))) (a_numbers : Nat → Int64) (v1 : Int32) (v2 : Int32) (v3 : Int32) (v4 : Int32) (a_oneSided : Nat → Int32) (a_free : Nat → Int32) (a_ends : Nat → Int32)  : Option ((Nat → Int32) × (Nat → Int32) × (Nat → Int32)) :=
  nm (v4 + Int32.ofInt 1) fun v4_5 =>
  k28 v2 v3 v4_5 a_oneSided a_free
noncomputable def ca_sortKinds_B28 (v1 : Int32) (a_numbers : Nat → Int64) (a_ends : Nat → Int32)  (k28 : Int32 → Int32 → Int32 → (Nat → Int32) → (Nat → Int32) → Option ((Nat → Int32) × (Nat → Int32) × (Nat → Int32))) (v2 : Int32) (v3 : Int32) (v4 : Int32) (a_oneSided : Nat → Int32) (a_free : Nat → Int32) : Option ((Nat → Int32) × (Nat → Int32) × (Nat → Int32)) :=
  ck v1 24 <|
  if (a_ends v1.toNatClampNeg) ≤ v4 then (ca_sortKinds_J117 a_numbers v1 v2 v3 a_oneSided a_free a_ends) else
  if 1067 ≤ v4 then (ca_sortKinds_J117 a_numbers v1 v2 v3 a_oneSided a_free a_ends) else
  if 285 ≤ v2 then (ca_sortKinds_J111 k28 a_numbers v1 v2 v3 v4 a_oneSided a_free a_ends) else
  ck v4 1067 <|
  bd1 (gr_isLeast (a_numbers v4.toNatClampNeg) 1) fun r_6 =>
  if r_6 = 0 then (ca_sortKinds_J111 k28 a_numbers v1 v2 v3 v4 a_oneSided a_free a_ends) else
  ck v2 285 <|
  nm (upd a_oneSided v2.toNatClampNeg v4) fun a_oneSided_8 =>
  nm (v2 + Int32.ofInt 1) fun v2_9 =>
  if 164 ≤ v3 then (ca_sortKinds_J111 k28 a_numbers v1 v2_9 v3 v4 a_oneSided_8 a_free a_ends) else
  ck v4 1067 <|
  bd1 (gr_isLeast (a_numbers v4.toNatClampNeg) 2) fun r_10 =>
  if r_10 = 0 then (ca_sortKinds_J111 k28 a_numbers v1 v2_9 v3 v4 a_oneSided_8 a_free a_ends) else
  ck v3 164 <|
  nm (upd a_free v3.toNatClampNeg v4) fun a_free_12 =>
  nm (v3 + Int32.ofInt 1) fun v3_13 =>
  ca_sortKinds_J111 k28 a_numbers v1 v2_9 v3_13 v4 a_oneSided_8 a_free_12 a_ends
noncomputable def ca_sortKinds (v1 : Int32) (a_numbers : Nat → Int64) (a_oneSided : Nat → Int32) (a_free : Nat → Int32) (a_ends : Nat → Int32) : Option ((Nat → Int32) × (Nat → Int32) × (Nat → Int32)) :=
  bd1 (ca_end (v1 - 1) 1 a_ends) fun r_14 =>
  bd1 (ca_end (v1 - 1) 2 a_ends) fun r_16 =>
  nm (v1 - 1 : Int32) fun i_18 =>
  ck i_18 24 <|
  nm (a_ends i_18.toNatClampNeg : Int32) fun v4_19 =>
  fl5 (ca_sortKinds_B28 v1 a_numbers a_ends) FU r_14 r_16 v4_19 a_oneSided a_free
set_option maxHeartbeats 4000000 in
set_option maxRecDepth 100000 in
theorem c_ca_sortKinds (l : Launch) (D : va_G) (ct : Nat → ClassId) (ad : Nat → Nat) (hI : cI ad) {x_fed x_tk x_col x_line x_rcells x_rsize x_len x_cuts x_bare x_place x_lA x_lB x_lC x_fX x_fY x_sX x_sY x_made x_fsize x_psize x_over x_touch x_most x_mU x_mV x_area : Int32} {x_board : Int64} {a_tape a_letters a_oneSided a_free a_ends a_crowds a_wmade a_firsts a_widths a_heights a_places a_next a_pnear a_table a_overlaps : Nat → Int32} {a_drawers a_kept a_items a_numbers a_marks a_near a_figures a_covered a_pcells a_matrix : Nat → Int64} (v1 : Int32)  (z_a_oneSided : Nat → Int32) (z_a_free : Nat → Int32) (z_a_ends : Nat → Int32) (h : ca_sortKinds v1 a_numbers a_oneSided a_free a_ends = some (z_a_oneSided, z_a_free, z_a_ends)) : Met l yX0_sortKinds (wm yX0_sortKinds cX0_sortKinds 5 none) (rmm 4 94) (va_Pc [.ref (ad 9), .int v1] (cB D ct ad x_fed x_tk x_col x_line x_rcells x_rsize x_len x_cuts x_bare x_place x_lA x_lB x_lC x_fX x_fY x_sX x_sY x_made x_fsize x_psize x_over x_touch x_most x_mU x_mV x_area x_board a_tape a_letters a_oneSided a_free a_ends a_crowds a_wmade a_firsts a_widths a_heights a_places a_next a_pnear a_table a_overlaps a_drawers a_kept a_items a_numbers a_marks a_near a_figures a_covered a_pcells a_matrix)) (va_Qv (fun (_ : Unit) => True) (fun _ t => cP D ct ad x_fed x_tk x_col x_line x_rcells x_rsize x_len x_cuts x_bare x_place x_lA x_lB x_lC x_fX x_fY x_sX x_sY x_made x_fsize x_psize x_over x_touch x_most x_mU x_mV x_area x_board a_tape a_letters z_a_oneSided z_a_free z_a_ends a_crowds a_wmade a_firsts a_widths a_heights a_places a_next a_pnear a_table a_overlaps a_drawers a_kept a_items a_numbers a_marks a_near a_figures a_covered a_pcells a_matrix t.heap) (cA ad)) 0 0 (cA ad) := by
  refine met_s (y := yX0_sortKinds) (rm := rmm 4 94) (by decide) (Nat.le_of_ble_eq_true rfl) ?_
  intro p e s m below meth c hx hb hr hw hown hlocks _ hml hB ls hl
  obtain ⟨hN, hK, hP⟩ := hB
  replace hl : lv_has ls 5 [(0, .ref (ad 9)), (1, .int v1)] := hl
  have hS : va_S (cA ad) s.heap s.heap [] := va_S.rf
  generalize (([.ref (ad 9), .int v1] : List Value).toArray) = av at hw ⊢
  rw [ca_sortKinds] at h
  have hJ117 : ∀ (H : Heap) (locs : List Loc) (ls : Array Slot) (a_numbers : Nat → Int64) (v1 : Int32) (v2 : Int32) (v3 : Int32) (a_oneSided : Nat → Int32) (a_free : Nat → Int32) (a_ends : Nat → Int32) , lv_has ls 5 [(0, .ref (ad 9)), (1, .int v1), (2, .int v2), (3, .int v3)] → cP D ct ad x_fed x_tk x_col x_line x_rcells x_rsize x_len x_cuts x_bare x_place x_lA x_lB x_lC x_fX x_fY x_sX x_sY x_made x_fsize x_psize x_over x_touch x_most x_mU x_mV x_area x_board a_tape a_letters a_oneSided a_free a_ends a_crowds a_wmade a_firsts a_widths a_heights a_places a_next a_pnear a_table a_overlaps a_drawers a_kept a_items a_numbers a_marks a_near a_figures a_covered a_pcells a_matrix H → va_S (cA ad) s.heap H locs → ca_sortKinds_J117 a_numbers v1 v2 v3 a_oneSided a_free a_ends = some (z_a_oneSided, z_a_free, z_a_ends) → W p l e (rmm 4 94) s m av below meth c H locs 0 0 (MQ below (va_Qv (fun (_ : Unit) => True) (fun _ t => cP D ct ad x_fed x_tk x_col x_line x_rcells x_rsize x_len x_cuts x_bare x_place x_lA x_lB x_lC x_fX x_fY x_sX x_sY x_made x_fsize x_psize x_over x_touch x_most x_mU x_mV x_area x_board a_tape a_letters z_a_oneSided z_a_free z_a_ends a_crowds a_wmade a_firsts a_widths a_heights a_places a_next a_pnear a_table a_overlaps a_drawers a_kept a_items a_numbers a_marks a_near a_figures a_covered a_pcells a_matrix t.heap) (cA ad)) av s 0 0 (cA ad)) (F0 m 117 ls []) := by
    intro H locs ls a_numbers v1 v2 v3 a_oneSided a_free a_ends  hl hP hS h
    rw [ca_sortKinds_J117] at h
    refine lv_aload_n hx hb dX0_sortKinds_117 rfl (lv_at hl 0 rfl) ?_
    refine cg_CA_3 hx hb hw hown hK hP dX0_sortKinds_118 ?_
    refine lv_bipush (v := 8) hx hb dX0_sortKinds_121 kb_8 ?_
    refine lv_iload_n hx hb dX0_sortKinds_123 rfl (lv_at hl 1 rfl) ?_
    refine lv_iadd hx hb dX0_sortKinds_124 ?_
    refine lv_iload_n hx hb dX0_sortKinds_125 rfl (lv_at hl 2 rfl) ?_
    obtain ⟨i_20, ei_20, h⟩ := nm_s h
    refine nmI2 ei_20 ?_
    obtain ⟨hin, h⟩ := ck_s h
    obtain ⟨a_ends_21, ea_ends_21, h⟩ := nm_s h
    refine cs_ends hx hb hK hP hI hS hin ea_ends_21 dX0_sortKinds_126 (fun H locs hP hS => ?_)
    refine lv_aload_n hx hb dX0_sortKinds_127 rfl (lv_at hl 0 rfl) ?_
    refine cg_CA_3 hx hb hw hown hK hP dX0_sortKinds_128 ?_
    refine lv_bipush (v := 16) hx hb dX0_sortKinds_131 kb_16 ?_
    refine lv_iload_n hx hb dX0_sortKinds_133 rfl (lv_at hl 1 rfl) ?_
    refine lv_iadd hx hb dX0_sortKinds_134 ?_
    refine lv_iload_n hx hb dX0_sortKinds_135 rfl (lv_at hl 3 rfl) ?_
    obtain ⟨i_22, ei_22, h⟩ := nm_s h
    refine nmI2 ei_22 ?_
    obtain ⟨hin, h⟩ := ck_s h
    obtain ⟨a_ends_23, ea_ends_23, h⟩ := nm_s h
    refine cs_ends hx hb hK hP hI hS hin ea_ends_23 dX0_sortKinds_136 (fun H locs hP hS => ?_)
    simp only [Option.some.injEq, Prod.mk.injEq] at h
    obtain ⟨rfl, rfl, rfl⟩ := h
    exact rc_v hx hb hr hlocks hS dX0_sortKinds_137 hP
  have hL28 : ∀ (v1 : Int32), ∀ (a_numbers : Nat → Int64), ∀ (a_ends : Nat → Int32), ∀ (n28 : Nat) (H : Heap) (locs : List Loc) (ls : Array Slot) (v2 : Int32) (v3 : Int32) (v4 : Int32) (a_oneSided : Nat → Int32) (a_free : Nat → Int32), lv_has ls 5 [(0, .ref (ad 9)), (1, .int v1), (2, .int v2), (3, .int v3), (4, .int v4)] → cP D ct ad x_fed x_tk x_col x_line x_rcells x_rsize x_len x_cuts x_bare x_place x_lA x_lB x_lC x_fX x_fY x_sX x_sY x_made x_fsize x_psize x_over x_touch x_most x_mU x_mV x_area x_board a_tape a_letters a_oneSided a_free a_ends a_crowds a_wmade a_firsts a_widths a_heights a_places a_next a_pnear a_table a_overlaps a_drawers a_kept a_items a_numbers a_marks a_near a_figures a_covered a_pcells a_matrix H → va_S (cA ad) s.heap H locs → fl5 (ca_sortKinds_B28 v1 a_numbers a_ends) n28 v2 v3 v4 a_oneSided a_free = some (z_a_oneSided, z_a_free, z_a_ends) → W p l e (rmm 4 94) s m av below meth c H locs 0 0 (MQ below (va_Qv (fun (_ : Unit) => True) (fun _ t => cP D ct ad x_fed x_tk x_col x_line x_rcells x_rsize x_len x_cuts x_bare x_place x_lA x_lB x_lC x_fX x_fY x_sX x_sY x_made x_fsize x_psize x_over x_touch x_most x_mU x_mV x_area x_board a_tape a_letters z_a_oneSided z_a_free z_a_ends a_crowds a_wmade a_firsts a_widths a_heights a_places a_next a_pnear a_table a_overlaps a_drawers a_kept a_items a_numbers a_marks a_near a_figures a_covered a_pcells a_matrix t.heap) (cA ad)) av s 0 0 (cA ad)) (F0 m 28 ls []) := by
    intro v1 a_numbers a_ends n28
    induction n28 with
    | zero => intro H locs ls v2 v3 v4 a_oneSided a_free hl hP hS h; cases h
    | succ n28 ih28 =>
      intro H locs ls v2 v3 v4 a_oneSided a_free hl hP hS h
      replace h : ca_sortKinds_B28 v1 a_numbers a_ends (fl5 (ca_sortKinds_B28 v1 a_numbers a_ends) n28) v2 v3 v4 a_oneSided a_free = some (z_a_oneSided, z_a_free, z_a_ends) := h
      generalize fl5 (ca_sortKinds_B28 v1 a_numbers a_ends) n28 = k28 at h ih28
      have hJ111 : ∀ (H : Heap) (locs : List Loc) (ls : Array Slot) (v2 : Int32) (v3 : Int32) (v4 : Int32) (a_oneSided : Nat → Int32) (a_free : Nat → Int32) , lv_has ls 5 [(0, .ref (ad 9)), (1, .int v1), (2, .int v2), (3, .int v3), (4, .int v4)] → cP D ct ad x_fed x_tk x_col x_line x_rcells x_rsize x_len x_cuts x_bare x_place x_lA x_lB x_lC x_fX x_fY x_sX x_sY x_made x_fsize x_psize x_over x_touch x_most x_mU x_mV x_area x_board a_tape a_letters a_oneSided a_free a_ends a_crowds a_wmade a_firsts a_widths a_heights a_places a_next a_pnear a_table a_overlaps a_drawers a_kept a_items a_numbers a_marks a_near a_figures a_covered a_pcells a_matrix H → va_S (cA ad) s.heap H locs → ca_sortKinds_J111 k28 a_numbers v1 v2 v3 v4 a_oneSided a_free a_ends = some (z_a_oneSided, z_a_free, z_a_ends) → W p l e (rmm 4 94) s m av below meth c H locs 0 0 (MQ below (va_Qv (fun (_ : Unit) => True) (fun _ t => cP D ct ad x_fed x_tk x_col x_line x_rcells x_rsize x_len x_cuts x_bare x_place x_lA x_lB x_lC x_fX x_fY x_sX x_sY x_made x_fsize x_psize x_over x_touch x_most x_mU x_mV x_area x_board a_tape a_letters z_a_oneSided z_a_free z_a_ends a_crowds a_wmade a_firsts a_widths a_heights a_places a_next a_pnear a_table a_overlaps a_drawers a_kept a_items a_numbers a_marks a_near a_figures a_covered a_pcells a_matrix t.heap) (cA ad)) av s 0 0 (cA ad)) (F0 m 111 ls []) := by
        intro H locs ls v2 v3 v4 a_oneSided a_free  hl hP hS h
        rw [ca_sortKinds_J111] at h
        obtain ⟨v4_24, ev4_24, h⟩ := nm_s h
        refine lv_iinc hx hb dX0_sortKinds_111 hl (k := 4) rfl ev4_24.symm (Nat.le_of_ble_eq_true rfl) (lv' := [(4, .int v4_24), (0, .ref (ad 9)), (1, .int v1), (2, .int v2), (3, .int v3)]) rfl (fun ls hl => ?_)
        refine lv_goto hx hb dX0_sortKinds_114 (tgt := 28) rfl ?_
        exact ih28 _ _ _ v2 v3 v4_24 a_oneSided a_free (lv_sub hl [1, 2, 3, 4, 0] rfl) hP hS h
      rw [ca_sortKinds_B28] at h
      refine lv_iload hx hb dX0_sortKinds_28 (lv_at hl 4 rfl) ?_
      refine lv_aload_n hx hb dX0_sortKinds_30 rfl (lv_at hl 0 rfl) ?_
      refine cg_CA_3 hx hb hw hown hK hP dX0_sortKinds_31 ?_
      refine lv_iload_n hx hb dX0_sortKinds_34 rfl (lv_at hl 1 rfl) ?_
      obtain ⟨hin, h⟩ := ck_s h
      refine cd_ends hx hb hK hP hin dX0_sortKinds_35 ?_
      refine lv_icmp_ge hx hb dX0_sortKinds_36 (tgt := 117) rfl (fun hc => ?_) (fun hc => ?_)
      · replace h := ifp h hc
        exact hJ117 _ _ _ a_numbers v1 v2 v3 a_oneSided a_free a_ends (lv_sub hl [0, 1, 2, 3] rfl) hP hS h
      · replace h := ifn h hc
        refine lv_iload hx hb dX0_sortKinds_39 (lv_at hl 4 rfl) ?_
        refine lv_sipush (v := 1067) hx hb dX0_sortKinds_41 ks_1067 ?_
        refine lv_icmp_ge hx hb dX0_sortKinds_44 (tgt := 117) rfl (fun hc => ?_) (fun hc => ?_)
        · replace h := ifp h hc
          exact hJ117 _ _ _ a_numbers v1 v2 v3 a_oneSided a_free a_ends (lv_sub hl [0, 1, 2, 3] rfl) hP hS h
        · replace h := ifn h hc
          refine lv_iload_n hx hb dX0_sortKinds_47 rfl (lv_at hl 2 rfl) ?_
          refine lv_sipush (v := 285) hx hb dX0_sortKinds_48 ks_285 ?_
          refine lv_icmp_ge hx hb dX0_sortKinds_51 (tgt := 111) rfl (fun hc => ?_) (fun hc => ?_)
          · replace h := ifp h hc
            exact hJ111 _ _ _ v2 v3 v4 a_oneSided a_free (lv_sub hl [0, 1, 2, 3, 4] rfl) hP hS h
          · replace h := ifn h hc
            refine lv_aload_n hx hb dX0_sortKinds_54 rfl (lv_at hl 0 rfl) ?_
            refine cg_CA_0 hx hb hw hown hK hP dX0_sortKinds_55 ?_
            refine lv_iload hx hb dX0_sortKinds_58 (lv_at hl 4 rfl) ?_
            obtain ⟨hin, h⟩ := ck_s h
            refine cd_numbers hx hb hK hP hin dX0_sortKinds_60 ?_
            refine lv_iconst (v := 1) hx hb dX0_sortKinds_61 ki_1 ?_
            obtain ⟨r_25, hr_26, h⟩ := bd1_s h
            refine sc_i hx hb hml hown hw hN (c_gr_isLeast l (a_numbers v4.toNatClampNeg) 1 r_25 hr_26) g_RX0_116 hd_X2_isLeast (rest := []) hl.1 hS dX0_sortKinds_62 rfl rfl ⟨Nat.le_of_ble_eq_true rfl, Nat.le_of_ble_eq_true rfl⟩ rfl rfl (Nat.le_of_ble_eq_true rfl) ⟨Nat.zero_le _, Nat.zero_le _⟩ (fun H locs hk hS => ?_)
            have hP := cP_kept hP hk
            refine lv_if_eq hx hb dX0_sortKinds_65 (tgt := 111) rfl (fun hc => ?_) (fun hc => ?_)
            · replace h := ifp h hc
              exact hJ111 _ _ _ v2 v3 v4 a_oneSided a_free (lv_sub hl [0, 1, 2, 3, 4] rfl) hP hS h
            · replace h := ifn h hc
              refine lv_aload_n hx hb dX0_sortKinds_68 rfl (lv_at hl 0 rfl) ?_
              refine cg_CA_1 hx hb hw hown hK hP dX0_sortKinds_69 ?_
              refine lv_iload_n hx hb dX0_sortKinds_72 rfl (lv_at hl 2 rfl) ?_
              refine lv_iload hx hb dX0_sortKinds_73 (lv_at hl 4 rfl) ?_
              obtain ⟨hin, h⟩ := ck_s h
              obtain ⟨a_oneSided_27, ea_oneSided_27, h⟩ := nm_s h
              refine cs_oneSided hx hb hK hP hI hS hin ea_oneSided_27 dX0_sortKinds_75 (fun H locs hP hS => ?_)
              obtain ⟨v2_28, ev2_28, h⟩ := nm_s h
              refine lv_iinc hx hb dX0_sortKinds_76 hl (k := 2) rfl ev2_28.symm (Nat.le_of_ble_eq_true rfl) (lv' := [(2, .int v2_28), (0, .ref (ad 9)), (1, .int v1), (3, .int v3), (4, .int v4)]) rfl (fun ls hl => ?_)
              refine lv_iload_n hx hb dX0_sortKinds_79 rfl (lv_at hl 3 rfl) ?_
              refine lv_sipush (v := 164) hx hb dX0_sortKinds_80 ks_164 ?_
              refine lv_icmp_ge hx hb dX0_sortKinds_83 (tgt := 111) rfl (fun hc => ?_) (fun hc => ?_)
              · replace h := ifp h hc
                exact hJ111 _ _ _ v2_28 v3 v4 a_oneSided_27 a_free (lv_sub hl [1, 2, 0, 3, 4] rfl) hP hS h
              · replace h := ifn h hc
                refine lv_aload_n hx hb dX0_sortKinds_86 rfl (lv_at hl 1 rfl) ?_
                refine cg_CA_0 hx hb hw hown hK hP dX0_sortKinds_87 ?_
                refine lv_iload hx hb dX0_sortKinds_90 (lv_at hl 4 rfl) ?_
                obtain ⟨hin, h⟩ := ck_s h
                refine cd_numbers hx hb hK hP hin dX0_sortKinds_92 ?_
                refine lv_iconst (v := 2) hx hb dX0_sortKinds_93 ki_2 ?_
                obtain ⟨r_29, hr_30, h⟩ := bd1_s h
                refine sc_i hx hb hml hown hw hN (c_gr_isLeast l (a_numbers v4.toNatClampNeg) 2 r_29 hr_30) g_RX0_116 hd_X2_isLeast (rest := []) hl.1 hS dX0_sortKinds_94 rfl rfl ⟨Nat.le_of_ble_eq_true rfl, Nat.le_of_ble_eq_true rfl⟩ rfl rfl (Nat.le_of_ble_eq_true rfl) ⟨Nat.zero_le _, Nat.zero_le _⟩ (fun H locs hk hS => ?_)
                have hP := cP_kept hP hk
                refine lv_if_eq hx hb dX0_sortKinds_97 (tgt := 111) rfl (fun hc => ?_) (fun hc => ?_)
                · replace h := ifp h hc
                  exact hJ111 _ _ _ v2_28 v3 v4 a_oneSided_27 a_free (lv_sub hl [1, 2, 0, 3, 4] rfl) hP hS h
                · replace h := ifn h hc
                  refine lv_aload_n hx hb dX0_sortKinds_100 rfl (lv_at hl 1 rfl) ?_
                  refine cg_CA_2 hx hb hw hown hK hP dX0_sortKinds_101 ?_
                  refine lv_iload_n hx hb dX0_sortKinds_104 rfl (lv_at hl 3 rfl) ?_
                  refine lv_iload hx hb dX0_sortKinds_105 (lv_at hl 4 rfl) ?_
                  obtain ⟨hin, h⟩ := ck_s h
                  obtain ⟨a_free_31, ea_free_31, h⟩ := nm_s h
                  refine cs_free hx hb hK hP hI hS hin ea_free_31 dX0_sortKinds_107 (fun H locs hP hS => ?_)
                  obtain ⟨v3_32, ev3_32, h⟩ := nm_s h
                  refine lv_iinc hx hb dX0_sortKinds_108 hl (k := 3) rfl ev3_32.symm (Nat.le_of_ble_eq_true rfl) (lv' := [(3, .int v3_32), (2, .int v2_28), (0, .ref (ad 9)), (1, .int v1), (4, .int v4)]) rfl (fun ls hl => ?_)
                  exact hJ111 _ _ _ v2_28 v3_32 v4 a_oneSided_27 a_free_31 (lv_sub hl [2, 3, 1, 0, 4] rfl) hP hS h
  refine lv_aload_n hx hb dX0_sortKinds_0 rfl (lv_at hl 0 rfl) ?_
  refine lv_iload_n hx hb dX0_sortKinds_1 rfl (lv_at hl 1 rfl) ?_
  refine lv_iconst (v := 1) hx hb dX0_sortKinds_2 ki_1 ?_
  refine lv_isub hx hb dX0_sortKinds_3 ?_
  refine lv_iconst (v := 1) hx hb dX0_sortKinds_4 ki_1 ?_
  obtain ⟨r_33, hr_34, h⟩ := bd1_s h
  refine hv_i hx hb hml hown hw cB_bl (cB_of hN hK hP) (cr_CA hK hP) (c_ca_end l D ct ad hI (v1 - 1) 1 r_33 hr_34) g_RX0_48 ⟨rfl, hd_X0_end⟩ (rest := []) hl.1 hS (fun q h => h) dX0_sortKinds_5 rfl rfl ⟨Nat.le_of_ble_eq_true rfl, Nat.le_of_ble_eq_true rfl⟩ rfl rfl (Nat.le_of_ble_eq_true rfl) ⟨Nat.zero_le _, Nat.zero_le _⟩ (fun H locs hP _ hS => ?_)
  refine lv_istore_n hx hb dX0_sortKinds_8 rfl hl (Nat.le_of_ble_eq_true rfl) (lv' := [(2, .int r_33), (0, .ref (ad 9)), (1, .int v1)]) rfl (fun ls hl => ?_)
  refine lv_aload_n hx hb dX0_sortKinds_9 rfl (lv_at hl 1 rfl) ?_
  refine lv_iload_n hx hb dX0_sortKinds_10 rfl (lv_at hl 2 rfl) ?_
  refine lv_iconst (v := 1) hx hb dX0_sortKinds_11 ki_1 ?_
  refine lv_isub hx hb dX0_sortKinds_12 ?_
  refine lv_iconst (v := 2) hx hb dX0_sortKinds_13 ki_2 ?_
  obtain ⟨r_35, hr_36, h⟩ := bd1_s h
  refine hv_i hx hb hml hown hw cB_bl (cB_of hN hK hP) (cr_CA hK hP) (c_ca_end l D ct ad hI (v1 - 1) 2 r_35 hr_36) g_RX0_48 ⟨rfl, hd_X0_end⟩ (rest := []) hl.1 hS (fun q h => h) dX0_sortKinds_14 rfl rfl ⟨Nat.le_of_ble_eq_true rfl, Nat.le_of_ble_eq_true rfl⟩ rfl rfl (Nat.le_of_ble_eq_true rfl) ⟨Nat.zero_le _, Nat.zero_le _⟩ (fun H locs hP _ hS => ?_)
  refine lv_istore_n hx hb dX0_sortKinds_17 rfl hl (Nat.le_of_ble_eq_true rfl) (lv' := [(3, .int r_35), (2, .int r_33), (0, .ref (ad 9)), (1, .int v1)]) rfl (fun ls hl => ?_)
  refine lv_aload_n hx hb dX0_sortKinds_18 rfl (lv_at hl 2 rfl) ?_
  refine cg_CA_3 hx hb hw hown hK hP dX0_sortKinds_19 ?_
  refine lv_iload_n hx hb dX0_sortKinds_22 rfl (lv_at hl 3 rfl) ?_
  refine lv_iconst (v := 1) hx hb dX0_sortKinds_23 ki_1 ?_
  refine lv_isub hx hb dX0_sortKinds_24 ?_
  obtain ⟨i_37, ei_37, h⟩ := nm_s h
  refine nmI ei_37 ?_
  obtain ⟨hin, h⟩ := ck_s h
  refine cd_ends hx hb hK hP hin dX0_sortKinds_25 ?_
  obtain ⟨v4_38, ev4_38, h⟩ := nm_s h
  refine nmI ev4_38 ?_
  refine lv_istore hx hb dX0_sortKinds_26 hl (Nat.le_of_ble_eq_true rfl) (lv' := [(4, .int v4_38), (3, .int r_35), (2, .int r_33), (0, .ref (ad 9)), (1, .int v1)]) rfl (fun ls hl => ?_)
  exact hL28 v1 a_numbers a_ends FU _ _ _ r_33 r_35 v4_38 a_oneSided a_free (lv_sub hl [3, 4, 2, 1, 0] rfl) hP hS h
noncomputable def ca_prepare_B7 (v1 : Int32)  (k7 : Int32 → Int32 → (Nat → Int64) → (Nat → Int32) → (Nat → Int32) → (Nat → Int32) → Option (Int32 × (Nat → Int64) × (Nat → Int32) × (Nat → Int32) × (Nat → Int32))) (v2 : Int32) (x_made : Int32) (a_numbers : Nat → Int64) (a_oneSided : Nat → Int32) (a_free : Nat → Int32) (a_ends : Nat → Int32) : Option (Int32 × (Nat → Int64) × (Nat → Int32) × (Nat → Int32) × (Nat → Int32)) :=
  if v1 < v2 then (some (x_made, a_numbers, a_oneSided, a_free, a_ends)) else
  if 8 ≤ v2 then (some (x_made, a_numbers, a_oneSided, a_free, a_ends)) else
  bd2 (ca_makeFixed v2 a_numbers a_ends) fun a_numbers_1 a_ends_2 =>
  bd3 (ca_sortKinds v2 a_numbers_1 a_oneSided a_free a_ends_2) fun a_oneSided_4 a_free_5 a_ends_6 =>
  nm (v2 + Int32.ofInt 1) fun v2_8 =>
  k7 v2_8 v2 a_numbers_1 a_oneSided_4 a_free_5 a_ends_6
noncomputable def ca_prepare (v1 : Int32) (x_made : Int32) (a_numbers : Nat → Int64) (a_oneSided : Nat → Int32) (a_free : Nat → Int32) (a_ends : Nat → Int32) : Option (Int32 × (Nat → Int64) × (Nat → Int32) × (Nat → Int32) × (Nat → Int32)) :=
  nm (x_made + 1 : Int32) fun v2_9 =>
  fl6 (ca_prepare_B7 v1) FU v2_9 x_made a_numbers a_oneSided a_free a_ends
set_option maxHeartbeats 4000000 in
set_option maxRecDepth 100000 in
theorem c_ca_prepare (l : Launch) (D : va_G) (ct : Nat → ClassId) (ad : Nat → Nat) (hI : cI ad) {x_fed x_tk x_col x_line x_rcells x_rsize x_len x_cuts x_bare x_place x_lA x_lB x_lC x_fX x_fY x_sX x_sY x_made x_fsize x_psize x_over x_touch x_most x_mU x_mV x_area : Int32} {x_board : Int64} {a_tape a_letters a_oneSided a_free a_ends a_crowds a_wmade a_firsts a_widths a_heights a_places a_next a_pnear a_table a_overlaps : Nat → Int32} {a_drawers a_kept a_items a_numbers a_marks a_near a_figures a_covered a_pcells a_matrix : Nat → Int64} (v1 : Int32)  (z_x_made : Int32) (z_a_numbers : Nat → Int64) (z_a_oneSided : Nat → Int32) (z_a_free : Nat → Int32) (z_a_ends : Nat → Int32) (h : ca_prepare v1 x_made a_numbers a_oneSided a_free a_ends = some (z_x_made, z_a_numbers, z_a_oneSided, z_a_free, z_a_ends)) : Met l yX0_prepare (wm yX0_prepare cX0_prepare 3 none) (rmm 5 122) (va_Pc [.ref (ad 9), .int v1] (cB D ct ad x_fed x_tk x_col x_line x_rcells x_rsize x_len x_cuts x_bare x_place x_lA x_lB x_lC x_fX x_fY x_sX x_sY x_made x_fsize x_psize x_over x_touch x_most x_mU x_mV x_area x_board a_tape a_letters a_oneSided a_free a_ends a_crowds a_wmade a_firsts a_widths a_heights a_places a_next a_pnear a_table a_overlaps a_drawers a_kept a_items a_numbers a_marks a_near a_figures a_covered a_pcells a_matrix)) (va_Qv (fun (_ : Unit) => True) (fun _ t => cP D ct ad x_fed x_tk x_col x_line x_rcells x_rsize x_len x_cuts x_bare x_place x_lA x_lB x_lC x_fX x_fY x_sX x_sY z_x_made x_fsize x_psize x_over x_touch x_most x_mU x_mV x_area x_board a_tape a_letters z_a_oneSided z_a_free z_a_ends a_crowds a_wmade a_firsts a_widths a_heights a_places a_next a_pnear a_table a_overlaps a_drawers a_kept a_items z_a_numbers a_marks a_near a_figures a_covered a_pcells a_matrix t.heap) (cA ad)) 0 0 (cA ad) := by
  refine met_s (y := yX0_prepare) (rm := rmm 5 122) (by decide) (Nat.le_of_ble_eq_true rfl) ?_
  intro p e s m below meth c hx hb hr hw hown hlocks _ hml hB ls hl
  obtain ⟨hN, hK, hP⟩ := hB
  replace hl : lv_has ls 3 [(0, .ref (ad 9)), (1, .int v1)] := hl
  have hS : va_S (cA ad) s.heap s.heap [] := va_S.rf
  generalize (([.ref (ad 9), .int v1] : List Value).toArray) = av at hw ⊢
  rw [ca_prepare] at h
  have hL7 : ∀ (v1 : Int32), ∀ (n7 : Nat) (H : Heap) (locs : List Loc) (ls : Array Slot) (v2 : Int32) (x_made : Int32) (a_numbers : Nat → Int64) (a_oneSided : Nat → Int32) (a_free : Nat → Int32) (a_ends : Nat → Int32), lv_has ls 3 [(0, .ref (ad 9)), (1, .int v1), (2, .int v2)] → cP D ct ad x_fed x_tk x_col x_line x_rcells x_rsize x_len x_cuts x_bare x_place x_lA x_lB x_lC x_fX x_fY x_sX x_sY x_made x_fsize x_psize x_over x_touch x_most x_mU x_mV x_area x_board a_tape a_letters a_oneSided a_free a_ends a_crowds a_wmade a_firsts a_widths a_heights a_places a_next a_pnear a_table a_overlaps a_drawers a_kept a_items a_numbers a_marks a_near a_figures a_covered a_pcells a_matrix H → va_S (cA ad) s.heap H locs → fl6 (ca_prepare_B7 v1) n7 v2 x_made a_numbers a_oneSided a_free a_ends = some (z_x_made, z_a_numbers, z_a_oneSided, z_a_free, z_a_ends) → W p l e (rmm 5 122) s m av below meth c H locs 0 0 (MQ below (va_Qv (fun (_ : Unit) => True) (fun _ t => cP D ct ad x_fed x_tk x_col x_line x_rcells x_rsize x_len x_cuts x_bare x_place x_lA x_lB x_lC x_fX x_fY x_sX x_sY z_x_made x_fsize x_psize x_over x_touch x_most x_mU x_mV x_area x_board a_tape a_letters z_a_oneSided z_a_free z_a_ends a_crowds a_wmade a_firsts a_widths a_heights a_places a_next a_pnear a_table a_overlaps a_drawers a_kept a_items z_a_numbers a_marks a_near a_figures a_covered a_pcells a_matrix t.heap) (cA ad)) av s 0 0 (cA ad)) (F0 m 7 ls []) := by
    intro v1 n7
    induction n7 with
    | zero => intro H locs ls v2 x_made a_numbers a_oneSided a_free a_ends hl hP hS h; cases h
    | succ n7 ih7 =>
      intro H locs ls v2 x_made a_numbers a_oneSided a_free a_ends hl hP hS h
      replace h : ca_prepare_B7 v1 (fl6 (ca_prepare_B7 v1) n7) v2 x_made a_numbers a_oneSided a_free a_ends = some (z_x_made, z_a_numbers, z_a_oneSided, z_a_free, z_a_ends) := h
      generalize fl6 (ca_prepare_B7 v1) n7 = k7 at h ih7
      rw [ca_prepare_B7] at h
      refine lv_iload_n hx hb dX0_prepare_7 rfl (lv_at hl 2 rfl) ?_
      refine lv_iload_n hx hb dX0_prepare_8 rfl (lv_at hl 1 rfl) ?_
      refine lv_icmp_gt hx hb dX0_prepare_9 (tgt := 39) rfl (fun hc => ?_) (fun hc => ?_)
      · replace h := ifp h hc
        simp only [Option.some.injEq, Prod.mk.injEq] at h
        obtain ⟨rfl, rfl, rfl, rfl, rfl⟩ := h
        exact rc_v hx hb hr hlocks hS dX0_prepare_39 hP
      · replace h := ifn h hc
        refine lv_iload_n hx hb dX0_prepare_12 rfl (lv_at hl 2 rfl) ?_
        refine lv_bipush (v := 8) hx hb dX0_prepare_13 kb_8 ?_
        refine lv_icmp_ge hx hb dX0_prepare_15 (tgt := 39) rfl (fun hc => ?_) (fun hc => ?_)
        · replace h := ifp h hc
          simp only [Option.some.injEq, Prod.mk.injEq] at h
          obtain ⟨rfl, rfl, rfl, rfl, rfl⟩ := h
          exact rc_v hx hb hr hlocks hS dX0_prepare_39 hP
        · replace h := ifn h hc
          refine lv_aload_n hx hb dX0_prepare_18 rfl (lv_at hl 0 rfl) ?_
          refine lv_iload_n hx hb dX0_prepare_19 rfl (lv_at hl 2 rfl) ?_
          obtain ⟨a_numbers_10, a_ends_11, hr_12, h⟩ := bd2_s h
          refine hv_v hx hb hml hown hw cB_bl (cB_of hN hK hP) (cr_CA hK hP) (c_ca_makeFixed l D ct ad hI v2 a_numbers_10 a_ends_11 hr_12) g_RX0_41 ⟨rfl, hd_X0_makeFixed⟩ (rest := []) hl.1 hS (fun q h => h) dX0_prepare_20 rfl rfl ⟨Nat.le_of_ble_eq_true rfl, Nat.le_of_ble_eq_true rfl⟩ rfl rfl (Nat.le_of_ble_eq_true rfl) ⟨Nat.zero_le _, Nat.zero_le _⟩ (fun H locs hP _ hS => ?_)
          refine lv_aload_n hx hb dX0_prepare_23 rfl (lv_at hl 0 rfl) ?_
          refine lv_iload_n hx hb dX0_prepare_24 rfl (lv_at hl 2 rfl) ?_
          obtain ⟨a_oneSided_13, a_free_14, a_ends_15, hr_16, h⟩ := bd3_s h
          refine hv_v hx hb hml hown hw cB_bl (cB_of hN hK hP) (cr_CA hK hP) (c_ca_sortKinds l D ct ad hI v2 a_oneSided_13 a_free_14 a_ends_15 hr_16) g_RX0_45 ⟨rfl, hd_X0_sortKinds⟩ (rest := []) hl.1 hS (fun q h => h) dX0_prepare_25 rfl rfl ⟨Nat.le_of_ble_eq_true rfl, Nat.le_of_ble_eq_true rfl⟩ rfl rfl (Nat.le_of_ble_eq_true rfl) ⟨Nat.zero_le _, Nat.zero_le _⟩ (fun H locs hP _ hS => ?_)
          refine lv_aload_n hx hb dX0_prepare_28 rfl (lv_at hl 0 rfl) ?_
          refine lv_iload_n hx hb dX0_prepare_29 rfl (lv_at hl 2 rfl) ?_
          refine cp_CA_7 hx hb hw hown hK hP hI hS dX0_prepare_30 (fun H locs hP hS => ?_)
          obtain ⟨v2_17, ev2_17, h⟩ := nm_s h
          refine lv_iinc hx hb dX0_prepare_33 hl (k := 2) rfl ev2_17.symm (Nat.le_of_ble_eq_true rfl) (lv' := [(2, .int v2_17), (0, .ref (ad 9)), (1, .int v1)]) rfl (fun ls hl => ?_)
          refine lv_goto hx hb dX0_prepare_36 (tgt := 7) rfl ?_
          exact ih7 _ _ _ v2_17 v2 a_numbers_10 a_oneSided_13 a_free_14 a_ends_15 (lv_sub hl [1, 2, 0] rfl) hP hS h
  refine lv_aload_n hx hb dX0_prepare_0 rfl (lv_at hl 0 rfl) ?_
  refine cg_CA_7 hx hb hw hown hK hP dX0_prepare_1 ?_
  refine lv_iconst (v := 1) hx hb dX0_prepare_4 ki_1 ?_
  refine lv_iadd hx hb dX0_prepare_5 ?_
  obtain ⟨v2_18, ev2_18, h⟩ := nm_s h
  refine nmI ev2_18 ?_
  refine lv_istore_n hx hb dX0_prepare_6 rfl hl (Nat.le_of_ble_eq_true rfl) (lv' := [(2, .int v2_18), (0, .ref (ad 9)), (1, .int v1)]) rfl (fun ls hl => ?_)
  exact hL7 v1 FU _ _ _ v2_18 x_made a_numbers a_oneSided a_free a_ends (lv_sub hl [1, 2, 0] rfl) hP hS h
noncomputable def ca_size (v1 : Int32) (v2 : Int32) (a_ends : Nat → Int32) : Option (Int32) :=
  bd1 (ca_end v1 v2 a_ends) fun r_1 =>
  bd1 (ca_end (v1 - 1) v2 a_ends) fun r_3 =>
  some (r_1 - r_3)
set_option maxHeartbeats 4000000 in
set_option maxRecDepth 100000 in
theorem c_ca_size (l : Launch) (D : va_G) (ct : Nat → ClassId) (ad : Nat → Nat) (hI : cI ad) {x_fed x_tk x_col x_line x_rcells x_rsize x_len x_cuts x_bare x_place x_lA x_lB x_lC x_fX x_fY x_sX x_sY x_made x_fsize x_psize x_over x_touch x_most x_mU x_mV x_area : Int32} {x_board : Int64} {a_tape a_letters a_oneSided a_free a_ends a_crowds a_wmade a_firsts a_widths a_heights a_places a_next a_pnear a_table a_overlaps : Nat → Int32} {a_drawers a_kept a_items a_numbers a_marks a_near a_figures a_covered a_pcells a_matrix : Nat → Int64} (v1 : Int32) (v2 : Int32) (r : Int32)  (h : ca_size v1 v2 a_ends = some (r)) : Met l yX0_size (wm yX0_size cX0_size 3 (some .int)) (rmm 2 45) (va_Pc [.ref (ad 9), .int v1, .int v2] (cB D ct ad x_fed x_tk x_col x_line x_rcells x_rsize x_len x_cuts x_bare x_place x_lA x_lB x_lC x_fX x_fY x_sX x_sY x_made x_fsize x_psize x_over x_touch x_most x_mU x_mV x_area x_board a_tape a_letters a_oneSided a_free a_ends a_crowds a_wmade a_firsts a_widths a_heights a_places a_next a_pnear a_table a_overlaps a_drawers a_kept a_items a_numbers a_marks a_near a_figures a_covered a_pcells a_matrix)) (va_Qi (fun z (_ : Unit) => z = r) (fun _ t => cP D ct ad x_fed x_tk x_col x_line x_rcells x_rsize x_len x_cuts x_bare x_place x_lA x_lB x_lC x_fX x_fY x_sX x_sY x_made x_fsize x_psize x_over x_touch x_most x_mU x_mV x_area x_board a_tape a_letters a_oneSided a_free a_ends a_crowds a_wmade a_firsts a_widths a_heights a_places a_next a_pnear a_table a_overlaps a_drawers a_kept a_items a_numbers a_marks a_near a_figures a_covered a_pcells a_matrix t.heap) (cA ad)) 0 0 (cA ad) := by
  refine met_s (y := yX0_size) (rm := rmm 2 45) (by decide) (Nat.le_of_ble_eq_true rfl) ?_
  intro p e s m below meth c hx hb hr hw hown hlocks _ hml hB ls hl
  obtain ⟨hN, hK, hP⟩ := hB
  replace hl : lv_has ls 3 [(0, .ref (ad 9)), (1, .int v1), (2, .int v2)] := hl
  have hS : va_S (cA ad) s.heap s.heap [] := va_S.rf
  generalize (([.ref (ad 9), .int v1, .int v2] : List Value).toArray) = av at hw ⊢
  rw [ca_size] at h
  refine lv_aload_n hx hb dX0_size_0 rfl (lv_at hl 0 rfl) ?_
  refine lv_iload_n hx hb dX0_size_1 rfl (lv_at hl 1 rfl) ?_
  refine lv_iload_n hx hb dX0_size_2 rfl (lv_at hl 2 rfl) ?_
  obtain ⟨r_5, hr_6, h⟩ := bd1_s h
  refine hv_i hx hb hml hown hw cB_bl (cB_of hN hK hP) (cr_CA hK hP) (c_ca_end l D ct ad hI v1 v2 r_5 hr_6) g_RX0_48 ⟨rfl, hd_X0_end⟩ (rest := []) hl.1 hS (fun q h => h) dX0_size_3 rfl rfl ⟨Nat.le_of_ble_eq_true rfl, Nat.le_of_ble_eq_true rfl⟩ rfl rfl (Nat.le_of_ble_eq_true rfl) ⟨Nat.zero_le _, Nat.zero_le _⟩ (fun H locs hP _ hS => ?_)
  refine lv_aload_n hx hb dX0_size_6 rfl (lv_at hl 0 rfl) ?_
  refine lv_iload_n hx hb dX0_size_7 rfl (lv_at hl 1 rfl) ?_
  refine lv_iconst (v := 1) hx hb dX0_size_8 ki_1 ?_
  refine lv_isub hx hb dX0_size_9 ?_
  refine lv_iload_n hx hb dX0_size_10 rfl (lv_at hl 2 rfl) ?_
  obtain ⟨r_7, hr_8, h⟩ := bd1_s h
  refine hv_i hx hb hml hown hw cB_bl (cB_of hN hK hP) (cr_CA hK hP) (c_ca_end l D ct ad hI (v1 - 1) v2 r_7 hr_8) g_RX0_48 ⟨rfl, hd_X0_end⟩ (rest := [.int r_5]) hl.1 hS (fun q h => h) dX0_size_11 rfl rfl ⟨Nat.le_of_ble_eq_true rfl, Nat.le_of_ble_eq_true rfl⟩ rfl rfl (Nat.le_of_ble_eq_true rfl) ⟨Nat.zero_le _, Nat.zero_le _⟩ (fun H locs hP _ hS => ?_)
  refine lv_isub hx hb dX0_size_14 ?_
  replace h := Option.some.inj h
  subst h
  exact rc_i hx hb hr hlocks hS dX0_size_15 rfl hP
noncomputable def ca_member (v1 : Int32) (v2 : Int32) (a_oneSided : Nat → Int32) (a_free : Nat → Int32) : Option (Int32) :=
  if v1 = 0 then (some (v2)) else
  if v1 = 1 then (bd1 (cf_within v2 0 (285 - 1)) fun r_3 =>
  if r_3 = 0 then (some ((-1))) else
  ck v2 285 <|
  some (a_oneSided v2.toNatClampNeg)) else
  bd1 (cf_within v2 0 (164 - 1)) fun r_1 =>
  if r_1 = 0 then (some ((-1))) else
  ck v2 164 <|
  some (a_free v2.toNatClampNeg)
set_option maxHeartbeats 4000000 in
set_option maxRecDepth 100000 in
theorem c_ca_member (l : Launch) (D : va_G) (ct : Nat → ClassId) (ad : Nat → Nat) (hI : cI ad) {x_fed x_tk x_col x_line x_rcells x_rsize x_len x_cuts x_bare x_place x_lA x_lB x_lC x_fX x_fY x_sX x_sY x_made x_fsize x_psize x_over x_touch x_most x_mU x_mV x_area : Int32} {x_board : Int64} {a_tape a_letters a_oneSided a_free a_ends a_crowds a_wmade a_firsts a_widths a_heights a_places a_next a_pnear a_table a_overlaps : Nat → Int32} {a_drawers a_kept a_items a_numbers a_marks a_near a_figures a_covered a_pcells a_matrix : Nat → Int64} (v1 : Int32) (v2 : Int32) (r : Int32)  (h : ca_member v1 v2 a_oneSided a_free = some (r)) : Met l yX0_member (wm yX0_member cX0_member 4 (some .int)) (rmm 1 22) (va_Pc [.ref (ad 9), .int v1, .int v2] (cB D ct ad x_fed x_tk x_col x_line x_rcells x_rsize x_len x_cuts x_bare x_place x_lA x_lB x_lC x_fX x_fY x_sX x_sY x_made x_fsize x_psize x_over x_touch x_most x_mU x_mV x_area x_board a_tape a_letters a_oneSided a_free a_ends a_crowds a_wmade a_firsts a_widths a_heights a_places a_next a_pnear a_table a_overlaps a_drawers a_kept a_items a_numbers a_marks a_near a_figures a_covered a_pcells a_matrix)) (va_Qi (fun z (_ : Unit) => z = r) (fun _ t => cP D ct ad x_fed x_tk x_col x_line x_rcells x_rsize x_len x_cuts x_bare x_place x_lA x_lB x_lC x_fX x_fY x_sX x_sY x_made x_fsize x_psize x_over x_touch x_most x_mU x_mV x_area x_board a_tape a_letters a_oneSided a_free a_ends a_crowds a_wmade a_firsts a_widths a_heights a_places a_next a_pnear a_table a_overlaps a_drawers a_kept a_items a_numbers a_marks a_near a_figures a_covered a_pcells a_matrix t.heap) (cA ad)) 0 0 (cA ad) := by
  refine met_s (y := yX0_member) (rm := rmm 1 22) (by decide) (Nat.le_of_ble_eq_true rfl) ?_
  intro p e s m below meth c hx hb hr hw hown hlocks _ hml hB ls hl
  obtain ⟨hN, hK, hP⟩ := hB
  replace hl : lv_has ls 4 [(0, .ref (ad 9)), (1, .int v1), (2, .int v2)] := hl
  have hS : va_S (cA ad) s.heap s.heap [] := va_S.rf
  generalize (([.ref (ad 9), .int v1, .int v2] : List Value).toArray) = av at hw ⊢
  rw [ca_member] at h
  refine lv_iload_n hx hb dX0_member_0 rfl (lv_at hl 1 rfl) ?_
  refine lv_if_ne hx hb dX0_member_1 (tgt := 6) rfl (fun hc => ?_) (fun hc => ?_)
  · replace h := ifn h hc
    refine lv_iload_n hx hb dX0_member_6 rfl (lv_at hl 1 rfl) ?_
    refine lv_iconst (v := 1) hx hb dX0_member_7 ki_1 ?_
    refine lv_icmp_ne hx hb dX0_member_8 (tgt := 18) rfl (fun hc => ?_) (fun hc => ?_)
    · replace h := ifn h hc
      refine lv_aload_n hx hb dX0_member_18 rfl (lv_at hl 0 rfl) ?_
      refine cg_CA_2 hx hb hw hown hK hP dX0_member_19 ?_
      refine lv_astore_n hx hb dX0_member_22 rfl hl (Nat.le_of_ble_eq_true rfl) (lv' := [(3, .ref (ad 12)), (0, .ref (ad 9)), (1, .int v1), (2, .int v2)]) rfl (fun ls hl => ?_)
      refine lv_iload_n hx hb dX0_member_23 rfl (lv_at hl 3 rfl) ?_
      refine lv_iconst (v := 0) hx hb dX0_member_24 ki_0 ?_
      refine lv_aload_n hx hb dX0_member_25 rfl (lv_at hl 0 rfl) ?_
      refine cl_free hx hb hK hP dX0_member_26 ?_
      refine lv_iconst (v := 1) hx hb dX0_member_27 ki_1 ?_
      refine lv_isub hx hb dX0_member_28 ?_
      obtain ⟨r_5, hr_6, h⟩ := bd1_s h
      refine sn_i hx hb hml hown hw hN (c_cf_within l v2 0 (164 - 1) r_5 hr_6) nq_RX0_59 tw_9_21 tw_9_20 tw_1_2 hd_X11_within (rest := []) hl.1 hS dX0_member_29 rfl rfl ⟨Nat.le_of_ble_eq_true rfl, Nat.le_of_ble_eq_true rfl⟩ rfl rfl (Nat.le_of_ble_eq_true rfl) ⟨Nat.zero_le _, Nat.zero_le _⟩ (fun H locs hk hS => ?_)
      have hP := cP_kept hP hk
      refine lv_if_eq hx hb dX0_member_32 (tgt := 41) rfl (fun hc => ?_) (fun hc => ?_)
      · replace h := ifp h hc
        refine lv_iconst (v := (-1)) hx hb dX0_member_41 ki_m1 ?_
        replace h := Option.some.inj h
        subst h
        exact rc_i hx hb hr hlocks hS dX0_member_42 rfl hP
      · replace h := ifn h hc
        refine lv_aload_n hx hb dX0_member_35 rfl (lv_at hl 0 rfl) ?_
        refine lv_iload_n hx hb dX0_member_36 rfl (lv_at hl 3 rfl) ?_
        obtain ⟨hin, h⟩ := ck_s h
        refine cd_free hx hb hK hP hin dX0_member_37 ?_
        refine lv_goto hx hb dX0_member_38 (tgt := 42) rfl ?_
        replace h := Option.some.inj h
        subst h
        exact rc_i hx hb hr hlocks hS dX0_member_42 rfl hP
    · replace h := ifp h hc
      refine lv_aload_n hx hb dX0_member_11 rfl (lv_at hl 0 rfl) ?_
      refine cg_CA_1 hx hb hw hown hK hP dX0_member_12 ?_
      refine lv_goto hx hb dX0_member_15 (tgt := 22) rfl ?_
      refine lv_astore_n hx hb dX0_member_22 rfl hl (Nat.le_of_ble_eq_true rfl) (lv' := [(3, .ref (ad 11)), (0, .ref (ad 9)), (1, .int v1), (2, .int v2)]) rfl (fun ls hl => ?_)
      refine lv_iload_n hx hb dX0_member_23 rfl (lv_at hl 3 rfl) ?_
      refine lv_iconst (v := 0) hx hb dX0_member_24 ki_0 ?_
      refine lv_aload_n hx hb dX0_member_25 rfl (lv_at hl 0 rfl) ?_
      refine cl_oneSided hx hb hK hP dX0_member_26 ?_
      refine lv_iconst (v := 1) hx hb dX0_member_27 ki_1 ?_
      refine lv_isub hx hb dX0_member_28 ?_
      obtain ⟨r_7, hr_8, h⟩ := bd1_s h
      refine sn_i hx hb hml hown hw hN (c_cf_within l v2 0 (285 - 1) r_7 hr_8) nq_RX0_59 tw_9_21 tw_9_20 tw_1_2 hd_X11_within (rest := []) hl.1 hS dX0_member_29 rfl rfl ⟨Nat.le_of_ble_eq_true rfl, Nat.le_of_ble_eq_true rfl⟩ rfl rfl (Nat.le_of_ble_eq_true rfl) ⟨Nat.zero_le _, Nat.zero_le _⟩ (fun H locs hk hS => ?_)
      have hP := cP_kept hP hk
      refine lv_if_eq hx hb dX0_member_32 (tgt := 41) rfl (fun hc => ?_) (fun hc => ?_)
      · replace h := ifp h hc
        refine lv_iconst (v := (-1)) hx hb dX0_member_41 ki_m1 ?_
        replace h := Option.some.inj h
        subst h
        exact rc_i hx hb hr hlocks hS dX0_member_42 rfl hP
      · replace h := ifn h hc
        refine lv_aload_n hx hb dX0_member_35 rfl (lv_at hl 0 rfl) ?_
        refine lv_iload_n hx hb dX0_member_36 rfl (lv_at hl 3 rfl) ?_
        obtain ⟨hin, h⟩ := ck_s h
        refine cd_oneSided hx hb hK hP hin dX0_member_37 ?_
        refine lv_goto hx hb dX0_member_38 (tgt := 42) rfl ?_
        replace h := Option.some.inj h
        subst h
        exact rc_i hx hb hr hlocks hS dX0_member_42 rfl hP
  · replace h := ifp h hc
    refine lv_iload_n hx hb dX0_member_4 rfl (lv_at hl 2 rfl) ?_
    replace h := Option.some.inj h
    subst h
    exact rc_i hx hb hr hlocks hS dX0_member_5 rfl hP
noncomputable def ca_numberOf (v1 : Int32) (a_numbers : Nat → Int64) : Option (Int64) :=
  bd1 (cf_within v1 0 1066) fun r_1 =>
  if r_1 = 0 then (some (0)) else
  ck v1 1067 <|
  some (a_numbers v1.toNatClampNeg)
set_option maxHeartbeats 4000000 in
set_option maxRecDepth 100000 in
theorem c_ca_numberOf (l : Launch) (D : va_G) (ct : Nat → ClassId) (ad : Nat → Nat) (hI : cI ad) {x_fed x_tk x_col x_line x_rcells x_rsize x_len x_cuts x_bare x_place x_lA x_lB x_lC x_fX x_fY x_sX x_sY x_made x_fsize x_psize x_over x_touch x_most x_mU x_mV x_area : Int32} {x_board : Int64} {a_tape a_letters a_oneSided a_free a_ends a_crowds a_wmade a_firsts a_widths a_heights a_places a_next a_pnear a_table a_overlaps : Nat → Int32} {a_drawers a_kept a_items a_numbers a_marks a_near a_figures a_covered a_pcells a_matrix : Nat → Int64} (v1 : Int32) (r : Int64)  (h : ca_numberOf v1 a_numbers = some (r)) : Met l yX0_numberOf (wm yX0_numberOf cX0_numberOf 2 (some .long)) (rmm 1 22) (va_Pc [.ref (ad 9), .int v1] (cB D ct ad x_fed x_tk x_col x_line x_rcells x_rsize x_len x_cuts x_bare x_place x_lA x_lB x_lC x_fX x_fY x_sX x_sY x_made x_fsize x_psize x_over x_touch x_most x_mU x_mV x_area x_board a_tape a_letters a_oneSided a_free a_ends a_crowds a_wmade a_firsts a_widths a_heights a_places a_next a_pnear a_table a_overlaps a_drawers a_kept a_items a_numbers a_marks a_near a_figures a_covered a_pcells a_matrix)) (va_Ql (fun z (_ : Unit) => z = r) (fun _ t => cP D ct ad x_fed x_tk x_col x_line x_rcells x_rsize x_len x_cuts x_bare x_place x_lA x_lB x_lC x_fX x_fY x_sX x_sY x_made x_fsize x_psize x_over x_touch x_most x_mU x_mV x_area x_board a_tape a_letters a_oneSided a_free a_ends a_crowds a_wmade a_firsts a_widths a_heights a_places a_next a_pnear a_table a_overlaps a_drawers a_kept a_items a_numbers a_marks a_near a_figures a_covered a_pcells a_matrix t.heap) (cA ad)) 0 0 (cA ad) := by
  refine met_s (y := yX0_numberOf) (rm := rmm 1 22) (by decide) (Nat.le_of_ble_eq_true rfl) ?_
  intro p e s m below meth c hx hb hr hw hown hlocks _ hml hB ls hl
  obtain ⟨hN, hK, hP⟩ := hB
  replace hl : lv_has ls 2 [(0, .ref (ad 9)), (1, .int v1)] := hl
  have hS : va_S (cA ad) s.heap s.heap [] := va_S.rf
  generalize (([.ref (ad 9), .int v1] : List Value).toArray) = av at hw ⊢
  rw [ca_numberOf] at h
  refine lv_iload_n hx hb dX0_numberOf_0 rfl (lv_at hl 1 rfl) ?_
  refine lv_iconst (v := 0) hx hb dX0_numberOf_1 ki_0 ?_
  refine lv_sipush (v := 1066) hx hb dX0_numberOf_2 ks_1066 ?_
  obtain ⟨r_3, hr_4, h⟩ := bd1_s h
  refine sn_i hx hb hml hown hw hN (c_cf_within l v1 0 1066 r_3 hr_4) nq_RX0_59 tw_9_21 tw_9_20 tw_1_2 hd_X11_within (rest := []) hl.1 hS dX0_numberOf_5 rfl rfl ⟨Nat.le_of_ble_eq_true rfl, Nat.le_of_ble_eq_true rfl⟩ rfl rfl (Nat.le_of_ble_eq_true rfl) ⟨Nat.zero_le _, Nat.zero_le _⟩ (fun H locs hk hS => ?_)
  have hP := cP_kept hP hk
  refine lv_if_eq hx hb dX0_numberOf_8 (tgt := 20) rfl (fun hc => ?_) (fun hc => ?_)
  · replace h := ifp h hc
    refine lv_lconst (v := 0) hx hb dX0_numberOf_20 kl_0 ?_
    replace h := Option.some.inj h
    subst h
    exact rc_l hx hb hr hlocks hS dX0_numberOf_21 rfl hP
  · replace h := ifn h hc
    refine lv_aload_n hx hb dX0_numberOf_11 rfl (lv_at hl 0 rfl) ?_
    refine cg_CA_0 hx hb hw hown hK hP dX0_numberOf_12 ?_
    refine lv_iload_n hx hb dX0_numberOf_15 rfl (lv_at hl 1 rfl) ?_
    obtain ⟨hin, h⟩ := ck_s h
    refine cd_numbers hx hb hK hP hin dX0_numberOf_16 ?_
    refine lv_goto hx hb dX0_numberOf_17 (tgt := 21) rfl ?_
    replace h := Option.some.inj h
    subst h
    exact rc_l hx hb hr hlocks hS dX0_numberOf_21 rfl hP
noncomputable def ca_at (v1 : Int32) (v2 : Int32) (v3 : Int32) (a_numbers : Nat → Int64) (a_oneSided : Nat → Int32) (a_free : Nat → Int32) (a_ends : Nat → Int32) : Option (Int64) :=
  bd1 (ca_end (v1 - 1) v2 a_ends) fun r_1 =>
  bd1 (ca_member v2 (r_1 + v3) a_oneSided a_free) fun r_3 =>
  bd1 (ca_numberOf r_3 a_numbers) fun r_5 =>
  some (r_5)
set_option maxHeartbeats 4000000 in
set_option maxRecDepth 100000 in
theorem c_ca_at (l : Launch) (D : va_G) (ct : Nat → ClassId) (ad : Nat → Nat) (hI : cI ad) {x_fed x_tk x_col x_line x_rcells x_rsize x_len x_cuts x_bare x_place x_lA x_lB x_lC x_fX x_fY x_sX x_sY x_made x_fsize x_psize x_over x_touch x_most x_mU x_mV x_area : Int32} {x_board : Int64} {a_tape a_letters a_oneSided a_free a_ends a_crowds a_wmade a_firsts a_widths a_heights a_places a_next a_pnear a_table a_overlaps : Nat → Int32} {a_drawers a_kept a_items a_numbers a_marks a_near a_figures a_covered a_pcells a_matrix : Nat → Int64} (v1 : Int32) (v2 : Int32) (v3 : Int32) (r : Int64)  (h : ca_at v1 v2 v3 a_numbers a_oneSided a_free a_ends = some (r)) : Met l yX0_at (wm yX0_at cX0_at 4 (some .long)) (rmm 2 45) (va_Pc [.ref (ad 9), .int v1, .int v2, .int v3] (cB D ct ad x_fed x_tk x_col x_line x_rcells x_rsize x_len x_cuts x_bare x_place x_lA x_lB x_lC x_fX x_fY x_sX x_sY x_made x_fsize x_psize x_over x_touch x_most x_mU x_mV x_area x_board a_tape a_letters a_oneSided a_free a_ends a_crowds a_wmade a_firsts a_widths a_heights a_places a_next a_pnear a_table a_overlaps a_drawers a_kept a_items a_numbers a_marks a_near a_figures a_covered a_pcells a_matrix)) (va_Ql (fun z (_ : Unit) => z = r) (fun _ t => cP D ct ad x_fed x_tk x_col x_line x_rcells x_rsize x_len x_cuts x_bare x_place x_lA x_lB x_lC x_fX x_fY x_sX x_sY x_made x_fsize x_psize x_over x_touch x_most x_mU x_mV x_area x_board a_tape a_letters a_oneSided a_free a_ends a_crowds a_wmade a_firsts a_widths a_heights a_places a_next a_pnear a_table a_overlaps a_drawers a_kept a_items a_numbers a_marks a_near a_figures a_covered a_pcells a_matrix t.heap) (cA ad)) 0 0 (cA ad) := by
  refine met_s (y := yX0_at) (rm := rmm 2 45) (by decide) (Nat.le_of_ble_eq_true rfl) ?_
  intro p e s m below meth c hx hb hr hw hown hlocks _ hml hB ls hl
  obtain ⟨hN, hK, hP⟩ := hB
  replace hl : lv_has ls 4 [(0, .ref (ad 9)), (1, .int v1), (2, .int v2), (3, .int v3)] := hl
  have hS : va_S (cA ad) s.heap s.heap [] := va_S.rf
  generalize (([.ref (ad 9), .int v1, .int v2, .int v3] : List Value).toArray) = av at hw ⊢
  rw [ca_at] at h
  refine lv_aload_n hx hb dX0_at_0 rfl (lv_at hl 0 rfl) ?_
  refine lv_aload_n hx hb dX0_at_1 rfl (lv_at hl 0 rfl) ?_
  refine lv_iload_n hx hb dX0_at_2 rfl (lv_at hl 2 rfl) ?_
  refine lv_aload_n hx hb dX0_at_3 rfl (lv_at hl 0 rfl) ?_
  refine lv_iload_n hx hb dX0_at_4 rfl (lv_at hl 1 rfl) ?_
  refine lv_iconst (v := 1) hx hb dX0_at_5 ki_1 ?_
  refine lv_isub hx hb dX0_at_6 ?_
  refine lv_iload_n hx hb dX0_at_7 rfl (lv_at hl 2 rfl) ?_
  obtain ⟨r_7, hr_8, h⟩ := bd1_s h
  refine hv_i hx hb hml hown hw cB_bl (cB_of hN hK hP) (cr_CA hK hP) (c_ca_end l D ct ad hI (v1 - 1) v2 r_7 hr_8) g_RX0_48 ⟨rfl, hd_X0_end⟩ (rest := [.int v2, .ref (ad 9), .ref (ad 9)]) hl.1 hS (fun q h => h) dX0_at_8 rfl rfl ⟨Nat.le_of_ble_eq_true rfl, Nat.le_of_ble_eq_true rfl⟩ rfl rfl (Nat.le_of_ble_eq_true rfl) ⟨Nat.zero_le _, Nat.zero_le _⟩ (fun H locs hP _ hS => ?_)
  refine lv_iload_n hx hb dX0_at_11 rfl (lv_at hl 3 rfl) ?_
  refine lv_iadd hx hb dX0_at_12 ?_
  obtain ⟨r_9, hr_10, h⟩ := bd1_s h
  refine hv_i hx hb hml hown hw cB_bl (cB_of hN hK hP) (cr_CA hK hP) (c_ca_member l D ct ad hI v2 (r_7 + v3) r_9 hr_10) g_RX0_52 ⟨rfl, hd_X0_member⟩ (rest := [.ref (ad 9)]) hl.1 hS (fun q h => h) dX0_at_13 rfl rfl ⟨Nat.le_of_ble_eq_true rfl, Nat.le_of_ble_eq_true rfl⟩ rfl rfl (Nat.le_of_ble_eq_true rfl) ⟨Nat.zero_le _, Nat.zero_le _⟩ (fun H locs hP _ hS => ?_)
  obtain ⟨r_11, hr_12, h⟩ := bd1_s h
  refine hv_l hx hb hml hown hw cB_bl (cB_of hN hK hP) (cr_CA hK hP) (c_ca_numberOf l D ct ad hI r_9 r_11 hr_12) g_RX0_55 ⟨rfl, hd_X0_numberOf⟩ (rest := []) hl.1 hS (fun q h => h) dX0_at_16 rfl rfl ⟨Nat.le_of_ble_eq_true rfl, Nat.le_of_ble_eq_true rfl⟩ rfl rfl (Nat.le_of_ble_eq_true rfl) ⟨Nat.zero_le _, Nat.zero_le _⟩ (fun H locs hP _ hS => ?_)
  replace h := Option.some.inj h
  subst h
  exact rc_l hx hb hr hlocks hS dX0_at_19 rfl hP
noncomputable def ca_indexOf_J83  (a_numbers : Nat → Int64) (a_oneSided : Nat → Int32) (a_free : Nat → Int32) (a_ends : Nat → Int32) (v1 : Int32) (v2 : Int32) (v3 : Int64) (v5 : Int32) (v6 : Int32)  : Option (Int32) :=
  bd1 (ca_end v1 v2 a_ends) fun r_1 =>
  if r_1 ≤ v6 then (some ((-1))) else
  bd1 (ca_member v2 v6 a_oneSided a_free) fun r_3 =>
  bd1 (ca_numberOf r_3 a_numbers) fun r_5 =>
  if r_5 = v3 then (some (v6 - v5)) else
  some ((-1))
noncomputable def ca_indexOf_J77 (k25 : Int32 → Int32 → Int32 → Option (Int32)) (a_numbers : Nat → Int64) (a_oneSided : Nat → Int32) (a_free : Nat → Int32) (a_ends : Nat → Int32) (v1 : Int32) (v2 : Int32) (v3 : Int64) (v5 : Int32) (v6 : Int32) (v7 : Int32) (v8 : Int32)  : Option (Int32) :=
  nm (v8 + Int32.ofInt 1) fun v8_7 =>
  k25 v6 v7 v8_7
noncomputable def ca_indexOf_B25 (v1 : Int32) (v2 : Int32) (v3 : Int64) (v5 : Int32) (a_numbers : Nat → Int64) (a_oneSided : Nat → Int32) (a_free : Nat → Int32) (a_ends : Nat → Int32)  (k25 : Int32 → Int32 → Int32 → Option (Int32)) (v6 : Int32) (v7 : Int32) (v8 : Int32) : Option (Int32) :=
  if 32 ≤ v8 then (ca_indexOf_J83 a_numbers a_oneSided a_free a_ends v1 v2 v3 v5 v6) else
  if v7 ≤ v6 then (ca_indexOf_J83 a_numbers a_oneSided a_free a_ends v1 v2 v3 v5 v6) else
  nm (ui (v6 + v7) 1 : Int32) fun v9_8 =>
  bd1 (ca_member v2 v9_8 a_oneSided a_free) fun r_9 =>
  bd1 (ca_numberOf r_9 a_numbers) fun r_11 =>
  if v3 ≤ r_11 then (ca_indexOf_J77 k25 a_numbers a_oneSided a_free a_ends v1 v2 v3 v5 v6 v9_8 v8) else
  nm (v9_8 + 1 : Int32) fun v6_13 =>
  ca_indexOf_J77 k25 a_numbers a_oneSided a_free a_ends v1 v2 v3 v5 v6_13 v7 v8
noncomputable def ca_indexOf (v1 : Int32) (v2 : Int32) (v3 : Int64) (a_numbers : Nat → Int64) (a_oneSided : Nat → Int32) (a_free : Nat → Int32) (a_ends : Nat → Int32) : Option (Int32) :=
  bd1 (ca_end (v1 - 1) v2 a_ends) fun r_14 =>
  bd1 (ca_end v1 v2 a_ends) fun r_16 =>
  fl3 (ca_indexOf_B25 v1 v2 v3 r_14 a_numbers a_oneSided a_free a_ends) FU r_14 r_16 0
set_option maxHeartbeats 4000000 in
set_option maxRecDepth 100000 in
theorem c_ca_indexOf (l : Launch) (D : va_G) (ct : Nat → ClassId) (ad : Nat → Nat) (hI : cI ad) {x_fed x_tk x_col x_line x_rcells x_rsize x_len x_cuts x_bare x_place x_lA x_lB x_lC x_fX x_fY x_sX x_sY x_made x_fsize x_psize x_over x_touch x_most x_mU x_mV x_area : Int32} {x_board : Int64} {a_tape a_letters a_oneSided a_free a_ends a_crowds a_wmade a_firsts a_widths a_heights a_places a_next a_pnear a_table a_overlaps : Nat → Int32} {a_drawers a_kept a_items a_numbers a_marks a_near a_figures a_covered a_pcells a_matrix : Nat → Int64} (v1 : Int32) (v2 : Int32) (v3 : Int64) (r : Int32)  (h : ca_indexOf v1 v2 v3 a_numbers a_oneSided a_free a_ends = some (r)) : Met l yX0_indexOf (wm yX0_indexOf cX0_indexOf 10 (some .int)) (rmm 2 45) (va_Pc [.ref (ad 9), .int v1, .int v2, .long v3] (cB D ct ad x_fed x_tk x_col x_line x_rcells x_rsize x_len x_cuts x_bare x_place x_lA x_lB x_lC x_fX x_fY x_sX x_sY x_made x_fsize x_psize x_over x_touch x_most x_mU x_mV x_area x_board a_tape a_letters a_oneSided a_free a_ends a_crowds a_wmade a_firsts a_widths a_heights a_places a_next a_pnear a_table a_overlaps a_drawers a_kept a_items a_numbers a_marks a_near a_figures a_covered a_pcells a_matrix)) (va_Qi (fun z (_ : Unit) => z = r) (fun _ t => cP D ct ad x_fed x_tk x_col x_line x_rcells x_rsize x_len x_cuts x_bare x_place x_lA x_lB x_lC x_fX x_fY x_sX x_sY x_made x_fsize x_psize x_over x_touch x_most x_mU x_mV x_area x_board a_tape a_letters a_oneSided a_free a_ends a_crowds a_wmade a_firsts a_widths a_heights a_places a_next a_pnear a_table a_overlaps a_drawers a_kept a_items a_numbers a_marks a_near a_figures a_covered a_pcells a_matrix t.heap) (cA ad)) 0 0 (cA ad) := by
  refine met_s (y := yX0_indexOf) (rm := rmm 2 45) (by decide) (Nat.le_of_ble_eq_true rfl) ?_
  intro p e s m below meth c hx hb hr hw hown hlocks _ hml hB ls hl
  obtain ⟨hN, hK, hP⟩ := hB
  replace hl : lv_has ls 10 [(0, .ref (ad 9)), (1, .int v1), (2, .int v2), (3, .long v3)] := hl
  have hS : va_S (cA ad) s.heap s.heap [] := va_S.rf
  generalize (([.ref (ad 9), .int v1, .int v2, .long v3] : List Value).toArray) = av at hw ⊢
  rw [ca_indexOf] at h
  have hJ83 : ∀ (H : Heap) (locs : List Loc) (ls : Array Slot) (a_numbers : Nat → Int64) (a_oneSided : Nat → Int32) (a_free : Nat → Int32) (a_ends : Nat → Int32) (v1 : Int32) (v2 : Int32) (v3 : Int64) (v5 : Int32) (v6 : Int32) , lv_has ls 10 [(0, .ref (ad 9)), (1, .int v1), (2, .int v2), (3, .long v3), (5, .int v5), (6, .int v6)] → cP D ct ad x_fed x_tk x_col x_line x_rcells x_rsize x_len x_cuts x_bare x_place x_lA x_lB x_lC x_fX x_fY x_sX x_sY x_made x_fsize x_psize x_over x_touch x_most x_mU x_mV x_area x_board a_tape a_letters a_oneSided a_free a_ends a_crowds a_wmade a_firsts a_widths a_heights a_places a_next a_pnear a_table a_overlaps a_drawers a_kept a_items a_numbers a_marks a_near a_figures a_covered a_pcells a_matrix H → va_S (cA ad) s.heap H locs → ca_indexOf_J83 a_numbers a_oneSided a_free a_ends v1 v2 v3 v5 v6 = some (r) → W p l e (rmm 2 45) s m av below meth c H locs 0 0 (MQ below (va_Qi (fun z (_ : Unit) => z = r) (fun _ t => cP D ct ad x_fed x_tk x_col x_line x_rcells x_rsize x_len x_cuts x_bare x_place x_lA x_lB x_lC x_fX x_fY x_sX x_sY x_made x_fsize x_psize x_over x_touch x_most x_mU x_mV x_area x_board a_tape a_letters a_oneSided a_free a_ends a_crowds a_wmade a_firsts a_widths a_heights a_places a_next a_pnear a_table a_overlaps a_drawers a_kept a_items a_numbers a_marks a_near a_figures a_covered a_pcells a_matrix t.heap) (cA ad)) av s 0 0 (cA ad)) (F0 m 83 ls []) := by
    intro H locs ls a_numbers a_oneSided a_free a_ends v1 v2 v3 v5 v6  hl hP hS h
    rw [ca_indexOf_J83] at h
    refine lv_iload hx hb dX0_indexOf_83 (lv_at hl 5 rfl) ?_
    refine lv_aload_n hx hb dX0_indexOf_85 rfl (lv_at hl 0 rfl) ?_
    refine lv_iload_n hx hb dX0_indexOf_86 rfl (lv_at hl 1 rfl) ?_
    refine lv_iload_n hx hb dX0_indexOf_87 rfl (lv_at hl 2 rfl) ?_
    obtain ⟨r_18, hr_19, h⟩ := bd1_s h
    refine hv_i hx hb hml hown hw cB_bl (cB_of hN hK hP) (cr_CA hK hP) (c_ca_end l D ct ad hI v1 v2 r_18 hr_19) g_RX0_48 ⟨rfl, hd_X0_end⟩ (rest := [.int v6]) hl.1 hS (fun q h => h) dX0_indexOf_88 rfl rfl ⟨Nat.le_of_ble_eq_true rfl, Nat.le_of_ble_eq_true rfl⟩ rfl rfl (Nat.le_of_ble_eq_true rfl) ⟨Nat.zero_le _, Nat.zero_le _⟩ (fun H locs hP _ hS => ?_)
    refine lv_icmp_ge hx hb dX0_indexOf_91 (tgt := 118) rfl (fun hc => ?_) (fun hc => ?_)
    · replace h := ifp h hc
      refine lv_iconst (v := (-1)) hx hb dX0_indexOf_118 ki_m1 ?_
      replace h := Option.some.inj h
      subst h
      exact rc_i hx hb hr hlocks hS dX0_indexOf_119 rfl hP
    · replace h := ifn h hc
      refine lv_aload_n hx hb dX0_indexOf_94 rfl (lv_at hl 0 rfl) ?_
      refine lv_aload_n hx hb dX0_indexOf_95 rfl (lv_at hl 0 rfl) ?_
      refine lv_iload_n hx hb dX0_indexOf_96 rfl (lv_at hl 2 rfl) ?_
      refine lv_iload hx hb dX0_indexOf_97 (lv_at hl 5 rfl) ?_
      obtain ⟨r_20, hr_21, h⟩ := bd1_s h
      refine hv_i hx hb hml hown hw cB_bl (cB_of hN hK hP) (cr_CA hK hP) (c_ca_member l D ct ad hI v2 v6 r_20 hr_21) g_RX0_52 ⟨rfl, hd_X0_member⟩ (rest := [.ref (ad 9)]) hl.1 hS (fun q h => h) dX0_indexOf_99 rfl rfl ⟨Nat.le_of_ble_eq_true rfl, Nat.le_of_ble_eq_true rfl⟩ rfl rfl (Nat.le_of_ble_eq_true rfl) ⟨Nat.zero_le _, Nat.zero_le _⟩ (fun H locs hP _ hS => ?_)
      obtain ⟨r_22, hr_23, h⟩ := bd1_s h
      refine hv_l hx hb hml hown hw cB_bl (cB_of hN hK hP) (cr_CA hK hP) (c_ca_numberOf l D ct ad hI r_20 r_22 hr_23) g_RX0_55 ⟨rfl, hd_X0_numberOf⟩ (rest := []) hl.1 hS (fun q h => h) dX0_indexOf_102 rfl rfl ⟨Nat.le_of_ble_eq_true rfl, Nat.le_of_ble_eq_true rfl⟩ rfl rfl (Nat.le_of_ble_eq_true rfl) ⟨Nat.zero_le _, Nat.zero_le _⟩ (fun H locs hP _ hS => ?_)
      refine lv_lload_n hx hb dX0_indexOf_105 rfl (lv_at hl 3 rfl) ?_
      refine W.lcmp hx hb dX0_indexOf_106 ?_
      refine lv_if_ne hx hb dX0_indexOf_107 (tgt := 118) rfl (fun hc => ?_) (fun hc => ?_)
      · replace h := ifn h (fun q => hc ((lg_cmp_eq _ _).mpr q))
        refine lv_iconst (v := (-1)) hx hb dX0_indexOf_118 ki_m1 ?_
        replace h := Option.some.inj h
        subst h
        exact rc_i hx hb hr hlocks hS dX0_indexOf_119 rfl hP
      · replace h := ifp h ((lg_cmp_eq _ _).mp hc)
        refine lv_iload hx hb dX0_indexOf_110 (lv_at hl 5 rfl) ?_
        refine lv_iload hx hb dX0_indexOf_112 (lv_at hl 4 rfl) ?_
        refine lv_isub hx hb dX0_indexOf_114 ?_
        refine lv_goto hx hb dX0_indexOf_115 (tgt := 119) rfl ?_
        replace h := Option.some.inj h
        subst h
        exact rc_i hx hb hr hlocks hS dX0_indexOf_119 rfl hP
  have hL25 : ∀ (v1 : Int32), ∀ (v2 : Int32), ∀ (v3 : Int64), ∀ (v5 : Int32), ∀ (a_numbers : Nat → Int64), ∀ (a_oneSided : Nat → Int32), ∀ (a_free : Nat → Int32), ∀ (a_ends : Nat → Int32), ∀ (n25 : Nat) (H : Heap) (locs : List Loc) (ls : Array Slot) (v6 : Int32) (v7 : Int32) (v8 : Int32), lv_has ls 10 [(0, .ref (ad 9)), (1, .int v1), (2, .int v2), (3, .long v3), (5, .int v5), (6, .int v6), (7, .int v7), (8, .int v8)] → cP D ct ad x_fed x_tk x_col x_line x_rcells x_rsize x_len x_cuts x_bare x_place x_lA x_lB x_lC x_fX x_fY x_sX x_sY x_made x_fsize x_psize x_over x_touch x_most x_mU x_mV x_area x_board a_tape a_letters a_oneSided a_free a_ends a_crowds a_wmade a_firsts a_widths a_heights a_places a_next a_pnear a_table a_overlaps a_drawers a_kept a_items a_numbers a_marks a_near a_figures a_covered a_pcells a_matrix H → va_S (cA ad) s.heap H locs → fl3 (ca_indexOf_B25 v1 v2 v3 v5 a_numbers a_oneSided a_free a_ends) n25 v6 v7 v8 = some (r) → W p l e (rmm 2 45) s m av below meth c H locs 0 0 (MQ below (va_Qi (fun z (_ : Unit) => z = r) (fun _ t => cP D ct ad x_fed x_tk x_col x_line x_rcells x_rsize x_len x_cuts x_bare x_place x_lA x_lB x_lC x_fX x_fY x_sX x_sY x_made x_fsize x_psize x_over x_touch x_most x_mU x_mV x_area x_board a_tape a_letters a_oneSided a_free a_ends a_crowds a_wmade a_firsts a_widths a_heights a_places a_next a_pnear a_table a_overlaps a_drawers a_kept a_items a_numbers a_marks a_near a_figures a_covered a_pcells a_matrix t.heap) (cA ad)) av s 0 0 (cA ad)) (F0 m 25 ls []) := by
    intro v1 v2 v3 v5 a_numbers a_oneSided a_free a_ends n25
    induction n25 with
    | zero => intro H locs ls v6 v7 v8 hl hP hS h; cases h
    | succ n25 ih25 =>
      intro H locs ls v6 v7 v8 hl hP hS h
      replace h : ca_indexOf_B25 v1 v2 v3 v5 a_numbers a_oneSided a_free a_ends (fl3 (ca_indexOf_B25 v1 v2 v3 v5 a_numbers a_oneSided a_free a_ends) n25) v6 v7 v8 = some (r) := h
      generalize fl3 (ca_indexOf_B25 v1 v2 v3 v5 a_numbers a_oneSided a_free a_ends) n25 = k25 at h ih25
      have hJ77 : ∀ (H : Heap) (locs : List Loc) (ls : Array Slot) (v6 : Int32) (v7 : Int32) (v8 : Int32) , lv_has ls 10 [(0, .ref (ad 9)), (1, .int v1), (2, .int v2), (3, .long v3), (5, .int v5), (6, .int v6), (7, .int v7), (8, .int v8)] → cP D ct ad x_fed x_tk x_col x_line x_rcells x_rsize x_len x_cuts x_bare x_place x_lA x_lB x_lC x_fX x_fY x_sX x_sY x_made x_fsize x_psize x_over x_touch x_most x_mU x_mV x_area x_board a_tape a_letters a_oneSided a_free a_ends a_crowds a_wmade a_firsts a_widths a_heights a_places a_next a_pnear a_table a_overlaps a_drawers a_kept a_items a_numbers a_marks a_near a_figures a_covered a_pcells a_matrix H → va_S (cA ad) s.heap H locs → ca_indexOf_J77 k25 a_numbers a_oneSided a_free a_ends v1 v2 v3 v5 v6 v7 v8 = some (r) → W p l e (rmm 2 45) s m av below meth c H locs 0 0 (MQ below (va_Qi (fun z (_ : Unit) => z = r) (fun _ t => cP D ct ad x_fed x_tk x_col x_line x_rcells x_rsize x_len x_cuts x_bare x_place x_lA x_lB x_lC x_fX x_fY x_sX x_sY x_made x_fsize x_psize x_over x_touch x_most x_mU x_mV x_area x_board a_tape a_letters a_oneSided a_free a_ends a_crowds a_wmade a_firsts a_widths a_heights a_places a_next a_pnear a_table a_overlaps a_drawers a_kept a_items a_numbers a_marks a_near a_figures a_covered a_pcells a_matrix t.heap) (cA ad)) av s 0 0 (cA ad)) (F0 m 77 ls []) := by
        intro H locs ls v6 v7 v8  hl hP hS h
        rw [ca_indexOf_J77] at h
        obtain ⟨v8_24, ev8_24, h⟩ := nm_s h
        refine lv_iinc hx hb dX0_indexOf_77 hl (k := 7) rfl ev8_24.symm (Nat.le_of_ble_eq_true rfl) (lv' := [(8, .int v8_24), (0, .ref (ad 9)), (1, .int v1), (2, .int v2), (3, .long v3), (5, .int v5), (6, .int v6), (7, .int v7)]) rfl (fun ls hl => ?_)
        refine lv_goto hx hb dX0_indexOf_80 (tgt := 25) rfl ?_
        exact ih25 _ _ _ v6 v7 v8_24 (lv_sub hl [1, 2, 3, 4, 5, 6, 7, 0] rfl) hP hS h
      rw [ca_indexOf_B25] at h
      refine lv_iload hx hb dX0_indexOf_25 (lv_at hl 7 rfl) ?_
      refine lv_bipush (v := 32) hx hb dX0_indexOf_27 kb_32 ?_
      refine lv_icmp_ge hx hb dX0_indexOf_29 (tgt := 83) rfl (fun hc => ?_) (fun hc => ?_)
      · replace h := ifp h hc
        exact hJ83 _ _ _ a_numbers a_oneSided a_free a_ends v1 v2 v3 v5 v6 (lv_sub hl [0, 1, 2, 3, 4, 5] rfl) hP hS h
      · replace h := ifn h hc
        refine lv_iload hx hb dX0_indexOf_32 (lv_at hl 5 rfl) ?_
        refine lv_iload hx hb dX0_indexOf_34 (lv_at hl 6 rfl) ?_
        refine lv_icmp_ge hx hb dX0_indexOf_36 (tgt := 83) rfl (fun hc => ?_) (fun hc => ?_)
        · replace h := ifp h hc
          exact hJ83 _ _ _ a_numbers a_oneSided a_free a_ends v1 v2 v3 v5 v6 (lv_sub hl [0, 1, 2, 3, 4, 5] rfl) hP hS h
        · replace h := ifn h hc
          refine lv_iload hx hb dX0_indexOf_39 (lv_at hl 5 rfl) ?_
          refine lv_iload hx hb dX0_indexOf_41 (lv_at hl 6 rfl) ?_
          refine lv_iadd hx hb dX0_indexOf_43 ?_
          refine lv_iconst (v := 1) hx hb dX0_indexOf_44 ki_1 ?_
          refine lv_iushr hx hb (v := ui (v6 + v7) 1) dX0_indexOf_45 rfl ?_
          obtain ⟨v9_25, ev9_25, h⟩ := nm_s h
          refine nmI ev9_25 ?_
          refine lv_istore hx hb dX0_indexOf_46 hl (Nat.le_of_ble_eq_true rfl) (lv' := [(9, .int v9_25), (0, .ref (ad 9)), (1, .int v1), (2, .int v2), (3, .long v3), (5, .int v5), (6, .int v6), (7, .int v7), (8, .int v8)]) rfl (fun ls hl => ?_)
          refine lv_aload_n hx hb dX0_indexOf_48 rfl (lv_at hl 1 rfl) ?_
          refine lv_aload_n hx hb dX0_indexOf_49 rfl (lv_at hl 1 rfl) ?_
          refine lv_iload_n hx hb dX0_indexOf_50 rfl (lv_at hl 3 rfl) ?_
          refine lv_iload hx hb dX0_indexOf_51 (lv_at hl 0 rfl) ?_
          obtain ⟨r_26, hr_27, h⟩ := bd1_s h
          refine hv_i hx hb hml hown hw cB_bl (cB_of hN hK hP) (cr_CA hK hP) (c_ca_member l D ct ad hI v2 v9_25 r_26 hr_27) g_RX0_52 ⟨rfl, hd_X0_member⟩ (rest := [.ref (ad 9)]) hl.1 hS (fun q h => h) dX0_indexOf_53 rfl rfl ⟨Nat.le_of_ble_eq_true rfl, Nat.le_of_ble_eq_true rfl⟩ rfl rfl (Nat.le_of_ble_eq_true rfl) ⟨Nat.zero_le _, Nat.zero_le _⟩ (fun H locs hP _ hS => ?_)
          obtain ⟨r_28, hr_29, h⟩ := bd1_s h
          refine hv_l hx hb hml hown hw cB_bl (cB_of hN hK hP) (cr_CA hK hP) (c_ca_numberOf l D ct ad hI r_26 r_28 hr_29) g_RX0_55 ⟨rfl, hd_X0_numberOf⟩ (rest := []) hl.1 hS (fun q h => h) dX0_indexOf_56 rfl rfl ⟨Nat.le_of_ble_eq_true rfl, Nat.le_of_ble_eq_true rfl⟩ rfl rfl (Nat.le_of_ble_eq_true rfl) ⟨Nat.zero_le _, Nat.zero_le _⟩ (fun H locs hP _ hS => ?_)
          refine lv_lload_n hx hb dX0_indexOf_59 rfl (lv_at hl 4 rfl) ?_
          refine W.lcmp hx hb dX0_indexOf_60 ?_
          refine lv_if_ge hx hb dX0_indexOf_61 (tgt := 73) rfl (fun hc => ?_) (fun hc => ?_)
          · replace h := ifp h ((lg_cmp_ge _ _).mp hc)
            refine lv_iload hx hb dX0_indexOf_73 (lv_at hl 0 rfl) ?_
            refine lv_istore hx hb dX0_indexOf_75 hl (Nat.le_of_ble_eq_true rfl) (lv' := [(7, .int v9_25), (9, .int v9_25), (0, .ref (ad 9)), (1, .int v1), (2, .int v2), (3, .long v3), (5, .int v5), (6, .int v6), (8, .int v8)]) rfl (fun ls hl => ?_)
            exact hJ77 _ _ _ v6 v9_25 v8 (lv_sub hl [2, 3, 4, 5, 6, 7, 0, 8] rfl) hP hS h
          · replace h := ifn h (fun q => hc ((lg_cmp_ge _ _).mpr q))
            refine lv_iload hx hb dX0_indexOf_64 (lv_at hl 0 rfl) ?_
            refine lv_iconst (v := 1) hx hb dX0_indexOf_66 ki_1 ?_
            refine lv_iadd hx hb dX0_indexOf_67 ?_
            obtain ⟨v6_30, ev6_30, h⟩ := nm_s h
            refine nmI ev6_30 ?_
            refine lv_istore hx hb dX0_indexOf_68 hl (Nat.le_of_ble_eq_true rfl) (lv' := [(6, .int v6_30), (9, .int v9_25), (0, .ref (ad 9)), (1, .int v1), (2, .int v2), (3, .long v3), (5, .int v5), (7, .int v7), (8, .int v8)]) rfl (fun ls hl => ?_)
            refine lv_goto hx hb dX0_indexOf_70 (tgt := 77) rfl ?_
            exact hJ77 _ _ _ v6_30 v7 v8 (lv_sub hl [2, 3, 4, 5, 6, 0, 7, 8] rfl) hP hS h
  refine lv_aload_n hx hb dX0_indexOf_0 rfl (lv_at hl 0 rfl) ?_
  refine lv_iload_n hx hb dX0_indexOf_1 rfl (lv_at hl 1 rfl) ?_
  refine lv_iconst (v := 1) hx hb dX0_indexOf_2 ki_1 ?_
  refine lv_isub hx hb dX0_indexOf_3 ?_
  refine lv_iload_n hx hb dX0_indexOf_4 rfl (lv_at hl 2 rfl) ?_
  obtain ⟨r_31, hr_32, h⟩ := bd1_s h
  refine hv_i hx hb hml hown hw cB_bl (cB_of hN hK hP) (cr_CA hK hP) (c_ca_end l D ct ad hI (v1 - 1) v2 r_31 hr_32) g_RX0_48 ⟨rfl, hd_X0_end⟩ (rest := []) hl.1 hS (fun q h => h) dX0_indexOf_5 rfl rfl ⟨Nat.le_of_ble_eq_true rfl, Nat.le_of_ble_eq_true rfl⟩ rfl rfl (Nat.le_of_ble_eq_true rfl) ⟨Nat.zero_le _, Nat.zero_le _⟩ (fun H locs hP _ hS => ?_)
  refine lv_istore hx hb dX0_indexOf_8 hl (Nat.le_of_ble_eq_true rfl) (lv' := [(5, .int r_31), (0, .ref (ad 9)), (1, .int v1), (2, .int v2), (3, .long v3)]) rfl (fun ls hl => ?_)
  refine lv_iload hx hb dX0_indexOf_10 (lv_at hl 0 rfl) ?_
  refine lv_istore hx hb dX0_indexOf_12 hl (Nat.le_of_ble_eq_true rfl) (lv' := [(6, .int r_31), (5, .int r_31), (0, .ref (ad 9)), (1, .int v1), (2, .int v2), (3, .long v3)]) rfl (fun ls hl => ?_)
  refine lv_aload_n hx hb dX0_indexOf_14 rfl (lv_at hl 2 rfl) ?_
  refine lv_iload_n hx hb dX0_indexOf_15 rfl (lv_at hl 3 rfl) ?_
  refine lv_iload_n hx hb dX0_indexOf_16 rfl (lv_at hl 4 rfl) ?_
  obtain ⟨r_33, hr_34, h⟩ := bd1_s h
  refine hv_i hx hb hml hown hw cB_bl (cB_of hN hK hP) (cr_CA hK hP) (c_ca_end l D ct ad hI v1 v2 r_33 hr_34) g_RX0_48 ⟨rfl, hd_X0_end⟩ (rest := []) hl.1 hS (fun q h => h) dX0_indexOf_17 rfl rfl ⟨Nat.le_of_ble_eq_true rfl, Nat.le_of_ble_eq_true rfl⟩ rfl rfl (Nat.le_of_ble_eq_true rfl) ⟨Nat.zero_le _, Nat.zero_le _⟩ (fun H locs hP _ hS => ?_)
  refine lv_istore hx hb dX0_indexOf_20 hl (Nat.le_of_ble_eq_true rfl) (lv' := [(7, .int r_33), (6, .int r_31), (5, .int r_31), (0, .ref (ad 9)), (1, .int v1), (2, .int v2), (3, .long v3)]) rfl (fun ls hl => ?_)
  refine lv_iconst (v := 0) hx hb dX0_indexOf_22 ki_0 ?_
  refine lv_istore hx hb dX0_indexOf_23 hl (Nat.le_of_ble_eq_true rfl) (lv' := [(8, .int 0), (7, .int r_33), (6, .int r_31), (5, .int r_31), (0, .ref (ad 9)), (1, .int v1), (2, .int v2), (3, .long v3)]) rfl (fun ls hl => ?_)
  exact hL25 v1 v2 v3 r_31 a_numbers a_oneSided a_free a_ends FU _ _ _ r_31 r_33 0 (lv_sub hl [4, 5, 6, 7, 3, 2, 1, 0] rfl) hP hS h
noncomputable def ol_trace_B45 (v1 : Int64) (v3 : Int32) (x_len : Int32)  (k45 : Int32 → Int32 → Int32 → Int32 → (Nat → Int32) → Option (Int32 × Int32 × (Nat → Int32))) (v4 : Int32) (v5 : Int32) (v6 : Int32) (v7 : Int32) (a_letters : Nat → Int32) : Option (Int32 × Int32 × (Nat → Int32)) :=
  if v3 ≤ v7 then (zb 1 (some (1, v3, a_letters))) else
  if 52 ≤ (v7 + v3) then (zb 1 (some (1, v3, a_letters))) else
  nm (i8 v6 : Int32) fun w_1 =>
  ck v7 52 <|
  nm (upd a_letters v7.toNatClampNeg (vp_nar .byte w_1)) fun a_letters_2 =>
  nm (i8 v6 : Int32) fun w_3 =>
  nm (v7 + v3 : Int32) fun i_4 =>
  ck i_4 52 <|
  nm (upd a_letters_2 i_4.toNatClampNeg (vp_nar .byte w_3)) fun a_letters_5 =>
  bd1 (ol_stepX v6) fun r_6 =>
  nm (v4 + r_6 : Int32) fun v4_8 =>
  bd1 (ol_stepY v6) fun r_9 =>
  nm (v5 + r_9 : Int32) fun v5_11 =>
  bd1 (ol_nextLetter v1 v4_8 v5_11 v6) fun r_12 =>
  nm (v7 + Int32.ofInt 1) fun v7_14 =>
  k45 v4_8 v5_11 r_12 v7_14 a_letters_5
noncomputable def ol_trace (v1 : Int64) (x_len : Int32) (a_letters : Nat → Int32) : Option (Int32 × Int32 × (Nat → Int32)) :=
  bd1 (tr_hollow v1) fun r_15 =>
  if r_15 = 0 then (bd1 (tr_aslant v1) fun r_17 =>
  if r_17 = 0 then (bd1 (tr_sides v1) fun r_19 =>
  bd1 (gr_lowest v1) fun r_21 =>
  fl5 (ol_trace_B45 v1 r_19 0) FU r_21 0 0 0 a_letters) else
  zb 0 (some (0, 0, a_letters))) else
  zb 0 (some (0, 0, a_letters))
set_option maxHeartbeats 4000000 in
set_option maxRecDepth 100000 in
theorem c_ol_trace (l : Launch) (D : va_G) (ct : Nat → ClassId) (ad : Nat → Nat) (hI : cI ad) {x_fed x_tk x_col x_line x_rcells x_rsize x_len x_cuts x_bare x_place x_lA x_lB x_lC x_fX x_fY x_sX x_sY x_made x_fsize x_psize x_over x_touch x_most x_mU x_mV x_area : Int32} {x_board : Int64} {a_tape a_letters a_oneSided a_free a_ends a_crowds a_wmade a_firsts a_widths a_heights a_places a_next a_pnear a_table a_overlaps : Nat → Int32} {a_drawers a_kept a_items a_numbers a_marks a_near a_figures a_covered a_pcells a_matrix : Nat → Int64} (v1 : Int64) (r : Int32) (z_x_len : Int32) (z_a_letters : Nat → Int32) (h : ol_trace v1 x_len a_letters = some (r, z_x_len, z_a_letters)) : Met l yX5_trace (wm yX5_trace cX5_trace 8 (some .boolean)) (rmm 3 74) (va_Pc [.ref (ad 7), .long v1] (cB D ct ad x_fed x_tk x_col x_line x_rcells x_rsize x_len x_cuts x_bare x_place x_lA x_lB x_lC x_fX x_fY x_sX x_sY x_made x_fsize x_psize x_over x_touch x_most x_mU x_mV x_area x_board a_tape a_letters a_oneSided a_free a_ends a_crowds a_wmade a_firsts a_widths a_heights a_places a_next a_pnear a_table a_overlaps a_drawers a_kept a_items a_numbers a_marks a_near a_figures a_covered a_pcells a_matrix)) (va_Qi (fun z (_ : Unit) => z = r) (fun _ t => cP D ct ad x_fed x_tk x_col x_line x_rcells x_rsize z_x_len x_cuts x_bare x_place x_lA x_lB x_lC x_fX x_fY x_sX x_sY x_made x_fsize x_psize x_over x_touch x_most x_mU x_mV x_area x_board a_tape z_a_letters a_oneSided a_free a_ends a_crowds a_wmade a_firsts a_widths a_heights a_places a_next a_pnear a_table a_overlaps a_drawers a_kept a_items a_numbers a_marks a_near a_figures a_covered a_pcells a_matrix t.heap) (cA ad)) 0 0 (cA ad) := by
  refine met_s (y := yX5_trace) (rm := rmm 3 74) (by decide) (Nat.le_of_ble_eq_true rfl) ?_
  intro p e s m below meth c hx hb hr hw hown hlocks _ hml hB ls hl
  obtain ⟨hN, hK, hP⟩ := hB
  replace hl : lv_has ls 8 [(0, .ref (ad 7)), (1, .long v1)] := hl
  have hS : va_S (cA ad) s.heap s.heap [] := va_S.rf
  generalize (([.ref (ad 7), .long v1] : List Value).toArray) = av at hw ⊢
  rw [ol_trace] at h
  have hL45 : ∀ (v1 : Int64), ∀ (v3 : Int32), ∀ (x_len : Int32), ∀ (n45 : Nat) (H : Heap) (locs : List Loc) (ls : Array Slot) (v4 : Int32) (v5 : Int32) (v6 : Int32) (v7 : Int32) (a_letters : Nat → Int32), lv_has ls 8 [(0, .ref (ad 7)), (1, .long v1), (3, .int v3), (4, .int v4), (5, .int v5), (6, .int v6), (7, .int v7)] → cP D ct ad x_fed x_tk x_col x_line x_rcells x_rsize x_len x_cuts x_bare x_place x_lA x_lB x_lC x_fX x_fY x_sX x_sY x_made x_fsize x_psize x_over x_touch x_most x_mU x_mV x_area x_board a_tape a_letters a_oneSided a_free a_ends a_crowds a_wmade a_firsts a_widths a_heights a_places a_next a_pnear a_table a_overlaps a_drawers a_kept a_items a_numbers a_marks a_near a_figures a_covered a_pcells a_matrix H → va_S (cA ad) s.heap H locs → fl5 (ol_trace_B45 v1 v3 x_len) n45 v4 v5 v6 v7 a_letters = some (r, z_x_len, z_a_letters) → W p l e (rmm 3 74) s m av below meth c H locs 0 0 (MQ below (va_Qi (fun z (_ : Unit) => z = r) (fun _ t => cP D ct ad x_fed x_tk x_col x_line x_rcells x_rsize z_x_len x_cuts x_bare x_place x_lA x_lB x_lC x_fX x_fY x_sX x_sY x_made x_fsize x_psize x_over x_touch x_most x_mU x_mV x_area x_board a_tape z_a_letters a_oneSided a_free a_ends a_crowds a_wmade a_firsts a_widths a_heights a_places a_next a_pnear a_table a_overlaps a_drawers a_kept a_items a_numbers a_marks a_near a_figures a_covered a_pcells a_matrix t.heap) (cA ad)) av s 0 0 (cA ad)) (F0 m 45 ls []) := by
    intro v1 v3 x_len n45
    induction n45 with
    | zero => intro H locs ls v4 v5 v6 v7 a_letters hl hP hS h; cases h
    | succ n45 ih45 =>
      intro H locs ls v4 v5 v6 v7 a_letters hl hP hS h
      replace h : ol_trace_B45 v1 v3 x_len (fl5 (ol_trace_B45 v1 v3 x_len) n45) v4 v5 v6 v7 a_letters = some (r, z_x_len, z_a_letters) := h
      generalize fl5 (ol_trace_B45 v1 v3 x_len) n45 = k45 at h ih45
      rw [ol_trace_B45] at h
      refine lv_iload hx hb dX5_trace_45 (lv_at hl 6 rfl) ?_
      refine lv_iload_n hx hb dX5_trace_47 rfl (lv_at hl 2 rfl) ?_
      refine lv_icmp_ge hx hb dX5_trace_48 (tgt := 120) rfl (fun hc => ?_) (fun hc => ?_)
      · replace h := ifp h hc
        refine lv_aload_n hx hb dX5_trace_120 rfl (lv_at hl 0 rfl) ?_
        refine lv_iload_n hx hb dX5_trace_121 rfl (lv_at hl 2 rfl) ?_
        refine cp_OL_1 hx hb hw hown hK hP hI hS dX5_trace_122 (fun H locs hP hS => ?_)
        refine lv_iconst (v := 1) hx hb dX5_trace_125 ki_1 ?_
        obtain ⟨hz, h⟩ := zb_s h
        simp only [Option.some.injEq, Prod.mk.injEq] at h
        obtain ⟨rfl, rfl, rfl⟩ := h
        exact rc_z hx hb hr hlocks hS dX5_trace_126 hz rfl hP
      · replace h := ifn h hc
        refine lv_iload hx hb dX5_trace_51 (lv_at hl 6 rfl) ?_
        refine lv_iload_n hx hb dX5_trace_53 rfl (lv_at hl 2 rfl) ?_
        refine lv_iadd hx hb dX5_trace_54 ?_
        refine lv_bipush (v := 52) hx hb dX5_trace_55 kb_52 ?_
        refine lv_icmp_ge hx hb dX5_trace_57 (tgt := 120) rfl (fun hc => ?_) (fun hc => ?_)
        · replace h := ifp h hc
          refine lv_aload_n hx hb dX5_trace_120 rfl (lv_at hl 0 rfl) ?_
          refine lv_iload_n hx hb dX5_trace_121 rfl (lv_at hl 2 rfl) ?_
          refine cp_OL_1 hx hb hw hown hK hP hI hS dX5_trace_122 (fun H locs hP hS => ?_)
          refine lv_iconst (v := 1) hx hb dX5_trace_125 ki_1 ?_
          obtain ⟨hz, h⟩ := zb_s h
          simp only [Option.some.injEq, Prod.mk.injEq] at h
          obtain ⟨rfl, rfl, rfl⟩ := h
          exact rc_z hx hb hr hlocks hS dX5_trace_126 hz rfl hP
        · replace h := ifn h hc
          refine lv_aload_n hx hb dX5_trace_60 rfl (lv_at hl 0 rfl) ?_
          refine cg_OL_0 hx hb hw hown hK hP dX5_trace_61 ?_
          refine lv_iload hx hb dX5_trace_64 (lv_at hl 6 rfl) ?_
          refine lv_iload hx hb dX5_trace_66 (lv_at hl 5 rfl) ?_
          refine lv_i2b hx hb (v := i8 v6) dX5_trace_68 rfl ?_
          obtain ⟨w_23, ew_23, h⟩ := nm_s h
          refine nmI ew_23 ?_
          obtain ⟨hin, h⟩ := ck_s h
          obtain ⟨a_letters_24, ea_letters_24, h⟩ := nm_s h
          refine cs_letters hx hb hK hP hI hS hin ea_letters_24 dX5_trace_69 (fun H locs hP hS => ?_)
          refine lv_aload_n hx hb dX5_trace_70 rfl (lv_at hl 0 rfl) ?_
          refine cg_OL_0 hx hb hw hown hK hP dX5_trace_71 ?_
          refine lv_iload hx hb dX5_trace_74 (lv_at hl 6 rfl) ?_
          refine lv_iload_n hx hb dX5_trace_76 rfl (lv_at hl 2 rfl) ?_
          refine lv_iadd hx hb dX5_trace_77 ?_
          refine lv_iload hx hb dX5_trace_78 (lv_at hl 5 rfl) ?_
          refine lv_i2b hx hb (v := i8 v6) dX5_trace_80 rfl ?_
          obtain ⟨w_25, ew_25, h⟩ := nm_s h
          refine nmI ew_25 ?_
          obtain ⟨i_26, ei_26, h⟩ := nm_s h
          refine nmI2 ei_26 ?_
          obtain ⟨hin, h⟩ := ck_s h
          obtain ⟨a_letters_27, ea_letters_27, h⟩ := nm_s h
          refine cs_letters hx hb hK hP hI hS hin ea_letters_27 dX5_trace_81 (fun H locs hP hS => ?_)
          refine lv_iload hx hb dX5_trace_82 (lv_at hl 3 rfl) ?_
          refine lv_iload hx hb dX5_trace_84 (lv_at hl 5 rfl) ?_
          obtain ⟨r_28, hr_29, h⟩ := bd1_s h
          refine sc_i hx hb hml hown hw hN (c_ol_stepX l v6 r_28 hr_29) g_RX5_51 hd_X5_stepX (rest := [.int v4]) hl.1 hS dX5_trace_86 rfl rfl ⟨Nat.le_of_ble_eq_true rfl, Nat.le_of_ble_eq_true rfl⟩ rfl rfl (Nat.le_of_ble_eq_true rfl) ⟨Nat.zero_le _, Nat.zero_le _⟩ (fun H locs hk hS => ?_)
          have hP := cP_kept hP hk
          refine lv_iadd hx hb dX5_trace_89 ?_
          obtain ⟨v4_30, ev4_30, h⟩ := nm_s h
          refine nmI ev4_30 ?_
          refine lv_istore hx hb dX5_trace_90 hl (Nat.le_of_ble_eq_true rfl) (lv' := [(4, .int v4_30), (0, .ref (ad 7)), (1, .long v1), (3, .int v3), (5, .int v5), (6, .int v6), (7, .int v7)]) rfl (fun ls hl => ?_)
          refine lv_iload hx hb dX5_trace_92 (lv_at hl 4 rfl) ?_
          refine lv_iload hx hb dX5_trace_94 (lv_at hl 5 rfl) ?_
          obtain ⟨r_31, hr_32, h⟩ := bd1_s h
          refine sc_i hx hb hml hown hw hN (c_ol_stepY l v6 r_31 hr_32) g_RX5_55 hd_X5_stepY (rest := [.int v5]) hl.1 hS dX5_trace_96 rfl rfl ⟨Nat.le_of_ble_eq_true rfl, Nat.le_of_ble_eq_true rfl⟩ rfl rfl (Nat.le_of_ble_eq_true rfl) ⟨Nat.zero_le _, Nat.zero_le _⟩ (fun H locs hk hS => ?_)
          have hP := cP_kept hP hk
          refine lv_iadd hx hb dX5_trace_99 ?_
          obtain ⟨v5_33, ev5_33, h⟩ := nm_s h
          refine nmI ev5_33 ?_
          refine lv_istore hx hb dX5_trace_100 hl (Nat.le_of_ble_eq_true rfl) (lv' := [(5, .int v5_33), (4, .int v4_30), (0, .ref (ad 7)), (1, .long v1), (3, .int v3), (6, .int v6), (7, .int v7)]) rfl (fun ls hl => ?_)
          refine lv_lload_n hx hb dX5_trace_102 rfl (lv_at hl 3 rfl) ?_
          refine lv_iload hx hb dX5_trace_103 (lv_at hl 1 rfl) ?_
          refine lv_iload hx hb dX5_trace_105 (lv_at hl 0 rfl) ?_
          refine lv_iload hx hb dX5_trace_107 (lv_at hl 5 rfl) ?_
          obtain ⟨r_34, hr_35, h⟩ := bd1_s h
          refine sc_i hx hb hml hown hw hN (c_ol_nextLetter l v1 v4_30 v5_33 v6 r_34 hr_35) g_RX5_58 hd_X5_nextLetter (rest := []) hl.1 hS dX5_trace_109 rfl rfl ⟨Nat.le_of_ble_eq_true rfl, Nat.le_of_ble_eq_true rfl⟩ rfl rfl (Nat.le_of_ble_eq_true rfl) ⟨Nat.zero_le _, Nat.zero_le _⟩ (fun H locs hk hS => ?_)
          have hP := cP_kept hP hk
          refine lv_istore hx hb dX5_trace_112 hl (Nat.le_of_ble_eq_true rfl) (lv' := [(6, .int r_34), (5, .int v5_33), (4, .int v4_30), (0, .ref (ad 7)), (1, .long v1), (3, .int v3), (7, .int v7)]) rfl (fun ls hl => ?_)
          obtain ⟨v7_36, ev7_36, h⟩ := nm_s h
          refine lv_iinc hx hb dX5_trace_114 hl (k := 6) rfl ev7_36.symm (Nat.le_of_ble_eq_true rfl) (lv' := [(7, .int v7_36), (6, .int r_34), (5, .int v5_33), (4, .int v4_30), (0, .ref (ad 7)), (1, .long v1), (3, .int v3)]) rfl (fun ls hl => ?_)
          refine lv_goto hx hb dX5_trace_117 (tgt := 45) rfl ?_
          exact ih45 _ _ _ v4_30 v5_33 r_34 v7_36 a_letters_27 (lv_sub hl [4, 5, 6, 3, 2, 1, 0] rfl) hP hS h
  refine lv_aload_n hx hb dX5_trace_0 rfl (lv_at hl 0 rfl) ?_
  refine lv_iconst (v := 0) hx hb dX5_trace_1 ki_0 ?_
  refine cp_OL_1 hx hb hw hown hK hP hI hS dX5_trace_2 (fun H locs hP hS => ?_)
  refine lv_lload_n hx hb dX5_trace_5 rfl (lv_at hl 1 rfl) ?_
  obtain ⟨r_37, hr_38, h⟩ := bd1_s h
  refine sc_l hx hb hml hown hw hN (c_tr_hollow l v1 r_37 hr_38) g_RX5_33 hd_X9_hollow (rest := []) hl.1 hS dX5_trace_6 rfl rfl ⟨Nat.le_of_ble_eq_true rfl, Nat.le_of_ble_eq_true rfl⟩ rfl rfl (Nat.le_of_ble_eq_true rfl) ⟨Nat.zero_le _, Nat.zero_le _⟩ (fun H locs hk hS => ?_)
  have hP := cP_kept hP hk
  refine lv_lconst (v := 0) hx hb dX5_trace_9 kl_0 ?_
  refine W.lcmp hx hb dX5_trace_10 ?_
  refine lv_if_ne hx hb dX5_trace_11 (tgt := 23) rfl (fun hc => ?_) (fun hc => ?_)
  · replace h := ifn h (fun q => hc ((lg_cmp_eq _ _).mpr q))
    refine lv_iconst (v := 0) hx hb dX5_trace_23 ki_0 ?_
    obtain ⟨hz, h⟩ := zb_s h
    simp only [Option.some.injEq, Prod.mk.injEq] at h
    obtain ⟨rfl, rfl, rfl⟩ := h
    exact rc_z hx hb hr hlocks hS dX5_trace_24 hz rfl hP
  · replace h := ifp h ((lg_cmp_eq _ _).mp hc)
    refine lv_lload_n hx hb dX5_trace_14 rfl (lv_at hl 1 rfl) ?_
    obtain ⟨r_39, hr_40, h⟩ := bd1_s h
    refine sc_l hx hb hml hown hw hN (c_tr_aslant l v1 r_39 hr_40) g_RX5_39 hd_X9_aslant (rest := []) hl.1 hS dX5_trace_15 rfl rfl ⟨Nat.le_of_ble_eq_true rfl, Nat.le_of_ble_eq_true rfl⟩ rfl rfl (Nat.le_of_ble_eq_true rfl) ⟨Nat.zero_le _, Nat.zero_le _⟩ (fun H locs hk hS => ?_)
    have hP := cP_kept hP hk
    refine lv_lconst (v := 0) hx hb dX5_trace_18 kl_0 ?_
    refine W.lcmp hx hb dX5_trace_19 ?_
    refine lv_if_eq hx hb dX5_trace_20 (tgt := 25) rfl (fun hc => ?_) (fun hc => ?_)
    · replace h := ifp h ((lg_cmp_eq _ _).mp hc)
      refine lv_lload_n hx hb dX5_trace_25 rfl (lv_at hl 1 rfl) ?_
      obtain ⟨r_41, hr_42, h⟩ := bd1_s h
      refine sc_i hx hb hml hown hw hN (c_tr_sides l v1 r_41 hr_42) g_RX5_42 hd_X9_sides (rest := []) hl.1 hS dX5_trace_26 rfl rfl ⟨Nat.le_of_ble_eq_true rfl, Nat.le_of_ble_eq_true rfl⟩ rfl rfl (Nat.le_of_ble_eq_true rfl) ⟨Nat.zero_le _, Nat.zero_le _⟩ (fun H locs hk hS => ?_)
      have hP := cP_kept hP hk
      refine lv_istore_n hx hb dX5_trace_29 rfl hl (Nat.le_of_ble_eq_true rfl) (lv' := [(3, .int r_41), (0, .ref (ad 7)), (1, .long v1)]) rfl (fun ls hl => ?_)
      refine lv_lload_n hx hb dX5_trace_30 rfl (lv_at hl 2 rfl) ?_
      obtain ⟨r_43, hr_44, h⟩ := bd1_s h
      refine sc_i hx hb hml hown hw hN (c_gr_lowest l v1 r_43 hr_44) g_RX5_46 hd_X2_lowest (rest := []) hl.1 hS dX5_trace_31 rfl rfl ⟨Nat.le_of_ble_eq_true rfl, Nat.le_of_ble_eq_true rfl⟩ rfl rfl (Nat.le_of_ble_eq_true rfl) ⟨Nat.zero_le _, Nat.zero_le _⟩ (fun H locs hk hS => ?_)
      have hP := cP_kept hP hk
      refine lv_istore hx hb dX5_trace_34 hl (Nat.le_of_ble_eq_true rfl) (lv' := [(4, .int r_43), (3, .int r_41), (0, .ref (ad 7)), (1, .long v1)]) rfl (fun ls hl => ?_)
      refine lv_iconst (v := 0) hx hb dX5_trace_36 ki_0 ?_
      refine lv_istore hx hb dX5_trace_37 hl (Nat.le_of_ble_eq_true rfl) (lv' := [(5, .int 0), (4, .int r_43), (3, .int r_41), (0, .ref (ad 7)), (1, .long v1)]) rfl (fun ls hl => ?_)
      refine lv_iconst (v := 0) hx hb dX5_trace_39 ki_0 ?_
      refine lv_istore hx hb dX5_trace_40 hl (Nat.le_of_ble_eq_true rfl) (lv' := [(6, .int 0), (5, .int 0), (4, .int r_43), (3, .int r_41), (0, .ref (ad 7)), (1, .long v1)]) rfl (fun ls hl => ?_)
      refine lv_iconst (v := 0) hx hb dX5_trace_42 ki_0 ?_
      refine lv_istore hx hb dX5_trace_43 hl (Nat.le_of_ble_eq_true rfl) (lv' := [(7, .int 0), (6, .int 0), (5, .int 0), (4, .int r_43), (3, .int r_41), (0, .ref (ad 7)), (1, .long v1)]) rfl (fun ls hl => ?_)
      exact hL45 v1 r_41 0 FU _ _ _ r_43 0 0 0 a_letters (lv_sub hl [5, 6, 4, 3, 2, 1, 0] rfl) hP hS h
    · replace h := ifn h (fun q => hc ((lg_cmp_eq _ _).mpr q))
      refine lv_iconst (v := 0) hx hb dX5_trace_23 ki_0 ?_
      obtain ⟨hz, h⟩ := zb_s h
      simp only [Option.some.injEq, Prod.mk.injEq] at h
      obtain ⟨rfl, rfl, rfl⟩ := h
      exact rc_z hx hb hr hlocks hS dX5_trace_24 hz rfl hP
noncomputable def ol_isOpposed_B26 (v1 : Int32) (v2 : Int32) (v3 : Int32) (x_len : Int32) (a_letters : Nat → Int32)  (k26 : Int32 → Option (Int32)) (v4 : Int32) : Option (Int32) :=
  if v2 ≤ v4 then (zb 1 (some (1))) else
  nm (v3 + v4 : Int32) fun i_1 =>
  ck i_1 52 <|
  nm (((v1 + v2) - 1) - v4 : Int32) fun i_2 =>
  ck i_2 52 <|
  if (a_letters i_1.toNatClampNeg) = ((a_letters i_2.toNatClampNeg) ^^^ 2) then (nm (v4 + Int32.ofInt 1) fun v4_3 =>
  k26 v4_3) else
  zb 0 (some (0))
noncomputable def ol_isOpposed (v1 : Int32) (v2 : Int32) (x_len : Int32) (a_letters : Nat → Int32) : Option (Int32) :=
  dzI 2 <|
  nm (v1 + (x_len / 2) : Int32) fun v3_4 =>
  if v1 < 0 then (zb 0 (some (0))) else
  if (v3_4 + v2) ≤ 52 then (fl1 (ol_isOpposed_B26 v1 v2 v3_4 x_len a_letters) FU 0) else
  zb 0 (some (0))
set_option maxHeartbeats 4000000 in
set_option maxRecDepth 100000 in
theorem c_ol_isOpposed (l : Launch) (D : va_G) (ct : Nat → ClassId) (ad : Nat → Nat) (hI : cI ad) {x_fed x_tk x_col x_line x_rcells x_rsize x_len x_cuts x_bare x_place x_lA x_lB x_lC x_fX x_fY x_sX x_sY x_made x_fsize x_psize x_over x_touch x_most x_mU x_mV x_area : Int32} {x_board : Int64} {a_tape a_letters a_oneSided a_free a_ends a_crowds a_wmade a_firsts a_widths a_heights a_places a_next a_pnear a_table a_overlaps : Nat → Int32} {a_drawers a_kept a_items a_numbers a_marks a_near a_figures a_covered a_pcells a_matrix : Nat → Int64} (v1 : Int32) (v2 : Int32) (r : Int32)  (h : ol_isOpposed v1 v2 x_len a_letters = some (r)) : Met l yX5_isOpposed (wm yX5_isOpposed cX5_isOpposed 5 (some .boolean)) (rmm 0 0) (va_Pc [.ref (ad 7), .int v1, .int v2] (cB D ct ad x_fed x_tk x_col x_line x_rcells x_rsize x_len x_cuts x_bare x_place x_lA x_lB x_lC x_fX x_fY x_sX x_sY x_made x_fsize x_psize x_over x_touch x_most x_mU x_mV x_area x_board a_tape a_letters a_oneSided a_free a_ends a_crowds a_wmade a_firsts a_widths a_heights a_places a_next a_pnear a_table a_overlaps a_drawers a_kept a_items a_numbers a_marks a_near a_figures a_covered a_pcells a_matrix)) (va_Qi (fun z (_ : Unit) => z = r) (fun _ t => cP D ct ad x_fed x_tk x_col x_line x_rcells x_rsize x_len x_cuts x_bare x_place x_lA x_lB x_lC x_fX x_fY x_sX x_sY x_made x_fsize x_psize x_over x_touch x_most x_mU x_mV x_area x_board a_tape a_letters a_oneSided a_free a_ends a_crowds a_wmade a_firsts a_widths a_heights a_places a_next a_pnear a_table a_overlaps a_drawers a_kept a_items a_numbers a_marks a_near a_figures a_covered a_pcells a_matrix t.heap) (cA ad)) 0 0 (cA ad) := by
  refine met_s (y := yX5_isOpposed) (rm := rmm 0 0) (by decide) (Nat.le_of_ble_eq_true rfl) ?_
  intro p e s m below meth c hx hb hr hw hown hlocks _ hml hB ls hl
  obtain ⟨hN, hK, hP⟩ := hB
  replace hl : lv_has ls 5 [(0, .ref (ad 7)), (1, .int v1), (2, .int v2)] := hl
  have hS : va_S (cA ad) s.heap s.heap [] := va_S.rf
  generalize (([.ref (ad 7), .int v1, .int v2] : List Value).toArray) = av at hw ⊢
  rw [ol_isOpposed] at h
  have hL26 : ∀ (v1 : Int32), ∀ (v2 : Int32), ∀ (v3 : Int32), ∀ (x_len : Int32), ∀ (a_letters : Nat → Int32), ∀ (n26 : Nat) (H : Heap) (locs : List Loc) (ls : Array Slot) (v4 : Int32), lv_has ls 5 [(0, .ref (ad 7)), (1, .int v1), (2, .int v2), (3, .int v3), (4, .int v4)] → cP D ct ad x_fed x_tk x_col x_line x_rcells x_rsize x_len x_cuts x_bare x_place x_lA x_lB x_lC x_fX x_fY x_sX x_sY x_made x_fsize x_psize x_over x_touch x_most x_mU x_mV x_area x_board a_tape a_letters a_oneSided a_free a_ends a_crowds a_wmade a_firsts a_widths a_heights a_places a_next a_pnear a_table a_overlaps a_drawers a_kept a_items a_numbers a_marks a_near a_figures a_covered a_pcells a_matrix H → va_S (cA ad) s.heap H locs → fl1 (ol_isOpposed_B26 v1 v2 v3 x_len a_letters) n26 v4 = some (r) → W p l e (rmm 0 0) s m av below meth c H locs 0 0 (MQ below (va_Qi (fun z (_ : Unit) => z = r) (fun _ t => cP D ct ad x_fed x_tk x_col x_line x_rcells x_rsize x_len x_cuts x_bare x_place x_lA x_lB x_lC x_fX x_fY x_sX x_sY x_made x_fsize x_psize x_over x_touch x_most x_mU x_mV x_area x_board a_tape a_letters a_oneSided a_free a_ends a_crowds a_wmade a_firsts a_widths a_heights a_places a_next a_pnear a_table a_overlaps a_drawers a_kept a_items a_numbers a_marks a_near a_figures a_covered a_pcells a_matrix t.heap) (cA ad)) av s 0 0 (cA ad)) (F0 m 26 ls []) := by
    intro v1 v2 v3 x_len a_letters n26
    induction n26 with
    | zero => intro H locs ls v4 hl hP hS h; cases h
    | succ n26 ih26 =>
      intro H locs ls v4 hl hP hS h
      replace h : ol_isOpposed_B26 v1 v2 v3 x_len a_letters (fl1 (ol_isOpposed_B26 v1 v2 v3 x_len a_letters) n26) v4 = some (r) := h
      generalize fl1 (ol_isOpposed_B26 v1 v2 v3 x_len a_letters) n26 = k26 at h ih26
      rw [ol_isOpposed_B26] at h
      refine lv_iload hx hb dX5_isOpposed_26 (lv_at hl 4 rfl) ?_
      refine lv_iload_n hx hb dX5_isOpposed_28 rfl (lv_at hl 2 rfl) ?_
      refine lv_icmp_ge hx hb dX5_isOpposed_29 (tgt := 67) rfl (fun hc => ?_) (fun hc => ?_)
      · replace h := ifp h hc
        refine lv_iconst (v := 1) hx hb dX5_isOpposed_67 ki_1 ?_
        obtain ⟨hz, h⟩ := zb_s h
        replace h := Option.some.inj h
        subst h
        exact rc_z hx hb hr hlocks hS dX5_isOpposed_68 hz rfl hP
      · replace h := ifn h hc
        refine lv_aload_n hx hb dX5_isOpposed_32 rfl (lv_at hl 0 rfl) ?_
        refine cg_OL_0 hx hb hw hown hK hP dX5_isOpposed_33 ?_
        refine lv_iload_n hx hb dX5_isOpposed_36 rfl (lv_at hl 3 rfl) ?_
        refine lv_iload hx hb dX5_isOpposed_37 (lv_at hl 4 rfl) ?_
        refine lv_iadd hx hb dX5_isOpposed_39 ?_
        obtain ⟨i_5, ei_5, h⟩ := nm_s h
        refine nmI ei_5 ?_
        obtain ⟨hin, h⟩ := ck_s h
        refine cd_letters hx hb hK hP hin dX5_isOpposed_40 ?_
        refine lv_aload_n hx hb dX5_isOpposed_41 rfl (lv_at hl 0 rfl) ?_
        refine cg_OL_0 hx hb hw hown hK hP dX5_isOpposed_42 ?_
        refine lv_iload_n hx hb dX5_isOpposed_45 rfl (lv_at hl 1 rfl) ?_
        refine lv_iload_n hx hb dX5_isOpposed_46 rfl (lv_at hl 2 rfl) ?_
        refine lv_iadd hx hb dX5_isOpposed_47 ?_
        refine lv_iconst (v := 1) hx hb dX5_isOpposed_48 ki_1 ?_
        refine lv_isub hx hb dX5_isOpposed_49 ?_
        refine lv_iload hx hb dX5_isOpposed_50 (lv_at hl 4 rfl) ?_
        refine lv_isub hx hb dX5_isOpposed_52 ?_
        obtain ⟨i_6, ei_6, h⟩ := nm_s h
        refine nmI ei_6 ?_
        obtain ⟨hin, h⟩ := ck_s h
        refine cd_letters hx hb hK hP hin dX5_isOpposed_53 ?_
        refine lv_iconst (v := 2) hx hb dX5_isOpposed_54 ki_2 ?_
        refine lv_ixor hx hb dX5_isOpposed_55 ?_
        refine lv_icmp_eq hx hb dX5_isOpposed_56 (tgt := 61) rfl (fun hc => ?_) (fun hc => ?_)
        · replace h := ifp h hc
          obtain ⟨v4_7, ev4_7, h⟩ := nm_s h
          refine lv_iinc hx hb dX5_isOpposed_61 hl (k := 4) rfl ev4_7.symm (Nat.le_of_ble_eq_true rfl) (lv' := [(4, .int v4_7), (0, .ref (ad 7)), (1, .int v1), (2, .int v2), (3, .int v3)]) rfl (fun ls hl => ?_)
          refine lv_goto hx hb dX5_isOpposed_64 (tgt := 26) rfl ?_
          exact ih26 _ _ _ v4_7 (lv_sub hl [1, 2, 3, 4, 0] rfl) hP hS h
        · replace h := ifn h hc
          refine lv_iconst (v := 0) hx hb dX5_isOpposed_59 ki_0 ?_
          obtain ⟨hz, h⟩ := zb_s h
          replace h := Option.some.inj h
          subst h
          exact rc_z hx hb hr hlocks hS dX5_isOpposed_60 hz rfl hP
  refine lv_iload_n hx hb dX5_isOpposed_0 rfl (lv_at hl 1 rfl) ?_
  refine lv_aload_n hx hb dX5_isOpposed_1 rfl (lv_at hl 0 rfl) ?_
  refine cg_OL_1 hx hb hw hown hK hP dX5_isOpposed_2 ?_
  refine lv_iconst (v := 2) hx hb dX5_isOpposed_5 ki_2 ?_
  obtain ⟨hne, h⟩ := dzI_s h
  refine lv_idiv hx hb dX5_isOpposed_6 hne ?_
  refine lv_iadd hx hb dX5_isOpposed_7 ?_
  obtain ⟨v3_8, ev3_8, h⟩ := nm_s h
  refine nmI ev3_8 ?_
  refine lv_istore_n hx hb dX5_isOpposed_8 rfl hl (Nat.le_of_ble_eq_true rfl) (lv' := [(3, .int v3_8), (0, .ref (ad 7)), (1, .int v1), (2, .int v2)]) rfl (fun ls hl => ?_)
  refine lv_iload_n hx hb dX5_isOpposed_9 rfl (lv_at hl 2 rfl) ?_
  refine lv_if_lt hx hb dX5_isOpposed_10 (tgt := 21) rfl (fun hc => ?_) (fun hc => ?_)
  · replace h := ifp h hc
    refine lv_iconst (v := 0) hx hb dX5_isOpposed_21 ki_0 ?_
    obtain ⟨hz, h⟩ := zb_s h
    replace h := Option.some.inj h
    subst h
    exact rc_z hx hb hr hlocks hS dX5_isOpposed_22 hz rfl hP
  · replace h := ifn h hc
    refine lv_iload_n hx hb dX5_isOpposed_13 rfl (lv_at hl 0 rfl) ?_
    refine lv_iload_n hx hb dX5_isOpposed_14 rfl (lv_at hl 3 rfl) ?_
    refine lv_iadd hx hb dX5_isOpposed_15 ?_
    refine lv_bipush (v := 52) hx hb dX5_isOpposed_16 kb_52 ?_
    refine lv_icmp_le hx hb dX5_isOpposed_18 (tgt := 23) rfl (fun hc => ?_) (fun hc => ?_)
    · replace h := ifp h hc
      refine lv_iconst (v := 0) hx hb dX5_isOpposed_23 ki_0 ?_
      refine lv_istore hx hb dX5_isOpposed_24 hl (Nat.le_of_ble_eq_true rfl) (lv' := [(4, .int 0), (3, .int v3_8), (0, .ref (ad 7)), (1, .int v1), (2, .int v2)]) rfl (fun ls hl => ?_)
      exact hL26 v1 v2 v3_8 x_len a_letters FU _ _ _ 0 (lv_sub hl [2, 3, 4, 1, 0] rfl) hP hS h
    · replace h := ifn h hc
      refine lv_iconst (v := 0) hx hb dX5_isOpposed_21 ki_0 ?_
      obtain ⟨hz, h⟩ := zb_s h
      replace h := Option.some.inj h
      subst h
      exact rc_z hx hb hr hlocks hS dX5_isOpposed_22 hz rfl hP
noncomputable def ol_note_J28  (v4 : Int32) (x_cuts : Int32) (x_bare : Int32) (x_place : Int32) (x_lA : Int32) (x_lB : Int32) (x_lC : Int32)  : Option (Int32 × Int32 × Int32 × Int32 × Int32 × Int32) :=
  nm (x_cuts + 1 : Int32) fun x_cuts_1 =>
  if v4 = 0 then (nm (x_bare + 1 : Int32) fun x_bare_2 =>
  some (x_cuts_1, x_bare_2, x_place, x_lA, x_lB, x_lC)) else
  some (x_cuts_1, x_bare, x_place, x_lA, x_lB, x_lC)
noncomputable def ol_note (v1 : Int32) (v2 : Int32) (v3 : Int32) (v4 : Int32) (x_cuts : Int32) (x_bare : Int32) (x_place : Int32) (x_lA : Int32) (x_lB : Int32) (x_lC : Int32) : Option (Int32 × Int32 × Int32 × Int32 × Int32 × Int32) :=
  if x_cuts = 0 then (ol_note_J28 v4 x_cuts x_bare v1 v2 v3 v4) else
  ol_note_J28 v4 x_cuts x_bare x_place x_lA x_lB x_lC
set_option maxHeartbeats 4000000 in
set_option maxRecDepth 100000 in
theorem c_ol_note (l : Launch) (D : va_G) (ct : Nat → ClassId) (ad : Nat → Nat) (hI : cI ad) {x_fed x_tk x_col x_line x_rcells x_rsize x_len x_cuts x_bare x_place x_lA x_lB x_lC x_fX x_fY x_sX x_sY x_made x_fsize x_psize x_over x_touch x_most x_mU x_mV x_area : Int32} {x_board : Int64} {a_tape a_letters a_oneSided a_free a_ends a_crowds a_wmade a_firsts a_widths a_heights a_places a_next a_pnear a_table a_overlaps : Nat → Int32} {a_drawers a_kept a_items a_numbers a_marks a_near a_figures a_covered a_pcells a_matrix : Nat → Int64} (v1 : Int32) (v2 : Int32) (v3 : Int32) (v4 : Int32)  (z_x_cuts : Int32) (z_x_bare : Int32) (z_x_place : Int32) (z_x_lA : Int32) (z_x_lB : Int32) (z_x_lC : Int32) (h : ol_note v1 v2 v3 v4 x_cuts x_bare x_place x_lA x_lB x_lC = some (z_x_cuts, z_x_bare, z_x_place, z_x_lA, z_x_lB, z_x_lC)) : Met l yX5_note (wm yX5_note cX5_note 5 none) (rmm 0 0) (va_Pc [.ref (ad 7), .int v1, .int v2, .int v3, .int v4] (cB D ct ad x_fed x_tk x_col x_line x_rcells x_rsize x_len x_cuts x_bare x_place x_lA x_lB x_lC x_fX x_fY x_sX x_sY x_made x_fsize x_psize x_over x_touch x_most x_mU x_mV x_area x_board a_tape a_letters a_oneSided a_free a_ends a_crowds a_wmade a_firsts a_widths a_heights a_places a_next a_pnear a_table a_overlaps a_drawers a_kept a_items a_numbers a_marks a_near a_figures a_covered a_pcells a_matrix)) (va_Qv (fun (_ : Unit) => True) (fun _ t => cP D ct ad x_fed x_tk x_col x_line x_rcells x_rsize x_len z_x_cuts z_x_bare z_x_place z_x_lA z_x_lB z_x_lC x_fX x_fY x_sX x_sY x_made x_fsize x_psize x_over x_touch x_most x_mU x_mV x_area x_board a_tape a_letters a_oneSided a_free a_ends a_crowds a_wmade a_firsts a_widths a_heights a_places a_next a_pnear a_table a_overlaps a_drawers a_kept a_items a_numbers a_marks a_near a_figures a_covered a_pcells a_matrix t.heap) (cA ad)) 0 0 (cA ad) := by
  refine met_s (y := yX5_note) (rm := rmm 0 0) (by decide) (Nat.le_of_ble_eq_true rfl) ?_
  intro p e s m below meth c hx hb hr hw hown hlocks _ hml hB ls hl
  obtain ⟨hN, hK, hP⟩ := hB
  replace hl : lv_has ls 5 [(0, .ref (ad 7)), (1, .int v1), (2, .int v2), (3, .int v3), (4, .int v4)] := hl
  have hS : va_S (cA ad) s.heap s.heap [] := va_S.rf
  generalize (([.ref (ad 7), .int v1, .int v2, .int v3, .int v4] : List Value).toArray) = av at hw ⊢
  rw [ol_note] at h
  have hJ28 : ∀ (H : Heap) (locs : List Loc) (ls : Array Slot) (v4 : Int32) (x_cuts : Int32) (x_bare : Int32) (x_place : Int32) (x_lA : Int32) (x_lB : Int32) (x_lC : Int32) , lv_has ls 5 [(0, .ref (ad 7)), (4, .int v4)] → cP D ct ad x_fed x_tk x_col x_line x_rcells x_rsize x_len x_cuts x_bare x_place x_lA x_lB x_lC x_fX x_fY x_sX x_sY x_made x_fsize x_psize x_over x_touch x_most x_mU x_mV x_area x_board a_tape a_letters a_oneSided a_free a_ends a_crowds a_wmade a_firsts a_widths a_heights a_places a_next a_pnear a_table a_overlaps a_drawers a_kept a_items a_numbers a_marks a_near a_figures a_covered a_pcells a_matrix H → va_S (cA ad) s.heap H locs → ol_note_J28 v4 x_cuts x_bare x_place x_lA x_lB x_lC = some (z_x_cuts, z_x_bare, z_x_place, z_x_lA, z_x_lB, z_x_lC) → W p l e (rmm 0 0) s m av below meth c H locs 0 0 (MQ below (va_Qv (fun (_ : Unit) => True) (fun _ t => cP D ct ad x_fed x_tk x_col x_line x_rcells x_rsize x_len z_x_cuts z_x_bare z_x_place z_x_lA z_x_lB z_x_lC x_fX x_fY x_sX x_sY x_made x_fsize x_psize x_over x_touch x_most x_mU x_mV x_area x_board a_tape a_letters a_oneSided a_free a_ends a_crowds a_wmade a_firsts a_widths a_heights a_places a_next a_pnear a_table a_overlaps a_drawers a_kept a_items a_numbers a_marks a_near a_figures a_covered a_pcells a_matrix t.heap) (cA ad)) av s 0 0 (cA ad)) (F0 m 28 ls []) := by
    intro H locs ls v4 x_cuts x_bare x_place x_lA x_lB x_lC  hl hP hS h
    rw [ol_note_J28] at h
    refine lv_aload_n hx hb dX5_note_28 rfl (lv_at hl 0 rfl) ?_
    refine lv_dup hx hb dX5_note_29 rfl ?_
    refine cg_OL_2 hx hb hw hown hK hP dX5_note_30 ?_
    refine lv_iconst (v := 1) hx hb dX5_note_33 ki_1 ?_
    refine lv_iadd hx hb dX5_note_34 ?_
    obtain ⟨x_cuts_3, ex_cuts_3, h⟩ := nm_s h
    refine nmI ex_cuts_3 ?_
    refine cp_OL_2 hx hb hw hown hK hP hI hS dX5_note_35 (fun H locs hP hS => ?_)
    refine lv_iload hx hb dX5_note_38 (lv_at hl 1 rfl) ?_
    refine lv_if_ne hx hb dX5_note_40 (tgt := 53) rfl (fun hc => ?_) (fun hc => ?_)
    · replace h := ifn h hc
      simp only [Option.some.injEq, Prod.mk.injEq] at h
      obtain ⟨rfl, rfl, rfl, rfl, rfl, rfl⟩ := h
      exact rc_v hx hb hr hlocks hS dX5_note_53 hP
    · replace h := ifp h hc
      refine lv_aload_n hx hb dX5_note_43 rfl (lv_at hl 0 rfl) ?_
      refine lv_dup hx hb dX5_note_44 rfl ?_
      refine cg_OL_3 hx hb hw hown hK hP dX5_note_45 ?_
      refine lv_iconst (v := 1) hx hb dX5_note_48 ki_1 ?_
      refine lv_iadd hx hb dX5_note_49 ?_
      obtain ⟨x_bare_4, ex_bare_4, h⟩ := nm_s h
      refine nmI ex_bare_4 ?_
      refine cp_OL_3 hx hb hw hown hK hP hI hS dX5_note_50 (fun H locs hP hS => ?_)
      simp only [Option.some.injEq, Prod.mk.injEq] at h
      obtain ⟨rfl, rfl, rfl, rfl, rfl, rfl⟩ := h
      exact rc_v hx hb hr hlocks hS dX5_note_53 hP
  refine lv_aload_n hx hb dX5_note_0 rfl (lv_at hl 0 rfl) ?_
  refine cg_OL_2 hx hb hw hown hK hP dX5_note_1 ?_
  refine lv_if_ne hx hb dX5_note_4 (tgt := 28) rfl (fun hc => ?_) (fun hc => ?_)
  · replace h := ifn h hc
    exact hJ28 _ _ _ v4 x_cuts x_bare x_place x_lA x_lB x_lC (lv_sub hl [0, 4] rfl) hP hS h
  · replace h := ifp h hc
    refine lv_aload_n hx hb dX5_note_7 rfl (lv_at hl 0 rfl) ?_
    refine lv_iload_n hx hb dX5_note_8 rfl (lv_at hl 1 rfl) ?_
    refine cp_OL_4 hx hb hw hown hK hP hI hS dX5_note_9 (fun H locs hP hS => ?_)
    refine lv_aload_n hx hb dX5_note_12 rfl (lv_at hl 0 rfl) ?_
    refine lv_iload_n hx hb dX5_note_13 rfl (lv_at hl 2 rfl) ?_
    refine cp_OL_5 hx hb hw hown hK hP hI hS dX5_note_14 (fun H locs hP hS => ?_)
    refine lv_aload_n hx hb dX5_note_17 rfl (lv_at hl 0 rfl) ?_
    refine lv_iload_n hx hb dX5_note_18 rfl (lv_at hl 3 rfl) ?_
    refine cp_OL_6 hx hb hw hown hK hP hI hS dX5_note_19 (fun H locs hP hS => ?_)
    refine lv_aload_n hx hb dX5_note_22 rfl (lv_at hl 0 rfl) ?_
    refine lv_iload hx hb dX5_note_23 (lv_at hl 4 rfl) ?_
    refine cp_OL_7 hx hb hw hown hK hP hI hS dX5_note_25 (fun H locs hP hS => ?_)
    exact hJ28 _ _ _ v4 x_cuts x_bare v1 v2 v3 v4 (lv_sub hl [0, 4] rfl) hP hS h
noncomputable def ol_cutFrom_J63 (k10 : Int32 → Int32 → Int32 → Int32 → Int32 → Int32 → Int32 → Option (Int32 × Int32 × Int32 × Int32 × Int32 × Int32)) (x_len : Int32) (a_letters : Nat → Int32) (v1 : Int32) (v2 : Int32) (v3 : Int32) (v4 : Int32) (x_cuts : Int32) (x_bare : Int32) (x_place : Int32) (x_lA : Int32) (x_lB : Int32) (x_lC : Int32)  : Option (Int32 × Int32 × Int32 × Int32 × Int32 × Int32) :=
  nm (v4 + Int32.ofInt 1) fun v4_1 =>
  k10 v4_1 x_cuts x_bare x_place x_lA x_lB x_lC
noncomputable def ol_cutFrom_B10 (v1 : Int32) (v2 : Int32) (v3 : Int32) (x_len : Int32) (a_letters : Nat → Int32)  (k10 : Int32 → Int32 → Int32 → Int32 → Int32 → Int32 → Int32 → Option (Int32 × Int32 × Int32 × Int32 × Int32 × Int32)) (v4 : Int32) (x_cuts : Int32) (x_bare : Int32) (x_place : Int32) (x_lA : Int32) (x_lB : Int32) (x_lC : Int32) : Option (Int32 × Int32 × Int32 × Int32 × Int32 × Int32) :=
  if v3 < (v2 + v4) then (some (x_cuts, x_bare, x_place, x_lA, x_lB, x_lC)) else
  nm ((v3 - v2) - v4 : Int32) fun v5_2 =>
  bd1 (ol_isOpposed (v1 + v2) v4 x_len a_letters) fun r_3 =>
  if r_3 = 0 then (ol_cutFrom_J63 k10 x_len a_letters v1 v2 v3 v4 x_cuts x_bare x_place x_lA x_lB x_lC) else
  bd1 (ol_isOpposed ((v1 + v2) + v4) v5_2 x_len a_letters) fun r_5 =>
  if r_5 = 0 then (ol_cutFrom_J63 k10 x_len a_letters v1 v2 v3 v4 x_cuts x_bare x_place x_lA x_lB x_lC) else
  bd6 (ol_note v1 v2 v4 v5_2 x_cuts x_bare x_place x_lA x_lB x_lC) fun x_cuts_7 x_bare_8 x_place_9 x_lA_10 x_lB_11 x_lC_12 =>
  ol_cutFrom_J63 k10 x_len a_letters v1 v2 v3 v4 x_cuts_7 x_bare_8 x_place_9 x_lA_10 x_lB_11 x_lC_12
noncomputable def ol_cutFrom (v1 : Int32) (v2 : Int32) (x_len : Int32) (x_cuts : Int32) (x_bare : Int32) (x_place : Int32) (x_lA : Int32) (x_lB : Int32) (x_lC : Int32) (a_letters : Nat → Int32) : Option (Int32 × Int32 × Int32 × Int32 × Int32 × Int32) :=
  dzI 2 <|
  nm (x_len / 2 : Int32) fun v3_14 =>
  fl7 (ol_cutFrom_B10 v1 v2 v3_14 x_len a_letters) FU 1 x_cuts x_bare x_place x_lA x_lB x_lC
set_option maxHeartbeats 4000000 in
set_option maxRecDepth 100000 in
theorem c_ol_cutFrom (l : Launch) (D : va_G) (ct : Nat → ClassId) (ad : Nat → Nat) (hI : cI ad) {x_fed x_tk x_col x_line x_rcells x_rsize x_len x_cuts x_bare x_place x_lA x_lB x_lC x_fX x_fY x_sX x_sY x_made x_fsize x_psize x_over x_touch x_most x_mU x_mV x_area : Int32} {x_board : Int64} {a_tape a_letters a_oneSided a_free a_ends a_crowds a_wmade a_firsts a_widths a_heights a_places a_next a_pnear a_table a_overlaps : Nat → Int32} {a_drawers a_kept a_items a_numbers a_marks a_near a_figures a_covered a_pcells a_matrix : Nat → Int64} (v1 : Int32) (v2 : Int32)  (z_x_cuts : Int32) (z_x_bare : Int32) (z_x_place : Int32) (z_x_lA : Int32) (z_x_lB : Int32) (z_x_lC : Int32) (h : ol_cutFrom v1 v2 x_len x_cuts x_bare x_place x_lA x_lB x_lC a_letters = some (z_x_cuts, z_x_bare, z_x_place, z_x_lA, z_x_lB, z_x_lC)) : Met l yX5_cutFrom (wm yX5_cutFrom cX5_cutFrom 6 none) (rmm 1 24) (va_Pc [.ref (ad 7), .int v1, .int v2] (cB D ct ad x_fed x_tk x_col x_line x_rcells x_rsize x_len x_cuts x_bare x_place x_lA x_lB x_lC x_fX x_fY x_sX x_sY x_made x_fsize x_psize x_over x_touch x_most x_mU x_mV x_area x_board a_tape a_letters a_oneSided a_free a_ends a_crowds a_wmade a_firsts a_widths a_heights a_places a_next a_pnear a_table a_overlaps a_drawers a_kept a_items a_numbers a_marks a_near a_figures a_covered a_pcells a_matrix)) (va_Qv (fun (_ : Unit) => True) (fun _ t => cP D ct ad x_fed x_tk x_col x_line x_rcells x_rsize x_len z_x_cuts z_x_bare z_x_place z_x_lA z_x_lB z_x_lC x_fX x_fY x_sX x_sY x_made x_fsize x_psize x_over x_touch x_most x_mU x_mV x_area x_board a_tape a_letters a_oneSided a_free a_ends a_crowds a_wmade a_firsts a_widths a_heights a_places a_next a_pnear a_table a_overlaps a_drawers a_kept a_items a_numbers a_marks a_near a_figures a_covered a_pcells a_matrix t.heap) (cA ad)) 0 0 (cA ad) := by
  refine met_s (y := yX5_cutFrom) (rm := rmm 1 24) (by decide) (Nat.le_of_ble_eq_true rfl) ?_
  intro p e s m below meth c hx hb hr hw hown hlocks _ hml hB ls hl
  obtain ⟨hN, hK, hP⟩ := hB
  replace hl : lv_has ls 6 [(0, .ref (ad 7)), (1, .int v1), (2, .int v2)] := hl
  have hS : va_S (cA ad) s.heap s.heap [] := va_S.rf
  generalize (([.ref (ad 7), .int v1, .int v2] : List Value).toArray) = av at hw ⊢
  rw [ol_cutFrom] at h
  have hL10 : ∀ (v1 : Int32), ∀ (v2 : Int32), ∀ (v3 : Int32), ∀ (x_len : Int32), ∀ (a_letters : Nat → Int32), ∀ (n10 : Nat) (H : Heap) (locs : List Loc) (ls : Array Slot) (v4 : Int32) (x_cuts : Int32) (x_bare : Int32) (x_place : Int32) (x_lA : Int32) (x_lB : Int32) (x_lC : Int32), lv_has ls 6 [(0, .ref (ad 7)), (1, .int v1), (2, .int v2), (3, .int v3), (4, .int v4)] → cP D ct ad x_fed x_tk x_col x_line x_rcells x_rsize x_len x_cuts x_bare x_place x_lA x_lB x_lC x_fX x_fY x_sX x_sY x_made x_fsize x_psize x_over x_touch x_most x_mU x_mV x_area x_board a_tape a_letters a_oneSided a_free a_ends a_crowds a_wmade a_firsts a_widths a_heights a_places a_next a_pnear a_table a_overlaps a_drawers a_kept a_items a_numbers a_marks a_near a_figures a_covered a_pcells a_matrix H → va_S (cA ad) s.heap H locs → fl7 (ol_cutFrom_B10 v1 v2 v3 x_len a_letters) n10 v4 x_cuts x_bare x_place x_lA x_lB x_lC = some (z_x_cuts, z_x_bare, z_x_place, z_x_lA, z_x_lB, z_x_lC) → W p l e (rmm 1 24) s m av below meth c H locs 0 0 (MQ below (va_Qv (fun (_ : Unit) => True) (fun _ t => cP D ct ad x_fed x_tk x_col x_line x_rcells x_rsize x_len z_x_cuts z_x_bare z_x_place z_x_lA z_x_lB z_x_lC x_fX x_fY x_sX x_sY x_made x_fsize x_psize x_over x_touch x_most x_mU x_mV x_area x_board a_tape a_letters a_oneSided a_free a_ends a_crowds a_wmade a_firsts a_widths a_heights a_places a_next a_pnear a_table a_overlaps a_drawers a_kept a_items a_numbers a_marks a_near a_figures a_covered a_pcells a_matrix t.heap) (cA ad)) av s 0 0 (cA ad)) (F0 m 10 ls []) := by
    intro v1 v2 v3 x_len a_letters n10
    induction n10 with
    | zero => intro H locs ls v4 x_cuts x_bare x_place x_lA x_lB x_lC hl hP hS h; cases h
    | succ n10 ih10 =>
      intro H locs ls v4 x_cuts x_bare x_place x_lA x_lB x_lC hl hP hS h
      replace h : ol_cutFrom_B10 v1 v2 v3 x_len a_letters (fl7 (ol_cutFrom_B10 v1 v2 v3 x_len a_letters) n10) v4 x_cuts x_bare x_place x_lA x_lB x_lC = some (z_x_cuts, z_x_bare, z_x_place, z_x_lA, z_x_lB, z_x_lC) := h
      generalize fl7 (ol_cutFrom_B10 v1 v2 v3 x_len a_letters) n10 = k10 at h ih10
      have hJ63 : ∀ (H : Heap) (locs : List Loc) (ls : Array Slot) (v4 : Int32) (x_cuts : Int32) (x_bare : Int32) (x_place : Int32) (x_lA : Int32) (x_lB : Int32) (x_lC : Int32) , lv_has ls 6 [(0, .ref (ad 7)), (1, .int v1), (2, .int v2), (3, .int v3), (4, .int v4)] → cP D ct ad x_fed x_tk x_col x_line x_rcells x_rsize x_len x_cuts x_bare x_place x_lA x_lB x_lC x_fX x_fY x_sX x_sY x_made x_fsize x_psize x_over x_touch x_most x_mU x_mV x_area x_board a_tape a_letters a_oneSided a_free a_ends a_crowds a_wmade a_firsts a_widths a_heights a_places a_next a_pnear a_table a_overlaps a_drawers a_kept a_items a_numbers a_marks a_near a_figures a_covered a_pcells a_matrix H → va_S (cA ad) s.heap H locs → ol_cutFrom_J63 k10 x_len a_letters v1 v2 v3 v4 x_cuts x_bare x_place x_lA x_lB x_lC = some (z_x_cuts, z_x_bare, z_x_place, z_x_lA, z_x_lB, z_x_lC) → W p l e (rmm 1 24) s m av below meth c H locs 0 0 (MQ below (va_Qv (fun (_ : Unit) => True) (fun _ t => cP D ct ad x_fed x_tk x_col x_line x_rcells x_rsize x_len z_x_cuts z_x_bare z_x_place z_x_lA z_x_lB z_x_lC x_fX x_fY x_sX x_sY x_made x_fsize x_psize x_over x_touch x_most x_mU x_mV x_area x_board a_tape a_letters a_oneSided a_free a_ends a_crowds a_wmade a_firsts a_widths a_heights a_places a_next a_pnear a_table a_overlaps a_drawers a_kept a_items a_numbers a_marks a_near a_figures a_covered a_pcells a_matrix t.heap) (cA ad)) av s 0 0 (cA ad)) (F0 m 63 ls []) := by
        intro H locs ls v4 x_cuts x_bare x_place x_lA x_lB x_lC  hl hP hS h
        rw [ol_cutFrom_J63] at h
        obtain ⟨v4_15, ev4_15, h⟩ := nm_s h
        refine lv_iinc hx hb dX5_cutFrom_63 hl (k := 4) rfl ev4_15.symm (Nat.le_of_ble_eq_true rfl) (lv' := [(4, .int v4_15), (0, .ref (ad 7)), (1, .int v1), (2, .int v2), (3, .int v3)]) rfl (fun ls hl => ?_)
        refine lv_goto hx hb dX5_cutFrom_66 (tgt := 10) rfl ?_
        exact ih10 _ _ _ v4_15 x_cuts x_bare x_place x_lA x_lB x_lC (lv_sub hl [1, 2, 3, 4, 0] rfl) hP hS h
      rw [ol_cutFrom_B10] at h
      refine lv_iload_n hx hb dX5_cutFrom_10 rfl (lv_at hl 2 rfl) ?_
      refine lv_iload hx hb dX5_cutFrom_11 (lv_at hl 4 rfl) ?_
      refine lv_iadd hx hb dX5_cutFrom_13 ?_
      refine lv_iload_n hx hb dX5_cutFrom_14 rfl (lv_at hl 3 rfl) ?_
      refine lv_icmp_gt hx hb dX5_cutFrom_15 (tgt := 69) rfl (fun hc => ?_) (fun hc => ?_)
      · replace h := ifp h hc
        simp only [Option.some.injEq, Prod.mk.injEq] at h
        obtain ⟨rfl, rfl, rfl, rfl, rfl, rfl⟩ := h
        exact rc_v hx hb hr hlocks hS dX5_cutFrom_69 hP
      · replace h := ifn h hc
        refine lv_iload_n hx hb dX5_cutFrom_18 rfl (lv_at hl 3 rfl) ?_
        refine lv_iload_n hx hb dX5_cutFrom_19 rfl (lv_at hl 2 rfl) ?_
        refine lv_isub hx hb dX5_cutFrom_20 ?_
        refine lv_iload hx hb dX5_cutFrom_21 (lv_at hl 4 rfl) ?_
        refine lv_isub hx hb dX5_cutFrom_23 ?_
        obtain ⟨v5_16, ev5_16, h⟩ := nm_s h
        refine nmI ev5_16 ?_
        refine lv_istore hx hb dX5_cutFrom_24 hl (Nat.le_of_ble_eq_true rfl) (lv' := [(5, .int v5_16), (0, .ref (ad 7)), (1, .int v1), (2, .int v2), (3, .int v3), (4, .int v4)]) rfl (fun ls hl => ?_)
        refine lv_aload_n hx hb dX5_cutFrom_26 rfl (lv_at hl 1 rfl) ?_
        refine lv_iload_n hx hb dX5_cutFrom_27 rfl (lv_at hl 2 rfl) ?_
        refine lv_iload_n hx hb dX5_cutFrom_28 rfl (lv_at hl 3 rfl) ?_
        refine lv_iadd hx hb dX5_cutFrom_29 ?_
        refine lv_iload hx hb dX5_cutFrom_30 (lv_at hl 5 rfl) ?_
        obtain ⟨r_17, hr_18, h⟩ := bd1_s h
        refine hv_i hx hb hml hown hw cB_bl (cB_of hN hK hP) (cr_OL hK hP) (c_ol_isOpposed l D ct ad hI (v1 + v2) v4 r_17 hr_18) g_RX5_69 ⟨rfl, hd_X5_isOpposed⟩ (rest := []) hl.1 hS (fun q h => h) dX5_cutFrom_32 rfl rfl ⟨Nat.le_of_ble_eq_true rfl, Nat.le_of_ble_eq_true rfl⟩ rfl rfl (Nat.le_of_ble_eq_true rfl) ⟨Nat.zero_le _, Nat.zero_le _⟩ (fun H locs hP _ hS => ?_)
        refine lv_if_eq hx hb dX5_cutFrom_35 (tgt := 63) rfl (fun hc => ?_) (fun hc => ?_)
        · replace h := ifp h hc
          exact hJ63 _ _ _ v4 x_cuts x_bare x_place x_lA x_lB x_lC (lv_sub hl [1, 2, 3, 4, 5] rfl) hP hS h
        · replace h := ifn h hc
          refine lv_aload_n hx hb dX5_cutFrom_38 rfl (lv_at hl 1 rfl) ?_
          refine lv_iload_n hx hb dX5_cutFrom_39 rfl (lv_at hl 2 rfl) ?_
          refine lv_iload_n hx hb dX5_cutFrom_40 rfl (lv_at hl 3 rfl) ?_
          refine lv_iadd hx hb dX5_cutFrom_41 ?_
          refine lv_iload hx hb dX5_cutFrom_42 (lv_at hl 5 rfl) ?_
          refine lv_iadd hx hb dX5_cutFrom_44 ?_
          refine lv_iload hx hb dX5_cutFrom_45 (lv_at hl 0 rfl) ?_
          obtain ⟨r_19, hr_20, h⟩ := bd1_s h
          refine hv_i hx hb hml hown hw cB_bl (cB_of hN hK hP) (cr_OL hK hP) (c_ol_isOpposed l D ct ad hI ((v1 + v2) + v4) v5_16 r_19 hr_20) g_RX5_69 ⟨rfl, hd_X5_isOpposed⟩ (rest := []) hl.1 hS (fun q h => h) dX5_cutFrom_47 rfl rfl ⟨Nat.le_of_ble_eq_true rfl, Nat.le_of_ble_eq_true rfl⟩ rfl rfl (Nat.le_of_ble_eq_true rfl) ⟨Nat.zero_le _, Nat.zero_le _⟩ (fun H locs hP _ hS => ?_)
          refine lv_if_eq hx hb dX5_cutFrom_50 (tgt := 63) rfl (fun hc => ?_) (fun hc => ?_)
          · replace h := ifp h hc
            exact hJ63 _ _ _ v4 x_cuts x_bare x_place x_lA x_lB x_lC (lv_sub hl [1, 2, 3, 4, 5] rfl) hP hS h
          · replace h := ifn h hc
            refine lv_aload_n hx hb dX5_cutFrom_53 rfl (lv_at hl 1 rfl) ?_
            refine lv_iload_n hx hb dX5_cutFrom_54 rfl (lv_at hl 2 rfl) ?_
            refine lv_iload_n hx hb dX5_cutFrom_55 rfl (lv_at hl 3 rfl) ?_
            refine lv_iload hx hb dX5_cutFrom_56 (lv_at hl 5 rfl) ?_
            refine lv_iload hx hb dX5_cutFrom_58 (lv_at hl 0 rfl) ?_
            obtain ⟨x_cuts_21, x_bare_22, x_place_23, x_lA_24, x_lB_25, x_lC_26, hr_27, h⟩ := bd6_s h
            refine hv_v hx hb hml hown hw cB_bl (cB_of hN hK hP) (cr_OL hK hP) (c_ol_note l D ct ad hI v1 v2 v4 v5_16 x_cuts_21 x_bare_22 x_place_23 x_lA_24 x_lB_25 x_lC_26 hr_27) g_RX5_77 ⟨rfl, hd_X5_note⟩ (rest := []) hl.1 hS (fun q h => h) dX5_cutFrom_60 rfl rfl ⟨Nat.le_of_ble_eq_true rfl, Nat.le_of_ble_eq_true rfl⟩ rfl rfl (Nat.le_of_ble_eq_true rfl) ⟨Nat.zero_le _, Nat.zero_le _⟩ (fun H locs hP _ hS => ?_)
            exact hJ63 _ _ _ v4 x_cuts_21 x_bare_22 x_place_23 x_lA_24 x_lB_25 x_lC_26 (lv_sub hl [1, 2, 3, 4, 5] rfl) hP hS h
  refine lv_aload_n hx hb dX5_cutFrom_0 rfl (lv_at hl 0 rfl) ?_
  refine cg_OL_1 hx hb hw hown hK hP dX5_cutFrom_1 ?_
  refine lv_iconst (v := 2) hx hb dX5_cutFrom_4 ki_2 ?_
  obtain ⟨hne, h⟩ := dzI_s h
  refine lv_idiv hx hb dX5_cutFrom_5 hne ?_
  obtain ⟨v3_28, ev3_28, h⟩ := nm_s h
  refine nmI ev3_28 ?_
  refine lv_istore_n hx hb dX5_cutFrom_6 rfl hl (Nat.le_of_ble_eq_true rfl) (lv' := [(3, .int v3_28), (0, .ref (ad 7)), (1, .int v1), (2, .int v2)]) rfl (fun ls hl => ?_)
  refine lv_iconst (v := 1) hx hb dX5_cutFrom_7 ki_1 ?_
  refine lv_istore hx hb dX5_cutFrom_8 hl (Nat.le_of_ble_eq_true rfl) (lv' := [(4, .int 1), (3, .int v3_28), (0, .ref (ad 7)), (1, .int v1), (2, .int v2)]) rfl (fun ls hl => ?_)
  exact hL10 v1 v2 v3_28 x_len a_letters FU _ _ _ 1 x_cuts x_bare x_place x_lA x_lB x_lC (lv_sub hl [2, 3, 4, 1, 0] rfl) hP hS h
noncomputable def ol_cut_J46 (k19 : Int32 → Int32 → Int32 → Int32 → Int32 → Int32 → Int32 → Option (Int32 × Int32 × Int32 × Int32 × Int32 × Int32)) (k26 : Int32 → Int32 → Int32 → Int32 → Int32 → Int32 → Int32 → Option (Int32 × Int32 × Int32 × Int32 × Int32 × Int32)) (x_len : Int32) (a_letters : Nat → Int32) (v1 : Int32) (v2 : Int32) (v3 : Int32) (x_cuts : Int32) (x_bare : Int32) (x_place : Int32) (x_lA : Int32) (x_lB : Int32) (x_lC : Int32)  : Option (Int32 × Int32 × Int32 × Int32 × Int32 × Int32) :=
  nm (v3 + Int32.ofInt 1) fun v3_1 =>
  k26 v3_1 x_cuts x_bare x_place x_lA x_lB x_lC
noncomputable def ol_cut_B26 (v1 : Int32) (v2 : Int32) (x_len : Int32) (a_letters : Nat → Int32) (k19 : Int32 → Int32 → Int32 → Int32 → Int32 → Int32 → Int32 → Option (Int32 × Int32 × Int32 × Int32 × Int32 × Int32)) (k26 : Int32 → Int32 → Int32 → Int32 → Int32 → Int32 → Int32 → Option (Int32 × Int32 × Int32 × Int32 × Int32 × Int32)) (v3 : Int32) (x_cuts : Int32) (x_bare : Int32) (x_place : Int32) (x_lA : Int32) (x_lB : Int32) (x_lC : Int32) : Option (Int32 × Int32 × Int32 × Int32 × Int32 × Int32) :=
  if v1 ≤ v3 then (nm (v2 + Int32.ofInt 1) fun v2_2 =>
  k19 v2_2 x_cuts x_bare x_place x_lA x_lB x_lC) else
  bd1 (ol_isOpposed v2 v3 x_len a_letters) fun r_3 =>
  if r_3 = 0 then (ol_cut_J46 k19 k26 x_len a_letters v1 v2 v3 x_cuts x_bare x_place x_lA x_lB x_lC) else
  bd6 (ol_cutFrom v2 v3 x_len x_cuts x_bare x_place x_lA x_lB x_lC a_letters) fun x_cuts_5 x_bare_6 x_place_7 x_lA_8 x_lB_9 x_lC_10 =>
  ol_cut_J46 k19 k26 x_len a_letters v1 v2 v3 x_cuts_5 x_bare_6 x_place_7 x_lA_8 x_lB_9 x_lC_10
noncomputable def ol_cut_B19 (v1 : Int32) (x_len : Int32) (a_letters : Nat → Int32)  (k19 : Int32 → Int32 → Int32 → Int32 → Int32 → Int32 → Int32 → Option (Int32 × Int32 × Int32 × Int32 × Int32 × Int32)) (v2 : Int32) (x_cuts : Int32) (x_bare : Int32) (x_place : Int32) (x_lA : Int32) (x_lB : Int32) (x_lC : Int32) : Option (Int32 × Int32 × Int32 × Int32 × Int32 × Int32) :=
  if v1 ≤ v2 then (some (x_cuts, x_bare, x_place, x_lA, x_lB, x_lC)) else
  fl7 (ol_cut_B26 v1 v2 x_len a_letters k19) FU 1 x_cuts x_bare x_place x_lA x_lB x_lC
noncomputable def ol_cut (x_len : Int32) (x_cuts : Int32) (x_bare : Int32) (x_place : Int32) (x_lA : Int32) (x_lB : Int32) (x_lC : Int32) (a_letters : Nat → Int32) : Option (Int32 × Int32 × Int32 × Int32 × Int32 × Int32) :=
  dzI 2 <|
  nm (x_len / 2 : Int32) fun v1_12 =>
  fl7 (ol_cut_B19 v1_12 x_len a_letters) FU 0 0 0 x_place x_lA x_lB x_lC
set_option maxHeartbeats 4000000 in
set_option maxRecDepth 100000 in
theorem c_ol_cut (l : Launch) (D : va_G) (ct : Nat → ClassId) (ad : Nat → Nat) (hI : cI ad) {x_fed x_tk x_col x_line x_rcells x_rsize x_len x_cuts x_bare x_place x_lA x_lB x_lC x_fX x_fY x_sX x_sY x_made x_fsize x_psize x_over x_touch x_most x_mU x_mV x_area : Int32} {x_board : Int64} {a_tape a_letters a_oneSided a_free a_ends a_crowds a_wmade a_firsts a_widths a_heights a_places a_next a_pnear a_table a_overlaps : Nat → Int32} {a_drawers a_kept a_items a_numbers a_marks a_near a_figures a_covered a_pcells a_matrix : Nat → Int64}   (z_x_cuts : Int32) (z_x_bare : Int32) (z_x_place : Int32) (z_x_lA : Int32) (z_x_lB : Int32) (z_x_lC : Int32) (h : ol_cut x_len x_cuts x_bare x_place x_lA x_lB x_lC a_letters = some (z_x_cuts, z_x_bare, z_x_place, z_x_lA, z_x_lB, z_x_lC)) : Met l yX5_cut (wm yX5_cut cX5_cut 4 none) (rmm 2 49) (va_Pc [.ref (ad 7)] (cB D ct ad x_fed x_tk x_col x_line x_rcells x_rsize x_len x_cuts x_bare x_place x_lA x_lB x_lC x_fX x_fY x_sX x_sY x_made x_fsize x_psize x_over x_touch x_most x_mU x_mV x_area x_board a_tape a_letters a_oneSided a_free a_ends a_crowds a_wmade a_firsts a_widths a_heights a_places a_next a_pnear a_table a_overlaps a_drawers a_kept a_items a_numbers a_marks a_near a_figures a_covered a_pcells a_matrix)) (va_Qv (fun (_ : Unit) => True) (fun _ t => cP D ct ad x_fed x_tk x_col x_line x_rcells x_rsize x_len z_x_cuts z_x_bare z_x_place z_x_lA z_x_lB z_x_lC x_fX x_fY x_sX x_sY x_made x_fsize x_psize x_over x_touch x_most x_mU x_mV x_area x_board a_tape a_letters a_oneSided a_free a_ends a_crowds a_wmade a_firsts a_widths a_heights a_places a_next a_pnear a_table a_overlaps a_drawers a_kept a_items a_numbers a_marks a_near a_figures a_covered a_pcells a_matrix t.heap) (cA ad)) 0 0 (cA ad) := by
  refine met_s (y := yX5_cut) (rm := rmm 2 49) (by decide) (Nat.le_of_ble_eq_true rfl) ?_
  intro p e s m below meth c hx hb hr hw hown hlocks _ hml hB ls hl
  obtain ⟨hN, hK, hP⟩ := hB
  replace hl : lv_has ls 4 [(0, .ref (ad 7))] := hl
  have hS : va_S (cA ad) s.heap s.heap [] := va_S.rf
  generalize (([.ref (ad 7)] : List Value).toArray) = av at hw ⊢
  rw [ol_cut] at h
  have hL19 : ∀ (v1 : Int32), ∀ (x_len : Int32), ∀ (a_letters : Nat → Int32), ∀ (n19 : Nat) (H : Heap) (locs : List Loc) (ls : Array Slot) (v2 : Int32) (x_cuts : Int32) (x_bare : Int32) (x_place : Int32) (x_lA : Int32) (x_lB : Int32) (x_lC : Int32), lv_has ls 4 [(0, .ref (ad 7)), (1, .int v1), (2, .int v2)] → cP D ct ad x_fed x_tk x_col x_line x_rcells x_rsize x_len x_cuts x_bare x_place x_lA x_lB x_lC x_fX x_fY x_sX x_sY x_made x_fsize x_psize x_over x_touch x_most x_mU x_mV x_area x_board a_tape a_letters a_oneSided a_free a_ends a_crowds a_wmade a_firsts a_widths a_heights a_places a_next a_pnear a_table a_overlaps a_drawers a_kept a_items a_numbers a_marks a_near a_figures a_covered a_pcells a_matrix H → va_S (cA ad) s.heap H locs → fl7 (ol_cut_B19 v1 x_len a_letters) n19 v2 x_cuts x_bare x_place x_lA x_lB x_lC = some (z_x_cuts, z_x_bare, z_x_place, z_x_lA, z_x_lB, z_x_lC) → W p l e (rmm 2 49) s m av below meth c H locs 0 0 (MQ below (va_Qv (fun (_ : Unit) => True) (fun _ t => cP D ct ad x_fed x_tk x_col x_line x_rcells x_rsize x_len z_x_cuts z_x_bare z_x_place z_x_lA z_x_lB z_x_lC x_fX x_fY x_sX x_sY x_made x_fsize x_psize x_over x_touch x_most x_mU x_mV x_area x_board a_tape a_letters a_oneSided a_free a_ends a_crowds a_wmade a_firsts a_widths a_heights a_places a_next a_pnear a_table a_overlaps a_drawers a_kept a_items a_numbers a_marks a_near a_figures a_covered a_pcells a_matrix t.heap) (cA ad)) av s 0 0 (cA ad)) (F0 m 19 ls []) := by
    intro v1 x_len a_letters n19
    induction n19 with
    | zero => intro H locs ls v2 x_cuts x_bare x_place x_lA x_lB x_lC hl hP hS h; cases h
    | succ n19 ih19 =>
      intro H locs ls v2 x_cuts x_bare x_place x_lA x_lB x_lC hl hP hS h
      replace h : ol_cut_B19 v1 x_len a_letters (fl7 (ol_cut_B19 v1 x_len a_letters) n19) v2 x_cuts x_bare x_place x_lA x_lB x_lC = some (z_x_cuts, z_x_bare, z_x_place, z_x_lA, z_x_lB, z_x_lC) := h
      generalize fl7 (ol_cut_B19 v1 x_len a_letters) n19 = k19 at h ih19
      have hL26 : ∀ (v2 : Int32), ∀ (n26 : Nat) (H : Heap) (locs : List Loc) (ls : Array Slot) (v3 : Int32) (x_cuts : Int32) (x_bare : Int32) (x_place : Int32) (x_lA : Int32) (x_lB : Int32) (x_lC : Int32), lv_has ls 4 [(0, .ref (ad 7)), (1, .int v1), (2, .int v2), (3, .int v3)] → cP D ct ad x_fed x_tk x_col x_line x_rcells x_rsize x_len x_cuts x_bare x_place x_lA x_lB x_lC x_fX x_fY x_sX x_sY x_made x_fsize x_psize x_over x_touch x_most x_mU x_mV x_area x_board a_tape a_letters a_oneSided a_free a_ends a_crowds a_wmade a_firsts a_widths a_heights a_places a_next a_pnear a_table a_overlaps a_drawers a_kept a_items a_numbers a_marks a_near a_figures a_covered a_pcells a_matrix H → va_S (cA ad) s.heap H locs → fl7 (ol_cut_B26 v1 v2 x_len a_letters k19) n26 v3 x_cuts x_bare x_place x_lA x_lB x_lC = some (z_x_cuts, z_x_bare, z_x_place, z_x_lA, z_x_lB, z_x_lC) → W p l e (rmm 2 49) s m av below meth c H locs 0 0 (MQ below (va_Qv (fun (_ : Unit) => True) (fun _ t => cP D ct ad x_fed x_tk x_col x_line x_rcells x_rsize x_len z_x_cuts z_x_bare z_x_place z_x_lA z_x_lB z_x_lC x_fX x_fY x_sX x_sY x_made x_fsize x_psize x_over x_touch x_most x_mU x_mV x_area x_board a_tape a_letters a_oneSided a_free a_ends a_crowds a_wmade a_firsts a_widths a_heights a_places a_next a_pnear a_table a_overlaps a_drawers a_kept a_items a_numbers a_marks a_near a_figures a_covered a_pcells a_matrix t.heap) (cA ad)) av s 0 0 (cA ad)) (F0 m 26 ls []) := by
        intro v2 n26
        induction n26 with
        | zero => intro H locs ls v3 x_cuts x_bare x_place x_lA x_lB x_lC hl hP hS h; cases h
        | succ n26 ih26 =>
          intro H locs ls v3 x_cuts x_bare x_place x_lA x_lB x_lC hl hP hS h
          replace h : ol_cut_B26 v1 v2 x_len a_letters k19 (fl7 (ol_cut_B26 v1 v2 x_len a_letters k19) n26) v3 x_cuts x_bare x_place x_lA x_lB x_lC = some (z_x_cuts, z_x_bare, z_x_place, z_x_lA, z_x_lB, z_x_lC) := h
          generalize fl7 (ol_cut_B26 v1 v2 x_len a_letters k19) n26 = k26 at h ih26
          have hJ46 : ∀ (H : Heap) (locs : List Loc) (ls : Array Slot) (v3 : Int32) (x_cuts : Int32) (x_bare : Int32) (x_place : Int32) (x_lA : Int32) (x_lB : Int32) (x_lC : Int32) , lv_has ls 4 [(0, .ref (ad 7)), (1, .int v1), (2, .int v2), (3, .int v3)] → cP D ct ad x_fed x_tk x_col x_line x_rcells x_rsize x_len x_cuts x_bare x_place x_lA x_lB x_lC x_fX x_fY x_sX x_sY x_made x_fsize x_psize x_over x_touch x_most x_mU x_mV x_area x_board a_tape a_letters a_oneSided a_free a_ends a_crowds a_wmade a_firsts a_widths a_heights a_places a_next a_pnear a_table a_overlaps a_drawers a_kept a_items a_numbers a_marks a_near a_figures a_covered a_pcells a_matrix H → va_S (cA ad) s.heap H locs → ol_cut_J46 k19 k26 x_len a_letters v1 v2 v3 x_cuts x_bare x_place x_lA x_lB x_lC = some (z_x_cuts, z_x_bare, z_x_place, z_x_lA, z_x_lB, z_x_lC) → W p l e (rmm 2 49) s m av below meth c H locs 0 0 (MQ below (va_Qv (fun (_ : Unit) => True) (fun _ t => cP D ct ad x_fed x_tk x_col x_line x_rcells x_rsize x_len z_x_cuts z_x_bare z_x_place z_x_lA z_x_lB z_x_lC x_fX x_fY x_sX x_sY x_made x_fsize x_psize x_over x_touch x_most x_mU x_mV x_area x_board a_tape a_letters a_oneSided a_free a_ends a_crowds a_wmade a_firsts a_widths a_heights a_places a_next a_pnear a_table a_overlaps a_drawers a_kept a_items a_numbers a_marks a_near a_figures a_covered a_pcells a_matrix t.heap) (cA ad)) av s 0 0 (cA ad)) (F0 m 46 ls []) := by
            intro H locs ls v3 x_cuts x_bare x_place x_lA x_lB x_lC  hl hP hS h
            rw [ol_cut_J46] at h
            obtain ⟨v3_13, ev3_13, h⟩ := nm_s h
            refine lv_iinc hx hb dX5_cut_46 hl (k := 3) rfl ev3_13.symm (Nat.le_of_ble_eq_true rfl) (lv' := [(3, .int v3_13), (0, .ref (ad 7)), (1, .int v1), (2, .int v2)]) rfl (fun ls hl => ?_)
            refine lv_goto hx hb dX5_cut_49 (tgt := 26) rfl ?_
            exact ih26 _ _ _ v3_13 x_cuts x_bare x_place x_lA x_lB x_lC (lv_sub hl [1, 2, 3, 0] rfl) hP hS h
          rw [ol_cut_B26] at h
          refine lv_iload_n hx hb dX5_cut_26 rfl (lv_at hl 3 rfl) ?_
          refine lv_iload_n hx hb dX5_cut_27 rfl (lv_at hl 1 rfl) ?_
          refine lv_icmp_ge hx hb dX5_cut_28 (tgt := 52) rfl (fun hc => ?_) (fun hc => ?_)
          · replace h := ifp h hc
            obtain ⟨v2_14, ev2_14, h⟩ := nm_s h
            refine lv_iinc hx hb dX5_cut_52 hl (k := 2) rfl ev2_14.symm (Nat.le_of_ble_eq_true rfl) (lv' := [(2, .int v2_14), (0, .ref (ad 7)), (1, .int v1), (3, .int v3)]) rfl (fun ls hl => ?_)
            refine lv_goto hx hb dX5_cut_55 (tgt := 19) rfl ?_
            exact ih19 _ _ _ v2_14 x_cuts x_bare x_place x_lA x_lB x_lC (lv_sub hl [1, 2, 0] rfl) hP hS h
          · replace h := ifn h hc
            refine lv_aload_n hx hb dX5_cut_31 rfl (lv_at hl 0 rfl) ?_
            refine lv_iload_n hx hb dX5_cut_32 rfl (lv_at hl 2 rfl) ?_
            refine lv_iload_n hx hb dX5_cut_33 rfl (lv_at hl 3 rfl) ?_
            obtain ⟨r_15, hr_16, h⟩ := bd1_s h
            refine hv_i hx hb hml hown hw cB_bl (cB_of hN hK hP) (cr_OL hK hP) (c_ol_isOpposed l D ct ad hI v2 v3 r_15 hr_16) g_RX5_69 ⟨rfl, hd_X5_isOpposed⟩ (rest := []) hl.1 hS (fun q h => h) dX5_cut_34 rfl rfl ⟨Nat.le_of_ble_eq_true rfl, Nat.le_of_ble_eq_true rfl⟩ rfl rfl (Nat.le_of_ble_eq_true rfl) ⟨Nat.zero_le _, Nat.zero_le _⟩ (fun H locs hP _ hS => ?_)
            refine lv_if_eq hx hb dX5_cut_37 (tgt := 46) rfl (fun hc => ?_) (fun hc => ?_)
            · replace h := ifp h hc
              exact hJ46 _ _ _ v3 x_cuts x_bare x_place x_lA x_lB x_lC (lv_sub hl [0, 1, 2, 3] rfl) hP hS h
            · replace h := ifn h hc
              refine lv_aload_n hx hb dX5_cut_40 rfl (lv_at hl 0 rfl) ?_
              refine lv_iload_n hx hb dX5_cut_41 rfl (lv_at hl 2 rfl) ?_
              refine lv_iload_n hx hb dX5_cut_42 rfl (lv_at hl 3 rfl) ?_
              obtain ⟨x_cuts_17, x_bare_18, x_place_19, x_lA_20, x_lB_21, x_lC_22, hr_23, h⟩ := bd6_s h
              refine hv_v hx hb hml hown hw cB_bl (cB_of hN hK hP) (cr_OL hK hP) (c_ol_cutFrom l D ct ad hI v2 v3 x_cuts_17 x_bare_18 x_place_19 x_lA_20 x_lB_21 x_lC_22 hr_23) g_RX5_73 ⟨rfl, hd_X5_cutFrom⟩ (rest := []) hl.1 hS (fun q h => h) dX5_cut_43 rfl rfl ⟨Nat.le_of_ble_eq_true rfl, Nat.le_of_ble_eq_true rfl⟩ rfl rfl (Nat.le_of_ble_eq_true rfl) ⟨Nat.zero_le _, Nat.zero_le _⟩ (fun H locs hP _ hS => ?_)
              exact hJ46 _ _ _ v3 x_cuts_17 x_bare_18 x_place_19 x_lA_20 x_lB_21 x_lC_22 (lv_sub hl [0, 1, 2, 3] rfl) hP hS h
      rw [ol_cut_B19] at h
      refine lv_iload_n hx hb dX5_cut_19 rfl (lv_at hl 2 rfl) ?_
      refine lv_iload_n hx hb dX5_cut_20 rfl (lv_at hl 1 rfl) ?_
      refine lv_icmp_ge hx hb dX5_cut_21 (tgt := 58) rfl (fun hc => ?_) (fun hc => ?_)
      · replace h := ifp h hc
        simp only [Option.some.injEq, Prod.mk.injEq] at h
        obtain ⟨rfl, rfl, rfl, rfl, rfl, rfl⟩ := h
        exact rc_v hx hb hr hlocks hS dX5_cut_58 hP
      · replace h := ifn h hc
        refine lv_iconst (v := 1) hx hb dX5_cut_24 ki_1 ?_
        refine lv_istore_n hx hb dX5_cut_25 rfl hl (Nat.le_of_ble_eq_true rfl) (lv' := [(3, .int 1), (0, .ref (ad 7)), (1, .int v1), (2, .int v2)]) rfl (fun ls hl => ?_)
        exact hL26 v2 FU _ _ _ 1 x_cuts x_bare x_place x_lA x_lB x_lC (lv_sub hl [1, 2, 3, 0] rfl) hP hS h
  refine lv_aload_n hx hb dX5_cut_0 rfl (lv_at hl 0 rfl) ?_
  refine lv_iconst (v := 0) hx hb dX5_cut_1 ki_0 ?_
  refine cp_OL_2 hx hb hw hown hK hP hI hS dX5_cut_2 (fun H locs hP hS => ?_)
  refine lv_aload_n hx hb dX5_cut_5 rfl (lv_at hl 0 rfl) ?_
  refine lv_iconst (v := 0) hx hb dX5_cut_6 ki_0 ?_
  refine cp_OL_3 hx hb hw hown hK hP hI hS dX5_cut_7 (fun H locs hP hS => ?_)
  refine lv_aload_n hx hb dX5_cut_10 rfl (lv_at hl 0 rfl) ?_
  refine cg_OL_1 hx hb hw hown hK hP dX5_cut_11 ?_
  refine lv_iconst (v := 2) hx hb dX5_cut_14 ki_2 ?_
  obtain ⟨hne, h⟩ := dzI_s h
  refine lv_idiv hx hb dX5_cut_15 hne ?_
  obtain ⟨v1_24, ev1_24, h⟩ := nm_s h
  refine nmI ev1_24 ?_
  refine lv_istore_n hx hb dX5_cut_16 rfl hl (Nat.le_of_ble_eq_true rfl) (lv' := [(1, .int v1_24), (0, .ref (ad 7))]) rfl (fun ls hl => ?_)
  refine lv_iconst (v := 0) hx hb dX5_cut_17 ki_0 ?_
  refine lv_istore_n hx hb dX5_cut_18 rfl hl (Nat.le_of_ble_eq_true rfl) (lv' := [(2, .int 0), (1, .int v1_24), (0, .ref (ad 7))]) rfl (fun ls hl => ?_)
  exact hL19 v1_24 x_len a_letters FU _ _ _ 0 0 0 x_place x_lA x_lB x_lC (lv_sub hl [2, 1, 0] rfl) hP hS h
noncomputable def ol_tilesBy (v1 : Int64) (x_len : Int32) (x_cuts : Int32) (x_bare : Int32) (x_place : Int32) (x_lA : Int32) (x_lB : Int32) (x_lC : Int32) (a_letters : Nat → Int32) : Option (Int32 × Int32 × Int32 × Int32 × Int32 × Int32 × Int32 × Int32 × (Nat → Int32)) :=
  bd3 (ol_trace v1 x_len a_letters) fun r_1 x_len_2 a_letters_3 =>
  if r_1 = 0 then (some (0, x_len_2, x_cuts, x_bare, x_place, x_lA, x_lB, x_lC, a_letters_3)) else
  bd6 (ol_cut x_len_2 x_cuts x_bare x_place x_lA x_lB x_lC a_letters_3) fun x_cuts_5 x_bare_6 x_place_7 x_lA_8 x_lB_9 x_lC_10 =>
  if x_cuts_5 ≤ 0 then (some (0, x_len_2, x_cuts_5, x_bare_6, x_place_7, x_lA_8, x_lB_9, x_lC_10, a_letters_3)) else
  some (1, x_len_2, x_cuts_5, x_bare_6, x_place_7, x_lA_8, x_lB_9, x_lC_10, a_letters_3)
set_option maxHeartbeats 4000000 in
set_option maxRecDepth 100000 in
theorem c_ol_tilesBy (l : Launch) (D : va_G) (ct : Nat → ClassId) (ad : Nat → Nat) (hI : cI ad) {x_fed x_tk x_col x_line x_rcells x_rsize x_len x_cuts x_bare x_place x_lA x_lB x_lC x_fX x_fY x_sX x_sY x_made x_fsize x_psize x_over x_touch x_most x_mU x_mV x_area : Int32} {x_board : Int64} {a_tape a_letters a_oneSided a_free a_ends a_crowds a_wmade a_firsts a_widths a_heights a_places a_next a_pnear a_table a_overlaps : Nat → Int32} {a_drawers a_kept a_items a_numbers a_marks a_near a_figures a_covered a_pcells a_matrix : Nat → Int64} (v1 : Int64) (r : Int32) (z_x_len : Int32) (z_x_cuts : Int32) (z_x_bare : Int32) (z_x_place : Int32) (z_x_lA : Int32) (z_x_lB : Int32) (z_x_lC : Int32) (z_a_letters : Nat → Int32) (h : ol_tilesBy v1 x_len x_cuts x_bare x_place x_lA x_lB x_lC a_letters = some (r, z_x_len, z_x_cuts, z_x_bare, z_x_place, z_x_lA, z_x_lB, z_x_lC, z_a_letters)) : Met l yX5_tilesBy (wm yX5_tilesBy cX5_tilesBy 3 (some .int)) (rmm 4 101) (va_Pc [.ref (ad 7), .long v1] (cB D ct ad x_fed x_tk x_col x_line x_rcells x_rsize x_len x_cuts x_bare x_place x_lA x_lB x_lC x_fX x_fY x_sX x_sY x_made x_fsize x_psize x_over x_touch x_most x_mU x_mV x_area x_board a_tape a_letters a_oneSided a_free a_ends a_crowds a_wmade a_firsts a_widths a_heights a_places a_next a_pnear a_table a_overlaps a_drawers a_kept a_items a_numbers a_marks a_near a_figures a_covered a_pcells a_matrix)) (va_Qi (fun z (_ : Unit) => z = r) (fun _ t => cP D ct ad x_fed x_tk x_col x_line x_rcells x_rsize z_x_len z_x_cuts z_x_bare z_x_place z_x_lA z_x_lB z_x_lC x_fX x_fY x_sX x_sY x_made x_fsize x_psize x_over x_touch x_most x_mU x_mV x_area x_board a_tape z_a_letters a_oneSided a_free a_ends a_crowds a_wmade a_firsts a_widths a_heights a_places a_next a_pnear a_table a_overlaps a_drawers a_kept a_items a_numbers a_marks a_near a_figures a_covered a_pcells a_matrix t.heap) (cA ad)) 0 0 (cA ad) := by
  refine met_s (y := yX5_tilesBy) (rm := rmm 4 101) (by decide) (Nat.le_of_ble_eq_true rfl) ?_
  intro p e s m below meth c hx hb hr hw hown hlocks _ hml hB ls hl
  obtain ⟨hN, hK, hP⟩ := hB
  replace hl : lv_has ls 3 [(0, .ref (ad 7)), (1, .long v1)] := hl
  have hS : va_S (cA ad) s.heap s.heap [] := va_S.rf
  generalize (([.ref (ad 7), .long v1] : List Value).toArray) = av at hw ⊢
  rw [ol_tilesBy] at h
  refine lv_aload_n hx hb dX5_tilesBy_0 rfl (lv_at hl 0 rfl) ?_
  refine lv_lload_n hx hb dX5_tilesBy_1 rfl (lv_at hl 1 rfl) ?_
  obtain ⟨r_12, x_len_13, a_letters_14, hr_15, h⟩ := bd3_s h
  refine hv_i hx hb hml hown hw cB_bl (cB_of hN hK hP) (cr_OL hK hP) (c_ol_trace l D ct ad hI v1 r_12 x_len_13 a_letters_14 hr_15) g_RX5_26 ⟨rfl, hd_X5_trace⟩ (rest := []) hl.1 hS (fun q h => h) dX5_tilesBy_2 rfl rfl ⟨Nat.le_of_ble_eq_true rfl, Nat.le_of_ble_eq_true rfl⟩ rfl rfl (Nat.le_of_ble_eq_true rfl) ⟨Nat.zero_le _, Nat.zero_le _⟩ (fun H locs hP _ hS => ?_)
  refine lv_if_ne hx hb dX5_tilesBy_5 (tgt := 10) rfl (fun hc => ?_) (fun hc => ?_)
  · replace h := ifn h hc
    refine lv_aload_n hx hb dX5_tilesBy_10 rfl (lv_at hl 0 rfl) ?_
    obtain ⟨x_cuts_16, x_bare_17, x_place_18, x_lA_19, x_lB_20, x_lC_21, hr_22, h⟩ := bd6_s h
    refine hv_v hx hb hml hown hw cB_bl (cB_of hN hK hP) (cr_OL hK hP) (c_ol_cut l D ct ad hI x_cuts_16 x_bare_17 x_place_18 x_lA_19 x_lB_20 x_lC_21 hr_22) g_RX5_30 ⟨rfl, hd_X5_cut⟩ (rest := []) hl.1 hS (fun q h => h) dX5_tilesBy_11 rfl rfl ⟨Nat.le_of_ble_eq_true rfl, Nat.le_of_ble_eq_true rfl⟩ rfl rfl (Nat.le_of_ble_eq_true rfl) ⟨Nat.zero_le _, Nat.zero_le _⟩ (fun H locs hP _ hS => ?_)
    refine lv_aload_n hx hb dX5_tilesBy_14 rfl (lv_at hl 0 rfl) ?_
    refine cg_OL_2 hx hb hw hown hK hP dX5_tilesBy_15 ?_
    refine lv_if_le hx hb dX5_tilesBy_18 (tgt := 25) rfl (fun hc => ?_) (fun hc => ?_)
    · replace h := ifp h hc
      refine lv_iconst (v := 0) hx hb dX5_tilesBy_25 ki_0 ?_
      simp only [Option.some.injEq, Prod.mk.injEq] at h
      obtain ⟨rfl, rfl, rfl, rfl, rfl, rfl, rfl, rfl, rfl⟩ := h
      exact rc_i hx hb hr hlocks hS dX5_tilesBy_26 rfl hP
    · replace h := ifn h hc
      refine lv_iconst (v := 1) hx hb dX5_tilesBy_21 ki_1 ?_
      refine lv_goto hx hb dX5_tilesBy_22 (tgt := 26) rfl ?_
      simp only [Option.some.injEq, Prod.mk.injEq] at h
      obtain ⟨rfl, rfl, rfl, rfl, rfl, rfl, rfl, rfl, rfl⟩ := h
      exact rc_i hx hb hr hlocks hS dX5_tilesBy_26 rfl hP
  · replace h := ifp h hc
    refine lv_iconst (v := 0) hx hb dX5_tilesBy_8 ki_0 ?_
    simp only [Option.some.injEq, Prod.mk.injEq] at h
    obtain ⟨rfl, rfl, rfl, rfl, rfl, rfl, rfl, rfl, rfl⟩ := h
    exact rc_i hx hb hr hlocks hS dX5_tilesBy_9 rfl hP
noncomputable def ca_trait_J122  (a_numbers : Nat → Int64) (a_oneSided : Nat → Int32) (a_free : Nat → Int32) (a_ends : Nat → Int32) (v6 : Int32) (v7 : Int32) (x_len : Int32) (x_cuts : Int32) (x_bare : Int32) (x_place : Int32) (x_lA : Int32) (x_lB : Int32) (x_lC : Int32) (a_letters : Nat → Int32) (a_marks : Nat → Int64) (t0 : Int32) (t1 : Int32) : Option (Int32 × Int32 × Int32 × Int32 × Int32 × Int32 × Int32 × Int32 × (Nat → Int32) × (Nat → Int64)) :=
  nm (t0 + t1 : Int32) fun v8_1 =>
  ck v6 2134 <|
  nm ((a_marks v6.toNatClampNeg) ||| (sl (v8_1.toInt64) v7) : Int64) fun w_2 =>
  ck v6 2134 <|
  nm (vp_updL a_marks v6.toNatClampNeg w_2) fun a_marks_3 =>
  some (v8_1 - 1, x_len, x_cuts, x_bare, x_place, x_lA, x_lB, x_lC, a_letters, a_marks_3)
noncomputable def ca_trait (v1 : Int32) (v2 : Int32) (v3 : Int32) (v4 : Int32) (x_len : Int32) (x_cuts : Int32) (x_bare : Int32) (x_place : Int32) (x_lA : Int32) (x_lB : Int32) (x_lC : Int32) (a_letters : Nat → Int32) (a_numbers : Nat → Int64) (a_oneSided : Nat → Int32) (a_free : Nat → Int32) (a_ends : Nat → Int32) (a_marks : Nat → Int64) : Option (Int32 × Int32 × Int32 × Int32 × Int32 × Int32 × Int32 × Int32 × (Nat → Int32) × (Nat → Int64)) :=
  bd1 (ca_end (v1 - 1) v2 a_ends) fun r_4 =>
  bd1 (ca_member v2 (r_4 + v3) a_oneSided a_free) fun r_6 =>
  bd1 (cf_within r_6 0 1066) fun r_8 =>
  if r_8 = 0 then (some ((-1), x_len, x_cuts, x_bare, x_place, x_lA, x_lB, x_lC, a_letters, a_marks)) else
  bd1 (cf_within v4 0 15) fun r_10 =>
  if r_10 = 0 then (some ((-1), x_len, x_cuts, x_bare, x_place, x_lA, x_lB, x_lC, a_letters, a_marks)) else
  nm ((2 * r_6) + (ir v4 3) : Int32) fun v6_12 =>
  nm (8 * (v4 &&& 7) : Int32) fun v7_13 =>
  ck v6_12 2134 <|
  nm (((su (a_marks v6_12.toNatClampNeg) v7_13).toInt32) &&& 255 : Int32) fun v8_14 =>
  if v8_14 = 0 then (if v4 = 15 then (ck r_6 1067 <|
  bd9 (ol_tilesBy (a_numbers r_6.toNatClampNeg) x_len x_cuts x_bare x_place x_lA x_lB x_lC a_letters) fun r_17 x_len_18 x_cuts_19 x_bare_20 x_place_21 x_lA_22 x_lB_23 x_lC_24 a_letters_25 =>
  ca_trait_J122 a_numbers a_oneSided a_free a_ends v6_12 v7_13 x_len_18 x_cuts_19 x_bare_20 x_place_21 x_lA_22 x_lB_23 x_lC_24 a_letters_25 a_marks 1 r_17) else
  ck r_6 1067 <|
  bd1 (tr_of (a_numbers r_6.toNatClampNeg) v4) fun r_15 =>
  ca_trait_J122 a_numbers a_oneSided a_free a_ends v6_12 v7_13 x_len x_cuts x_bare x_place x_lA x_lB x_lC a_letters a_marks 1 r_15) else
  some (v8_14 - 1, x_len, x_cuts, x_bare, x_place, x_lA, x_lB, x_lC, a_letters, a_marks)
set_option maxHeartbeats 4000000 in
set_option maxRecDepth 100000 in
theorem c_ca_trait (l : Launch) (D : va_G) (ct : Nat → ClassId) (ad : Nat → Nat) (hI : cI ad) {x_fed x_tk x_col x_line x_rcells x_rsize x_len x_cuts x_bare x_place x_lA x_lB x_lC x_fX x_fY x_sX x_sY x_made x_fsize x_psize x_over x_touch x_most x_mU x_mV x_area : Int32} {x_board : Int64} {a_tape a_letters a_oneSided a_free a_ends a_crowds a_wmade a_firsts a_widths a_heights a_places a_next a_pnear a_table a_overlaps : Nat → Int32} {a_drawers a_kept a_items a_numbers a_marks a_near a_figures a_covered a_pcells a_matrix : Nat → Int64} (v1 : Int32) (v2 : Int32) (v3 : Int32) (v4 : Int32) (r : Int32) (z_x_len : Int32) (z_x_cuts : Int32) (z_x_bare : Int32) (z_x_place : Int32) (z_x_lA : Int32) (z_x_lB : Int32) (z_x_lC : Int32) (z_a_letters : Nat → Int32) (z_a_marks : Nat → Int64) (h : ca_trait v1 v2 v3 v4 x_len x_cuts x_bare x_place x_lA x_lB x_lC a_letters a_numbers a_oneSided a_free a_ends a_marks = some (r, z_x_len, z_x_cuts, z_x_bare, z_x_place, z_x_lA, z_x_lB, z_x_lC, z_a_letters, z_a_marks)) : Met l yX0_trait (wm yX0_trait cX0_trait 9 (some .int)) (rmm 5 123) (va_Pc [.ref (ad 9), .int v1, .int v2, .int v3, .int v4] (cB D ct ad x_fed x_tk x_col x_line x_rcells x_rsize x_len x_cuts x_bare x_place x_lA x_lB x_lC x_fX x_fY x_sX x_sY x_made x_fsize x_psize x_over x_touch x_most x_mU x_mV x_area x_board a_tape a_letters a_oneSided a_free a_ends a_crowds a_wmade a_firsts a_widths a_heights a_places a_next a_pnear a_table a_overlaps a_drawers a_kept a_items a_numbers a_marks a_near a_figures a_covered a_pcells a_matrix)) (va_Qi (fun z (_ : Unit) => z = r) (fun _ t => cP D ct ad x_fed x_tk x_col x_line x_rcells x_rsize z_x_len z_x_cuts z_x_bare z_x_place z_x_lA z_x_lB z_x_lC x_fX x_fY x_sX x_sY x_made x_fsize x_psize x_over x_touch x_most x_mU x_mV x_area x_board a_tape z_a_letters a_oneSided a_free a_ends a_crowds a_wmade a_firsts a_widths a_heights a_places a_next a_pnear a_table a_overlaps a_drawers a_kept a_items a_numbers z_a_marks a_near a_figures a_covered a_pcells a_matrix t.heap) (cA ad)) 0 0 (cA ad) := by
  refine met_s (y := yX0_trait) (rm := rmm 5 123) (by decide) (Nat.le_of_ble_eq_true rfl) ?_
  intro p e s m below meth c hx hb hr hw hown hlocks _ hml hB ls hl
  obtain ⟨hN, hK, hP⟩ := hB
  replace hl : lv_has ls 9 [(0, .ref (ad 9)), (1, .int v1), (2, .int v2), (3, .int v3), (4, .int v4)] := hl
  have hS : va_S (cA ad) s.heap s.heap [] := va_S.rf
  generalize (([.ref (ad 9), .int v1, .int v2, .int v3, .int v4] : List Value).toArray) = av at hw ⊢
  rw [ca_trait] at h
  have hJ122 : ∀ (H : Heap) (locs : List Loc) (ls : Array Slot) (a_numbers : Nat → Int64) (a_oneSided : Nat → Int32) (a_free : Nat → Int32) (a_ends : Nat → Int32) (v6 : Int32) (v7 : Int32) (x_len : Int32) (x_cuts : Int32) (x_bare : Int32) (x_place : Int32) (x_lA : Int32) (x_lB : Int32) (x_lC : Int32) (a_letters : Nat → Int32) (a_marks : Nat → Int64) (t0 : Int32) (t1 : Int32), lv_has ls 9 [(0, .ref (ad 9)), (6, .int v6), (7, .int v7)] → cP D ct ad x_fed x_tk x_col x_line x_rcells x_rsize x_len x_cuts x_bare x_place x_lA x_lB x_lC x_fX x_fY x_sX x_sY x_made x_fsize x_psize x_over x_touch x_most x_mU x_mV x_area x_board a_tape a_letters a_oneSided a_free a_ends a_crowds a_wmade a_firsts a_widths a_heights a_places a_next a_pnear a_table a_overlaps a_drawers a_kept a_items a_numbers a_marks a_near a_figures a_covered a_pcells a_matrix H → va_S (cA ad) s.heap H locs → ca_trait_J122 a_numbers a_oneSided a_free a_ends v6 v7 x_len x_cuts x_bare x_place x_lA x_lB x_lC a_letters a_marks t0 t1 = some (r, z_x_len, z_x_cuts, z_x_bare, z_x_place, z_x_lA, z_x_lB, z_x_lC, z_a_letters, z_a_marks) → W p l e (rmm 5 123) s m av below meth c H locs 0 0 (MQ below (va_Qi (fun z (_ : Unit) => z = r) (fun _ t => cP D ct ad x_fed x_tk x_col x_line x_rcells x_rsize z_x_len z_x_cuts z_x_bare z_x_place z_x_lA z_x_lB z_x_lC x_fX x_fY x_sX x_sY x_made x_fsize x_psize x_over x_touch x_most x_mU x_mV x_area x_board a_tape z_a_letters a_oneSided a_free a_ends a_crowds a_wmade a_firsts a_widths a_heights a_places a_next a_pnear a_table a_overlaps a_drawers a_kept a_items a_numbers z_a_marks a_near a_figures a_covered a_pcells a_matrix t.heap) (cA ad)) av s 0 0 (cA ad)) (F0 m 122 ls [.int t1, .int t0]) := by
    intro H locs ls a_numbers a_oneSided a_free a_ends v6 v7 x_len x_cuts x_bare x_place x_lA x_lB x_lC a_letters a_marks t0 t1 hl hP hS h
    rw [ca_trait_J122] at h
    refine lv_iadd hx hb dX0_trait_122 ?_
    obtain ⟨v8_27, ev8_27, h⟩ := nm_s h
    refine nmI ev8_27 ?_
    refine lv_istore hx hb dX0_trait_123 hl (Nat.le_of_ble_eq_true rfl) (lv' := [(8, .int v8_27), (0, .ref (ad 9)), (6, .int v6), (7, .int v7)]) rfl (fun ls hl => ?_)
    refine lv_aload_n hx hb dX0_trait_125 rfl (lv_at hl 1 rfl) ?_
    refine cg_CA_4 hx hb hw hown hK hP dX0_trait_126 ?_
    refine lv_iload hx hb dX0_trait_129 (lv_at hl 2 rfl) ?_
    refine lv_dup2_11 hx hb dX0_trait_131 rfl rfl ?_
    obtain ⟨hin, h⟩ := ck_s h
    refine cd_marks hx hb hK hP hin dX0_trait_132 ?_
    refine lv_iload hx hb dX0_trait_133 (lv_at hl 0 rfl) ?_
    refine lv_i2l hx hb (v := v8_27.toInt64) dX0_trait_135 rfl ?_
    refine lv_iload hx hb dX0_trait_136 (lv_at hl 3 rfl) ?_
    refine lv_lshl hx hb (v := sl (v8_27.toInt64) v7) dX0_trait_138 rfl ?_
    refine lv_lor hx hb dX0_trait_139 ?_
    obtain ⟨w_28, ew_28, h⟩ := nm_s h
    refine nmL ew_28 ?_
    obtain ⟨hin, h⟩ := ck_s h
    obtain ⟨a_marks_29, ea_marks_29, h⟩ := nm_s h
    refine cs_marks hx hb hK hP hI hS hin ea_marks_29 dX0_trait_140 (fun H locs hP hS => ?_)
    refine lv_iload hx hb dX0_trait_141 (lv_at hl 0 rfl) ?_
    refine lv_iconst (v := 1) hx hb dX0_trait_143 ki_1 ?_
    refine lv_isub hx hb dX0_trait_144 ?_
    simp only [Option.some.injEq, Prod.mk.injEq] at h
    obtain ⟨rfl, rfl, rfl, rfl, rfl, rfl, rfl, rfl, rfl, rfl⟩ := h
    exact rc_i hx hb hr hlocks hS dX0_trait_145 rfl hP
  refine lv_aload_n hx hb dX0_trait_0 rfl (lv_at hl 0 rfl) ?_
  refine lv_iload_n hx hb dX0_trait_1 rfl (lv_at hl 2 rfl) ?_
  refine lv_aload_n hx hb dX0_trait_2 rfl (lv_at hl 0 rfl) ?_
  refine lv_iload_n hx hb dX0_trait_3 rfl (lv_at hl 1 rfl) ?_
  refine lv_iconst (v := 1) hx hb dX0_trait_4 ki_1 ?_
  refine lv_isub hx hb dX0_trait_5 ?_
  refine lv_iload_n hx hb dX0_trait_6 rfl (lv_at hl 2 rfl) ?_
  obtain ⟨r_30, hr_31, h⟩ := bd1_s h
  refine hv_i hx hb hml hown hw cB_bl (cB_of hN hK hP) (cr_CA hK hP) (c_ca_end l D ct ad hI (v1 - 1) v2 r_30 hr_31) g_RX0_48 ⟨rfl, hd_X0_end⟩ (rest := [.int v2, .ref (ad 9)]) hl.1 hS (fun q h => h) dX0_trait_7 rfl rfl ⟨Nat.le_of_ble_eq_true rfl, Nat.le_of_ble_eq_true rfl⟩ rfl rfl (Nat.le_of_ble_eq_true rfl) ⟨Nat.zero_le _, Nat.zero_le _⟩ (fun H locs hP _ hS => ?_)
  refine lv_iload_n hx hb dX0_trait_10 rfl (lv_at hl 3 rfl) ?_
  refine lv_iadd hx hb dX0_trait_11 ?_
  obtain ⟨r_32, hr_33, h⟩ := bd1_s h
  refine hv_i hx hb hml hown hw cB_bl (cB_of hN hK hP) (cr_CA hK hP) (c_ca_member l D ct ad hI v2 (r_30 + v3) r_32 hr_33) g_RX0_52 ⟨rfl, hd_X0_member⟩ (rest := []) hl.1 hS (fun q h => h) dX0_trait_12 rfl rfl ⟨Nat.le_of_ble_eq_true rfl, Nat.le_of_ble_eq_true rfl⟩ rfl rfl (Nat.le_of_ble_eq_true rfl) ⟨Nat.zero_le _, Nat.zero_le _⟩ (fun H locs hP _ hS => ?_)
  refine lv_istore hx hb dX0_trait_15 hl (Nat.le_of_ble_eq_true rfl) (lv' := [(5, .int r_32), (0, .ref (ad 9)), (1, .int v1), (2, .int v2), (3, .int v3), (4, .int v4)]) rfl (fun ls hl => ?_)
  refine lv_iload hx hb dX0_trait_17 (lv_at hl 0 rfl) ?_
  refine lv_iconst (v := 0) hx hb dX0_trait_19 ki_0 ?_
  refine lv_sipush (v := 1066) hx hb dX0_trait_20 ks_1066 ?_
  obtain ⟨r_34, hr_35, h⟩ := bd1_s h
  refine sn_i hx hb hml hown hw hN (c_cf_within l r_32 0 1066 r_34 hr_35) nq_RX0_59 tw_9_21 tw_9_20 tw_1_2 hd_X11_within (rest := []) hl.1 hS dX0_trait_23 rfl rfl ⟨Nat.le_of_ble_eq_true rfl, Nat.le_of_ble_eq_true rfl⟩ rfl rfl (Nat.le_of_ble_eq_true rfl) ⟨Nat.zero_le _, Nat.zero_le _⟩ (fun H locs hk hS => ?_)
  have hP := cP_kept hP hk
  refine lv_if_eq hx hb dX0_trait_26 (tgt := 40) rfl (fun hc => ?_) (fun hc => ?_)
  · replace h := ifp h hc
    refine lv_iconst (v := (-1)) hx hb dX0_trait_40 ki_m1 ?_
    simp only [Option.some.injEq, Prod.mk.injEq] at h
    obtain ⟨rfl, rfl, rfl, rfl, rfl, rfl, rfl, rfl, rfl, rfl⟩ := h
    exact rc_i hx hb hr hlocks hS dX0_trait_41 rfl hP
  · replace h := ifn h hc
    refine lv_iload hx hb dX0_trait_29 (lv_at hl 5 rfl) ?_
    refine lv_iconst (v := 0) hx hb dX0_trait_31 ki_0 ?_
    refine lv_bipush (v := 15) hx hb dX0_trait_32 kb_15 ?_
    obtain ⟨r_36, hr_37, h⟩ := bd1_s h
    refine sn_i hx hb hml hown hw hN (c_cf_within l v4 0 15 r_36 hr_37) nq_RX0_59 tw_9_21 tw_9_20 tw_1_2 hd_X11_within (rest := []) hl.1 hS dX0_trait_34 rfl rfl ⟨Nat.le_of_ble_eq_true rfl, Nat.le_of_ble_eq_true rfl⟩ rfl rfl (Nat.le_of_ble_eq_true rfl) ⟨Nat.zero_le _, Nat.zero_le _⟩ (fun H locs hk hS => ?_)
    have hP := cP_kept hP hk
    refine lv_if_ne hx hb dX0_trait_37 (tgt := 42) rfl (fun hc => ?_) (fun hc => ?_)
    · replace h := ifn h hc
      refine lv_iconst (v := 2) hx hb dX0_trait_42 ki_2 ?_
      refine lv_iload hx hb dX0_trait_43 (lv_at hl 0 rfl) ?_
      refine lv_imul hx hb dX0_trait_45 ?_
      refine lv_iload hx hb dX0_trait_46 (lv_at hl 5 rfl) ?_
      refine lv_iconst (v := 3) hx hb dX0_trait_48 ki_3 ?_
      refine lv_ishr hx hb dX0_trait_49 ?_
      refine nmI (v := ir v4 3) rfl ?_
      refine lv_iadd hx hb dX0_trait_50 ?_
      obtain ⟨v6_38, ev6_38, h⟩ := nm_s h
      refine nmI ev6_38 ?_
      refine lv_istore hx hb dX0_trait_51 hl (Nat.le_of_ble_eq_true rfl) (lv' := [(6, .int v6_38), (5, .int r_32), (0, .ref (ad 9)), (1, .int v1), (2, .int v2), (3, .int v3), (4, .int v4)]) rfl (fun ls hl => ?_)
      refine lv_bipush (v := 8) hx hb dX0_trait_53 kb_8 ?_
      refine lv_iload hx hb dX0_trait_55 (lv_at hl 6 rfl) ?_
      refine lv_bipush (v := 7) hx hb dX0_trait_57 kb_7 ?_
      refine lv_iand hx hb dX0_trait_59 ?_
      refine lv_imul hx hb dX0_trait_60 ?_
      obtain ⟨v7_39, ev7_39, h⟩ := nm_s h
      refine nmI ev7_39 ?_
      refine lv_istore hx hb dX0_trait_61 hl (Nat.le_of_ble_eq_true rfl) (lv' := [(7, .int v7_39), (6, .int v6_38), (5, .int r_32), (0, .ref (ad 9)), (1, .int v1), (2, .int v2), (3, .int v3), (4, .int v4)]) rfl (fun ls hl => ?_)
      refine lv_aload_n hx hb dX0_trait_63 rfl (lv_at hl 3 rfl) ?_
      refine cg_CA_4 hx hb hw hown hK hP dX0_trait_64 ?_
      refine lv_iload hx hb dX0_trait_67 (lv_at hl 1 rfl) ?_
      obtain ⟨hin, h⟩ := ck_s h
      refine cd_marks hx hb hK hP hin dX0_trait_69 ?_
      refine lv_iload hx hb dX0_trait_70 (lv_at hl 0 rfl) ?_
      refine lv_lushr hx hb (v := su (a_marks v6_38.toNatClampNeg) v7_39) dX0_trait_72 rfl ?_
      refine lv_l2i hx hb (v := (su (a_marks v6_38.toNatClampNeg) v7_39).toInt32) dX0_trait_73 rfl ?_
      refine lv_sipush (v := 255) hx hb dX0_trait_74 ks_255 ?_
      refine lv_iand hx hb dX0_trait_77 ?_
      obtain ⟨v8_40, ev8_40, h⟩ := nm_s h
      refine nmI ev8_40 ?_
      refine lv_istore hx hb dX0_trait_78 hl (Nat.le_of_ble_eq_true rfl) (lv' := [(8, .int v8_40), (7, .int v7_39), (6, .int v6_38), (5, .int r_32), (0, .ref (ad 9)), (1, .int v1), (2, .int v2), (3, .int v3), (4, .int v4)]) rfl (fun ls hl => ?_)
      refine lv_iload hx hb dX0_trait_80 (lv_at hl 0 rfl) ?_
      refine lv_if_ne hx hb dX0_trait_82 (tgt := 141) rfl (fun hc => ?_) (fun hc => ?_)
      · replace h := ifn h hc
        refine lv_iload hx hb dX0_trait_141 (lv_at hl 0 rfl) ?_
        refine lv_iconst (v := 1) hx hb dX0_trait_143 ki_1 ?_
        refine lv_isub hx hb dX0_trait_144 ?_
        simp only [Option.some.injEq, Prod.mk.injEq] at h
        obtain ⟨rfl, rfl, rfl, rfl, rfl, rfl, rfl, rfl, rfl, rfl⟩ := h
        exact rc_i hx hb hr hlocks hS dX0_trait_145 rfl hP
      · replace h := ifp h hc
        refine lv_iconst (v := 1) hx hb dX0_trait_85 ki_1 ?_
        refine lv_iload hx hb dX0_trait_86 (lv_at hl 8 rfl) ?_
        refine lv_bipush (v := 15) hx hb dX0_trait_88 kb_15 ?_
        refine lv_icmp_ne hx hb dX0_trait_90 (tgt := 110) rfl (fun hc => ?_) (fun hc => ?_)
        · replace h := ifn h hc
          refine lv_aload_n hx hb dX0_trait_110 rfl (lv_at hl 4 rfl) ?_
          refine cg_CA_0 hx hb hw hown hK hP dX0_trait_111 ?_
          refine lv_iload hx hb dX0_trait_114 (lv_at hl 3 rfl) ?_
          obtain ⟨hin, h⟩ := ck_s h
          refine cd_numbers hx hb hK hP hin dX0_trait_116 ?_
          refine lv_iload hx hb dX0_trait_117 (lv_at hl 8 rfl) ?_
          obtain ⟨r_41, hr_42, h⟩ := bd1_s h
          refine sc_i hx hb hml hown hw hN (c_tr_of l (a_numbers r_32.toNatClampNeg) v4 r_41 hr_42) g_RX0_69 hd_X9_of (rest := [.int 1]) hl.1 hS dX0_trait_119 rfl rfl ⟨Nat.le_of_ble_eq_true rfl, Nat.le_of_ble_eq_true rfl⟩ rfl rfl (Nat.le_of_ble_eq_true rfl) ⟨Nat.zero_le _, Nat.zero_le _⟩ (fun H locs hk hS => ?_)
          have hP := cP_kept hP hk
          exact hJ122 _ _ _ a_numbers a_oneSided a_free a_ends v6_38 v7_39 x_len x_cuts x_bare x_place x_lA x_lB x_lC a_letters a_marks 1 r_41 (lv_sub hl [4, 2, 1] rfl) hP hS h
        · replace h := ifp h hc
          refine lv_aload_n hx hb dX0_trait_93 rfl (lv_at hl 4 rfl) ?_
          refine cg_CA_6 hx hb hw hown hK hP dX0_trait_94 ?_
          refine lv_aload_n hx hb dX0_trait_97 rfl (lv_at hl 4 rfl) ?_
          refine cg_CA_0 hx hb hw hown hK hP dX0_trait_98 ?_
          refine lv_iload hx hb dX0_trait_101 (lv_at hl 3 rfl) ?_
          obtain ⟨hin, h⟩ := ck_s h
          refine cd_numbers hx hb hK hP hin dX0_trait_103 ?_
          obtain ⟨r_43, x_len_44, x_cuts_45, x_bare_46, x_place_47, x_lA_48, x_lB_49, x_lC_50, a_letters_51, hr_52, h⟩ := bd9_s h
          refine hv_i hx hb hml hown hw cB_bl (cB_of hN hK hP) (cr_OL hK hP) (c_ol_tilesBy l D ct ad hI (a_numbers r_32.toNatClampNeg) r_43 x_len_44 x_cuts_45 x_bare_46 x_place_47 x_lA_48 x_lB_49 x_lC_50 a_letters_51 hr_52) g_RX0_63 ⟨rfl, hd_X5_tilesBy⟩ (rest := [.int 1]) hl.1 hS (fun q h => h) dX0_trait_104 rfl rfl ⟨Nat.le_of_ble_eq_true rfl, Nat.le_of_ble_eq_true rfl⟩ rfl rfl (Nat.le_of_ble_eq_true rfl) ⟨Nat.zero_le _, Nat.zero_le _⟩ (fun H locs hP _ hS => ?_)
          refine lv_goto hx hb dX0_trait_107 (tgt := 122) rfl ?_
          exact hJ122 _ _ _ a_numbers a_oneSided a_free a_ends v6_38 v7_39 x_len_44 x_cuts_45 x_bare_46 x_place_47 x_lA_48 x_lB_49 x_lC_50 a_letters_51 a_marks 1 r_43 (lv_sub hl [4, 2, 1] rfl) hP hS h
    · replace h := ifp h hc
      refine lv_iconst (v := (-1)) hx hb dX0_trait_40 ki_m1 ?_
      simp only [Option.some.injEq, Prod.mk.injEq] at h
      obtain ⟨rfl, rfl, rfl, rfl, rfl, rfl, rfl, rfl, rfl, rfl⟩ := h
      exact rc_i hx hb hr hlocks hS dX0_trait_41 rfl hP
