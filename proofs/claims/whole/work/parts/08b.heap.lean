noncomputable def ca_crowds_J123 (k44 : Int32 → Int32 → Int32 → Int32 → Int32 → Int32 → Int32 → Int32 → Int32 → Int32 → (Nat → Int32) → (Nat → Int64) → (Nat → Int32) → Option (Int32 × Int32 × Int32 × Int32 × Int32 × Int32 × Int32 × Int32 × (Nat → Int32) × (Nat → Int64) × (Nat → Int32))) (a_numbers : Nat → Int64) (a_oneSided : Nat → Int32) (a_free : Nat → Int32) (a_ends : Nat → Int32) (v1 : Int32) (v2 : Int32) (v3 : Int32) (v4 : Int32) (v5 : Int32) (v6 : Int32) (v7 : Int32) (v8 : Int32) (x_len : Int32) (x_cuts : Int32) (x_bare : Int32) (x_place : Int32) (x_lA : Int32) (x_lB : Int32) (x_lC : Int32) (a_letters : Nat → Int32) (a_marks : Nat → Int64) (a_crowds : Nat → Int32)  : Option (Int32 × Int32 × Int32 × Int32 × Int32 × Int32 × Int32 × Int32 × (Nat → Int32) × (Nat → Int64) × (Nat → Int32)) :=
  nm (v8 + Int32.ofInt 1) fun v8_1 =>
  k44 v6 v7 v8_1 x_len x_cuts x_bare x_place x_lA x_lB x_lC a_letters a_marks a_crowds
noncomputable def ca_crowds_J95 (k44 : Int32 → Int32 → Int32 → Int32 → Int32 → Int32 → Int32 → Int32 → Int32 → Int32 → (Nat → Int32) → (Nat → Int64) → (Nat → Int32) → Option (Int32 × Int32 × Int32 × Int32 × Int32 × Int32 × Int32 × Int32 × (Nat → Int32) × (Nat → Int64) × (Nat → Int32))) (a_numbers : Nat → Int64) (a_oneSided : Nat → Int32) (a_free : Nat → Int32) (a_ends : Nat → Int32) (v1 : Int32) (v2 : Int32) (v3 : Int32) (v4 : Int32) (v5 : Int32) (v6 : Int32) (v8 : Int32) (v9 : Int32) (x_len : Int32) (x_cuts : Int32) (x_bare : Int32) (x_place : Int32) (x_lA : Int32) (x_lB : Int32) (x_lC : Int32) (a_letters : Nat → Int32) (a_marks : Nat → Int64) (a_crowds : Nat → Int32) (t0 : Int32) (t1 : Int32) : Option (Int32 × Int32 × Int32 × Int32 × Int32 × Int32 × Int32 × Int32 × (Nat → Int32) × (Nat → Int64) × (Nat → Int32)) :=
  nm (t0 + t1 : Int32) fun v7_2 =>
  ck v9 64 <|
  nm ((a_crowds v9.toNatClampNeg) + 1 : Int32) fun w_3 =>
  ck v9 64 <|
  nm (upd a_crowds v9.toNatClampNeg w_3) fun a_crowds_4 =>
  ck v9 64 <|
  nm (mxI v6 (a_crowds_4 v9.toNatClampNeg) : Int32) fun v6_5 =>
  ca_crowds_J123 k44 a_numbers a_oneSided a_free a_ends v1 v2 v3 v4 v5 v6_5 v7_2 v8 x_len x_cuts x_bare x_place x_lA x_lB x_lC a_letters a_marks a_crowds_4
noncomputable def ca_crowds_B44 (v1 : Int32) (v2 : Int32) (v3 : Int32) (v4 : Int32) (v5 : Int32) (a_numbers : Nat → Int64) (a_oneSided : Nat → Int32) (a_free : Nat → Int32) (a_ends : Nat → Int32)  (k44 : Int32 → Int32 → Int32 → Int32 → Int32 → Int32 → Int32 → Int32 → Int32 → Int32 → (Nat → Int32) → (Nat → Int64) → (Nat → Int32) → Option (Int32 × Int32 × Int32 × Int32 × Int32 × Int32 × Int32 × Int32 × (Nat → Int32) × (Nat → Int64) × (Nat → Int32))) (v6 : Int32) (v7 : Int32) (v8 : Int32) (x_len : Int32) (x_cuts : Int32) (x_bare : Int32) (x_place : Int32) (x_lA : Int32) (x_lB : Int32) (x_lC : Int32) (a_letters : Nat → Int32) (a_marks : Nat → Int64) (a_crowds : Nat → Int32) : Option (Int32 × Int32 × Int32 × Int32 × Int32 × Int32 × Int32 × Int32 × (Nat → Int32) × (Nat → Int64) × (Nat → Int32)) :=
  if v5 ≤ v8 then (if v4 = 0 then (some (v7, x_len, x_cuts, x_bare, x_place, x_lA, x_lB, x_lC, a_letters, a_marks, a_crowds)) else
  some (v6, x_len, x_cuts, x_bare, x_place, x_lA, x_lB, x_lC, a_letters, a_marks, a_crowds)) else
  bd10 (ca_trait v1 v2 v8 v3 x_len x_cuts x_bare x_place x_lA x_lB x_lC a_letters a_numbers a_oneSided a_free a_ends a_marks) fun r_6 x_len_7 x_cuts_8 x_bare_9 x_place_10 x_lA_11 x_lB_12 x_lC_13 a_letters_14 a_marks_15 =>
  bd1 (cf_within r_6 0 (64 - 1)) fun r_17 =>
  if r_17 = 0 then (ca_crowds_J123 k44 a_numbers a_oneSided a_free a_ends v1 v2 v3 v4 v5 v6 v7 v8 x_len_7 x_cuts_8 x_bare_9 x_place_10 x_lA_11 x_lB_12 x_lC_13 a_letters_14 a_marks_15 a_crowds) else
  ck r_6 64 <|
  if (a_crowds r_6.toNatClampNeg) = 0 then (ca_crowds_J95 k44 a_numbers a_oneSided a_free a_ends v1 v2 v3 v4 v5 v6 v8 r_6 x_len_7 x_cuts_8 x_bare_9 x_place_10 x_lA_11 x_lB_12 x_lC_13 a_letters_14 a_marks_15 a_crowds v7 1) else
  ca_crowds_J95 k44 a_numbers a_oneSided a_free a_ends v1 v2 v3 v4 v5 v6 v8 r_6 x_len_7 x_cuts_8 x_bare_9 x_place_10 x_lA_11 x_lB_12 x_lC_13 a_letters_14 a_marks_15 a_crowds v7 0
noncomputable def ca_crowds_B3 (v1 : Int32) (v2 : Int32) (v3 : Int32) (v4 : Int32) (x_len : Int32) (x_cuts : Int32) (x_bare : Int32) (x_place : Int32) (x_lA : Int32) (x_lB : Int32) (x_lC : Int32) (a_letters : Nat → Int32) (a_numbers : Nat → Int64) (a_oneSided : Nat → Int32) (a_free : Nat → Int32) (a_ends : Nat → Int32) (a_marks : Nat → Int64)  (k3 : Int32 → (Nat → Int32) → Option (Int32 × Int32 × Int32 × Int32 × Int32 × Int32 × Int32 × Int32 × (Nat → Int32) × (Nat → Int64) × (Nat → Int32))) (v5 : Int32) (a_crowds : Nat → Int32) : Option (Int32 × Int32 × Int32 × Int32 × Int32 × Int32 × Int32 × Int32 × (Nat → Int32) × (Nat → Int64) × (Nat → Int32)) :=
  if 64 ≤ v5 then (bd1 (ca_size v1 v2 a_ends) fun r_19 =>
  fl13 (ca_crowds_B44 v1 v2 v3 v4 r_19 a_numbers a_oneSided a_free a_ends) FU 0 0 0 x_len x_cuts x_bare x_place x_lA x_lB x_lC a_letters a_marks a_crowds) else
  ck v5 64 <|
  nm (upd a_crowds v5.toNatClampNeg 0) fun a_crowds_21 =>
  nm (v5 + Int32.ofInt 1) fun v5_22 =>
  k3 v5_22 a_crowds_21
noncomputable def ca_crowds (v1 : Int32) (v2 : Int32) (v3 : Int32) (v4 : Int32) (x_len : Int32) (x_cuts : Int32) (x_bare : Int32) (x_place : Int32) (x_lA : Int32) (x_lB : Int32) (x_lC : Int32) (a_letters : Nat → Int32) (a_numbers : Nat → Int64) (a_oneSided : Nat → Int32) (a_free : Nat → Int32) (a_ends : Nat → Int32) (a_marks : Nat → Int64) (a_crowds : Nat → Int32) : Option (Int32 × Int32 × Int32 × Int32 × Int32 × Int32 × Int32 × Int32 × (Nat → Int32) × (Nat → Int64) × (Nat → Int32)) :=
  fl2 (ca_crowds_B3 v1 v2 v3 v4 x_len x_cuts x_bare x_place x_lA x_lB x_lC a_letters a_numbers a_oneSided a_free a_ends a_marks) FU 0 a_crowds
set_option maxHeartbeats 4000000 in
set_option maxRecDepth 100000 in
theorem c_ca_crowds (l : Launch) (D : va_G) (ct : Nat → ClassId) (ad : Nat → Nat) (hI : cI ad) {x_fed x_tk x_col x_line x_rcells x_rsize x_len x_cuts x_bare x_place x_lA x_lB x_lC x_fX x_fY x_sX x_sY x_made x_fsize x_psize x_over x_touch x_most x_mU x_mV x_area : Int32} {x_board : Int64} {a_tape a_letters a_oneSided a_free a_ends a_crowds a_wmade a_firsts a_widths a_heights a_places a_next a_pnear a_table a_overlaps : Nat → Int32} {a_drawers a_kept a_items a_numbers a_marks a_near a_figures a_covered a_pcells a_matrix : Nat → Int64} (v1 : Int32) (v2 : Int32) (v3 : Int32) (v4 : Int32) (r : Int32) (z_x_len : Int32) (z_x_cuts : Int32) (z_x_bare : Int32) (z_x_place : Int32) (z_x_lA : Int32) (z_x_lB : Int32) (z_x_lC : Int32) (z_a_letters : Nat → Int32) (z_a_marks : Nat → Int64) (z_a_crowds : Nat → Int32) (h : ca_crowds v1 v2 v3 v4 x_len x_cuts x_bare x_place x_lA x_lB x_lC a_letters a_numbers a_oneSided a_free a_ends a_marks a_crowds = some (r, z_x_len, z_x_cuts, z_x_bare, z_x_place, z_x_lA, z_x_lB, z_x_lC, z_a_letters, z_a_marks, z_a_crowds)) : Met l yX0_crowds (wm yX0_crowds cX0_crowds 10 (some .int)) (rmm 6 151) (va_Pc [.ref (ad 9), .int v1, .int v2, .int v3, .int v4] (cB D ct ad x_fed x_tk x_col x_line x_rcells x_rsize x_len x_cuts x_bare x_place x_lA x_lB x_lC x_fX x_fY x_sX x_sY x_made x_fsize x_psize x_over x_touch x_most x_mU x_mV x_area x_board a_tape a_letters a_oneSided a_free a_ends a_crowds a_wmade a_firsts a_widths a_heights a_places a_next a_pnear a_table a_overlaps a_drawers a_kept a_items a_numbers a_marks a_near a_figures a_covered a_pcells a_matrix)) (va_Qi (fun z (_ : Unit) => z = r) (fun _ t => cP D ct ad x_fed x_tk x_col x_line x_rcells x_rsize z_x_len z_x_cuts z_x_bare z_x_place z_x_lA z_x_lB z_x_lC x_fX x_fY x_sX x_sY x_made x_fsize x_psize x_over x_touch x_most x_mU x_mV x_area x_board a_tape z_a_letters a_oneSided a_free a_ends z_a_crowds a_wmade a_firsts a_widths a_heights a_places a_next a_pnear a_table a_overlaps a_drawers a_kept a_items a_numbers z_a_marks a_near a_figures a_covered a_pcells a_matrix t.heap) (cA ad)) 0 0 (cA ad) := by
  refine met_s (y := yX0_crowds) (rm := rmm 6 151) (by decide) (Nat.le_of_ble_eq_true rfl) ?_
  intro p e s m below meth c hx hb hr hw hown hlocks _ hml hB ls hl
  obtain ⟨hN, hK, hP⟩ := hB
  replace hl : lv_has ls 10 [(0, .ref (ad 9)), (1, .int v1), (2, .int v2), (3, .int v3), (4, .int v4)] := hl
  have hS : va_S (cA ad) s.heap s.heap [] := va_S.rf
  generalize (([.ref (ad 9), .int v1, .int v2, .int v3, .int v4] : List Value).toArray) = av at hw ⊢
  rw [ca_crowds] at h
  have hL44 : ∀ (v1 : Int32), ∀ (v2 : Int32), ∀ (v3 : Int32), ∀ (v4 : Int32), ∀ (v5 : Int32), ∀ (a_numbers : Nat → Int64), ∀ (a_oneSided : Nat → Int32), ∀ (a_free : Nat → Int32), ∀ (a_ends : Nat → Int32), ∀ (n44 : Nat) (H : Heap) (locs : List Loc) (ls : Array Slot) (v6 : Int32) (v7 : Int32) (v8 : Int32) (x_len : Int32) (x_cuts : Int32) (x_bare : Int32) (x_place : Int32) (x_lA : Int32) (x_lB : Int32) (x_lC : Int32) (a_letters : Nat → Int32) (a_marks : Nat → Int64) (a_crowds : Nat → Int32), lv_has ls 10 [(0, .ref (ad 9)), (1, .int v1), (2, .int v2), (3, .int v3), (4, .int v4), (5, .int v5), (6, .int v6), (7, .int v7), (8, .int v8)] → cP D ct ad x_fed x_tk x_col x_line x_rcells x_rsize x_len x_cuts x_bare x_place x_lA x_lB x_lC x_fX x_fY x_sX x_sY x_made x_fsize x_psize x_over x_touch x_most x_mU x_mV x_area x_board a_tape a_letters a_oneSided a_free a_ends a_crowds a_wmade a_firsts a_widths a_heights a_places a_next a_pnear a_table a_overlaps a_drawers a_kept a_items a_numbers a_marks a_near a_figures a_covered a_pcells a_matrix H → va_S (cA ad) s.heap H locs → fl13 (ca_crowds_B44 v1 v2 v3 v4 v5 a_numbers a_oneSided a_free a_ends) n44 v6 v7 v8 x_len x_cuts x_bare x_place x_lA x_lB x_lC a_letters a_marks a_crowds = some (r, z_x_len, z_x_cuts, z_x_bare, z_x_place, z_x_lA, z_x_lB, z_x_lC, z_a_letters, z_a_marks, z_a_crowds) → W p l e (rmm 6 151) s m av below meth c H locs 0 0 (MQ below (va_Qi (fun z (_ : Unit) => z = r) (fun _ t => cP D ct ad x_fed x_tk x_col x_line x_rcells x_rsize z_x_len z_x_cuts z_x_bare z_x_place z_x_lA z_x_lB z_x_lC x_fX x_fY x_sX x_sY x_made x_fsize x_psize x_over x_touch x_most x_mU x_mV x_area x_board a_tape z_a_letters a_oneSided a_free a_ends z_a_crowds a_wmade a_firsts a_widths a_heights a_places a_next a_pnear a_table a_overlaps a_drawers a_kept a_items a_numbers z_a_marks a_near a_figures a_covered a_pcells a_matrix t.heap) (cA ad)) av s 0 0 (cA ad)) (F0 m 44 ls []) := by
    intro v1 v2 v3 v4 v5 a_numbers a_oneSided a_free a_ends n44
    induction n44 with
    | zero => intro H locs ls v6 v7 v8 x_len x_cuts x_bare x_place x_lA x_lB x_lC a_letters a_marks a_crowds hl hP hS h; cases h
    | succ n44 ih44 =>
      intro H locs ls v6 v7 v8 x_len x_cuts x_bare x_place x_lA x_lB x_lC a_letters a_marks a_crowds hl hP hS h
      replace h : ca_crowds_B44 v1 v2 v3 v4 v5 a_numbers a_oneSided a_free a_ends (fl13 (ca_crowds_B44 v1 v2 v3 v4 v5 a_numbers a_oneSided a_free a_ends) n44) v6 v7 v8 x_len x_cuts x_bare x_place x_lA x_lB x_lC a_letters a_marks a_crowds = some (r, z_x_len, z_x_cuts, z_x_bare, z_x_place, z_x_lA, z_x_lB, z_x_lC, z_a_letters, z_a_marks, z_a_crowds) := h
      generalize fl13 (ca_crowds_B44 v1 v2 v3 v4 v5 a_numbers a_oneSided a_free a_ends) n44 = k44 at h ih44
      have hJ123 : ∀ (H : Heap) (locs : List Loc) (ls : Array Slot) (v6 : Int32) (v7 : Int32) (v8 : Int32) (x_len : Int32) (x_cuts : Int32) (x_bare : Int32) (x_place : Int32) (x_lA : Int32) (x_lB : Int32) (x_lC : Int32) (a_letters : Nat → Int32) (a_marks : Nat → Int64) (a_crowds : Nat → Int32) , lv_has ls 10 [(0, .ref (ad 9)), (1, .int v1), (2, .int v2), (3, .int v3), (4, .int v4), (5, .int v5), (6, .int v6), (7, .int v7), (8, .int v8)] → cP D ct ad x_fed x_tk x_col x_line x_rcells x_rsize x_len x_cuts x_bare x_place x_lA x_lB x_lC x_fX x_fY x_sX x_sY x_made x_fsize x_psize x_over x_touch x_most x_mU x_mV x_area x_board a_tape a_letters a_oneSided a_free a_ends a_crowds a_wmade a_firsts a_widths a_heights a_places a_next a_pnear a_table a_overlaps a_drawers a_kept a_items a_numbers a_marks a_near a_figures a_covered a_pcells a_matrix H → va_S (cA ad) s.heap H locs → ca_crowds_J123 k44 a_numbers a_oneSided a_free a_ends v1 v2 v3 v4 v5 v6 v7 v8 x_len x_cuts x_bare x_place x_lA x_lB x_lC a_letters a_marks a_crowds = some (r, z_x_len, z_x_cuts, z_x_bare, z_x_place, z_x_lA, z_x_lB, z_x_lC, z_a_letters, z_a_marks, z_a_crowds) → W p l e (rmm 6 151) s m av below meth c H locs 0 0 (MQ below (va_Qi (fun z (_ : Unit) => z = r) (fun _ t => cP D ct ad x_fed x_tk x_col x_line x_rcells x_rsize z_x_len z_x_cuts z_x_bare z_x_place z_x_lA z_x_lB z_x_lC x_fX x_fY x_sX x_sY x_made x_fsize x_psize x_over x_touch x_most x_mU x_mV x_area x_board a_tape z_a_letters a_oneSided a_free a_ends z_a_crowds a_wmade a_firsts a_widths a_heights a_places a_next a_pnear a_table a_overlaps a_drawers a_kept a_items a_numbers z_a_marks a_near a_figures a_covered a_pcells a_matrix t.heap) (cA ad)) av s 0 0 (cA ad)) (F0 m 123 ls []) := by
        intro H locs ls v6 v7 v8 x_len x_cuts x_bare x_place x_lA x_lB x_lC a_letters a_marks a_crowds  hl hP hS h
        rw [ca_crowds_J123] at h
        obtain ⟨v8_23, ev8_23, h⟩ := nm_s h
        refine lv_iinc hx hb dX0_crowds_123 hl (k := 8) rfl ev8_23.symm (Nat.le_of_ble_eq_true rfl) (lv' := [(8, .int v8_23), (0, .ref (ad 9)), (1, .int v1), (2, .int v2), (3, .int v3), (4, .int v4), (5, .int v5), (6, .int v6), (7, .int v7)]) rfl (fun ls hl => ?_)
        refine lv_goto hx hb dX0_crowds_126 (tgt := 44) rfl ?_
        exact ih44 _ _ _ v6 v7 v8_23 x_len x_cuts x_bare x_place x_lA x_lB x_lC a_letters a_marks a_crowds (lv_sub hl [1, 2, 3, 4, 5, 6, 7, 8, 0] rfl) hP hS h
      have hJ95 : ∀ (H : Heap) (locs : List Loc) (ls : Array Slot) (v6 : Int32) (v8 : Int32) (v9 : Int32) (x_len : Int32) (x_cuts : Int32) (x_bare : Int32) (x_place : Int32) (x_lA : Int32) (x_lB : Int32) (x_lC : Int32) (a_letters : Nat → Int32) (a_marks : Nat → Int64) (a_crowds : Nat → Int32) (t0 : Int32) (t1 : Int32), lv_has ls 10 [(0, .ref (ad 9)), (1, .int v1), (2, .int v2), (3, .int v3), (4, .int v4), (5, .int v5), (6, .int v6), (8, .int v8), (9, .int v9)] → cP D ct ad x_fed x_tk x_col x_line x_rcells x_rsize x_len x_cuts x_bare x_place x_lA x_lB x_lC x_fX x_fY x_sX x_sY x_made x_fsize x_psize x_over x_touch x_most x_mU x_mV x_area x_board a_tape a_letters a_oneSided a_free a_ends a_crowds a_wmade a_firsts a_widths a_heights a_places a_next a_pnear a_table a_overlaps a_drawers a_kept a_items a_numbers a_marks a_near a_figures a_covered a_pcells a_matrix H → va_S (cA ad) s.heap H locs → ca_crowds_J95 k44 a_numbers a_oneSided a_free a_ends v1 v2 v3 v4 v5 v6 v8 v9 x_len x_cuts x_bare x_place x_lA x_lB x_lC a_letters a_marks a_crowds t0 t1 = some (r, z_x_len, z_x_cuts, z_x_bare, z_x_place, z_x_lA, z_x_lB, z_x_lC, z_a_letters, z_a_marks, z_a_crowds) → W p l e (rmm 6 151) s m av below meth c H locs 0 0 (MQ below (va_Qi (fun z (_ : Unit) => z = r) (fun _ t => cP D ct ad x_fed x_tk x_col x_line x_rcells x_rsize z_x_len z_x_cuts z_x_bare z_x_place z_x_lA z_x_lB z_x_lC x_fX x_fY x_sX x_sY x_made x_fsize x_psize x_over x_touch x_most x_mU x_mV x_area x_board a_tape z_a_letters a_oneSided a_free a_ends z_a_crowds a_wmade a_firsts a_widths a_heights a_places a_next a_pnear a_table a_overlaps a_drawers a_kept a_items a_numbers z_a_marks a_near a_figures a_covered a_pcells a_matrix t.heap) (cA ad)) av s 0 0 (cA ad)) (F0 m 95 ls [.int t1, .int t0]) := by
        intro H locs ls v6 v8 v9 x_len x_cuts x_bare x_place x_lA x_lB x_lC a_letters a_marks a_crowds t0 t1 hl hP hS h
        rw [ca_crowds_J95] at h
        refine lv_iadd hx hb dX0_crowds_95 ?_
        obtain ⟨v7_24, ev7_24, h⟩ := nm_s h
        refine nmI ev7_24 ?_
        refine lv_istore hx hb dX0_crowds_96 hl (Nat.le_of_ble_eq_true rfl) (lv' := [(7, .int v7_24), (0, .ref (ad 9)), (1, .int v1), (2, .int v2), (3, .int v3), (4, .int v4), (5, .int v5), (6, .int v6), (8, .int v8), (9, .int v9)]) rfl (fun ls hl => ?_)
        refine lv_aload_n hx hb dX0_crowds_98 rfl (lv_at hl 1 rfl) ?_
        refine cg_CA_5 hx hb hw hown hK hP dX0_crowds_99 ?_
        refine lv_iload hx hb dX0_crowds_102 (lv_at hl 9 rfl) ?_
        refine lv_dup2_11 hx hb dX0_crowds_104 rfl rfl ?_
        obtain ⟨hin, h⟩ := ck_s h
        refine cd_crowds hx hb hK hP hin dX0_crowds_105 ?_
        refine lv_iconst (v := 1) hx hb dX0_crowds_106 ki_1 ?_
        refine lv_iadd hx hb dX0_crowds_107 ?_
        obtain ⟨w_25, ew_25, h⟩ := nm_s h
        refine nmI ew_25 ?_
        obtain ⟨hin, h⟩ := ck_s h
        obtain ⟨a_crowds_26, ea_crowds_26, h⟩ := nm_s h
        refine cs_crowds hx hb hK hP hI hS hin ea_crowds_26 dX0_crowds_108 (fun H locs hP hS => ?_)
        refine lv_iload hx hb dX0_crowds_109 (lv_at hl 7 rfl) ?_
        refine lv_aload_n hx hb dX0_crowds_111 rfl (lv_at hl 1 rfl) ?_
        refine cg_CA_5 hx hb hw hown hK hP dX0_crowds_112 ?_
        refine lv_iload hx hb dX0_crowds_115 (lv_at hl 9 rfl) ?_
        obtain ⟨hin, h⟩ := ck_s h
        refine cd_crowds hx hb hK hP hin dX0_crowds_117 ?_
        refine va_mmax hx hb (hml.trans hl.1.symm) hown (hw _ tw_30_6) (hw _ tw_21_17) (hw _ tw_19_23) (hw _ tw_21_18) (Nat.le_of_ble_eq_true rfl) (Nat.le_of_ble_eq_true rfl) (Nat.zero_le _) (Nat.zero_le _) dX0_crowds_118 ?_
        refine nmI (v := mxI v6 (a_crowds_26 v9.toNatClampNeg)) rfl ?_
        obtain ⟨v6_27, ev6_27, h⟩ := nm_s h
        refine nmI ev6_27 ?_
        refine lv_istore hx hb dX0_crowds_121 hl (Nat.le_of_ble_eq_true rfl) (lv' := [(6, .int v6_27), (7, .int v7_24), (0, .ref (ad 9)), (1, .int v1), (2, .int v2), (3, .int v3), (4, .int v4), (5, .int v5), (8, .int v8), (9, .int v9)]) rfl (fun ls hl => ?_)
        exact hJ123 _ _ _ v6_27 v7_24 v8 x_len x_cuts x_bare x_place x_lA x_lB x_lC a_letters a_marks a_crowds_26 (lv_sub hl [2, 3, 4, 5, 6, 7, 0, 1, 8] rfl) hP hS h
      rw [ca_crowds_B44] at h
      refine lv_iload hx hb dX0_crowds_44 (lv_at hl 8 rfl) ?_
      refine lv_iload hx hb dX0_crowds_46 (lv_at hl 5 rfl) ?_
      refine lv_icmp_ge hx hb dX0_crowds_48 (tgt := 129) rfl (fun hc => ?_) (fun hc => ?_)
      · replace h := ifp h hc
        refine lv_iload hx hb dX0_crowds_129 (lv_at hl 4 rfl) ?_
        refine lv_if_eq hx hb dX0_crowds_131 (tgt := 139) rfl (fun hc => ?_) (fun hc => ?_)
        · replace h := ifp h hc
          refine lv_iload hx hb dX0_crowds_139 (lv_at hl 7 rfl) ?_
          simp only [Option.some.injEq, Prod.mk.injEq] at h
          obtain ⟨rfl, rfl, rfl, rfl, rfl, rfl, rfl, rfl, rfl, rfl, rfl⟩ := h
          exact rc_i hx hb hr hlocks hS dX0_crowds_141 rfl hP
        · replace h := ifn h hc
          refine lv_iload hx hb dX0_crowds_134 (lv_at hl 6 rfl) ?_
          refine lv_goto hx hb dX0_crowds_136 (tgt := 141) rfl ?_
          simp only [Option.some.injEq, Prod.mk.injEq] at h
          obtain ⟨rfl, rfl, rfl, rfl, rfl, rfl, rfl, rfl, rfl, rfl, rfl⟩ := h
          exact rc_i hx hb hr hlocks hS dX0_crowds_141 rfl hP
      · replace h := ifn h hc
        refine lv_aload_n hx hb dX0_crowds_51 rfl (lv_at hl 0 rfl) ?_
        refine lv_iload_n hx hb dX0_crowds_52 rfl (lv_at hl 1 rfl) ?_
        refine lv_iload_n hx hb dX0_crowds_53 rfl (lv_at hl 2 rfl) ?_
        refine lv_iload hx hb dX0_crowds_54 (lv_at hl 8 rfl) ?_
        refine lv_iload_n hx hb dX0_crowds_56 rfl (lv_at hl 3 rfl) ?_
        obtain ⟨r_28, x_len_29, x_cuts_30, x_bare_31, x_place_32, x_lA_33, x_lB_34, x_lC_35, a_letters_36, a_marks_37, hr_38, h⟩ := bd10_s h
        refine hv_i hx hb hml hown hw cB_bl (cB_of hN hK hP) (cr_CA hK hP) (c_ca_trait l D ct ad hI v1 v2 v8 v3 r_28 x_len_29 x_cuts_30 x_bare_31 x_place_32 x_lA_33 x_lB_34 x_lC_35 a_letters_36 a_marks_37 hr_38) g_RX0_78 ⟨rfl, hd_X0_trait⟩ (rest := []) hl.1 hS (fun q h => h) dX0_crowds_57 rfl rfl ⟨Nat.le_of_ble_eq_true rfl, Nat.le_of_ble_eq_true rfl⟩ rfl rfl (Nat.le_of_ble_eq_true rfl) ⟨Nat.zero_le _, Nat.zero_le _⟩ (fun H locs hP _ hS => ?_)
        refine lv_istore hx hb dX0_crowds_60 hl (Nat.le_of_ble_eq_true rfl) (lv' := [(9, .int r_28), (0, .ref (ad 9)), (1, .int v1), (2, .int v2), (3, .int v3), (4, .int v4), (5, .int v5), (6, .int v6), (7, .int v7), (8, .int v8)]) rfl (fun ls hl => ?_)
        refine lv_iload hx hb dX0_crowds_62 (lv_at hl 0 rfl) ?_
        refine lv_iconst (v := 0) hx hb dX0_crowds_64 ki_0 ?_
        refine lv_aload_n hx hb dX0_crowds_65 rfl (lv_at hl 1 rfl) ?_
        refine cg_CA_5 hx hb hw hown hK hP dX0_crowds_66 ?_
        refine cl_crowds hx hb hK hP dX0_crowds_69 ?_
        refine lv_iconst (v := 1) hx hb dX0_crowds_70 ki_1 ?_
        refine lv_isub hx hb dX0_crowds_71 ?_
        obtain ⟨r_39, hr_40, h⟩ := bd1_s h
        refine sn_i hx hb hml hown hw hN (c_cf_within l r_28 0 (64 - 1) r_39 hr_40) nq_RX0_59 tw_9_21 tw_9_20 tw_1_2 hd_X11_within (rest := []) hl.1 hS dX0_crowds_72 rfl rfl ⟨Nat.le_of_ble_eq_true rfl, Nat.le_of_ble_eq_true rfl⟩ rfl rfl (Nat.le_of_ble_eq_true rfl) ⟨Nat.zero_le _, Nat.zero_le _⟩ (fun H locs hk hS => ?_)
        have hP := cP_kept hP hk
        refine lv_if_eq hx hb dX0_crowds_75 (tgt := 123) rfl (fun hc => ?_) (fun hc => ?_)
        · replace h := ifp h hc
          exact hJ123 _ _ _ v6 v7 v8 x_len_29 x_cuts_30 x_bare_31 x_place_32 x_lA_33 x_lB_34 x_lC_35 a_letters_36 a_marks_37 a_crowds (lv_sub hl [1, 2, 3, 4, 5, 6, 7, 8, 9] rfl) hP hS h
        · replace h := ifn h hc
          refine lv_iload hx hb dX0_crowds_78 (lv_at hl 8 rfl) ?_
          refine lv_aload_n hx hb dX0_crowds_80 rfl (lv_at hl 1 rfl) ?_
          refine cg_CA_5 hx hb hw hown hK hP dX0_crowds_81 ?_
          refine lv_iload hx hb dX0_crowds_84 (lv_at hl 0 rfl) ?_
          obtain ⟨hin, h⟩ := ck_s h
          refine cd_crowds hx hb hK hP hin dX0_crowds_86 ?_
          refine lv_if_ne hx hb dX0_crowds_87 (tgt := 94) rfl (fun hc => ?_) (fun hc => ?_)
          · replace h := ifn h hc
            refine lv_iconst (v := 0) hx hb dX0_crowds_94 ki_0 ?_
            exact hJ95 _ _ _ v6 v8 r_28 x_len_29 x_cuts_30 x_bare_31 x_place_32 x_lA_33 x_lB_34 x_lC_35 a_letters_36 a_marks_37 a_crowds v7 0 (lv_sub hl [1, 2, 3, 4, 5, 6, 7, 9, 0] rfl) hP hS h
          · replace h := ifp h hc
            refine lv_iconst (v := 1) hx hb dX0_crowds_90 ki_1 ?_
            refine lv_goto hx hb dX0_crowds_91 (tgt := 95) rfl ?_
            exact hJ95 _ _ _ v6 v8 r_28 x_len_29 x_cuts_30 x_bare_31 x_place_32 x_lA_33 x_lB_34 x_lC_35 a_letters_36 a_marks_37 a_crowds v7 1 (lv_sub hl [1, 2, 3, 4, 5, 6, 7, 9, 0] rfl) hP hS h
  have hL3 : ∀ (v1 : Int32), ∀ (v2 : Int32), ∀ (v3 : Int32), ∀ (v4 : Int32), ∀ (x_len : Int32), ∀ (x_cuts : Int32), ∀ (x_bare : Int32), ∀ (x_place : Int32), ∀ (x_lA : Int32), ∀ (x_lB : Int32), ∀ (x_lC : Int32), ∀ (a_letters : Nat → Int32), ∀ (a_numbers : Nat → Int64), ∀ (a_oneSided : Nat → Int32), ∀ (a_free : Nat → Int32), ∀ (a_ends : Nat → Int32), ∀ (a_marks : Nat → Int64), ∀ (n3 : Nat) (H : Heap) (locs : List Loc) (ls : Array Slot) (v5 : Int32) (a_crowds : Nat → Int32), lv_has ls 10 [(0, .ref (ad 9)), (1, .int v1), (2, .int v2), (3, .int v3), (4, .int v4), (5, .int v5)] → cP D ct ad x_fed x_tk x_col x_line x_rcells x_rsize x_len x_cuts x_bare x_place x_lA x_lB x_lC x_fX x_fY x_sX x_sY x_made x_fsize x_psize x_over x_touch x_most x_mU x_mV x_area x_board a_tape a_letters a_oneSided a_free a_ends a_crowds a_wmade a_firsts a_widths a_heights a_places a_next a_pnear a_table a_overlaps a_drawers a_kept a_items a_numbers a_marks a_near a_figures a_covered a_pcells a_matrix H → va_S (cA ad) s.heap H locs → fl2 (ca_crowds_B3 v1 v2 v3 v4 x_len x_cuts x_bare x_place x_lA x_lB x_lC a_letters a_numbers a_oneSided a_free a_ends a_marks) n3 v5 a_crowds = some (r, z_x_len, z_x_cuts, z_x_bare, z_x_place, z_x_lA, z_x_lB, z_x_lC, z_a_letters, z_a_marks, z_a_crowds) → W p l e (rmm 6 151) s m av below meth c H locs 0 0 (MQ below (va_Qi (fun z (_ : Unit) => z = r) (fun _ t => cP D ct ad x_fed x_tk x_col x_line x_rcells x_rsize z_x_len z_x_cuts z_x_bare z_x_place z_x_lA z_x_lB z_x_lC x_fX x_fY x_sX x_sY x_made x_fsize x_psize x_over x_touch x_most x_mU x_mV x_area x_board a_tape z_a_letters a_oneSided a_free a_ends z_a_crowds a_wmade a_firsts a_widths a_heights a_places a_next a_pnear a_table a_overlaps a_drawers a_kept a_items a_numbers z_a_marks a_near a_figures a_covered a_pcells a_matrix t.heap) (cA ad)) av s 0 0 (cA ad)) (F0 m 3 ls []) := by
    intro v1 v2 v3 v4 x_len x_cuts x_bare x_place x_lA x_lB x_lC a_letters a_numbers a_oneSided a_free a_ends a_marks n3
    induction n3 with
    | zero => intro H locs ls v5 a_crowds hl hP hS h; cases h
    | succ n3 ih3 =>
      intro H locs ls v5 a_crowds hl hP hS h
      replace h : ca_crowds_B3 v1 v2 v3 v4 x_len x_cuts x_bare x_place x_lA x_lB x_lC a_letters a_numbers a_oneSided a_free a_ends a_marks (fl2 (ca_crowds_B3 v1 v2 v3 v4 x_len x_cuts x_bare x_place x_lA x_lB x_lC a_letters a_numbers a_oneSided a_free a_ends a_marks) n3) v5 a_crowds = some (r, z_x_len, z_x_cuts, z_x_bare, z_x_place, z_x_lA, z_x_lB, z_x_lC, z_a_letters, z_a_marks, z_a_crowds) := h
      generalize fl2 (ca_crowds_B3 v1 v2 v3 v4 x_len x_cuts x_bare x_place x_lA x_lB x_lC a_letters a_numbers a_oneSided a_free a_ends a_marks) n3 = k3 at h ih3
      rw [ca_crowds_B3] at h
      refine lv_iload hx hb dX0_crowds_3 (lv_at hl 5 rfl) ?_
      refine lv_aload_n hx hb dX0_crowds_5 rfl (lv_at hl 0 rfl) ?_
      refine cg_CA_5 hx hb hw hown hK hP dX0_crowds_6 ?_
      refine cl_crowds hx hb hK hP dX0_crowds_9 ?_
      refine lv_icmp_ge hx hb dX0_crowds_10 (tgt := 27) rfl (fun hc => ?_) (fun hc => ?_)
      · replace h := ifp h hc
        refine lv_aload_n hx hb dX0_crowds_27 rfl (lv_at hl 0 rfl) ?_
        refine lv_iload_n hx hb dX0_crowds_28 rfl (lv_at hl 1 rfl) ?_
        refine lv_iload_n hx hb dX0_crowds_29 rfl (lv_at hl 2 rfl) ?_
        obtain ⟨r_41, hr_42, h⟩ := bd1_s h
        refine hv_i hx hb hml hown hw cB_bl (cB_of hN hK hP) (cr_CA hK hP) (c_ca_size l D ct ad hI v1 v2 r_41 hr_42) g_RX0_75 ⟨rfl, hd_X0_size⟩ (rest := []) hl.1 hS (fun q h => h) dX0_crowds_30 rfl rfl ⟨Nat.le_of_ble_eq_true rfl, Nat.le_of_ble_eq_true rfl⟩ rfl rfl (Nat.le_of_ble_eq_true rfl) ⟨Nat.zero_le _, Nat.zero_le _⟩ (fun H locs hP _ hS => ?_)
        refine lv_istore hx hb dX0_crowds_33 hl (Nat.le_of_ble_eq_true rfl) (lv' := [(5, .int r_41), (0, .ref (ad 9)), (1, .int v1), (2, .int v2), (3, .int v3), (4, .int v4)]) rfl (fun ls hl => ?_)
        refine lv_iconst (v := 0) hx hb dX0_crowds_35 ki_0 ?_
        refine lv_istore hx hb dX0_crowds_36 hl (Nat.le_of_ble_eq_true rfl) (lv' := [(6, .int 0), (5, .int r_41), (0, .ref (ad 9)), (1, .int v1), (2, .int v2), (3, .int v3), (4, .int v4)]) rfl (fun ls hl => ?_)
        refine lv_iconst (v := 0) hx hb dX0_crowds_38 ki_0 ?_
        refine lv_istore hx hb dX0_crowds_39 hl (Nat.le_of_ble_eq_true rfl) (lv' := [(7, .int 0), (6, .int 0), (5, .int r_41), (0, .ref (ad 9)), (1, .int v1), (2, .int v2), (3, .int v3), (4, .int v4)]) rfl (fun ls hl => ?_)
        refine lv_iconst (v := 0) hx hb dX0_crowds_41 ki_0 ?_
        refine lv_istore hx hb dX0_crowds_42 hl (Nat.le_of_ble_eq_true rfl) (lv' := [(8, .int 0), (7, .int 0), (6, .int 0), (5, .int r_41), (0, .ref (ad 9)), (1, .int v1), (2, .int v2), (3, .int v3), (4, .int v4)]) rfl (fun ls hl => ?_)
        exact hL44 v1 v2 v3 v4 r_41 a_numbers a_oneSided a_free a_ends FU _ _ _ 0 0 0 x_len x_cuts x_bare x_place x_lA x_lB x_lC a_letters a_marks a_crowds (lv_sub hl [4, 5, 6, 7, 8, 3, 2, 1, 0] rfl) hP hS h
      · replace h := ifn h hc
        refine lv_aload_n hx hb dX0_crowds_13 rfl (lv_at hl 0 rfl) ?_
        refine cg_CA_5 hx hb hw hown hK hP dX0_crowds_14 ?_
        refine lv_iload hx hb dX0_crowds_17 (lv_at hl 5 rfl) ?_
        refine lv_iconst (v := 0) hx hb dX0_crowds_19 ki_0 ?_
        obtain ⟨hin, h⟩ := ck_s h
        obtain ⟨a_crowds_43, ea_crowds_43, h⟩ := nm_s h
        refine cs_crowds hx hb hK hP hI hS hin ea_crowds_43 dX0_crowds_20 (fun H locs hP hS => ?_)
        obtain ⟨v5_44, ev5_44, h⟩ := nm_s h
        refine lv_iinc hx hb dX0_crowds_21 hl (k := 5) rfl ev5_44.symm (Nat.le_of_ble_eq_true rfl) (lv' := [(5, .int v5_44), (0, .ref (ad 9)), (1, .int v1), (2, .int v2), (3, .int v3), (4, .int v4)]) rfl (fun ls hl => ?_)
        refine lv_goto hx hb dX0_crowds_24 (tgt := 3) rfl ?_
        exact ih3 _ _ _ v5_44 a_crowds_43 (lv_sub hl [1, 2, 3, 4, 5, 0] rfl) hP hS h
  refine lv_iconst (v := 0) hx hb dX0_crowds_0 ki_0 ?_
  refine lv_istore hx hb dX0_crowds_1 hl (Nat.le_of_ble_eq_true rfl) (lv' := [(5, .int 0), (0, .ref (ad 9)), (1, .int v1), (2, .int v2), (3, .int v3), (4, .int v4)]) rfl (fun ls hl => ?_)
  exact hL3 v1 v2 v3 v4 x_len x_cuts x_bare x_place x_lA x_lB x_lC a_letters a_numbers a_oneSided a_free a_ends a_marks FU _ _ _ 0 a_crowds (lv_sub hl [1, 2, 3, 4, 5, 0] rfl) hP hS h
noncomputable def rw_size (x_rsize : Int32) : Option (Int32) :=
  some (x_rsize)
set_option maxHeartbeats 4000000 in
set_option maxRecDepth 100000 in
theorem c_rw_size (l : Launch) (D : va_G) (ct : Nat → ClassId) (ad : Nat → Nat) (hI : cI ad) {x_fed x_tk x_col x_line x_rcells x_rsize x_len x_cuts x_bare x_place x_lA x_lB x_lC x_fX x_fY x_sX x_sY x_made x_fsize x_psize x_over x_touch x_most x_mU x_mV x_area : Int32} {x_board : Int64} {a_tape a_letters a_oneSided a_free a_ends a_crowds a_wmade a_firsts a_widths a_heights a_places a_next a_pnear a_table a_overlaps : Nat → Int32} {a_drawers a_kept a_items a_numbers a_marks a_near a_figures a_covered a_pcells a_matrix : Nat → Int64}  (r : Int32)  (h : rw_size x_rsize = some (r)) : Met l yX8_size (wm yX8_size cX8_size 1 (some .int)) (rmm 0 0) (va_Pc [.ref (ad 5)] (cB D ct ad x_fed x_tk x_col x_line x_rcells x_rsize x_len x_cuts x_bare x_place x_lA x_lB x_lC x_fX x_fY x_sX x_sY x_made x_fsize x_psize x_over x_touch x_most x_mU x_mV x_area x_board a_tape a_letters a_oneSided a_free a_ends a_crowds a_wmade a_firsts a_widths a_heights a_places a_next a_pnear a_table a_overlaps a_drawers a_kept a_items a_numbers a_marks a_near a_figures a_covered a_pcells a_matrix)) (va_Qi (fun z (_ : Unit) => z = r) (fun _ t => cP D ct ad x_fed x_tk x_col x_line x_rcells x_rsize x_len x_cuts x_bare x_place x_lA x_lB x_lC x_fX x_fY x_sX x_sY x_made x_fsize x_psize x_over x_touch x_most x_mU x_mV x_area x_board a_tape a_letters a_oneSided a_free a_ends a_crowds a_wmade a_firsts a_widths a_heights a_places a_next a_pnear a_table a_overlaps a_drawers a_kept a_items a_numbers a_marks a_near a_figures a_covered a_pcells a_matrix t.heap) (cA ad)) 0 0 (cA ad) := by
  refine met_s (y := yX8_size) (rm := rmm 0 0) (by decide) (Nat.le_of_ble_eq_true rfl) ?_
  intro p e s m below meth c hx hb hr hw hown hlocks _ hml hB ls hl
  obtain ⟨hN, hK, hP⟩ := hB
  replace hl : lv_has ls 1 [(0, .ref (ad 5))] := hl
  have hS : va_S (cA ad) s.heap s.heap [] := va_S.rf
  generalize (([.ref (ad 5)] : List Value).toArray) = av at hw ⊢
  rw [rw_size] at h
  refine lv_aload_n hx hb dX8_size_0 rfl (lv_at hl 0 rfl) ?_
  refine cg_RW_1 hx hb hw hown hK hP dX8_size_1 ?_
  replace h := Option.some.inj h
  subst h
  exact rc_i hx hb hr hlocks hS dX8_size_4 rfl hP
noncomputable def rw_at (v1 : Int32) (x_rsize : Int32) (a_items : Nat → Int64) : Option (Int64) :=
  bd1 (cf_within v1 0 (x_rsize - 1)) fun r_1 =>
  if r_1 = 0 then (some (0)) else
  ck v1 64 <|
  some (a_items v1.toNatClampNeg)
set_option maxHeartbeats 4000000 in
set_option maxRecDepth 100000 in
theorem c_rw_at (l : Launch) (D : va_G) (ct : Nat → ClassId) (ad : Nat → Nat) (hI : cI ad) {x_fed x_tk x_col x_line x_rcells x_rsize x_len x_cuts x_bare x_place x_lA x_lB x_lC x_fX x_fY x_sX x_sY x_made x_fsize x_psize x_over x_touch x_most x_mU x_mV x_area : Int32} {x_board : Int64} {a_tape a_letters a_oneSided a_free a_ends a_crowds a_wmade a_firsts a_widths a_heights a_places a_next a_pnear a_table a_overlaps : Nat → Int32} {a_drawers a_kept a_items a_numbers a_marks a_near a_figures a_covered a_pcells a_matrix : Nat → Int64} (v1 : Int32) (r : Int64)  (h : rw_at v1 x_rsize a_items = some (r)) : Met l yX8_at (wm yX8_at cX8_at 2 (some .long)) (rmm 1 22) (va_Pc [.ref (ad 5), .int v1] (cB D ct ad x_fed x_tk x_col x_line x_rcells x_rsize x_len x_cuts x_bare x_place x_lA x_lB x_lC x_fX x_fY x_sX x_sY x_made x_fsize x_psize x_over x_touch x_most x_mU x_mV x_area x_board a_tape a_letters a_oneSided a_free a_ends a_crowds a_wmade a_firsts a_widths a_heights a_places a_next a_pnear a_table a_overlaps a_drawers a_kept a_items a_numbers a_marks a_near a_figures a_covered a_pcells a_matrix)) (va_Ql (fun z (_ : Unit) => z = r) (fun _ t => cP D ct ad x_fed x_tk x_col x_line x_rcells x_rsize x_len x_cuts x_bare x_place x_lA x_lB x_lC x_fX x_fY x_sX x_sY x_made x_fsize x_psize x_over x_touch x_most x_mU x_mV x_area x_board a_tape a_letters a_oneSided a_free a_ends a_crowds a_wmade a_firsts a_widths a_heights a_places a_next a_pnear a_table a_overlaps a_drawers a_kept a_items a_numbers a_marks a_near a_figures a_covered a_pcells a_matrix t.heap) (cA ad)) 0 0 (cA ad) := by
  refine met_s (y := yX8_at) (rm := rmm 1 22) (by decide) (Nat.le_of_ble_eq_true rfl) ?_
  intro p e s m below meth c hx hb hr hw hown hlocks _ hml hB ls hl
  obtain ⟨hN, hK, hP⟩ := hB
  replace hl : lv_has ls 2 [(0, .ref (ad 5)), (1, .int v1)] := hl
  have hS : va_S (cA ad) s.heap s.heap [] := va_S.rf
  generalize (([.ref (ad 5), .int v1] : List Value).toArray) = av at hw ⊢
  rw [rw_at] at h
  refine lv_iload_n hx hb dX8_at_0 rfl (lv_at hl 1 rfl) ?_
  refine lv_iconst (v := 0) hx hb dX8_at_1 ki_0 ?_
  refine lv_aload_n hx hb dX8_at_2 rfl (lv_at hl 0 rfl) ?_
  refine cg_RW_1 hx hb hw hown hK hP dX8_at_3 ?_
  refine lv_iconst (v := 1) hx hb dX8_at_6 ki_1 ?_
  refine lv_isub hx hb dX8_at_7 ?_
  obtain ⟨r_3, hr_4, h⟩ := bd1_s h
  refine sn_i hx hb hml hown hw hN (c_cf_within l v1 0 (x_rsize - 1) r_3 hr_4) nq_RX8_17 tw_9_21 tw_9_20 tw_1_2 hd_X11_within (rest := []) hl.1 hS dX8_at_8 rfl rfl ⟨Nat.le_of_ble_eq_true rfl, Nat.le_of_ble_eq_true rfl⟩ rfl rfl (Nat.le_of_ble_eq_true rfl) ⟨Nat.zero_le _, Nat.zero_le _⟩ (fun H locs hk hS => ?_)
  have hP := cP_kept hP hk
  refine lv_if_eq hx hb dX8_at_11 (tgt := 23) rfl (fun hc => ?_) (fun hc => ?_)
  · replace h := ifp h hc
    refine lv_lconst (v := 0) hx hb dX8_at_23 kl_0 ?_
    replace h := Option.some.inj h
    subst h
    exact rc_l hx hb hr hlocks hS dX8_at_24 rfl hP
  · replace h := ifn h hc
    refine lv_aload_n hx hb dX8_at_14 rfl (lv_at hl 0 rfl) ?_
    refine cg_RW_0 hx hb hw hown hK hP dX8_at_15 ?_
    refine lv_iload_n hx hb dX8_at_18 rfl (lv_at hl 1 rfl) ?_
    obtain ⟨hin, h⟩ := ck_s h
    refine cd_items hx hb hK hP hin dX8_at_19 ?_
    refine lv_goto hx hb dX8_at_20 (tgt := 24) rfl ?_
    replace h := Option.some.inj h
    subst h
    exact rc_l hx hb hr hlocks hS dX8_at_24 rfl hP
noncomputable def fi_measure_B15 (x_rsize : Int32) (a_items : Nat → Int64) (x_fsize : Int32)  (k15 : Int32 → (Nat → Int64) → (Nat → Int32) → (Nat → Int32) → (Nat → Int32) → Option (Int32 × (Nat → Int64) × (Nat → Int32) × (Nat → Int32) × (Nat → Int32))) (v2 : Int32) (a_figures : Nat → Int64) (a_firsts : Nat → Int32) (a_widths : Nat → Int32) (a_heights : Nat → Int32) : Option (Int32 × (Nat → Int64) × (Nat → Int32) × (Nat → Int32) × (Nat → Int32)) :=
  if x_fsize ≤ v2 then (some (x_fsize, a_figures, a_firsts, a_widths, a_heights)) else
  bd1 (rw_at v2 x_rsize a_items) fun r_1 =>
  ck v2 64 <|
  nm (vp_updL a_figures v2.toNatClampNeg r_1) fun a_figures_3 =>
  ck v2 64 <|
  bd1 (gr_lowest (a_figures_3 v2.toNatClampNeg)) fun r_4 =>
  ck v2 64 <|
  nm (upd a_firsts v2.toNatClampNeg r_4) fun a_firsts_6 =>
  ck v2 64 <|
  bd1 (gr_width (a_figures_3 v2.toNatClampNeg)) fun r_7 =>
  ck v2 64 <|
  nm (upd a_widths v2.toNatClampNeg r_7) fun a_widths_9 =>
  ck v2 64 <|
  bd1 (gr_height (a_figures_3 v2.toNatClampNeg)) fun r_10 =>
  ck v2 64 <|
  nm (upd a_heights v2.toNatClampNeg r_10) fun a_heights_12 =>
  nm (v2 + Int32.ofInt 1) fun v2_13 =>
  k15 v2_13 a_figures_3 a_firsts_6 a_widths_9 a_heights_12
noncomputable def fi_measure (x_rsize : Int32) (a_items : Nat → Int64) (x_fsize : Int32) (a_figures : Nat → Int64) (a_firsts : Nat → Int32) (a_widths : Nat → Int32) (a_heights : Nat → Int32) : Option (Int32 × (Nat → Int64) × (Nat → Int32) × (Nat → Int32) × (Nat → Int32)) :=
  bd1 (rw_size x_rsize) fun r_14 =>
  nm (mnI r_14 64 : Int32) fun x_fsize_16 =>
  fl5 (fi_measure_B15 x_rsize a_items x_fsize_16) FU 0 a_figures a_firsts a_widths a_heights
set_option maxHeartbeats 4000000 in
set_option maxRecDepth 100000 in
theorem c_fi_measure (l : Launch) (D : va_G) (ct : Nat → ClassId) (ad : Nat → Nat) (hI : cI ad) {x_fed x_tk x_col x_line x_rcells x_rsize x_len x_cuts x_bare x_place x_lA x_lB x_lC x_fX x_fY x_sX x_sY x_made x_fsize x_psize x_over x_touch x_most x_mU x_mV x_area : Int32} {x_board : Int64} {a_tape a_letters a_oneSided a_free a_ends a_crowds a_wmade a_firsts a_widths a_heights a_places a_next a_pnear a_table a_overlaps : Nat → Int32} {a_drawers a_kept a_items a_numbers a_marks a_near a_figures a_covered a_pcells a_matrix : Nat → Int64}   (z_x_fsize : Int32) (z_a_figures : Nat → Int64) (z_a_firsts : Nat → Int32) (z_a_widths : Nat → Int32) (z_a_heights : Nat → Int32) (h : fi_measure x_rsize a_items x_fsize a_figures a_firsts a_widths a_heights = some (z_x_fsize, z_a_figures, z_a_firsts, z_a_widths, z_a_heights)) : Met l yX1_measure (wm yX1_measure cX1_measure 3 none) (rmm 2 44) (va_Pc [.ref (ad 19), .ref (ad 5)] (cB D ct ad x_fed x_tk x_col x_line x_rcells x_rsize x_len x_cuts x_bare x_place x_lA x_lB x_lC x_fX x_fY x_sX x_sY x_made x_fsize x_psize x_over x_touch x_most x_mU x_mV x_area x_board a_tape a_letters a_oneSided a_free a_ends a_crowds a_wmade a_firsts a_widths a_heights a_places a_next a_pnear a_table a_overlaps a_drawers a_kept a_items a_numbers a_marks a_near a_figures a_covered a_pcells a_matrix)) (va_Qv (fun (_ : Unit) => True) (fun _ t => cP D ct ad x_fed x_tk x_col x_line x_rcells x_rsize x_len x_cuts x_bare x_place x_lA x_lB x_lC x_fX x_fY x_sX x_sY x_made z_x_fsize x_psize x_over x_touch x_most x_mU x_mV x_area x_board a_tape a_letters a_oneSided a_free a_ends a_crowds a_wmade z_a_firsts z_a_widths z_a_heights a_places a_next a_pnear a_table a_overlaps a_drawers a_kept a_items a_numbers a_marks a_near z_a_figures a_covered a_pcells a_matrix t.heap) (cA ad)) 0 0 (cA ad) := by
  refine met_s (y := yX1_measure) (rm := rmm 2 44) (by decide) (Nat.le_of_ble_eq_true rfl) ?_
  intro p e s m below meth c hx hb hr hw hown hlocks _ hml hB ls hl
  obtain ⟨hN, hK, hP⟩ := hB
  replace hl : lv_has ls 3 [(0, .ref (ad 19)), (1, .ref (ad 5))] := hl
  have hS : va_S (cA ad) s.heap s.heap [] := va_S.rf
  generalize (([.ref (ad 19), .ref (ad 5)] : List Value).toArray) = av at hw ⊢
  rw [fi_measure] at h
  have hL15 : ∀ (x_rsize : Int32), ∀ (a_items : Nat → Int64), ∀ (x_fsize : Int32), ∀ (n15 : Nat) (H : Heap) (locs : List Loc) (ls : Array Slot) (v2 : Int32) (a_figures : Nat → Int64) (a_firsts : Nat → Int32) (a_widths : Nat → Int32) (a_heights : Nat → Int32), lv_has ls 3 [(0, .ref (ad 19)), (1, .ref (ad 5)), (2, .int v2)] → cP D ct ad x_fed x_tk x_col x_line x_rcells x_rsize x_len x_cuts x_bare x_place x_lA x_lB x_lC x_fX x_fY x_sX x_sY x_made x_fsize x_psize x_over x_touch x_most x_mU x_mV x_area x_board a_tape a_letters a_oneSided a_free a_ends a_crowds a_wmade a_firsts a_widths a_heights a_places a_next a_pnear a_table a_overlaps a_drawers a_kept a_items a_numbers a_marks a_near a_figures a_covered a_pcells a_matrix H → va_S (cA ad) s.heap H locs → fl5 (fi_measure_B15 x_rsize a_items x_fsize) n15 v2 a_figures a_firsts a_widths a_heights = some (z_x_fsize, z_a_figures, z_a_firsts, z_a_widths, z_a_heights) → W p l e (rmm 2 44) s m av below meth c H locs 0 0 (MQ below (va_Qv (fun (_ : Unit) => True) (fun _ t => cP D ct ad x_fed x_tk x_col x_line x_rcells x_rsize x_len x_cuts x_bare x_place x_lA x_lB x_lC x_fX x_fY x_sX x_sY x_made z_x_fsize x_psize x_over x_touch x_most x_mU x_mV x_area x_board a_tape a_letters a_oneSided a_free a_ends a_crowds a_wmade z_a_firsts z_a_widths z_a_heights a_places a_next a_pnear a_table a_overlaps a_drawers a_kept a_items a_numbers a_marks a_near z_a_figures a_covered a_pcells a_matrix t.heap) (cA ad)) av s 0 0 (cA ad)) (F0 m 15 ls []) := by
    intro x_rsize a_items x_fsize n15
    induction n15 with
    | zero => intro H locs ls v2 a_figures a_firsts a_widths a_heights hl hP hS h; cases h
    | succ n15 ih15 =>
      intro H locs ls v2 a_figures a_firsts a_widths a_heights hl hP hS h
      replace h : fi_measure_B15 x_rsize a_items x_fsize (fl5 (fi_measure_B15 x_rsize a_items x_fsize) n15) v2 a_figures a_firsts a_widths a_heights = some (z_x_fsize, z_a_figures, z_a_firsts, z_a_widths, z_a_heights) := h
      generalize fl5 (fi_measure_B15 x_rsize a_items x_fsize) n15 = k15 at h ih15
      rw [fi_measure_B15] at h
      refine lv_iload_n hx hb dX1_measure_15 rfl (lv_at hl 2 rfl) ?_
      refine lv_aload_n hx hb dX1_measure_16 rfl (lv_at hl 0 rfl) ?_
      refine cg_FI_7 hx hb hw hown hK hP dX1_measure_17 ?_
      refine lv_icmp_ge hx hb dX1_measure_20 (tgt := 85) rfl (fun hc => ?_) (fun hc => ?_)
      · replace h := ifp h hc
        simp only [Option.some.injEq, Prod.mk.injEq] at h
        obtain ⟨rfl, rfl, rfl, rfl, rfl⟩ := h
        exact rc_v hx hb hr hlocks hS dX1_measure_85 hP
      · replace h := ifn h hc
        refine lv_aload_n hx hb dX1_measure_23 rfl (lv_at hl 0 rfl) ?_
        refine cg_FI_0 hx hb hw hown hK hP dX1_measure_24 ?_
        refine lv_iload_n hx hb dX1_measure_27 rfl (lv_at hl 2 rfl) ?_
        refine lv_aload_n hx hb dX1_measure_28 rfl (lv_at hl 1 rfl) ?_
        refine lv_iload_n hx hb dX1_measure_29 rfl (lv_at hl 2 rfl) ?_
        obtain ⟨r_17, hr_18, h⟩ := bd1_s h
        refine hv_l hx hb hml hown hw cB_bl (cB_of hN hK hP) (cr_RW hK hP) (c_rw_at l D ct ad hI v2 r_17 hr_18) g_RX1_70 ⟨rfl, hd_X8_at⟩ (rest := [.int v2, .ref (ad 20)]) hl.1 hS (fun q h => h) dX1_measure_30 rfl rfl ⟨Nat.le_of_ble_eq_true rfl, Nat.le_of_ble_eq_true rfl⟩ rfl rfl (Nat.le_of_ble_eq_true rfl) ⟨Nat.zero_le _, Nat.zero_le _⟩ (fun H locs hP _ hS => ?_)
        obtain ⟨hin, h⟩ := ck_s h
        obtain ⟨a_figures_19, ea_figures_19, h⟩ := nm_s h
        refine cs_figures hx hb hK hP hI hS hin ea_figures_19 dX1_measure_33 (fun H locs hP hS => ?_)
        refine lv_aload_n hx hb dX1_measure_34 rfl (lv_at hl 0 rfl) ?_
        refine cg_FI_1 hx hb hw hown hK hP dX1_measure_35 ?_
        refine lv_iload_n hx hb dX1_measure_38 rfl (lv_at hl 2 rfl) ?_
        refine lv_aload_n hx hb dX1_measure_39 rfl (lv_at hl 0 rfl) ?_
        refine cg_FI_0 hx hb hw hown hK hP dX1_measure_40 ?_
        refine lv_iload_n hx hb dX1_measure_43 rfl (lv_at hl 2 rfl) ?_
        obtain ⟨hin, h⟩ := ck_s h
        refine cd_figures hx hb hK hP hin dX1_measure_44 ?_
        obtain ⟨r_20, hr_21, h⟩ := bd1_s h
        refine sc_i hx hb hml hown hw hN (c_gr_lowest l (a_figures_19 v2.toNatClampNeg) r_20 hr_21) g_RX1_74 hd_X2_lowest (rest := [.int v2, .ref (ad 21)]) hl.1 hS dX1_measure_45 rfl rfl ⟨Nat.le_of_ble_eq_true rfl, Nat.le_of_ble_eq_true rfl⟩ rfl rfl (Nat.le_of_ble_eq_true rfl) ⟨Nat.zero_le _, Nat.zero_le _⟩ (fun H locs hk hS => ?_)
        have hP := cP_kept hP hk
        obtain ⟨hin, h⟩ := ck_s h
        obtain ⟨a_firsts_22, ea_firsts_22, h⟩ := nm_s h
        refine cs_firsts hx hb hK hP hI hS hin ea_firsts_22 dX1_measure_48 (fun H locs hP hS => ?_)
        refine lv_aload_n hx hb dX1_measure_49 rfl (lv_at hl 0 rfl) ?_
        refine cg_FI_2 hx hb hw hown hK hP dX1_measure_50 ?_
        refine lv_iload_n hx hb dX1_measure_53 rfl (lv_at hl 2 rfl) ?_
        refine lv_aload_n hx hb dX1_measure_54 rfl (lv_at hl 0 rfl) ?_
        refine cg_FI_0 hx hb hw hown hK hP dX1_measure_55 ?_
        refine lv_iload_n hx hb dX1_measure_58 rfl (lv_at hl 2 rfl) ?_
        obtain ⟨hin, h⟩ := ck_s h
        refine cd_figures hx hb hK hP hin dX1_measure_59 ?_
        obtain ⟨r_23, hr_24, h⟩ := bd1_s h
        refine sc_i hx hb hml hown hw hN (c_gr_width l (a_figures_19 v2.toNatClampNeg) r_23 hr_24) g_RX1_78 hd_X2_width (rest := [.int v2, .ref (ad 22)]) hl.1 hS dX1_measure_60 rfl rfl ⟨Nat.le_of_ble_eq_true rfl, Nat.le_of_ble_eq_true rfl⟩ rfl rfl (Nat.le_of_ble_eq_true rfl) ⟨Nat.zero_le _, Nat.zero_le _⟩ (fun H locs hk hS => ?_)
        have hP := cP_kept hP hk
        obtain ⟨hin, h⟩ := ck_s h
        obtain ⟨a_widths_25, ea_widths_25, h⟩ := nm_s h
        refine cs_widths hx hb hK hP hI hS hin ea_widths_25 dX1_measure_63 (fun H locs hP hS => ?_)
        refine lv_aload_n hx hb dX1_measure_64 rfl (lv_at hl 0 rfl) ?_
        refine cg_FI_3 hx hb hw hown hK hP dX1_measure_65 ?_
        refine lv_iload_n hx hb dX1_measure_68 rfl (lv_at hl 2 rfl) ?_
        refine lv_aload_n hx hb dX1_measure_69 rfl (lv_at hl 0 rfl) ?_
        refine cg_FI_0 hx hb hw hown hK hP dX1_measure_70 ?_
        refine lv_iload_n hx hb dX1_measure_73 rfl (lv_at hl 2 rfl) ?_
        obtain ⟨hin, h⟩ := ck_s h
        refine cd_figures hx hb hK hP hin dX1_measure_74 ?_
        obtain ⟨r_26, hr_27, h⟩ := bd1_s h
        refine sc_i hx hb hml hown hw hN (c_gr_height l (a_figures_19 v2.toNatClampNeg) r_26 hr_27) g_RX1_81 hd_X2_height (rest := [.int v2, .ref (ad 23)]) hl.1 hS dX1_measure_75 rfl rfl ⟨Nat.le_of_ble_eq_true rfl, Nat.le_of_ble_eq_true rfl⟩ rfl rfl (Nat.le_of_ble_eq_true rfl) ⟨Nat.zero_le _, Nat.zero_le _⟩ (fun H locs hk hS => ?_)
        have hP := cP_kept hP hk
        obtain ⟨hin, h⟩ := ck_s h
        obtain ⟨a_heights_28, ea_heights_28, h⟩ := nm_s h
        refine cs_heights hx hb hK hP hI hS hin ea_heights_28 dX1_measure_78 (fun H locs hP hS => ?_)
        obtain ⟨v2_29, ev2_29, h⟩ := nm_s h
        refine lv_iinc hx hb dX1_measure_79 hl (k := 2) rfl ev2_29.symm (Nat.le_of_ble_eq_true rfl) (lv' := [(2, .int v2_29), (0, .ref (ad 19)), (1, .ref (ad 5))]) rfl (fun ls hl => ?_)
        refine lv_goto hx hb dX1_measure_82 (tgt := 15) rfl ?_
        exact ih15 _ _ _ v2_29 a_figures_19 a_firsts_22 a_widths_25 a_heights_28 (lv_sub hl [1, 2, 0] rfl) hP hS h
  refine lv_aload_n hx hb dX1_measure_0 rfl (lv_at hl 0 rfl) ?_
  refine lv_aload_n hx hb dX1_measure_1 rfl (lv_at hl 1 rfl) ?_
  obtain ⟨r_30, hr_31, h⟩ := bd1_s h
  refine hv_i hx hb hml hown hw cB_bl (cB_of hN hK hP) (cr_RW hK hP) (c_rw_size l D ct ad hI r_30 hr_31) g_RX1_61 ⟨rfl, hd_X8_size⟩ (rest := [.ref (ad 19)]) hl.1 hS (fun q h => h) dX1_measure_2 rfl rfl ⟨Nat.le_of_ble_eq_true rfl, Nat.le_of_ble_eq_true rfl⟩ rfl rfl (Nat.le_of_ble_eq_true rfl) ⟨Nat.zero_le _, Nat.zero_le _⟩ (fun H locs hP _ hS => ?_)
  refine lv_bipush (v := 64) hx hb dX1_measure_5 kb_64 ?_
  refine va_mmin hx hb (hml.trans hl.1.symm) hown (hw _ tw_40_7) (hw _ tw_33_6) (hw _ tw_19_23) (hw _ tw_33_7) (Nat.le_of_ble_eq_true rfl) (Nat.le_of_ble_eq_true rfl) (Nat.zero_le _) (Nat.zero_le _) dX1_measure_7 ?_
  refine nmI (v := mnI r_30 64) rfl ?_
  obtain ⟨x_fsize_32, ex_fsize_32, h⟩ := nm_s h
  refine nmI ex_fsize_32 ?_
  refine cp_FI_7 hx hb hw hown hK hP hI hS dX1_measure_10 (fun H locs hP hS => ?_)
  refine lv_iconst (v := 0) hx hb dX1_measure_13 ki_0 ?_
  refine lv_istore_n hx hb dX1_measure_14 rfl hl (Nat.le_of_ble_eq_true rfl) (lv' := [(2, .int 0), (0, .ref (ad 19)), (1, .ref (ad 5))]) rfl (fun ls hl => ?_)
  exact hL15 x_rsize a_items x_fsize_32 FU _ _ _ 0 a_figures a_firsts a_widths a_heights (lv_sub hl [1, 2, 0] rfl) hP hS h
noncomputable def fi_open (v1 : Int32) (v2 : Int64) (a_covered : Nat → Int64) (a_places : Nat → Int32) (a_next : Nat → Int32) : Option ((Nat → Int64) × (Nat → Int32) × (Nat → Int32)) :=
  ck v1 36 <|
  nm (vp_updL a_covered v1.toNatClampNeg v2) fun a_covered_1 =>
  bd1 (gr_lowest (v2 ^^^ (((-1) : Int64)))) fun r_2 =>
  ck v1 36 <|
  nm (upd a_places v1.toNatClampNeg r_2) fun a_places_4 =>
  ck v1 36 <|
  nm (upd a_next v1.toNatClampNeg 0) fun a_next_5 =>
  some (a_covered_1, a_places_4, a_next_5)
set_option maxHeartbeats 4000000 in
set_option maxRecDepth 100000 in
theorem c_fi_open (l : Launch) (D : va_G) (ct : Nat → ClassId) (ad : Nat → Nat) (hI : cI ad) {x_fed x_tk x_col x_line x_rcells x_rsize x_len x_cuts x_bare x_place x_lA x_lB x_lC x_fX x_fY x_sX x_sY x_made x_fsize x_psize x_over x_touch x_most x_mU x_mV x_area : Int32} {x_board : Int64} {a_tape a_letters a_oneSided a_free a_ends a_crowds a_wmade a_firsts a_widths a_heights a_places a_next a_pnear a_table a_overlaps : Nat → Int32} {a_drawers a_kept a_items a_numbers a_marks a_near a_figures a_covered a_pcells a_matrix : Nat → Int64} (v1 : Int32) (v2 : Int64)  (z_a_covered : Nat → Int64) (z_a_places : Nat → Int32) (z_a_next : Nat → Int32) (h : fi_open v1 v2 a_covered a_places a_next = some (z_a_covered, z_a_places, z_a_next)) : Met l yX1_open (wm yX1_open cX1_open 4 none) (rmm 2 42) (va_Pc [.ref (ad 19), .int v1, .long v2] (cB D ct ad x_fed x_tk x_col x_line x_rcells x_rsize x_len x_cuts x_bare x_place x_lA x_lB x_lC x_fX x_fY x_sX x_sY x_made x_fsize x_psize x_over x_touch x_most x_mU x_mV x_area x_board a_tape a_letters a_oneSided a_free a_ends a_crowds a_wmade a_firsts a_widths a_heights a_places a_next a_pnear a_table a_overlaps a_drawers a_kept a_items a_numbers a_marks a_near a_figures a_covered a_pcells a_matrix)) (va_Qv (fun (_ : Unit) => True) (fun _ t => cP D ct ad x_fed x_tk x_col x_line x_rcells x_rsize x_len x_cuts x_bare x_place x_lA x_lB x_lC x_fX x_fY x_sX x_sY x_made x_fsize x_psize x_over x_touch x_most x_mU x_mV x_area x_board a_tape a_letters a_oneSided a_free a_ends a_crowds a_wmade a_firsts a_widths a_heights z_a_places z_a_next a_pnear a_table a_overlaps a_drawers a_kept a_items a_numbers a_marks a_near a_figures z_a_covered a_pcells a_matrix t.heap) (cA ad)) 0 0 (cA ad) := by
  refine met_s (y := yX1_open) (rm := rmm 2 42) (by decide) (Nat.le_of_ble_eq_true rfl) ?_
  intro p e s m below meth c hx hb hr hw hown hlocks _ hml hB ls hl
  obtain ⟨hN, hK, hP⟩ := hB
  replace hl : lv_has ls 4 [(0, .ref (ad 19)), (1, .int v1), (2, .long v2)] := hl
  have hS : va_S (cA ad) s.heap s.heap [] := va_S.rf
  generalize (([.ref (ad 19), .int v1, .long v2] : List Value).toArray) = av at hw ⊢
  rw [fi_open] at h
  refine lv_aload_n hx hb dX1_open_0 rfl (lv_at hl 0 rfl) ?_
  refine cg_FI_4 hx hb hw hown hK hP dX1_open_1 ?_
  refine lv_iload_n hx hb dX1_open_4 rfl (lv_at hl 1 rfl) ?_
  refine lv_lload_n hx hb dX1_open_5 rfl (lv_at hl 2 rfl) ?_
  obtain ⟨hin, h⟩ := ck_s h
  obtain ⟨a_covered_6, ea_covered_6, h⟩ := nm_s h
  refine cs_covered hx hb hK hP hI hS hin ea_covered_6 dX1_open_6 (fun H locs hP hS => ?_)
  refine lv_aload_n hx hb dX1_open_7 rfl (lv_at hl 0 rfl) ?_
  refine cg_FI_5 hx hb hw hown hK hP dX1_open_8 ?_
  refine lv_iload_n hx hb dX1_open_11 rfl (lv_at hl 1 rfl) ?_
  refine lv_lload_n hx hb dX1_open_12 rfl (lv_at hl 2 rfl) ?_
  refine lv_ldc2 hx hb hown (hw _ tw_40_0) dX1_open_13 ?_
  refine lv_lxor hx hb dX1_open_16 ?_
  obtain ⟨r_7, hr_8, h⟩ := bd1_s h
  refine sc_i hx hb hml hown hw hN (c_gr_lowest l (v2 ^^^ (((-1) : Int64))) r_7 hr_8) g_RX1_74 hd_X2_lowest (rest := [.int v1, .ref (ad 25)]) hl.1 hS dX1_open_17 rfl rfl ⟨Nat.le_of_ble_eq_true rfl, Nat.le_of_ble_eq_true rfl⟩ rfl rfl (Nat.le_of_ble_eq_true rfl) ⟨Nat.zero_le _, Nat.zero_le _⟩ (fun H locs hk hS => ?_)
  have hP := cP_kept hP hk
  obtain ⟨hin, h⟩ := ck_s h
  obtain ⟨a_places_9, ea_places_9, h⟩ := nm_s h
  refine cs_places hx hb hK hP hI hS hin ea_places_9 dX1_open_20 (fun H locs hP hS => ?_)
  refine lv_aload_n hx hb dX1_open_21 rfl (lv_at hl 0 rfl) ?_
  refine cg_FI_6 hx hb hw hown hK hP dX1_open_22 ?_
  refine lv_iload_n hx hb dX1_open_25 rfl (lv_at hl 1 rfl) ?_
  refine lv_iconst (v := 0) hx hb dX1_open_26 ki_0 ?_
  obtain ⟨hin, h⟩ := ck_s h
  obtain ⟨a_next_10, ea_next_10, h⟩ := nm_s h
  refine cs_next hx hb hK hP hI hS hin ea_next_10 dX1_open_27 (fun H locs hP hS => ?_)
  simp only [Option.some.injEq, Prod.mk.injEq] at h
  obtain ⟨rfl, rfl, rfl⟩ := h
  exact rc_v hx hb hr hlocks hS dX1_open_28 hP
noncomputable def fi_laid (v1 : Int32) (v2 : Int32) (v3 : Int32) (v4 : Int32) (a_figures : Nat → Int64) (a_firsts : Nat → Int32) (a_widths : Nat → Int32) (a_heights : Nat → Int32) (a_covered : Nat → Int64) (a_places : Nat → Int32) : Option (Int64) :=
  ck v2 36 <|
  ck v1 64 <|
  nm (((a_places v2.toNatClampNeg) &&& 7) - (a_firsts v1.toNatClampNeg) : Int32) fun v5_1 =>
  ck v2 36 <|
  nm (ir (a_places v2.toNatClampNeg) 3 : Int32) fun v6_2 =>
  if v5_1 < 0 then (some (0)) else
  ck v1 64 <|
  if v3 < (v5_1 + (a_widths v1.toNatClampNeg)) then (some (0)) else
  ck v1 64 <|
  if (v6_2 + (a_heights v1.toNatClampNeg)) ≤ v4 then (ck v1 64 <|
  nm (sl (a_figures v1.toNatClampNeg) ((8 * v6_2) + v5_1) : Int64) fun v7_3 =>
  ck v2 36 <|
  if (v7_3 &&& (a_covered v2.toNatClampNeg)) = 0 then (some (v7_3)) else
  some (0)) else
  some (0)
set_option maxHeartbeats 4000000 in
set_option maxRecDepth 100000 in
theorem c_fi_laid (l : Launch) (D : va_G) (ct : Nat → ClassId) (ad : Nat → Nat) (hI : cI ad) {x_fed x_tk x_col x_line x_rcells x_rsize x_len x_cuts x_bare x_place x_lA x_lB x_lC x_fX x_fY x_sX x_sY x_made x_fsize x_psize x_over x_touch x_most x_mU x_mV x_area : Int32} {x_board : Int64} {a_tape a_letters a_oneSided a_free a_ends a_crowds a_wmade a_firsts a_widths a_heights a_places a_next a_pnear a_table a_overlaps : Nat → Int32} {a_drawers a_kept a_items a_numbers a_marks a_near a_figures a_covered a_pcells a_matrix : Nat → Int64} (v1 : Int32) (v2 : Int32) (v3 : Int32) (v4 : Int32) (r : Int64)  (h : fi_laid v1 v2 v3 v4 a_figures a_firsts a_widths a_heights a_covered a_places = some (r)) : Met l yX1_laid (wm yX1_laid cX1_laid 9 (some .long)) (rmm 0 0) (va_Pc [.ref (ad 19), .int v1, .int v2, .int v3, .int v4] (cB D ct ad x_fed x_tk x_col x_line x_rcells x_rsize x_len x_cuts x_bare x_place x_lA x_lB x_lC x_fX x_fY x_sX x_sY x_made x_fsize x_psize x_over x_touch x_most x_mU x_mV x_area x_board a_tape a_letters a_oneSided a_free a_ends a_crowds a_wmade a_firsts a_widths a_heights a_places a_next a_pnear a_table a_overlaps a_drawers a_kept a_items a_numbers a_marks a_near a_figures a_covered a_pcells a_matrix)) (va_Ql (fun z (_ : Unit) => z = r) (fun _ t => cP D ct ad x_fed x_tk x_col x_line x_rcells x_rsize x_len x_cuts x_bare x_place x_lA x_lB x_lC x_fX x_fY x_sX x_sY x_made x_fsize x_psize x_over x_touch x_most x_mU x_mV x_area x_board a_tape a_letters a_oneSided a_free a_ends a_crowds a_wmade a_firsts a_widths a_heights a_places a_next a_pnear a_table a_overlaps a_drawers a_kept a_items a_numbers a_marks a_near a_figures a_covered a_pcells a_matrix t.heap) (cA ad)) 0 0 (cA ad) := by
  refine met_s (y := yX1_laid) (rm := rmm 0 0) (by decide) (Nat.le_of_ble_eq_true rfl) ?_
  intro p e s m below meth c hx hb hr hw hown hlocks _ hml hB ls hl
  obtain ⟨hN, hK, hP⟩ := hB
  replace hl : lv_has ls 9 [(0, .ref (ad 19)), (1, .int v1), (2, .int v2), (3, .int v3), (4, .int v4)] := hl
  have hS : va_S (cA ad) s.heap s.heap [] := va_S.rf
  generalize (([.ref (ad 19), .int v1, .int v2, .int v3, .int v4] : List Value).toArray) = av at hw ⊢
  rw [fi_laid] at h
  refine lv_aload_n hx hb dX1_laid_0 rfl (lv_at hl 0 rfl) ?_
  refine cg_FI_5 hx hb hw hown hK hP dX1_laid_1 ?_
  refine lv_iload_n hx hb dX1_laid_4 rfl (lv_at hl 2 rfl) ?_
  obtain ⟨hin, h⟩ := ck_s h
  refine cd_places hx hb hK hP hin dX1_laid_5 ?_
  refine lv_bipush (v := 7) hx hb dX1_laid_6 kb_7 ?_
  refine lv_iand hx hb dX1_laid_8 ?_
  refine lv_aload_n hx hb dX1_laid_9 rfl (lv_at hl 0 rfl) ?_
  refine cg_FI_1 hx hb hw hown hK hP dX1_laid_10 ?_
  refine lv_iload_n hx hb dX1_laid_13 rfl (lv_at hl 1 rfl) ?_
  obtain ⟨hin, h⟩ := ck_s h
  refine cd_firsts hx hb hK hP hin dX1_laid_14 ?_
  refine lv_isub hx hb dX1_laid_15 ?_
  obtain ⟨v5_4, ev5_4, h⟩ := nm_s h
  refine nmI ev5_4 ?_
  refine lv_istore hx hb dX1_laid_16 hl (Nat.le_of_ble_eq_true rfl) (lv' := [(5, .int v5_4), (0, .ref (ad 19)), (1, .int v1), (2, .int v2), (3, .int v3), (4, .int v4)]) rfl (fun ls hl => ?_)
  refine lv_aload_n hx hb dX1_laid_18 rfl (lv_at hl 1 rfl) ?_
  refine cg_FI_5 hx hb hw hown hK hP dX1_laid_19 ?_
  refine lv_iload_n hx hb dX1_laid_22 rfl (lv_at hl 3 rfl) ?_
  obtain ⟨hin, h⟩ := ck_s h
  refine cd_places hx hb hK hP hin dX1_laid_23 ?_
  refine lv_iconst (v := 3) hx hb dX1_laid_24 ki_3 ?_
  refine lv_ishr hx hb dX1_laid_25 ?_
  refine nmI (v := ir (a_places v2.toNatClampNeg) 3) rfl ?_
  obtain ⟨v6_5, ev6_5, h⟩ := nm_s h
  refine nmI ev6_5 ?_
  refine lv_istore hx hb dX1_laid_26 hl (Nat.le_of_ble_eq_true rfl) (lv' := [(6, .int v6_5), (5, .int v5_4), (0, .ref (ad 19)), (1, .int v1), (2, .int v2), (3, .int v3), (4, .int v4)]) rfl (fun ls hl => ?_)
  refine lv_iload hx hb dX1_laid_28 (lv_at hl 1 rfl) ?_
  refine lv_if_lt hx hb dX1_laid_30 (tgt := 60) rfl (fun hc => ?_) (fun hc => ?_)
  · replace h := ifp h hc
    refine lv_lconst (v := 0) hx hb dX1_laid_60 kl_0 ?_
    replace h := Option.some.inj h
    subst h
    exact rc_l hx hb hr hlocks hS dX1_laid_61 rfl hP
  · replace h := ifn h hc
    refine lv_iload hx hb dX1_laid_33 (lv_at hl 1 rfl) ?_
    refine lv_aload_n hx hb dX1_laid_35 rfl (lv_at hl 2 rfl) ?_
    refine cg_FI_2 hx hb hw hown hK hP dX1_laid_36 ?_
    refine lv_iload_n hx hb dX1_laid_39 rfl (lv_at hl 3 rfl) ?_
    obtain ⟨hin, h⟩ := ck_s h
    refine cd_widths hx hb hK hP hin dX1_laid_40 ?_
    refine lv_iadd hx hb dX1_laid_41 ?_
    refine lv_iload_n hx hb dX1_laid_42 rfl (lv_at hl 5 rfl) ?_
    refine lv_icmp_gt hx hb dX1_laid_43 (tgt := 60) rfl (fun hc => ?_) (fun hc => ?_)
    · replace h := ifp h hc
      refine lv_lconst (v := 0) hx hb dX1_laid_60 kl_0 ?_
      replace h := Option.some.inj h
      subst h
      exact rc_l hx hb hr hlocks hS dX1_laid_61 rfl hP
    · replace h := ifn h hc
      refine lv_iload hx hb dX1_laid_46 (lv_at hl 0 rfl) ?_
      refine lv_aload_n hx hb dX1_laid_48 rfl (lv_at hl 2 rfl) ?_
      refine cg_FI_3 hx hb hw hown hK hP dX1_laid_49 ?_
      refine lv_iload_n hx hb dX1_laid_52 rfl (lv_at hl 3 rfl) ?_
      obtain ⟨hin, h⟩ := ck_s h
      refine cd_heights hx hb hK hP hin dX1_laid_53 ?_
      refine lv_iadd hx hb dX1_laid_54 ?_
      refine lv_iload hx hb dX1_laid_55 (lv_at hl 6 rfl) ?_
      refine lv_icmp_le hx hb dX1_laid_57 (tgt := 62) rfl (fun hc => ?_) (fun hc => ?_)
      · replace h := ifp h hc
        refine lv_aload_n hx hb dX1_laid_62 rfl (lv_at hl 2 rfl) ?_
        refine cg_FI_0 hx hb hw hown hK hP dX1_laid_63 ?_
        refine lv_iload_n hx hb dX1_laid_66 rfl (lv_at hl 3 rfl) ?_
        obtain ⟨hin, h⟩ := ck_s h
        refine cd_figures hx hb hK hP hin dX1_laid_67 ?_
        refine lv_bipush (v := 8) hx hb dX1_laid_68 kb_8 ?_
        refine lv_iload hx hb dX1_laid_70 (lv_at hl 0 rfl) ?_
        refine lv_imul hx hb dX1_laid_72 ?_
        refine lv_iload hx hb dX1_laid_73 (lv_at hl 1 rfl) ?_
        refine lv_iadd hx hb dX1_laid_75 ?_
        refine lv_lshl hx hb (v := sl (a_figures v1.toNatClampNeg) ((8 * v6_5) + v5_4)) dX1_laid_76 rfl ?_
        obtain ⟨v7_6, ev7_6, h⟩ := nm_s h
        refine nmL ev7_6 ?_
        refine lv_lstore hx hb dX1_laid_77 hl (Nat.le_of_ble_eq_true rfl) (lv' := [(7, .long v7_6), (6, .int v6_5), (5, .int v5_4), (0, .ref (ad 19)), (1, .int v1), (2, .int v2), (3, .int v3), (4, .int v4)]) rfl (fun ls hl => ?_)
        refine lv_lload hx hb dX1_laid_79 (lv_at hl 0 rfl) ?_
        refine lv_aload_n hx hb dX1_laid_81 rfl (lv_at hl 3 rfl) ?_
        refine cg_FI_4 hx hb hw hown hK hP dX1_laid_82 ?_
        refine lv_iload_n hx hb dX1_laid_85 rfl (lv_at hl 5 rfl) ?_
        obtain ⟨hin, h⟩ := ck_s h
        refine cd_covered hx hb hK hP hin dX1_laid_86 ?_
        refine lv_land hx hb dX1_laid_87 ?_
        refine lv_lconst (v := 0) hx hb dX1_laid_88 kl_0 ?_
        refine W.lcmp hx hb dX1_laid_89 ?_
        refine lv_if_ne hx hb dX1_laid_90 (tgt := 98) rfl (fun hc => ?_) (fun hc => ?_)
        · replace h := ifn h (fun q => hc ((lg_cmp_eq _ _).mpr q))
          refine lv_lconst (v := 0) hx hb dX1_laid_98 kl_0 ?_
          replace h := Option.some.inj h
          subst h
          exact rc_l hx hb hr hlocks hS dX1_laid_99 rfl hP
        · replace h := ifp h ((lg_cmp_eq _ _).mp hc)
          refine lv_lload hx hb dX1_laid_93 (lv_at hl 0 rfl) ?_
          refine lv_goto hx hb dX1_laid_95 (tgt := 99) rfl ?_
          replace h := Option.some.inj h
          subst h
          exact rc_l hx hb hr hlocks hS dX1_laid_99 rfl hP
      · replace h := ifn h hc
        refine lv_lconst (v := 0) hx hb dX1_laid_60 kl_0 ?_
        replace h := Option.some.inj h
        subst h
        exact rc_l hx hb hr hlocks hS dX1_laid_61 rfl hP
noncomputable def fi_search_J178 (k46 : Int32 → Int32 → Int32 → Int32 → (Nat → Int64) → (Nat → Int32) → (Nat → Int32) → Option (Int32 × Int32 × (Nat → Int64) × (Nat → Int32) × (Nat → Int32) × (Nat → Int32) × (Nat → Int64) × (Nat → Int32) × (Nat → Int32))) (x_rsize : Int32) (a_items : Nat → Int64) (v1 : Int32) (v2 : Int32) (v4 : Int32) (v5 : Int32) (v6 : Int32) (v7 : Int32) (x_fsize : Int32) (a_figures : Nat → Int64) (a_firsts : Nat → Int32) (a_widths : Nat → Int32) (a_heights : Nat → Int32) (a_covered : Nat → Int64) (a_places : Nat → Int32) (a_next : Nat → Int32)  : Option (Int32 × Int32 × (Nat → Int64) × (Nat → Int32) × (Nat → Int32) × (Nat → Int32) × (Nat → Int64) × (Nat → Int32) × (Nat → Int32)) :=
  nm (v7 + Int32.ofInt 1) fun v7_1 =>
  k46 v4 v5 v6 v7_1 a_covered a_places a_next
noncomputable def fi_search_B46 (v1 : Int32) (v2 : Int32) (x_rsize : Int32) (a_items : Nat → Int64) (x_fsize : Int32) (a_figures : Nat → Int64) (a_firsts : Nat → Int32) (a_widths : Nat → Int32) (a_heights : Nat → Int32)  (k46 : Int32 → Int32 → Int32 → Int32 → (Nat → Int64) → (Nat → Int32) → (Nat → Int32) → Option (Int32 × Int32 × (Nat → Int64) × (Nat → Int32) × (Nat → Int32) × (Nat → Int32) × (Nat → Int64) × (Nat → Int32) × (Nat → Int32))) (v4 : Int32) (v5 : Int32) (v6 : Int32) (v7 : Int32) (a_covered : Nat → Int64) (a_places : Nat → Int32) (a_next : Nat → Int32) : Option (Int32 × Int32 × (Nat → Int64) × (Nat → Int32) × (Nat → Int32) × (Nat → Int32) × (Nat → Int64) × (Nat → Int32) × (Nat → Int32)) :=
  if (40002 : Int32) < v7 then (some (v6, x_fsize, a_figures, a_firsts, a_widths, a_heights, a_covered, a_places, a_next)) else
  if v4 < 0 then (some (v6, x_fsize, a_figures, a_firsts, a_widths, a_heights, a_covered, a_places, a_next)) else
  ck v4 36 <|
  nm (a_next v4.toNatClampNeg : Int32) fun v8_2 =>
  if v8_2 < x_fsize then (nm (v8_2 + 1 : Int32) fun w_3 =>
  ck v4 36 <|
  nm (upd a_next v4.toNatClampNeg w_3) fun a_next_4 =>
  nm (v5 + Int32.ofInt 1) fun v5_5 =>
  if v5_5 ≤ 20000 then (bd1 (fi_laid v8_2 v4 v1 v2 a_figures a_firsts a_widths a_heights a_covered a_places) fun r_6 =>
  ck v4 36 <|
  if (r_6 ||| (a_covered v4.toNatClampNeg)) = (((-1) : Int64)) then (nm (v6 + Int32.ofInt 1) fun v6_14 =>
  fi_search_J178 k46 x_rsize a_items v1 v2 v4 v5_5 v6_14 v7 x_fsize a_figures a_firsts a_widths a_heights a_covered a_places a_next_4) else
  if r_6 = 0 then (fi_search_J178 k46 x_rsize a_items v1 v2 v4 v5_5 v6 v7 x_fsize a_figures a_firsts a_widths a_heights a_covered a_places a_next_4) else
  if 36 ≤ (v4 + 1) then (fi_search_J178 k46 x_rsize a_items v1 v2 v4 v5_5 v6 v7 x_fsize a_figures a_firsts a_widths a_heights a_covered a_places a_next_4) else
  nm (v4 + Int32.ofInt 1) fun v4_8 =>
  nm (v4_8 - 1 : Int32) fun i_9 =>
  ck i_9 36 <|
  bd3 (fi_open v4_8 (r_6 ||| (a_covered i_9.toNatClampNeg)) a_covered a_places a_next_4) fun a_covered_10 a_places_11 a_next_12 =>
  fi_search_J178 k46 x_rsize a_items v1 v2 v4_8 v5_5 v6 v7 x_fsize a_figures a_firsts a_widths a_heights a_covered_10 a_places_11 a_next_12) else
  some ((-1), x_fsize, a_figures, a_firsts, a_widths, a_heights, a_covered, a_places, a_next_4)) else
  nm (v4 + Int32.ofInt (-1)) fun v4_15 =>
  fi_search_J178 k46 x_rsize a_items v1 v2 v4_15 v5 v6 v7 x_fsize a_figures a_firsts a_widths a_heights a_covered a_places a_next
noncomputable def fi_search (v1 : Int32) (v2 : Int32) (x_rsize : Int32) (a_items : Nat → Int64) (x_fsize : Int32) (a_figures : Nat → Int64) (a_firsts : Nat → Int32) (a_widths : Nat → Int32) (a_heights : Nat → Int32) (a_covered : Nat → Int64) (a_places : Nat → Int32) (a_next : Nat → Int32) : Option (Int32 × Int32 × (Nat → Int64) × (Nat → Int32) × (Nat → Int32) × (Nat → Int32) × (Nat → Int64) × (Nat → Int32) × (Nat → Int32)) :=
  bd5 (fi_measure x_rsize a_items x_fsize a_figures a_firsts a_widths a_heights) fun x_fsize_16 a_figures_17 a_firsts_18 a_widths_19 a_heights_20 =>
  bd3 (fi_open 0 (((su (255 : Int64) (8 - v1)) * (su (72340172838076673 : Int64) (8 * (8 - v2)))) ^^^ (((-1) : Int64))) a_covered a_places a_next) fun a_covered_22 a_places_23 a_next_24 =>
  fl7 (fi_search_B46 v1 v2 x_rsize a_items x_fsize_16 a_figures_17 a_firsts_18 a_widths_19 a_heights_20) FU 0 0 0 0 a_covered_22 a_places_23 a_next_24
set_option maxHeartbeats 4000000 in
set_option maxRecDepth 100000 in
theorem c_fi_search (l : Launch) (D : va_G) (ct : Nat → ClassId) (ad : Nat → Nat) (hI : cI ad) {x_fed x_tk x_col x_line x_rcells x_rsize x_len x_cuts x_bare x_place x_lA x_lB x_lC x_fX x_fY x_sX x_sY x_made x_fsize x_psize x_over x_touch x_most x_mU x_mV x_area : Int32} {x_board : Int64} {a_tape a_letters a_oneSided a_free a_ends a_crowds a_wmade a_firsts a_widths a_heights a_places a_next a_pnear a_table a_overlaps : Nat → Int32} {a_drawers a_kept a_items a_numbers a_marks a_near a_figures a_covered a_pcells a_matrix : Nat → Int64} (v1 : Int32) (v2 : Int32) (r : Int32) (z_x_fsize : Int32) (z_a_figures : Nat → Int64) (z_a_firsts : Nat → Int32) (z_a_widths : Nat → Int32) (z_a_heights : Nat → Int32) (z_a_covered : Nat → Int64) (z_a_places : Nat → Int32) (z_a_next : Nat → Int32) (h : fi_search v1 v2 x_rsize a_items x_fsize a_figures a_firsts a_widths a_heights a_covered a_places a_next = some (r, z_x_fsize, z_a_figures, z_a_firsts, z_a_widths, z_a_heights, z_a_covered, z_a_places, z_a_next)) : Met l yX1_search (wm yX1_search cX1_search 11 (some .int)) (rmm 3 66) (va_Pc [.ref (ad 19), .int v1, .int v2, .ref (ad 5)] (cB D ct ad x_fed x_tk x_col x_line x_rcells x_rsize x_len x_cuts x_bare x_place x_lA x_lB x_lC x_fX x_fY x_sX x_sY x_made x_fsize x_psize x_over x_touch x_most x_mU x_mV x_area x_board a_tape a_letters a_oneSided a_free a_ends a_crowds a_wmade a_firsts a_widths a_heights a_places a_next a_pnear a_table a_overlaps a_drawers a_kept a_items a_numbers a_marks a_near a_figures a_covered a_pcells a_matrix)) (va_Qi (fun z (_ : Unit) => z = r) (fun _ t => cP D ct ad x_fed x_tk x_col x_line x_rcells x_rsize x_len x_cuts x_bare x_place x_lA x_lB x_lC x_fX x_fY x_sX x_sY x_made z_x_fsize x_psize x_over x_touch x_most x_mU x_mV x_area x_board a_tape a_letters a_oneSided a_free a_ends a_crowds a_wmade z_a_firsts z_a_widths z_a_heights z_a_places z_a_next a_pnear a_table a_overlaps a_drawers a_kept a_items a_numbers a_marks a_near z_a_figures z_a_covered a_pcells a_matrix t.heap) (cA ad)) 0 0 (cA ad) := by
  refine met_s (y := yX1_search) (rm := rmm 3 66) (by decide) (Nat.le_of_ble_eq_true rfl) ?_
  intro p e s m below meth c hx hb hr hw hown hlocks _ hml hB ls hl
  obtain ⟨hN, hK, hP⟩ := hB
  replace hl : lv_has ls 11 [(0, .ref (ad 19)), (1, .int v1), (2, .int v2), (3, .ref (ad 5))] := hl
  have hS : va_S (cA ad) s.heap s.heap [] := va_S.rf
  generalize (([.ref (ad 19), .int v1, .int v2, .ref (ad 5)] : List Value).toArray) = av at hw ⊢
  rw [fi_search] at h
  have hL46 : ∀ (v1 : Int32), ∀ (v2 : Int32), ∀ (x_rsize : Int32), ∀ (a_items : Nat → Int64), ∀ (x_fsize : Int32), ∀ (a_figures : Nat → Int64), ∀ (a_firsts : Nat → Int32), ∀ (a_widths : Nat → Int32), ∀ (a_heights : Nat → Int32), ∀ (n46 : Nat) (H : Heap) (locs : List Loc) (ls : Array Slot) (v4 : Int32) (v5 : Int32) (v6 : Int32) (v7 : Int32) (a_covered : Nat → Int64) (a_places : Nat → Int32) (a_next : Nat → Int32), lv_has ls 11 [(0, .ref (ad 19)), (1, .int v1), (2, .int v2), (4, .int v4), (5, .int v5), (6, .int v6), (7, .int v7)] → cP D ct ad x_fed x_tk x_col x_line x_rcells x_rsize x_len x_cuts x_bare x_place x_lA x_lB x_lC x_fX x_fY x_sX x_sY x_made x_fsize x_psize x_over x_touch x_most x_mU x_mV x_area x_board a_tape a_letters a_oneSided a_free a_ends a_crowds a_wmade a_firsts a_widths a_heights a_places a_next a_pnear a_table a_overlaps a_drawers a_kept a_items a_numbers a_marks a_near a_figures a_covered a_pcells a_matrix H → va_S (cA ad) s.heap H locs → fl7 (fi_search_B46 v1 v2 x_rsize a_items x_fsize a_figures a_firsts a_widths a_heights) n46 v4 v5 v6 v7 a_covered a_places a_next = some (r, z_x_fsize, z_a_figures, z_a_firsts, z_a_widths, z_a_heights, z_a_covered, z_a_places, z_a_next) → W p l e (rmm 3 66) s m av below meth c H locs 0 0 (MQ below (va_Qi (fun z (_ : Unit) => z = r) (fun _ t => cP D ct ad x_fed x_tk x_col x_line x_rcells x_rsize x_len x_cuts x_bare x_place x_lA x_lB x_lC x_fX x_fY x_sX x_sY x_made z_x_fsize x_psize x_over x_touch x_most x_mU x_mV x_area x_board a_tape a_letters a_oneSided a_free a_ends a_crowds a_wmade z_a_firsts z_a_widths z_a_heights z_a_places z_a_next a_pnear a_table a_overlaps a_drawers a_kept a_items a_numbers a_marks a_near z_a_figures z_a_covered a_pcells a_matrix t.heap) (cA ad)) av s 0 0 (cA ad)) (F0 m 46 ls []) := by
    intro v1 v2 x_rsize a_items x_fsize a_figures a_firsts a_widths a_heights n46
    induction n46 with
    | zero => intro H locs ls v4 v5 v6 v7 a_covered a_places a_next hl hP hS h; cases h
    | succ n46 ih46 =>
      intro H locs ls v4 v5 v6 v7 a_covered a_places a_next hl hP hS h
      replace h : fi_search_B46 v1 v2 x_rsize a_items x_fsize a_figures a_firsts a_widths a_heights (fl7 (fi_search_B46 v1 v2 x_rsize a_items x_fsize a_figures a_firsts a_widths a_heights) n46) v4 v5 v6 v7 a_covered a_places a_next = some (r, z_x_fsize, z_a_figures, z_a_firsts, z_a_widths, z_a_heights, z_a_covered, z_a_places, z_a_next) := h
      generalize fl7 (fi_search_B46 v1 v2 x_rsize a_items x_fsize a_figures a_firsts a_widths a_heights) n46 = k46 at h ih46
      have hJ178 : ∀ (H : Heap) (locs : List Loc) (ls : Array Slot) (v4 : Int32) (v5 : Int32) (v6 : Int32) (v7 : Int32) (a_covered : Nat → Int64) (a_places : Nat → Int32) (a_next : Nat → Int32) , lv_has ls 11 [(0, .ref (ad 19)), (1, .int v1), (2, .int v2), (4, .int v4), (5, .int v5), (6, .int v6), (7, .int v7)] → cP D ct ad x_fed x_tk x_col x_line x_rcells x_rsize x_len x_cuts x_bare x_place x_lA x_lB x_lC x_fX x_fY x_sX x_sY x_made x_fsize x_psize x_over x_touch x_most x_mU x_mV x_area x_board a_tape a_letters a_oneSided a_free a_ends a_crowds a_wmade a_firsts a_widths a_heights a_places a_next a_pnear a_table a_overlaps a_drawers a_kept a_items a_numbers a_marks a_near a_figures a_covered a_pcells a_matrix H → va_S (cA ad) s.heap H locs → fi_search_J178 k46 x_rsize a_items v1 v2 v4 v5 v6 v7 x_fsize a_figures a_firsts a_widths a_heights a_covered a_places a_next = some (r, z_x_fsize, z_a_figures, z_a_firsts, z_a_widths, z_a_heights, z_a_covered, z_a_places, z_a_next) → W p l e (rmm 3 66) s m av below meth c H locs 0 0 (MQ below (va_Qi (fun z (_ : Unit) => z = r) (fun _ t => cP D ct ad x_fed x_tk x_col x_line x_rcells x_rsize x_len x_cuts x_bare x_place x_lA x_lB x_lC x_fX x_fY x_sX x_sY x_made z_x_fsize x_psize x_over x_touch x_most x_mU x_mV x_area x_board a_tape a_letters a_oneSided a_free a_ends a_crowds a_wmade z_a_firsts z_a_widths z_a_heights z_a_places z_a_next a_pnear a_table a_overlaps a_drawers a_kept a_items a_numbers a_marks a_near z_a_figures z_a_covered a_pcells a_matrix t.heap) (cA ad)) av s 0 0 (cA ad)) (F0 m 178 ls []) := by
        intro H locs ls v4 v5 v6 v7 a_covered a_places a_next  hl hP hS h
        rw [fi_search_J178] at h
        obtain ⟨v7_26, ev7_26, h⟩ := nm_s h
        refine lv_iinc hx hb dX1_search_178 hl (k := 6) rfl ev7_26.symm (Nat.le_of_ble_eq_true rfl) (lv' := [(7, .int v7_26), (0, .ref (ad 19)), (1, .int v1), (2, .int v2), (4, .int v4), (5, .int v5), (6, .int v6)]) rfl (fun ls hl => ?_)
        refine lv_goto hx hb dX1_search_181 (tgt := 46) rfl ?_
        exact ih46 _ _ _ v4 v5 v6 v7_26 a_covered a_places a_next (lv_sub hl [1, 2, 3, 4, 5, 6, 0] rfl) hP hS h
      rw [fi_search_B46] at h
      refine lv_iload hx hb dX1_search_46 (lv_at hl 6 rfl) ?_
      refine lv_ldc hx hb hown (hw _ tw_40_1) dX1_search_48 ?_
      refine lv_icmp_gt hx hb dX1_search_50 (tgt := 184) rfl (fun hc => ?_) (fun hc => ?_)
      · replace h := ifp h hc
        refine lv_iload hx hb dX1_search_184 (lv_at hl 5 rfl) ?_
        simp only [Option.some.injEq, Prod.mk.injEq] at h
        obtain ⟨rfl, rfl, rfl, rfl, rfl, rfl, rfl, rfl, rfl⟩ := h
        exact rc_i hx hb hr hlocks hS dX1_search_186 rfl hP
      · replace h := ifn h hc
        refine lv_iload hx hb dX1_search_53 (lv_at hl 3 rfl) ?_
        refine lv_if_lt hx hb dX1_search_55 (tgt := 184) rfl (fun hc => ?_) (fun hc => ?_)
        · replace h := ifp h hc
          refine lv_iload hx hb dX1_search_184 (lv_at hl 5 rfl) ?_
          simp only [Option.some.injEq, Prod.mk.injEq] at h
          obtain ⟨rfl, rfl, rfl, rfl, rfl, rfl, rfl, rfl, rfl⟩ := h
          exact rc_i hx hb hr hlocks hS dX1_search_186 rfl hP
        · replace h := ifn h hc
          refine lv_aload_n hx hb dX1_search_58 rfl (lv_at hl 0 rfl) ?_
          refine cg_FI_6 hx hb hw hown hK hP dX1_search_59 ?_
          refine lv_iload hx hb dX1_search_62 (lv_at hl 3 rfl) ?_
          obtain ⟨hin, h⟩ := ck_s h
          refine cd_next hx hb hK hP hin dX1_search_64 ?_
          obtain ⟨v8_27, ev8_27, h⟩ := nm_s h
          refine nmI ev8_27 ?_
          refine lv_istore hx hb dX1_search_65 hl (Nat.le_of_ble_eq_true rfl) (lv' := [(8, .int v8_27), (0, .ref (ad 19)), (1, .int v1), (2, .int v2), (4, .int v4), (5, .int v5), (6, .int v6), (7, .int v7)]) rfl (fun ls hl => ?_)
          refine lv_iload hx hb dX1_search_67 (lv_at hl 0 rfl) ?_
          refine lv_aload_n hx hb dX1_search_69 rfl (lv_at hl 1 rfl) ?_
          refine cg_FI_7 hx hb hw hown hK hP dX1_search_70 ?_
          refine lv_icmp_lt hx hb dX1_search_73 (tgt := 82) rfl (fun hc => ?_) (fun hc => ?_)
          · replace h := ifp h hc
            refine lv_aload_n hx hb dX1_search_82 rfl (lv_at hl 1 rfl) ?_
            refine cg_FI_6 hx hb hw hown hK hP dX1_search_83 ?_
            refine lv_iload hx hb dX1_search_86 (lv_at hl 4 rfl) ?_
            refine lv_iload hx hb dX1_search_88 (lv_at hl 0 rfl) ?_
            refine lv_iconst (v := 1) hx hb dX1_search_90 ki_1 ?_
            refine lv_iadd hx hb dX1_search_91 ?_
            obtain ⟨w_28, ew_28, h⟩ := nm_s h
            refine nmI ew_28 ?_
            obtain ⟨hin, h⟩ := ck_s h
            obtain ⟨a_next_29, ea_next_29, h⟩ := nm_s h
            refine cs_next hx hb hK hP hI hS hin ea_next_29 dX1_search_92 (fun H locs hP hS => ?_)
            obtain ⟨v5_30, ev5_30, h⟩ := nm_s h
            refine lv_iinc hx hb dX1_search_93 hl (k := 5) rfl ev5_30.symm (Nat.le_of_ble_eq_true rfl) (lv' := [(5, .int v5_30), (8, .int v8_27), (0, .ref (ad 19)), (1, .int v1), (2, .int v2), (4, .int v4), (6, .int v6), (7, .int v7)]) rfl (fun ls hl => ?_)
            refine lv_iload hx hb dX1_search_96 (lv_at hl 0 rfl) ?_
            refine lv_sipush (v := 20000) hx hb dX1_search_98 ks_20000 ?_
            refine lv_icmp_le hx hb dX1_search_101 (tgt := 106) rfl (fun hc => ?_) (fun hc => ?_)
            · replace h := ifp h hc
              refine lv_aload_n hx hb dX1_search_106 rfl (lv_at hl 2 rfl) ?_
              refine lv_iload hx hb dX1_search_107 (lv_at hl 1 rfl) ?_
              refine lv_iload hx hb dX1_search_109 (lv_at hl 5 rfl) ?_
              refine lv_iload_n hx hb dX1_search_111 rfl (lv_at hl 3 rfl) ?_
              refine lv_iload_n hx hb dX1_search_112 rfl (lv_at hl 4 rfl) ?_
              obtain ⟨r_31, hr_32, h⟩ := bd1_s h
              refine hv_l hx hb hml hown hw cB_bl (cB_of hN hK hP) (cr_FI hK hP) (c_fi_laid l D ct ad hI v8_27 v4 v1 v2 r_31 hr_32) g_RX1_57 ⟨rfl, hd_X1_laid⟩ (rest := []) hl.1 hS (fun q h => h) dX1_search_113 rfl rfl ⟨Nat.le_of_ble_eq_true rfl, Nat.le_of_ble_eq_true rfl⟩ rfl rfl (Nat.le_of_ble_eq_true rfl) ⟨Nat.zero_le _, Nat.zero_le _⟩ (fun H locs hP _ hS => ?_)
              refine lv_lstore hx hb dX1_search_116 hl (Nat.le_of_ble_eq_true rfl) (lv' := [(9, .long r_31), (5, .int v5_30), (8, .int v8_27), (0, .ref (ad 19)), (1, .int v1), (2, .int v2), (4, .int v4), (6, .int v6), (7, .int v7)]) rfl (fun ls hl => ?_)
              refine lv_lload hx hb dX1_search_118 (lv_at hl 0 rfl) ?_
              refine lv_aload_n hx hb dX1_search_120 rfl (lv_at hl 3 rfl) ?_
              refine cg_FI_4 hx hb hw hown hK hP dX1_search_121 ?_
              refine lv_iload hx hb dX1_search_124 (lv_at hl 6 rfl) ?_
              obtain ⟨hin, h⟩ := ck_s h
              refine cd_covered hx hb hK hP hin dX1_search_126 ?_
              refine lv_lor hx hb dX1_search_127 ?_
              refine lv_ldc2 hx hb hown (hw _ tw_40_0) dX1_search_128 ?_
              refine W.lcmp hx hb dX1_search_131 ?_
              refine lv_if_ne hx hb dX1_search_132 (tgt := 141) rfl (fun hc => ?_) (fun hc => ?_)
              · replace h := ifn h (fun q => hc ((lg_cmp_eq _ _).mpr q))
                refine lv_lload hx hb dX1_search_141 (lv_at hl 0 rfl) ?_
                refine lv_lconst (v := 0) hx hb dX1_search_143 kl_0 ?_
                refine W.lcmp hx hb dX1_search_144 ?_
                refine lv_if_eq hx hb dX1_search_145 (tgt := 178) rfl (fun hc => ?_) (fun hc => ?_)
                · replace h := ifp h ((lg_cmp_eq _ _).mp hc)
                  exact hJ178 _ _ _ v4 v5_30 v6 v7 a_covered a_places a_next_29 (lv_sub hl [3, 4, 5, 6, 1, 7, 8] rfl) hP hS h
                · replace h := ifn h (fun q => hc ((lg_cmp_eq _ _).mpr q))
                  refine lv_iload hx hb dX1_search_148 (lv_at hl 6 rfl) ?_
                  refine lv_iconst (v := 1) hx hb dX1_search_150 ki_1 ?_
                  refine lv_iadd hx hb dX1_search_151 ?_
                  refine lv_bipush (v := 36) hx hb dX1_search_152 kb_36 ?_
                  refine lv_icmp_ge hx hb dX1_search_154 (tgt := 178) rfl (fun hc => ?_) (fun hc => ?_)
                  · replace h := ifp h hc
                    exact hJ178 _ _ _ v4 v5_30 v6 v7 a_covered a_places a_next_29 (lv_sub hl [3, 4, 5, 6, 1, 7, 8] rfl) hP hS h
                  · replace h := ifn h hc
                    obtain ⟨v4_33, ev4_33, h⟩ := nm_s h
                    refine lv_iinc hx hb dX1_search_157 hl (k := 6) rfl ev4_33.symm (Nat.le_of_ble_eq_true rfl) (lv' := [(4, .int v4_33), (9, .long r_31), (5, .int v5_30), (8, .int v8_27), (0, .ref (ad 19)), (1, .int v1), (2, .int v2), (6, .int v6), (7, .int v7)]) rfl (fun ls hl => ?_)
                    refine lv_aload_n hx hb dX1_search_160 rfl (lv_at hl 4 rfl) ?_
                    refine lv_iload hx hb dX1_search_161 (lv_at hl 0 rfl) ?_
                    refine lv_lload hx hb dX1_search_163 (lv_at hl 1 rfl) ?_
                    refine lv_aload_n hx hb dX1_search_165 rfl (lv_at hl 4 rfl) ?_
                    refine cg_FI_4 hx hb hw hown hK hP dX1_search_166 ?_
                    refine lv_iload hx hb dX1_search_169 (lv_at hl 0 rfl) ?_
                    refine lv_iconst (v := 1) hx hb dX1_search_171 ki_1 ?_
                    refine lv_isub hx hb dX1_search_172 ?_
                    obtain ⟨i_34, ei_34, h⟩ := nm_s h
                    refine nmI ei_34 ?_
                    obtain ⟨hin, h⟩ := ck_s h
                    refine cd_covered hx hb hK hP hin dX1_search_173 ?_
                    refine lv_lor hx hb dX1_search_174 ?_
                    obtain ⟨a_covered_35, a_places_36, a_next_37, hr_38, h⟩ := bd3_s h
                    refine hv_v hx hb hml hown hw cB_bl (cB_of hN hK hP) (cr_FI hK hP) (c_fi_open l D ct ad hI v4_33 (r_31 ||| (a_covered i_34.toNatClampNeg)) a_covered_35 a_places_36 a_next_37 hr_38) g_RX1_48 ⟨rfl, hd_X1_open⟩ (rest := []) hl.1 hS (fun q h => h) dX1_search_175 rfl rfl ⟨Nat.le_of_ble_eq_true rfl, Nat.le_of_ble_eq_true rfl⟩ rfl rfl (Nat.le_of_ble_eq_true rfl) ⟨Nat.zero_le _, Nat.zero_le _⟩ (fun H locs hP _ hS => ?_)
                    exact hJ178 _ _ _ v4_33 v5_30 v6 v7 a_covered_35 a_places_36 a_next_37 (lv_sub hl [4, 5, 6, 0, 2, 7, 8] rfl) hP hS h
              · replace h := ifp h ((lg_cmp_eq _ _).mp hc)
                obtain ⟨v6_39, ev6_39, h⟩ := nm_s h
                refine lv_iinc hx hb dX1_search_135 hl (k := 7) rfl ev6_39.symm (Nat.le_of_ble_eq_true rfl) (lv' := [(6, .int v6_39), (9, .long r_31), (5, .int v5_30), (8, .int v8_27), (0, .ref (ad 19)), (1, .int v1), (2, .int v2), (4, .int v4), (7, .int v7)]) rfl (fun ls hl => ?_)
                refine lv_goto hx hb dX1_search_138 (tgt := 178) rfl ?_
                exact hJ178 _ _ _ v4 v5_30 v6_39 v7 a_covered a_places a_next_29 (lv_sub hl [4, 5, 6, 7, 2, 0, 8] rfl) hP hS h
            · replace h := ifn h hc
              refine lv_iconst (v := (-1)) hx hb dX1_search_104 ki_m1 ?_
              simp only [Option.some.injEq, Prod.mk.injEq] at h
              obtain ⟨rfl, rfl, rfl, rfl, rfl, rfl, rfl, rfl, rfl⟩ := h
              exact rc_i hx hb hr hlocks hS dX1_search_105 rfl hP
          · replace h := ifn h hc
            obtain ⟨v4_40, ev4_40, h⟩ := nm_s h
            refine lv_iinc hx hb dX1_search_76 hl (k := 4) rfl ev4_40.symm (Nat.le_of_ble_eq_true rfl) (lv' := [(4, .int v4_40), (8, .int v8_27), (0, .ref (ad 19)), (1, .int v1), (2, .int v2), (5, .int v5), (6, .int v6), (7, .int v7)]) rfl (fun ls hl => ?_)
            refine lv_goto hx hb dX1_search_79 (tgt := 178) rfl ?_
            exact hJ178 _ _ _ v4_40 v5 v6 v7 a_covered a_places a_next (lv_sub hl [2, 3, 4, 0, 5, 6, 7] rfl) hP hS h
  refine lv_aload_n hx hb dX1_search_0 rfl (lv_at hl 0 rfl) ?_
  refine lv_aload_n hx hb dX1_search_1 rfl (lv_at hl 3 rfl) ?_
  obtain ⟨x_fsize_41, a_figures_42, a_firsts_43, a_widths_44, a_heights_45, hr_46, h⟩ := bd5_s h
  refine hv_v hx hb hml hown hw cB_bl (cB_of hN hK hP) (cr_FI hK hP) (c_fi_measure l D ct ad hI x_fsize_41 a_figures_42 a_firsts_43 a_widths_44 a_heights_45 hr_46) g_RX1_36 ⟨rfl, hd_X1_measure⟩ (rest := []) hl.1 hS (fun q h => h) dX1_search_2 rfl rfl ⟨Nat.le_of_ble_eq_true rfl, Nat.le_of_ble_eq_true rfl⟩ rfl rfl (Nat.le_of_ble_eq_true rfl) ⟨Nat.zero_le _, Nat.zero_le _⟩ (fun H locs hP _ hS => ?_)
  refine lv_aload_n hx hb dX1_search_5 rfl (lv_at hl 0 rfl) ?_
  refine lv_iconst (v := 0) hx hb dX1_search_6 ki_0 ?_
  refine lv_ldc2 hx hb hown (hw _ tw_39_22) dX1_search_7 ?_
  refine lv_bipush (v := 8) hx hb dX1_search_10 kb_8 ?_
  refine lv_iload_n hx hb dX1_search_12 rfl (lv_at hl 1 rfl) ?_
  refine lv_isub hx hb dX1_search_13 ?_
  refine lv_lushr hx hb (v := su (255 : Int64) (8 - v1)) dX1_search_14 rfl ?_
  refine lv_ldc2 hx hb hown (hw _ tw_39_23) dX1_search_15 ?_
  refine lv_bipush (v := 8) hx hb dX1_search_18 kb_8 ?_
  refine lv_bipush (v := 8) hx hb dX1_search_20 kb_8 ?_
  refine lv_iload_n hx hb dX1_search_22 rfl (lv_at hl 2 rfl) ?_
  refine lv_isub hx hb dX1_search_23 ?_
  refine lv_imul hx hb dX1_search_24 ?_
  refine lv_lushr hx hb (v := su (72340172838076673 : Int64) (8 * (8 - v2))) dX1_search_25 rfl ?_
  refine lv_lmul hx hb dX1_search_26 ?_
  refine lv_ldc2 hx hb hown (hw _ tw_40_0) dX1_search_27 ?_
  refine lv_lxor hx hb dX1_search_30 ?_
  obtain ⟨a_covered_47, a_places_48, a_next_49, hr_50, h⟩ := bd3_s h
  refine hv_v hx hb hml hown hw cB_bl (cB_of hN hK hP) (cr_FI hK hP) (c_fi_open l D ct ad hI 0 (((su (255 : Int64) (8 - v1)) * (su (72340172838076673 : Int64) (8 * (8 - v2)))) ^^^ (((-1) : Int64))) a_covered_47 a_places_48 a_next_49 hr_50) g_RX1_48 ⟨rfl, hd_X1_open⟩ (rest := []) hl.1 hS (fun q h => h) dX1_search_31 rfl rfl ⟨Nat.le_of_ble_eq_true rfl, Nat.le_of_ble_eq_true rfl⟩ rfl rfl (Nat.le_of_ble_eq_true rfl) ⟨Nat.zero_le _, Nat.zero_le _⟩ (fun H locs hP _ hS => ?_)
  refine lv_iconst (v := 0) hx hb dX1_search_34 ki_0 ?_
  refine lv_istore hx hb dX1_search_35 hl (Nat.le_of_ble_eq_true rfl) (lv' := [(4, .int 0), (0, .ref (ad 19)), (1, .int v1), (2, .int v2), (3, .ref (ad 5))]) rfl (fun ls hl => ?_)
  refine lv_iconst (v := 0) hx hb dX1_search_37 ki_0 ?_
  refine lv_istore hx hb dX1_search_38 hl (Nat.le_of_ble_eq_true rfl) (lv' := [(5, .int 0), (4, .int 0), (0, .ref (ad 19)), (1, .int v1), (2, .int v2), (3, .ref (ad 5))]) rfl (fun ls hl => ?_)
  refine lv_iconst (v := 0) hx hb dX1_search_40 ki_0 ?_
  refine lv_istore hx hb dX1_search_41 hl (Nat.le_of_ble_eq_true rfl) (lv' := [(6, .int 0), (5, .int 0), (4, .int 0), (0, .ref (ad 19)), (1, .int v1), (2, .int v2), (3, .ref (ad 5))]) rfl (fun ls hl => ?_)
  refine lv_iconst (v := 0) hx hb dX1_search_43 ki_0 ?_
  refine lv_istore hx hb dX1_search_44 hl (Nat.le_of_ble_eq_true rfl) (lv' := [(7, .int 0), (6, .int 0), (5, .int 0), (4, .int 0), (0, .ref (ad 19)), (1, .int v1), (2, .int v2), (3, .ref (ad 5))]) rfl (fun ls hl => ?_)
  exact hL46 v1 v2 x_rsize a_items x_fsize_41 a_figures_42 a_firsts_43 a_widths_44 a_heights_45 FU _ _ _ 0 0 0 0 a_covered_47 a_places_48 a_next_49 (lv_sub hl [4, 5, 6, 3, 2, 1, 0] rfl) hP hS h
noncomputable def rw_add_J58  (v1 : Int64) (v3 : Int32) (x_rsize : Int32) (a_items : Nat → Int64)  : Option (Int32 × (Nat → Int64)) :=
  if x_rsize < 64 then (cpk v3 (v3 + 1) (x_rsize - v3) 64 64 <|
  nm (va_cpy a_items a_items v3.toNatClampNeg (v3 + 1).toNatClampNeg (x_rsize - v3).toNatClampNeg) fun a_items_1 =>
  ck v3 64 <|
  nm (vp_updL a_items_1 v3.toNatClampNeg v1) fun a_items_2 =>
  nm (x_rsize + 1 : Int32) fun x_rsize_3 =>
  some (x_rsize_3, a_items_2)) else
  some (x_rsize, a_items)
noncomputable def rw_add_J39  (v1 : Int64) (v3 : Int32) (x_rsize : Int32) (a_items : Nat → Int64)  : Option (Int32 × (Nat → Int64)) :=
  if x_rsize ≤ v3 then (rw_add_J58 v1 v3 x_rsize a_items) else
  ck v3 64 <|
  if (a_items v3.toNatClampNeg) = v1 then (some (x_rsize, a_items)) else
  rw_add_J58 v1 v3 x_rsize a_items
noncomputable def rw_add_B13 (v1 : Int64) (x_rsize : Int32) (a_items : Nat → Int64)  (k13 : Int32 → Int32 → Option (Int32 × (Nat → Int64))) (v3 : Int32) (v4 : Int32) : Option (Int32 × (Nat → Int64)) :=
  if v4 < 0 then (rw_add_J39 v1 v3 x_rsize a_items) else
  ck v4 64 <|
  if (a_items v4.toNatClampNeg) < v1 then (rw_add_J39 v1 v3 x_rsize a_items) else
  nm (v4 + Int32.ofInt (-1)) fun v4_4 =>
  k13 v4 v4_4
noncomputable def rw_add (v1 : Int64) (x_rsize : Int32) (a_items : Nat → Int64) : Option (Int32 × (Nat → Int64)) :=
  nm (x_rsize - 1 : Int32) fun v4_5 =>
  fl2 (rw_add_B13 v1 x_rsize a_items) FU x_rsize v4_5
set_option maxHeartbeats 4000000 in
set_option maxRecDepth 100000 in
theorem c_rw_add (l : Launch) (D : va_G) (ct : Nat → ClassId) (ad : Nat → Nat) (hI : cI ad) {x_fed x_tk x_col x_line x_rcells x_rsize x_len x_cuts x_bare x_place x_lA x_lB x_lC x_fX x_fY x_sX x_sY x_made x_fsize x_psize x_over x_touch x_most x_mU x_mV x_area : Int32} {x_board : Int64} {a_tape a_letters a_oneSided a_free a_ends a_crowds a_wmade a_firsts a_widths a_heights a_places a_next a_pnear a_table a_overlaps : Nat → Int32} {a_drawers a_kept a_items a_numbers a_marks a_near a_figures a_covered a_pcells a_matrix : Nat → Int64} (v1 : Int64)  (z_x_rsize : Int32) (z_a_items : Nat → Int64) (h : rw_add v1 x_rsize a_items = some (z_x_rsize, z_a_items)) : Met l yX8_add (wm yX8_add cX8_add 5 none) (rmm 1 38) (va_Pc [.ref (ad 5), .long v1] (cB D ct ad x_fed x_tk x_col x_line x_rcells x_rsize x_len x_cuts x_bare x_place x_lA x_lB x_lC x_fX x_fY x_sX x_sY x_made x_fsize x_psize x_over x_touch x_most x_mU x_mV x_area x_board a_tape a_letters a_oneSided a_free a_ends a_crowds a_wmade a_firsts a_widths a_heights a_places a_next a_pnear a_table a_overlaps a_drawers a_kept a_items a_numbers a_marks a_near a_figures a_covered a_pcells a_matrix)) (va_Qv (fun (_ : Unit) => True) (fun _ t => cP D ct ad x_fed x_tk x_col x_line x_rcells z_x_rsize x_len x_cuts x_bare x_place x_lA x_lB x_lC x_fX x_fY x_sX x_sY x_made x_fsize x_psize x_over x_touch x_most x_mU x_mV x_area x_board a_tape a_letters a_oneSided a_free a_ends a_crowds a_wmade a_firsts a_widths a_heights a_places a_next a_pnear a_table a_overlaps a_drawers a_kept z_a_items a_numbers a_marks a_near a_figures a_covered a_pcells a_matrix t.heap) (cA ad)) 0 0 (cA ad) := by
  refine met_s (y := yX8_add) (rm := rmm 1 38) (by decide) (Nat.le_of_ble_eq_true rfl) ?_
  intro p e s m below meth c hx hb hr hw hown hlocks _ hml hB ls hl
  obtain ⟨hN, hK, hP⟩ := hB
  replace hl : lv_has ls 5 [(0, .ref (ad 5)), (1, .long v1)] := hl
  have hS : va_S (cA ad) s.heap s.heap [] := va_S.rf
  generalize (([.ref (ad 5), .long v1] : List Value).toArray) = av at hw ⊢
  rw [rw_add] at h
  have hJ58 : ∀ (H : Heap) (locs : List Loc) (ls : Array Slot) (v1 : Int64) (v3 : Int32) (x_rsize : Int32) (a_items : Nat → Int64) , lv_has ls 5 [(0, .ref (ad 5)), (1, .long v1), (3, .int v3)] → cP D ct ad x_fed x_tk x_col x_line x_rcells x_rsize x_len x_cuts x_bare x_place x_lA x_lB x_lC x_fX x_fY x_sX x_sY x_made x_fsize x_psize x_over x_touch x_most x_mU x_mV x_area x_board a_tape a_letters a_oneSided a_free a_ends a_crowds a_wmade a_firsts a_widths a_heights a_places a_next a_pnear a_table a_overlaps a_drawers a_kept a_items a_numbers a_marks a_near a_figures a_covered a_pcells a_matrix H → va_S (cA ad) s.heap H locs → rw_add_J58 v1 v3 x_rsize a_items = some (z_x_rsize, z_a_items) → W p l e (rmm 1 38) s m av below meth c H locs 0 0 (MQ below (va_Qv (fun (_ : Unit) => True) (fun _ t => cP D ct ad x_fed x_tk x_col x_line x_rcells z_x_rsize x_len x_cuts x_bare x_place x_lA x_lB x_lC x_fX x_fY x_sX x_sY x_made x_fsize x_psize x_over x_touch x_most x_mU x_mV x_area x_board a_tape a_letters a_oneSided a_free a_ends a_crowds a_wmade a_firsts a_widths a_heights a_places a_next a_pnear a_table a_overlaps a_drawers a_kept z_a_items a_numbers a_marks a_near a_figures a_covered a_pcells a_matrix t.heap) (cA ad)) av s 0 0 (cA ad)) (F0 m 58 ls []) := by
    intro H locs ls v1 v3 x_rsize a_items  hl hP hS h
    rw [rw_add_J58] at h
    refine lv_aload_n hx hb dX8_add_58 rfl (lv_at hl 0 rfl) ?_
    refine cg_RW_1 hx hb hw hown hK hP dX8_add_59 ?_
    refine lv_bipush (v := 64) hx hb dX8_add_62 kb_64 ?_
    refine lv_icmp_lt hx hb dX8_add_64 (tgt := 68) rfl (fun hc => ?_) (fun hc => ?_)
    · replace h := ifp h hc
      refine lv_aload_n hx hb dX8_add_68 rfl (lv_at hl 0 rfl) ?_
      refine cg_RW_0 hx hb hw hown hK hP dX8_add_69 ?_
      refine lv_iload_n hx hb dX8_add_72 rfl (lv_at hl 2 rfl) ?_
      refine lv_aload_n hx hb dX8_add_73 rfl (lv_at hl 0 rfl) ?_
      refine cg_RW_0 hx hb hw hown hK hP dX8_add_74 ?_
      refine lv_iload_n hx hb dX8_add_77 rfl (lv_at hl 2 rfl) ?_
      refine lv_iconst (v := 1) hx hb dX8_add_78 ki_1 ?_
      refine lv_iadd hx hb dX8_add_79 ?_
      refine lv_aload_n hx hb dX8_add_80 rfl (lv_at hl 0 rfl) ?_
      refine cg_RW_1 hx hb hw hown hK hP dX8_add_81 ?_
      refine lv_iload_n hx hb dX8_add_84 rfl (lv_at hl 2 rfl) ?_
      refine lv_isub hx hb dX8_add_85 ?_
      obtain ⟨hcp, h⟩ := cpk_s h
      obtain ⟨a_items_6, ea_items_6, h⟩ := nm_s h
      refine cy_items_items hx hb (hml.trans hl.1.symm) hw hown hK hP hI hS hcp ea_items_6 (Nat.le_of_ble_eq_true rfl) (by decide) dX8_add_86 (fun H locs hP hS => ?_)
      refine lv_aload_n hx hb dX8_add_89 rfl (lv_at hl 0 rfl) ?_
      refine cg_RW_0 hx hb hw hown hK hP dX8_add_90 ?_
      refine lv_iload_n hx hb dX8_add_93 rfl (lv_at hl 2 rfl) ?_
      refine lv_lload_n hx hb dX8_add_94 rfl (lv_at hl 1 rfl) ?_
      obtain ⟨hin, h⟩ := ck_s h
      obtain ⟨a_items_7, ea_items_7, h⟩ := nm_s h
      refine cs_items hx hb hK hP hI hS hin ea_items_7 dX8_add_95 (fun H locs hP hS => ?_)
      refine lv_aload_n hx hb dX8_add_96 rfl (lv_at hl 0 rfl) ?_
      refine lv_dup hx hb dX8_add_97 rfl ?_
      refine cg_RW_1 hx hb hw hown hK hP dX8_add_98 ?_
      refine lv_iconst (v := 1) hx hb dX8_add_101 ki_1 ?_
      refine lv_iadd hx hb dX8_add_102 ?_
      obtain ⟨x_rsize_8, ex_rsize_8, h⟩ := nm_s h
      refine nmI ex_rsize_8 ?_
      refine cp_RW_1 hx hb hw hown hK hP hI hS dX8_add_103 (fun H locs hP hS => ?_)
      simp only [Option.some.injEq, Prod.mk.injEq] at h
      obtain ⟨rfl, rfl⟩ := h
      exact rc_v hx hb hr hlocks hS dX8_add_106 hP
    · replace h := ifn h hc
      simp only [Option.some.injEq, Prod.mk.injEq] at h
      obtain ⟨rfl, rfl⟩ := h
      exact rc_v hx hb hr hlocks hS dX8_add_67 hP
  have hJ39 : ∀ (H : Heap) (locs : List Loc) (ls : Array Slot) (v1 : Int64) (v3 : Int32) (x_rsize : Int32) (a_items : Nat → Int64) , lv_has ls 5 [(0, .ref (ad 5)), (1, .long v1), (3, .int v3)] → cP D ct ad x_fed x_tk x_col x_line x_rcells x_rsize x_len x_cuts x_bare x_place x_lA x_lB x_lC x_fX x_fY x_sX x_sY x_made x_fsize x_psize x_over x_touch x_most x_mU x_mV x_area x_board a_tape a_letters a_oneSided a_free a_ends a_crowds a_wmade a_firsts a_widths a_heights a_places a_next a_pnear a_table a_overlaps a_drawers a_kept a_items a_numbers a_marks a_near a_figures a_covered a_pcells a_matrix H → va_S (cA ad) s.heap H locs → rw_add_J39 v1 v3 x_rsize a_items = some (z_x_rsize, z_a_items) → W p l e (rmm 1 38) s m av below meth c H locs 0 0 (MQ below (va_Qv (fun (_ : Unit) => True) (fun _ t => cP D ct ad x_fed x_tk x_col x_line x_rcells z_x_rsize x_len x_cuts x_bare x_place x_lA x_lB x_lC x_fX x_fY x_sX x_sY x_made x_fsize x_psize x_over x_touch x_most x_mU x_mV x_area x_board a_tape a_letters a_oneSided a_free a_ends a_crowds a_wmade a_firsts a_widths a_heights a_places a_next a_pnear a_table a_overlaps a_drawers a_kept z_a_items a_numbers a_marks a_near a_figures a_covered a_pcells a_matrix t.heap) (cA ad)) av s 0 0 (cA ad)) (F0 m 39 ls []) := by
    intro H locs ls v1 v3 x_rsize a_items  hl hP hS h
    rw [rw_add_J39] at h
    refine lv_iload_n hx hb dX8_add_39 rfl (lv_at hl 2 rfl) ?_
    refine lv_aload_n hx hb dX8_add_40 rfl (lv_at hl 0 rfl) ?_
    refine cg_RW_1 hx hb hw hown hK hP dX8_add_41 ?_
    refine lv_icmp_ge hx hb dX8_add_44 (tgt := 58) rfl (fun hc => ?_) (fun hc => ?_)
    · replace h := ifp h hc
      exact hJ58 _ _ _ v1 v3 x_rsize a_items (lv_sub hl [0, 1, 2] rfl) hP hS h
    · replace h := ifn h hc
      refine lv_aload_n hx hb dX8_add_47 rfl (lv_at hl 0 rfl) ?_
      refine cg_RW_0 hx hb hw hown hK hP dX8_add_48 ?_
      refine lv_iload_n hx hb dX8_add_51 rfl (lv_at hl 2 rfl) ?_
      obtain ⟨hin, h⟩ := ck_s h
      refine cd_items hx hb hK hP hin dX8_add_52 ?_
      refine lv_lload_n hx hb dX8_add_53 rfl (lv_at hl 1 rfl) ?_
      refine W.lcmp hx hb dX8_add_54 ?_
      refine lv_if_eq hx hb dX8_add_55 (tgt := 67) rfl (fun hc => ?_) (fun hc => ?_)
      · replace h := ifp h ((lg_cmp_eq _ _).mp hc)
        simp only [Option.some.injEq, Prod.mk.injEq] at h
        obtain ⟨rfl, rfl⟩ := h
        exact rc_v hx hb hr hlocks hS dX8_add_67 hP
      · replace h := ifn h (fun q => hc ((lg_cmp_eq _ _).mpr q))
        exact hJ58 _ _ _ v1 v3 x_rsize a_items (lv_sub hl [0, 1, 2] rfl) hP hS h
  have hL13 : ∀ (v1 : Int64), ∀ (x_rsize : Int32), ∀ (a_items : Nat → Int64), ∀ (n13 : Nat) (H : Heap) (locs : List Loc) (ls : Array Slot) (v3 : Int32) (v4 : Int32), lv_has ls 5 [(0, .ref (ad 5)), (1, .long v1), (3, .int v3), (4, .int v4)] → cP D ct ad x_fed x_tk x_col x_line x_rcells x_rsize x_len x_cuts x_bare x_place x_lA x_lB x_lC x_fX x_fY x_sX x_sY x_made x_fsize x_psize x_over x_touch x_most x_mU x_mV x_area x_board a_tape a_letters a_oneSided a_free a_ends a_crowds a_wmade a_firsts a_widths a_heights a_places a_next a_pnear a_table a_overlaps a_drawers a_kept a_items a_numbers a_marks a_near a_figures a_covered a_pcells a_matrix H → va_S (cA ad) s.heap H locs → fl2 (rw_add_B13 v1 x_rsize a_items) n13 v3 v4 = some (z_x_rsize, z_a_items) → W p l e (rmm 1 38) s m av below meth c H locs 0 0 (MQ below (va_Qv (fun (_ : Unit) => True) (fun _ t => cP D ct ad x_fed x_tk x_col x_line x_rcells z_x_rsize x_len x_cuts x_bare x_place x_lA x_lB x_lC x_fX x_fY x_sX x_sY x_made x_fsize x_psize x_over x_touch x_most x_mU x_mV x_area x_board a_tape a_letters a_oneSided a_free a_ends a_crowds a_wmade a_firsts a_widths a_heights a_places a_next a_pnear a_table a_overlaps a_drawers a_kept z_a_items a_numbers a_marks a_near a_figures a_covered a_pcells a_matrix t.heap) (cA ad)) av s 0 0 (cA ad)) (F0 m 13 ls []) := by
    intro v1 x_rsize a_items n13
    induction n13 with
    | zero => intro H locs ls v3 v4 hl hP hS h; cases h
    | succ n13 ih13 =>
      intro H locs ls v3 v4 hl hP hS h
      replace h : rw_add_B13 v1 x_rsize a_items (fl2 (rw_add_B13 v1 x_rsize a_items) n13) v3 v4 = some (z_x_rsize, z_a_items) := h
      generalize fl2 (rw_add_B13 v1 x_rsize a_items) n13 = k13 at h ih13
      rw [rw_add_B13] at h
      refine lv_iload hx hb dX8_add_13 (lv_at hl 3 rfl) ?_
      refine lv_if_lt hx hb dX8_add_15 (tgt := 39) rfl (fun hc => ?_) (fun hc => ?_)
      · replace h := ifp h hc
        exact hJ39 _ _ _ v1 v3 x_rsize a_items (lv_sub hl [0, 1, 2] rfl) hP hS h
      · replace h := ifn h hc
        refine lv_aload_n hx hb dX8_add_18 rfl (lv_at hl 0 rfl) ?_
        refine cg_RW_0 hx hb hw hown hK hP dX8_add_19 ?_
        refine lv_iload hx hb dX8_add_22 (lv_at hl 3 rfl) ?_
        obtain ⟨hin, h⟩ := ck_s h
        refine cd_items hx hb hK hP hin dX8_add_24 ?_
        refine lv_lload_n hx hb dX8_add_25 rfl (lv_at hl 1 rfl) ?_
        refine W.lcmp hx hb dX8_add_26 ?_
        refine lv_if_lt hx hb dX8_add_27 (tgt := 39) rfl (fun hc => ?_) (fun hc => ?_)
        · replace h := ifp h ((lg_cmp_lt _ _).mp hc)
          exact hJ39 _ _ _ v1 v3 x_rsize a_items (lv_sub hl [0, 1, 2] rfl) hP hS h
        · replace h := ifn h (fun q => hc ((lg_cmp_lt _ _).mpr q))
          refine lv_iload hx hb dX8_add_30 (lv_at hl 3 rfl) ?_
          refine lv_istore_n hx hb dX8_add_32 rfl hl (Nat.le_of_ble_eq_true rfl) (lv' := [(3, .int v4), (0, .ref (ad 5)), (1, .long v1), (4, .int v4)]) rfl (fun ls hl => ?_)
          obtain ⟨v4_9, ev4_9, h⟩ := nm_s h
          refine lv_iinc hx hb dX8_add_33 hl (k := 3) rfl ev4_9.symm (Nat.le_of_ble_eq_true rfl) (lv' := [(4, .int v4_9), (3, .int v4), (0, .ref (ad 5)), (1, .long v1)]) rfl (fun ls hl => ?_)
          refine lv_goto hx hb dX8_add_36 (tgt := 13) rfl ?_
          exact ih13 _ _ _ v4 v4_9 (lv_sub hl [2, 3, 1, 0] rfl) hP hS h
  refine lv_aload_n hx hb dX8_add_0 rfl (lv_at hl 0 rfl) ?_
  refine cg_RW_1 hx hb hw hown hK hP dX8_add_1 ?_
  refine lv_istore_n hx hb dX8_add_4 rfl hl (Nat.le_of_ble_eq_true rfl) (lv' := [(3, .int x_rsize), (0, .ref (ad 5)), (1, .long v1)]) rfl (fun ls hl => ?_)
  refine lv_aload_n hx hb dX8_add_5 rfl (lv_at hl 1 rfl) ?_
  refine cg_RW_1 hx hb hw hown hK hP dX8_add_6 ?_
  refine lv_iconst (v := 1) hx hb dX8_add_9 ki_1 ?_
  refine lv_isub hx hb dX8_add_10 ?_
  obtain ⟨v4_10, ev4_10, h⟩ := nm_s h
  refine nmI ev4_10 ?_
  refine lv_istore hx hb dX8_add_11 hl (Nat.le_of_ble_eq_true rfl) (lv' := [(4, .int v4_10), (3, .int x_rsize), (0, .ref (ad 5)), (1, .long v1)]) rfl (fun ls hl => ?_)
  exact hL13 v1 x_rsize a_items FU _ _ _ x_rsize v4_10 (lv_sub hl [2, 3, 1, 0] rfl) hP hS h
noncomputable def gw_addForms_J40 (k11 : Int64 → Int32 → Int32 → (Nat → Int64) → Option (Int32 × (Nat → Int64))) (v0 : Int64) (v2 : Int32) (v6 : Int32) (x_rsize : Int32) (a_items : Nat → Int64) (t0 : Int64) : Option (Int32 × (Nat → Int64)) :=
  bd2 (rw_add t0 x_rsize a_items) fun x_rsize_1 a_items_2 =>
  nm (v6 + Int32.ofInt 1) fun v6_4 =>
  k11 t0 v6_4 x_rsize_1 a_items_2
noncomputable def gw_addForms_B11 (v0 : Int64) (v2 : Int32)  (k11 : Int64 → Int32 → Int32 → (Nat → Int64) → Option (Int32 × (Nat → Int64))) (v4 : Int64) (v6 : Int32) (x_rsize : Int32) (a_items : Nat → Int64) : Option (Int32 × (Nat → Int64)) :=
  if 8 ≤ v6 then (some (x_rsize, a_items)) else
  if v2 = 0 then (some (x_rsize, a_items)) else
  if v6 = 4 then (bd1 (gr_mirrored v0) fun r_7 =>
  gw_addForms_J40 k11 v0 v2 v6 x_rsize a_items r_7) else
  bd1 (gr_quarter v4) fun r_5 =>
  gw_addForms_J40 k11 v0 v2 v6 x_rsize a_items r_5
noncomputable def gw_addForms (v0 : Int64) (v2 : Int32) (x_rsize : Int32) (a_items : Nat → Int64) : Option (Int32 × (Nat → Int64)) :=
  bd2 (rw_add v0 x_rsize a_items) fun x_rsize_9 a_items_10 =>
  fl4 (gw_addForms_B11 v0 v2) FU v0 1 x_rsize_9 a_items_10
set_option maxHeartbeats 4000000 in
set_option maxRecDepth 100000 in
theorem c_gw_addForms (l : Launch) (D : va_G) (ct : Nat → ClassId) (ad : Nat → Nat) (hI : cI ad) {x_fed x_tk x_col x_line x_rcells x_rsize x_len x_cuts x_bare x_place x_lA x_lB x_lC x_fX x_fY x_sX x_sY x_made x_fsize x_psize x_over x_touch x_most x_mU x_mV x_area : Int32} {x_board : Int64} {a_tape a_letters a_oneSided a_free a_ends a_crowds a_wmade a_firsts a_widths a_heights a_places a_next a_pnear a_table a_overlaps : Nat → Int32} {a_drawers a_kept a_items a_numbers a_marks a_near a_figures a_covered a_pcells a_matrix : Nat → Int64} (v0 : Int64) (v2 : Int32)  (z_x_rsize : Int32) (z_a_items : Nat → Int64) (h : gw_addForms v0 v2 x_rsize a_items = some (z_x_rsize, z_a_items)) : Met l yX3_addForms (wm yX3_addForms cX3_addForms 7 none) (rmm 3 69) (va_Pc [.long v0, .int v2, .ref (ad 5)] (cB D ct ad x_fed x_tk x_col x_line x_rcells x_rsize x_len x_cuts x_bare x_place x_lA x_lB x_lC x_fX x_fY x_sX x_sY x_made x_fsize x_psize x_over x_touch x_most x_mU x_mV x_area x_board a_tape a_letters a_oneSided a_free a_ends a_crowds a_wmade a_firsts a_widths a_heights a_places a_next a_pnear a_table a_overlaps a_drawers a_kept a_items a_numbers a_marks a_near a_figures a_covered a_pcells a_matrix)) (va_Qv (fun (_ : Unit) => True) (fun _ t => cP D ct ad x_fed x_tk x_col x_line x_rcells z_x_rsize x_len x_cuts x_bare x_place x_lA x_lB x_lC x_fX x_fY x_sX x_sY x_made x_fsize x_psize x_over x_touch x_most x_mU x_mV x_area x_board a_tape a_letters a_oneSided a_free a_ends a_crowds a_wmade a_firsts a_widths a_heights a_places a_next a_pnear a_table a_overlaps a_drawers a_kept z_a_items a_numbers a_marks a_near a_figures a_covered a_pcells a_matrix t.heap) (cA ad)) 0 0 (cA ad) := by
  refine met_s (y := yX3_addForms) (rm := rmm 3 69) (by decide) (Nat.le_of_ble_eq_true rfl) ?_
  intro p e s m below meth c hx hb hr hw hown hlocks _ hml hB ls hl
  obtain ⟨hN, hK, hP⟩ := hB
  replace hl : lv_has ls 7 [(0, .long v0), (2, .int v2), (3, .ref (ad 5))] := hl
  have hS : va_S (cA ad) s.heap s.heap [] := va_S.rf
  generalize (([.long v0, .int v2, .ref (ad 5)] : List Value).toArray) = av at hw ⊢
  rw [gw_addForms] at h
  have hL11 : ∀ (v0 : Int64), ∀ (v2 : Int32), ∀ (n11 : Nat) (H : Heap) (locs : List Loc) (ls : Array Slot) (v4 : Int64) (v6 : Int32) (x_rsize : Int32) (a_items : Nat → Int64), lv_has ls 7 [(0, .long v0), (2, .int v2), (3, .ref (ad 5)), (4, .long v4), (6, .int v6)] → cP D ct ad x_fed x_tk x_col x_line x_rcells x_rsize x_len x_cuts x_bare x_place x_lA x_lB x_lC x_fX x_fY x_sX x_sY x_made x_fsize x_psize x_over x_touch x_most x_mU x_mV x_area x_board a_tape a_letters a_oneSided a_free a_ends a_crowds a_wmade a_firsts a_widths a_heights a_places a_next a_pnear a_table a_overlaps a_drawers a_kept a_items a_numbers a_marks a_near a_figures a_covered a_pcells a_matrix H → va_S (cA ad) s.heap H locs → fl4 (gw_addForms_B11 v0 v2) n11 v4 v6 x_rsize a_items = some (z_x_rsize, z_a_items) → W p l e (rmm 3 69) s m av below meth c H locs 0 0 (MQ below (va_Qv (fun (_ : Unit) => True) (fun _ t => cP D ct ad x_fed x_tk x_col x_line x_rcells z_x_rsize x_len x_cuts x_bare x_place x_lA x_lB x_lC x_fX x_fY x_sX x_sY x_made x_fsize x_psize x_over x_touch x_most x_mU x_mV x_area x_board a_tape a_letters a_oneSided a_free a_ends a_crowds a_wmade a_firsts a_widths a_heights a_places a_next a_pnear a_table a_overlaps a_drawers a_kept z_a_items a_numbers a_marks a_near a_figures a_covered a_pcells a_matrix t.heap) (cA ad)) av s 0 0 (cA ad)) (F0 m 11 ls []) := by
    intro v0 v2 n11
    induction n11 with
    | zero => intro H locs ls v4 v6 x_rsize a_items hl hP hS h; cases h
    | succ n11 ih11 =>
      intro H locs ls v4 v6 x_rsize a_items hl hP hS h
      replace h : gw_addForms_B11 v0 v2 (fl4 (gw_addForms_B11 v0 v2) n11) v4 v6 x_rsize a_items = some (z_x_rsize, z_a_items) := h
      generalize fl4 (gw_addForms_B11 v0 v2) n11 = k11 at h ih11
      have hJ40 : ∀ (H : Heap) (locs : List Loc) (ls : Array Slot) (v6 : Int32) (x_rsize : Int32) (a_items : Nat → Int64) (t0 : Int64), lv_has ls 7 [(0, .long v0), (2, .int v2), (3, .ref (ad 5)), (6, .int v6)] → cP D ct ad x_fed x_tk x_col x_line x_rcells x_rsize x_len x_cuts x_bare x_place x_lA x_lB x_lC x_fX x_fY x_sX x_sY x_made x_fsize x_psize x_over x_touch x_most x_mU x_mV x_area x_board a_tape a_letters a_oneSided a_free a_ends a_crowds a_wmade a_firsts a_widths a_heights a_places a_next a_pnear a_table a_overlaps a_drawers a_kept a_items a_numbers a_marks a_near a_figures a_covered a_pcells a_matrix H → va_S (cA ad) s.heap H locs → gw_addForms_J40 k11 v0 v2 v6 x_rsize a_items t0 = some (z_x_rsize, z_a_items) → W p l e (rmm 3 69) s m av below meth c H locs 0 0 (MQ below (va_Qv (fun (_ : Unit) => True) (fun _ t => cP D ct ad x_fed x_tk x_col x_line x_rcells z_x_rsize x_len x_cuts x_bare x_place x_lA x_lB x_lC x_fX x_fY x_sX x_sY x_made x_fsize x_psize x_over x_touch x_most x_mU x_mV x_area x_board a_tape a_letters a_oneSided a_free a_ends a_crowds a_wmade a_firsts a_widths a_heights a_places a_next a_pnear a_table a_overlaps a_drawers a_kept z_a_items a_numbers a_marks a_near a_figures a_covered a_pcells a_matrix t.heap) (cA ad)) av s 0 0 (cA ad)) (F0 m 40 ls [.long t0]) := by
        intro H locs ls v6 x_rsize a_items t0 hl hP hS h
        rw [gw_addForms_J40] at h
        refine lv_lstore hx hb dX3_addForms_40 hl (Nat.le_of_ble_eq_true rfl) (lv' := [(4, .long t0), (0, .long v0), (2, .int v2), (3, .ref (ad 5)), (6, .int v6)]) rfl (fun ls hl => ?_)
        refine lv_aload_n hx hb dX3_addForms_42 rfl (lv_at hl 3 rfl) ?_
        refine lv_lload hx hb dX3_addForms_43 (lv_at hl 0 rfl) ?_
        obtain ⟨x_rsize_12, a_items_13, hr_14, h⟩ := bd2_s h
        refine hv_v hx hb hml hown hw cB_bl (cB_of hN hK hP) (cr_RW hK hP) (c_rw_add l D ct ad hI t0 x_rsize_12 a_items_13 hr_14) g_RX3_9 ⟨rfl, hd_X8_add⟩ (rest := []) hl.1 hS (fun q h => h) dX3_addForms_45 rfl rfl ⟨Nat.le_of_ble_eq_true rfl, Nat.le_of_ble_eq_true rfl⟩ rfl rfl (Nat.le_of_ble_eq_true rfl) ⟨Nat.zero_le _, Nat.zero_le _⟩ (fun H locs hP _ hS => ?_)
        obtain ⟨v6_15, ev6_15, h⟩ := nm_s h
        refine lv_iinc hx hb dX3_addForms_48 hl (k := 4) rfl ev6_15.symm (Nat.le_of_ble_eq_true rfl) (lv' := [(6, .int v6_15), (4, .long t0), (0, .long v0), (2, .int v2), (3, .ref (ad 5))]) rfl (fun ls hl => ?_)
        refine lv_goto hx hb dX3_addForms_51 (tgt := 11) rfl ?_
        exact ih11 _ _ _ t0 v6_15 x_rsize_12 a_items_13 (lv_sub hl [2, 3, 4, 1, 0] rfl) hP hS h
      rw [gw_addForms_B11] at h
      refine lv_iload hx hb dX3_addForms_11 (lv_at hl 4 rfl) ?_
      refine lv_bipush (v := 8) hx hb dX3_addForms_13 kb_8 ?_
      refine lv_icmp_ge hx hb dX3_addForms_15 (tgt := 54) rfl (fun hc => ?_) (fun hc => ?_)
      · replace h := ifp h hc
        simp only [Option.some.injEq, Prod.mk.injEq] at h
        obtain ⟨rfl, rfl⟩ := h
        exact rc_v hx hb hr hlocks hS dX3_addForms_54 hP
      · replace h := ifn h hc
        refine lv_iload_n hx hb dX3_addForms_18 rfl (lv_at hl 1 rfl) ?_
        refine lv_if_eq hx hb dX3_addForms_19 (tgt := 54) rfl (fun hc => ?_) (fun hc => ?_)
        · replace h := ifp h hc
          simp only [Option.some.injEq, Prod.mk.injEq] at h
          obtain ⟨rfl, rfl⟩ := h
          exact rc_v hx hb hr hlocks hS dX3_addForms_54 hP
        · replace h := ifn h hc
          refine lv_iload hx hb dX3_addForms_22 (lv_at hl 4 rfl) ?_
          refine lv_iconst (v := 4) hx hb dX3_addForms_24 ki_4 ?_
          refine lv_icmp_ne hx hb dX3_addForms_25 (tgt := 35) rfl (fun hc => ?_) (fun hc => ?_)
          · replace h := ifn h hc
            refine lv_lload hx hb dX3_addForms_35 (lv_at hl 3 rfl) ?_
            obtain ⟨r_16, hr_17, h⟩ := bd1_s h
            refine sc_l hx hb hml hown hw hN (c_gr_quarter l v4 r_16 hr_17) g_RX3_21 hd_X2_quarter (rest := []) hl.1 hS dX3_addForms_37 rfl rfl ⟨Nat.le_of_ble_eq_true rfl, Nat.le_of_ble_eq_true rfl⟩ rfl rfl (Nat.le_of_ble_eq_true rfl) ⟨Nat.zero_le _, Nat.zero_le _⟩ (fun H locs hk hS => ?_)
            have hP := cP_kept hP hk
            exact hJ40 _ _ _ v6 x_rsize a_items r_16 (lv_sub hl [0, 1, 2, 4] rfl) hP hS h
          · replace h := ifp h hc
            refine lv_lload_n hx hb dX3_addForms_28 rfl (lv_at hl 0 rfl) ?_
            obtain ⟨r_18, hr_19, h⟩ := bd1_s h
            refine sc_l hx hb hml hown hw hN (c_gr_mirrored l v0 r_18 hr_19) g_RX3_15 hd_X2_mirrored (rest := []) hl.1 hS dX3_addForms_29 rfl rfl ⟨Nat.le_of_ble_eq_true rfl, Nat.le_of_ble_eq_true rfl⟩ rfl rfl (Nat.le_of_ble_eq_true rfl) ⟨Nat.zero_le _, Nat.zero_le _⟩ (fun H locs hk hS => ?_)
            have hP := cP_kept hP hk
            refine lv_goto hx hb dX3_addForms_32 (tgt := 40) rfl ?_
            exact hJ40 _ _ _ v6 x_rsize a_items r_18 (lv_sub hl [0, 1, 2, 4] rfl) hP hS h
  refine lv_aload_n hx hb dX3_addForms_0 rfl (lv_at hl 2 rfl) ?_
  refine lv_lload_n hx hb dX3_addForms_1 rfl (lv_at hl 0 rfl) ?_
  obtain ⟨x_rsize_20, a_items_21, hr_22, h⟩ := bd2_s h
  refine hv_v hx hb hml hown hw cB_bl (cB_of hN hK hP) (cr_RW hK hP) (c_rw_add l D ct ad hI v0 x_rsize_20 a_items_21 hr_22) g_RX3_9 ⟨rfl, hd_X8_add⟩ (rest := []) hl.1 hS (fun q h => h) dX3_addForms_2 rfl rfl ⟨Nat.le_of_ble_eq_true rfl, Nat.le_of_ble_eq_true rfl⟩ rfl rfl (Nat.le_of_ble_eq_true rfl) ⟨Nat.zero_le _, Nat.zero_le _⟩ (fun H locs hP _ hS => ?_)
  refine lv_lload_n hx hb dX3_addForms_5 rfl (lv_at hl 0 rfl) ?_
  refine lv_lstore hx hb dX3_addForms_6 hl (Nat.le_of_ble_eq_true rfl) (lv' := [(4, .long v0), (0, .long v0), (2, .int v2), (3, .ref (ad 5))]) rfl (fun ls hl => ?_)
  refine lv_iconst (v := 1) hx hb dX3_addForms_8 ki_1 ?_
  refine lv_istore hx hb dX3_addForms_9 hl (Nat.le_of_ble_eq_true rfl) (lv' := [(6, .int 1), (4, .long v0), (0, .long v0), (2, .int v2), (3, .ref (ad 5))]) rfl (fun ls hl => ?_)
  exact hL11 v0 v2 FU _ _ _ v0 1 x_rsize_20 a_items_21 (lv_sub hl [2, 3, 4, 1, 0] rfl) hP hS h
noncomputable def rw_clear (x_rsize : Int32) : Option (Int32) :=
  some (0)
set_option maxHeartbeats 4000000 in
set_option maxRecDepth 100000 in
theorem c_rw_clear (l : Launch) (D : va_G) (ct : Nat → ClassId) (ad : Nat → Nat) (hI : cI ad) {x_fed x_tk x_col x_line x_rcells x_rsize x_len x_cuts x_bare x_place x_lA x_lB x_lC x_fX x_fY x_sX x_sY x_made x_fsize x_psize x_over x_touch x_most x_mU x_mV x_area : Int32} {x_board : Int64} {a_tape a_letters a_oneSided a_free a_ends a_crowds a_wmade a_firsts a_widths a_heights a_places a_next a_pnear a_table a_overlaps : Nat → Int32} {a_drawers a_kept a_items a_numbers a_marks a_near a_figures a_covered a_pcells a_matrix : Nat → Int64}   (z_x_rsize : Int32) (h : rw_clear x_rsize = some (z_x_rsize)) : Met l yX8_clear (wm yX8_clear cX8_clear 1 none) (rmm 0 0) (va_Pc [.ref (ad 5)] (cB D ct ad x_fed x_tk x_col x_line x_rcells x_rsize x_len x_cuts x_bare x_place x_lA x_lB x_lC x_fX x_fY x_sX x_sY x_made x_fsize x_psize x_over x_touch x_most x_mU x_mV x_area x_board a_tape a_letters a_oneSided a_free a_ends a_crowds a_wmade a_firsts a_widths a_heights a_places a_next a_pnear a_table a_overlaps a_drawers a_kept a_items a_numbers a_marks a_near a_figures a_covered a_pcells a_matrix)) (va_Qv (fun (_ : Unit) => True) (fun _ t => cP D ct ad x_fed x_tk x_col x_line x_rcells z_x_rsize x_len x_cuts x_bare x_place x_lA x_lB x_lC x_fX x_fY x_sX x_sY x_made x_fsize x_psize x_over x_touch x_most x_mU x_mV x_area x_board a_tape a_letters a_oneSided a_free a_ends a_crowds a_wmade a_firsts a_widths a_heights a_places a_next a_pnear a_table a_overlaps a_drawers a_kept a_items a_numbers a_marks a_near a_figures a_covered a_pcells a_matrix t.heap) (cA ad)) 0 0 (cA ad) := by
  refine met_s (y := yX8_clear) (rm := rmm 0 0) (by decide) (Nat.le_of_ble_eq_true rfl) ?_
  intro p e s m below meth c hx hb hr hw hown hlocks _ hml hB ls hl
  obtain ⟨hN, hK, hP⟩ := hB
  replace hl : lv_has ls 1 [(0, .ref (ad 5))] := hl
  have hS : va_S (cA ad) s.heap s.heap [] := va_S.rf
  generalize (([.ref (ad 5)] : List Value).toArray) = av at hw ⊢
  rw [rw_clear] at h
  refine lv_aload_n hx hb dX8_clear_0 rfl (lv_at hl 0 rfl) ?_
  refine lv_iconst (v := 0) hx hb dX8_clear_1 ki_0 ?_
  refine cp_RW_1 hx hb hw hown hK hP hI hS dX8_clear_2 (fun H locs hP hS => ?_)
  replace h := Option.some.inj h
  subst h
  exact rc_v hx hb hr hlocks hS dX8_clear_5 hP
noncomputable def gw_gatherShrunk_J59 (k12 : Int64 → Int32 → Int32 → (Nat → Int64) → Option (Int32 × (Nat → Int64))) (v0 : Int64) (v2 : Int32) (v4 : Int64) (v6 : Int32) (v7 : Int32) (x_rsize : Int32) (a_items : Nat → Int64)  : Option (Int32 × (Nat → Int64)) :=
  nm (v7 + Int32.ofInt 1) fun v7_1 =>
  k12 v4 v7_1 x_rsize a_items
noncomputable def gw_gatherShrunk_B12 (v0 : Int64) (v2 : Int32) (v6 : Int32)  (k12 : Int64 → Int32 → Int32 → (Nat → Int64) → Option (Int32 × (Nat → Int64))) (v4 : Int64) (v7 : Int32) (x_rsize : Int32) (a_items : Nat → Int64) : Option (Int32 × (Nat → Int64)) :=
  if v6 ≤ v7 then (some (x_rsize, a_items)) else
  nm (v4 &&& (-v4) : Int64) fun v8_2 =>
  nm (v4 ^^^ v8_2 : Int64) fun v4_3 =>
  bd1 (gr_hangs (v0 ^^^ v8_2)) fun r_4 =>
  if r_4 = 0 then (gw_gatherShrunk_J59 k12 v0 v2 v4_3 v6 v7 x_rsize a_items) else
  bd1 (gr_settled (v0 ^^^ v8_2)) fun r_6 =>
  bd1 (gr_least r_6 v2) fun r_8 =>
  bd2 (rw_add r_8 x_rsize a_items) fun x_rsize_10 a_items_11 =>
  gw_gatherShrunk_J59 k12 v0 v2 v4_3 v6 v7 x_rsize_10 a_items_11
noncomputable def gw_gatherShrunk (v0 : Int64) (v2 : Int32) (x_rsize : Int32) (a_items : Nat → Int64) : Option (Int32 × (Nat → Int64)) :=
  bd1 (jl_bitCount v0) fun r_13 =>
  fl4 (gw_gatherShrunk_B12 v0 v2 r_13) FU v0 0 x_rsize a_items
set_option maxHeartbeats 4000000 in
set_option maxRecDepth 100000 in
theorem c_gw_gatherShrunk (l : Launch) (D : va_G) (ct : Nat → ClassId) (ad : Nat → Nat) (hI : cI ad) {x_fed x_tk x_col x_line x_rcells x_rsize x_len x_cuts x_bare x_place x_lA x_lB x_lC x_fX x_fY x_sX x_sY x_made x_fsize x_psize x_over x_touch x_most x_mU x_mV x_area : Int32} {x_board : Int64} {a_tape a_letters a_oneSided a_free a_ends a_crowds a_wmade a_firsts a_widths a_heights a_places a_next a_pnear a_table a_overlaps : Nat → Int32} {a_drawers a_kept a_items a_numbers a_marks a_near a_figures a_covered a_pcells a_matrix : Nat → Int64} (v0 : Int64) (v2 : Int32)  (z_x_rsize : Int32) (z_a_items : Nat → Int64) (h : gw_gatherShrunk v0 v2 x_rsize a_items = some (z_x_rsize, z_a_items)) : Met l yX3_gatherShrunk (wm yX3_gatherShrunk cX3_gatherShrunk 10 none) (rmm 4 96) (va_Pc [.long v0, .int v2, .ref (ad 5)] (cB D ct ad x_fed x_tk x_col x_line x_rcells x_rsize x_len x_cuts x_bare x_place x_lA x_lB x_lC x_fX x_fY x_sX x_sY x_made x_fsize x_psize x_over x_touch x_most x_mU x_mV x_area x_board a_tape a_letters a_oneSided a_free a_ends a_crowds a_wmade a_firsts a_widths a_heights a_places a_next a_pnear a_table a_overlaps a_drawers a_kept a_items a_numbers a_marks a_near a_figures a_covered a_pcells a_matrix)) (va_Qv (fun (_ : Unit) => True) (fun _ t => cP D ct ad x_fed x_tk x_col x_line x_rcells z_x_rsize x_len x_cuts x_bare x_place x_lA x_lB x_lC x_fX x_fY x_sX x_sY x_made x_fsize x_psize x_over x_touch x_most x_mU x_mV x_area x_board a_tape a_letters a_oneSided a_free a_ends a_crowds a_wmade a_firsts a_widths a_heights a_places a_next a_pnear a_table a_overlaps a_drawers a_kept z_a_items a_numbers a_marks a_near a_figures a_covered a_pcells a_matrix t.heap) (cA ad)) 0 0 (cA ad) := by
  refine met_s (y := yX3_gatherShrunk) (rm := rmm 4 96) (by decide) (Nat.le_of_ble_eq_true rfl) ?_
  intro p e s m below meth c hx hb hr hw hown hlocks _ hml hB ls hl
  obtain ⟨hN, hK, hP⟩ := hB
  replace hl : lv_has ls 10 [(0, .long v0), (2, .int v2), (3, .ref (ad 5))] := hl
  have hS : va_S (cA ad) s.heap s.heap [] := va_S.rf
  generalize (([.long v0, .int v2, .ref (ad 5)] : List Value).toArray) = av at hw ⊢
  rw [gw_gatherShrunk] at h
  have hL12 : ∀ (v0 : Int64), ∀ (v2 : Int32), ∀ (v6 : Int32), ∀ (n12 : Nat) (H : Heap) (locs : List Loc) (ls : Array Slot) (v4 : Int64) (v7 : Int32) (x_rsize : Int32) (a_items : Nat → Int64), lv_has ls 10 [(0, .long v0), (2, .int v2), (3, .ref (ad 5)), (4, .long v4), (6, .int v6), (7, .int v7)] → cP D ct ad x_fed x_tk x_col x_line x_rcells x_rsize x_len x_cuts x_bare x_place x_lA x_lB x_lC x_fX x_fY x_sX x_sY x_made x_fsize x_psize x_over x_touch x_most x_mU x_mV x_area x_board a_tape a_letters a_oneSided a_free a_ends a_crowds a_wmade a_firsts a_widths a_heights a_places a_next a_pnear a_table a_overlaps a_drawers a_kept a_items a_numbers a_marks a_near a_figures a_covered a_pcells a_matrix H → va_S (cA ad) s.heap H locs → fl4 (gw_gatherShrunk_B12 v0 v2 v6) n12 v4 v7 x_rsize a_items = some (z_x_rsize, z_a_items) → W p l e (rmm 4 96) s m av below meth c H locs 0 0 (MQ below (va_Qv (fun (_ : Unit) => True) (fun _ t => cP D ct ad x_fed x_tk x_col x_line x_rcells z_x_rsize x_len x_cuts x_bare x_place x_lA x_lB x_lC x_fX x_fY x_sX x_sY x_made x_fsize x_psize x_over x_touch x_most x_mU x_mV x_area x_board a_tape a_letters a_oneSided a_free a_ends a_crowds a_wmade a_firsts a_widths a_heights a_places a_next a_pnear a_table a_overlaps a_drawers a_kept z_a_items a_numbers a_marks a_near a_figures a_covered a_pcells a_matrix t.heap) (cA ad)) av s 0 0 (cA ad)) (F0 m 12 ls []) := by
    intro v0 v2 v6 n12
    induction n12 with
    | zero => intro H locs ls v4 v7 x_rsize a_items hl hP hS h; cases h
    | succ n12 ih12 =>
      intro H locs ls v4 v7 x_rsize a_items hl hP hS h
      replace h : gw_gatherShrunk_B12 v0 v2 v6 (fl4 (gw_gatherShrunk_B12 v0 v2 v6) n12) v4 v7 x_rsize a_items = some (z_x_rsize, z_a_items) := h
      generalize fl4 (gw_gatherShrunk_B12 v0 v2 v6) n12 = k12 at h ih12
      have hJ59 : ∀ (H : Heap) (locs : List Loc) (ls : Array Slot) (v4 : Int64) (v7 : Int32) (x_rsize : Int32) (a_items : Nat → Int64) , lv_has ls 10 [(0, .long v0), (2, .int v2), (3, .ref (ad 5)), (4, .long v4), (6, .int v6), (7, .int v7)] → cP D ct ad x_fed x_tk x_col x_line x_rcells x_rsize x_len x_cuts x_bare x_place x_lA x_lB x_lC x_fX x_fY x_sX x_sY x_made x_fsize x_psize x_over x_touch x_most x_mU x_mV x_area x_board a_tape a_letters a_oneSided a_free a_ends a_crowds a_wmade a_firsts a_widths a_heights a_places a_next a_pnear a_table a_overlaps a_drawers a_kept a_items a_numbers a_marks a_near a_figures a_covered a_pcells a_matrix H → va_S (cA ad) s.heap H locs → gw_gatherShrunk_J59 k12 v0 v2 v4 v6 v7 x_rsize a_items = some (z_x_rsize, z_a_items) → W p l e (rmm 4 96) s m av below meth c H locs 0 0 (MQ below (va_Qv (fun (_ : Unit) => True) (fun _ t => cP D ct ad x_fed x_tk x_col x_line x_rcells z_x_rsize x_len x_cuts x_bare x_place x_lA x_lB x_lC x_fX x_fY x_sX x_sY x_made x_fsize x_psize x_over x_touch x_most x_mU x_mV x_area x_board a_tape a_letters a_oneSided a_free a_ends a_crowds a_wmade a_firsts a_widths a_heights a_places a_next a_pnear a_table a_overlaps a_drawers a_kept z_a_items a_numbers a_marks a_near a_figures a_covered a_pcells a_matrix t.heap) (cA ad)) av s 0 0 (cA ad)) (F0 m 59 ls []) := by
        intro H locs ls v4 v7 x_rsize a_items  hl hP hS h
        rw [gw_gatherShrunk_J59] at h
        obtain ⟨v7_15, ev7_15, h⟩ := nm_s h
        refine lv_iinc hx hb dX3_gatherShrunk_59 hl (k := 5) rfl ev7_15.symm (Nat.le_of_ble_eq_true rfl) (lv' := [(7, .int v7_15), (0, .long v0), (2, .int v2), (3, .ref (ad 5)), (4, .long v4), (6, .int v6)]) rfl (fun ls hl => ?_)
        refine lv_goto hx hb dX3_gatherShrunk_62 (tgt := 12) rfl ?_
        exact ih12 _ _ _ v4 v7_15 x_rsize a_items (lv_sub hl [1, 2, 3, 4, 5, 0] rfl) hP hS h
      rw [gw_gatherShrunk_B12] at h
      refine lv_iload hx hb dX3_gatherShrunk_12 (lv_at hl 5 rfl) ?_
      refine lv_iload hx hb dX3_gatherShrunk_14 (lv_at hl 4 rfl) ?_
      refine lv_icmp_ge hx hb dX3_gatherShrunk_16 (tgt := 65) rfl (fun hc => ?_) (fun hc => ?_)
      · replace h := ifp h hc
        simp only [Option.some.injEq, Prod.mk.injEq] at h
        obtain ⟨rfl, rfl⟩ := h
        exact rc_v hx hb hr hlocks hS dX3_gatherShrunk_65 hP
      · replace h := ifn h hc
        refine lv_lload hx hb dX3_gatherShrunk_19 (lv_at hl 3 rfl) ?_
        refine lv_lload hx hb dX3_gatherShrunk_21 (lv_at hl 3 rfl) ?_
        refine lv_lneg hx hb dX3_gatherShrunk_23 ?_
        refine lv_land hx hb dX3_gatherShrunk_24 ?_
        obtain ⟨v8_16, ev8_16, h⟩ := nm_s h
        refine nmL ev8_16 ?_
        refine lv_lstore hx hb dX3_gatherShrunk_25 hl (Nat.le_of_ble_eq_true rfl) (lv' := [(8, .long v8_16), (0, .long v0), (2, .int v2), (3, .ref (ad 5)), (4, .long v4), (6, .int v6), (7, .int v7)]) rfl (fun ls hl => ?_)
        refine lv_lload hx hb dX3_gatherShrunk_27 (lv_at hl 4 rfl) ?_
        refine lv_lload hx hb dX3_gatherShrunk_29 (lv_at hl 0 rfl) ?_
        refine lv_lxor hx hb dX3_gatherShrunk_31 ?_
        obtain ⟨v4_17, ev4_17, h⟩ := nm_s h
        refine nmL ev4_17 ?_
        refine lv_lstore hx hb dX3_gatherShrunk_32 hl (Nat.le_of_ble_eq_true rfl) (lv' := [(4, .long v4_17), (8, .long v8_16), (0, .long v0), (2, .int v2), (3, .ref (ad 5)), (6, .int v6), (7, .int v7)]) rfl (fun ls hl => ?_)
        refine lv_lload_n hx hb dX3_gatherShrunk_34 rfl (lv_at hl 2 rfl) ?_
        refine lv_lload hx hb dX3_gatherShrunk_35 (lv_at hl 1 rfl) ?_
        refine lv_lxor hx hb dX3_gatherShrunk_37 ?_
        obtain ⟨r_18, hr_19, h⟩ := bd1_s h
        refine sc_i hx hb hml hown hw hN (c_gr_hangs l (v0 ^^^ v8_16) r_18 hr_19) g_RX3_56 hd_X2_hangs (rest := []) hl.1 hS dX3_gatherShrunk_38 rfl rfl ⟨Nat.le_of_ble_eq_true rfl, Nat.le_of_ble_eq_true rfl⟩ rfl rfl (Nat.le_of_ble_eq_true rfl) ⟨Nat.zero_le _, Nat.zero_le _⟩ (fun H locs hk hS => ?_)
        have hP := cP_kept hP hk
        refine lv_if_eq hx hb dX3_gatherShrunk_41 (tgt := 59) rfl (fun hc => ?_) (fun hc => ?_)
        · replace h := ifp h hc
          exact hJ59 _ _ _ v4_17 v7 x_rsize a_items (lv_sub hl [2, 3, 4, 0, 5, 6] rfl) hP hS h
        · replace h := ifn h hc
          refine lv_aload_n hx hb dX3_gatherShrunk_44 rfl (lv_at hl 4 rfl) ?_
          refine lv_lload_n hx hb dX3_gatherShrunk_45 rfl (lv_at hl 2 rfl) ?_
          refine lv_lload hx hb dX3_gatherShrunk_46 (lv_at hl 1 rfl) ?_
          refine lv_lxor hx hb dX3_gatherShrunk_48 ?_
          obtain ⟨r_20, hr_21, h⟩ := bd1_s h
          refine sc_l hx hb hml hown hw hN (c_gr_settled l (v0 ^^^ v8_16) r_20 hr_21) g_RX3_49 hd_X2_settled (rest := [.ref (ad 5)]) hl.1 hS dX3_gatherShrunk_49 rfl rfl ⟨Nat.le_of_ble_eq_true rfl, Nat.le_of_ble_eq_true rfl⟩ rfl rfl (Nat.le_of_ble_eq_true rfl) ⟨Nat.zero_le _, Nat.zero_le _⟩ (fun H locs hk hS => ?_)
          have hP := cP_kept hP hk
          refine lv_iload_n hx hb dX3_gatherShrunk_52 rfl (lv_at hl 3 rfl) ?_
          obtain ⟨r_22, hr_23, h⟩ := bd1_s h
          refine sc_l hx hb hml hown hw hN (c_gr_least l r_20 v2 r_22 hr_23) g_RX3_52 hd_X2_least (rest := [.ref (ad 5)]) hl.1 hS dX3_gatherShrunk_53 rfl rfl ⟨Nat.le_of_ble_eq_true rfl, Nat.le_of_ble_eq_true rfl⟩ rfl rfl (Nat.le_of_ble_eq_true rfl) ⟨Nat.zero_le _, Nat.zero_le _⟩ (fun H locs hk hS => ?_)
          have hP := cP_kept hP hk
          obtain ⟨x_rsize_24, a_items_25, hr_26, h⟩ := bd2_s h
          refine hv_v hx hb hml hown hw cB_bl (cB_of hN hK hP) (cr_RW hK hP) (c_rw_add l D ct ad hI r_22 x_rsize_24 a_items_25 hr_26) g_RX3_9 ⟨rfl, hd_X8_add⟩ (rest := []) hl.1 hS (fun q h => h) dX3_gatherShrunk_56 rfl rfl ⟨Nat.le_of_ble_eq_true rfl, Nat.le_of_ble_eq_true rfl⟩ rfl rfl (Nat.le_of_ble_eq_true rfl) ⟨Nat.zero_le _, Nat.zero_le _⟩ (fun H locs hP _ hS => ?_)
          exact hJ59 _ _ _ v4_17 v7 x_rsize_24 a_items_25 (lv_sub hl [2, 3, 4, 0, 5, 6] rfl) hP hS h
  refine lv_lload_n hx hb dX3_gatherShrunk_0 rfl (lv_at hl 0 rfl) ?_
  refine lv_lstore hx hb dX3_gatherShrunk_1 hl (Nat.le_of_ble_eq_true rfl) (lv' := [(4, .long v0), (0, .long v0), (2, .int v2), (3, .ref (ad 5))]) rfl (fun ls hl => ?_)
  refine lv_lload_n hx hb dX3_gatherShrunk_3 rfl (lv_at hl 1 rfl) ?_
  obtain ⟨r_27, hr_28, h⟩ := bd1_s h
  refine sc_i hx hb hml hown hw hN (c_jl_bitCount l v0 r_27 hr_28) g_RX3_36 hd_J13_bitCount_95d88 (rest := []) hl.1 hS dX3_gatherShrunk_4 rfl rfl ⟨Nat.le_of_ble_eq_true rfl, Nat.le_of_ble_eq_true rfl⟩ rfl rfl (Nat.le_of_ble_eq_true rfl) ⟨Nat.zero_le _, Nat.zero_le _⟩ (fun H locs hk hS => ?_)
  have hP := cP_kept hP hk
  refine lv_istore hx hb dX3_gatherShrunk_7 hl (Nat.le_of_ble_eq_true rfl) (lv' := [(6, .int r_27), (4, .long v0), (0, .long v0), (2, .int v2), (3, .ref (ad 5))]) rfl (fun ls hl => ?_)
  refine lv_iconst (v := 0) hx hb dX3_gatherShrunk_9 ki_0 ?_
  refine lv_istore hx hb dX3_gatherShrunk_10 hl (Nat.le_of_ble_eq_true rfl) (lv' := [(7, .int 0), (6, .int r_27), (4, .long v0), (0, .long v0), (2, .int v2), (3, .ref (ad 5))]) rfl (fun ls hl => ?_)
  exact hL12 v0 v2 r_27 FU _ _ _ v0 0 x_rsize a_items (lv_sub hl [3, 4, 5, 2, 1, 0] rfl) hP hS h
noncomputable def gw_gatherGrown_B34 (v2 : Int32) (v4 : Int64) (v8 : Int32)  (k34 : Int64 → Int32 → Int32 → (Nat → Int64) → Option (Int32 × (Nat → Int64))) (v6 : Int64) (v9 : Int32) (x_rsize : Int32) (a_items : Nat → Int64) : Option (Int32 × (Nat → Int64)) :=
  if v8 ≤ v9 then (some (x_rsize, a_items)) else
  nm (v6 &&& (-v6) : Int64) fun v10_1 =>
  nm (v6 ^^^ v10_1 : Int64) fun v6_2 =>
  bd1 (gr_settled (v4 ||| v10_1)) fun r_3 =>
  bd1 (gr_least r_3 v2) fun r_5 =>
  bd2 (rw_add r_5 x_rsize a_items) fun x_rsize_7 a_items_8 =>
  nm (v9 + Int32.ofInt 1) fun v9_10 =>
  k34 v6_2 v9_10 x_rsize_7 a_items_8
noncomputable def gw_gatherGrown (v0 : Int64) (v2 : Int32) (x_rsize : Int32) (a_items : Nat → Int64) : Option (Int32 × (Nat → Int64)) :=
  bd1 (jl_bitCount v0) fun r_11 =>
  if r_11 < 12 then (bd1 (gr_roomed v0) fun r_13 =>
  bd1 (gr_sites v0 r_13) fun r_15 =>
  bd1 (jl_bitCount r_15) fun r_17 =>
  fl4 (gw_gatherGrown_B34 v2 r_13 r_17) FU r_15 0 x_rsize a_items) else
  some (x_rsize, a_items)
set_option maxHeartbeats 4000000 in
set_option maxRecDepth 100000 in
theorem c_gw_gatherGrown (l : Launch) (D : va_G) (ct : Nat → ClassId) (ad : Nat → Nat) (hI : cI ad) {x_fed x_tk x_col x_line x_rcells x_rsize x_len x_cuts x_bare x_place x_lA x_lB x_lC x_fX x_fY x_sX x_sY x_made x_fsize x_psize x_over x_touch x_most x_mU x_mV x_area : Int32} {x_board : Int64} {a_tape a_letters a_oneSided a_free a_ends a_crowds a_wmade a_firsts a_widths a_heights a_places a_next a_pnear a_table a_overlaps : Nat → Int32} {a_drawers a_kept a_items a_numbers a_marks a_near a_figures a_covered a_pcells a_matrix : Nat → Int64} (v0 : Int64) (v2 : Int32)  (z_x_rsize : Int32) (z_a_items : Nat → Int64) (h : gw_gatherGrown v0 v2 x_rsize a_items = some (z_x_rsize, z_a_items)) : Met l yX3_gatherGrown (wm yX3_gatherGrown cX3_gatherGrown 12 none) (rmm 4 96) (va_Pc [.long v0, .int v2, .ref (ad 5)] (cB D ct ad x_fed x_tk x_col x_line x_rcells x_rsize x_len x_cuts x_bare x_place x_lA x_lB x_lC x_fX x_fY x_sX x_sY x_made x_fsize x_psize x_over x_touch x_most x_mU x_mV x_area x_board a_tape a_letters a_oneSided a_free a_ends a_crowds a_wmade a_firsts a_widths a_heights a_places a_next a_pnear a_table a_overlaps a_drawers a_kept a_items a_numbers a_marks a_near a_figures a_covered a_pcells a_matrix)) (va_Qv (fun (_ : Unit) => True) (fun _ t => cP D ct ad x_fed x_tk x_col x_line x_rcells z_x_rsize x_len x_cuts x_bare x_place x_lA x_lB x_lC x_fX x_fY x_sX x_sY x_made x_fsize x_psize x_over x_touch x_most x_mU x_mV x_area x_board a_tape a_letters a_oneSided a_free a_ends a_crowds a_wmade a_firsts a_widths a_heights a_places a_next a_pnear a_table a_overlaps a_drawers a_kept z_a_items a_numbers a_marks a_near a_figures a_covered a_pcells a_matrix t.heap) (cA ad)) 0 0 (cA ad) := by
  refine met_s (y := yX3_gatherGrown) (rm := rmm 4 96) (by decide) (Nat.le_of_ble_eq_true rfl) ?_
  intro p e s m below meth c hx hb hr hw hown hlocks _ hml hB ls hl
  obtain ⟨hN, hK, hP⟩ := hB
  replace hl : lv_has ls 12 [(0, .long v0), (2, .int v2), (3, .ref (ad 5))] := hl
  have hS : va_S (cA ad) s.heap s.heap [] := va_S.rf
  generalize (([.long v0, .int v2, .ref (ad 5)] : List Value).toArray) = av at hw ⊢
  rw [gw_gatherGrown] at h
  have hL34 : ∀ (v2 : Int32), ∀ (v4 : Int64), ∀ (v8 : Int32), ∀ (n34 : Nat) (H : Heap) (locs : List Loc) (ls : Array Slot) (v6 : Int64) (v9 : Int32) (x_rsize : Int32) (a_items : Nat → Int64), lv_has ls 12 [(2, .int v2), (3, .ref (ad 5)), (4, .long v4), (6, .long v6), (8, .int v8), (9, .int v9)] → cP D ct ad x_fed x_tk x_col x_line x_rcells x_rsize x_len x_cuts x_bare x_place x_lA x_lB x_lC x_fX x_fY x_sX x_sY x_made x_fsize x_psize x_over x_touch x_most x_mU x_mV x_area x_board a_tape a_letters a_oneSided a_free a_ends a_crowds a_wmade a_firsts a_widths a_heights a_places a_next a_pnear a_table a_overlaps a_drawers a_kept a_items a_numbers a_marks a_near a_figures a_covered a_pcells a_matrix H → va_S (cA ad) s.heap H locs → fl4 (gw_gatherGrown_B34 v2 v4 v8) n34 v6 v9 x_rsize a_items = some (z_x_rsize, z_a_items) → W p l e (rmm 4 96) s m av below meth c H locs 0 0 (MQ below (va_Qv (fun (_ : Unit) => True) (fun _ t => cP D ct ad x_fed x_tk x_col x_line x_rcells z_x_rsize x_len x_cuts x_bare x_place x_lA x_lB x_lC x_fX x_fY x_sX x_sY x_made x_fsize x_psize x_over x_touch x_most x_mU x_mV x_area x_board a_tape a_letters a_oneSided a_free a_ends a_crowds a_wmade a_firsts a_widths a_heights a_places a_next a_pnear a_table a_overlaps a_drawers a_kept z_a_items a_numbers a_marks a_near a_figures a_covered a_pcells a_matrix t.heap) (cA ad)) av s 0 0 (cA ad)) (F0 m 34 ls []) := by
    intro v2 v4 v8 n34
    induction n34 with
    | zero => intro H locs ls v6 v9 x_rsize a_items hl hP hS h; cases h
    | succ n34 ih34 =>
      intro H locs ls v6 v9 x_rsize a_items hl hP hS h
      replace h : gw_gatherGrown_B34 v2 v4 v8 (fl4 (gw_gatherGrown_B34 v2 v4 v8) n34) v6 v9 x_rsize a_items = some (z_x_rsize, z_a_items) := h
      generalize fl4 (gw_gatherGrown_B34 v2 v4 v8) n34 = k34 at h ih34
      rw [gw_gatherGrown_B34] at h
      refine lv_iload hx hb dX3_gatherGrown_34 (lv_at hl 5 rfl) ?_
      refine lv_iload hx hb dX3_gatherGrown_36 (lv_at hl 4 rfl) ?_
      refine lv_icmp_ge hx hb dX3_gatherGrown_38 (tgt := 78) rfl (fun hc => ?_) (fun hc => ?_)
      · replace h := ifp h hc
        simp only [Option.some.injEq, Prod.mk.injEq] at h
        obtain ⟨rfl, rfl⟩ := h
        exact rc_v hx hb hr hlocks hS dX3_gatherGrown_78 hP
      · replace h := ifn h hc
        refine lv_lload hx hb dX3_gatherGrown_41 (lv_at hl 3 rfl) ?_
        refine lv_lload hx hb dX3_gatherGrown_43 (lv_at hl 3 rfl) ?_
        refine lv_lneg hx hb dX3_gatherGrown_45 ?_
        refine lv_land hx hb dX3_gatherGrown_46 ?_
        obtain ⟨v10_19, ev10_19, h⟩ := nm_s h
        refine nmL ev10_19 ?_
        refine lv_lstore hx hb dX3_gatherGrown_47 hl (Nat.le_of_ble_eq_true rfl) (lv' := [(10, .long v10_19), (2, .int v2), (3, .ref (ad 5)), (4, .long v4), (6, .long v6), (8, .int v8), (9, .int v9)]) rfl (fun ls hl => ?_)
        refine lv_lload hx hb dX3_gatherGrown_49 (lv_at hl 4 rfl) ?_
        refine lv_lload hx hb dX3_gatherGrown_51 (lv_at hl 0 rfl) ?_
        refine lv_lxor hx hb dX3_gatherGrown_53 ?_
        obtain ⟨v6_20, ev6_20, h⟩ := nm_s h
        refine nmL ev6_20 ?_
        refine lv_lstore hx hb dX3_gatherGrown_54 hl (Nat.le_of_ble_eq_true rfl) (lv' := [(6, .long v6_20), (10, .long v10_19), (2, .int v2), (3, .ref (ad 5)), (4, .long v4), (8, .int v8), (9, .int v9)]) rfl (fun ls hl => ?_)
        refine lv_aload_n hx hb dX3_gatherGrown_56 rfl (lv_at hl 3 rfl) ?_
        refine lv_lload hx hb dX3_gatherGrown_57 (lv_at hl 4 rfl) ?_
        refine lv_lload hx hb dX3_gatherGrown_59 (lv_at hl 1 rfl) ?_
        refine lv_lor hx hb dX3_gatherGrown_61 ?_
        obtain ⟨r_21, hr_22, h⟩ := bd1_s h
        refine sc_l hx hb hml hown hw hN (c_gr_settled l (v4 ||| v10_19) r_21 hr_22) g_RX3_49 hd_X2_settled (rest := [.ref (ad 5)]) hl.1 hS dX3_gatherGrown_62 rfl rfl ⟨Nat.le_of_ble_eq_true rfl, Nat.le_of_ble_eq_true rfl⟩ rfl rfl (Nat.le_of_ble_eq_true rfl) ⟨Nat.zero_le _, Nat.zero_le _⟩ (fun H locs hk hS => ?_)
        have hP := cP_kept hP hk
        refine lv_iload_n hx hb dX3_gatherGrown_65 rfl (lv_at hl 2 rfl) ?_
        obtain ⟨r_23, hr_24, h⟩ := bd1_s h
        refine sc_l hx hb hml hown hw hN (c_gr_least l r_21 v2 r_23 hr_24) g_RX3_52 hd_X2_least (rest := [.ref (ad 5)]) hl.1 hS dX3_gatherGrown_66 rfl rfl ⟨Nat.le_of_ble_eq_true rfl, Nat.le_of_ble_eq_true rfl⟩ rfl rfl (Nat.le_of_ble_eq_true rfl) ⟨Nat.zero_le _, Nat.zero_le _⟩ (fun H locs hk hS => ?_)
        have hP := cP_kept hP hk
        obtain ⟨x_rsize_25, a_items_26, hr_27, h⟩ := bd2_s h
        refine hv_v hx hb hml hown hw cB_bl (cB_of hN hK hP) (cr_RW hK hP) (c_rw_add l D ct ad hI r_23 x_rsize_25 a_items_26 hr_27) g_RX3_9 ⟨rfl, hd_X8_add⟩ (rest := []) hl.1 hS (fun q h => h) dX3_gatherGrown_69 rfl rfl ⟨Nat.le_of_ble_eq_true rfl, Nat.le_of_ble_eq_true rfl⟩ rfl rfl (Nat.le_of_ble_eq_true rfl) ⟨Nat.zero_le _, Nat.zero_le _⟩ (fun H locs hP _ hS => ?_)
        obtain ⟨v9_28, ev9_28, h⟩ := nm_s h
        refine lv_iinc hx hb dX3_gatherGrown_72 hl (k := 6) rfl ev9_28.symm (Nat.le_of_ble_eq_true rfl) (lv' := [(9, .int v9_28), (6, .long v6_20), (10, .long v10_19), (2, .int v2), (3, .ref (ad 5)), (4, .long v4), (8, .int v8)]) rfl (fun ls hl => ?_)
        refine lv_goto hx hb dX3_gatherGrown_75 (tgt := 34) rfl ?_
        exact ih34 _ _ _ v6_20 v9_28 x_rsize_25 a_items_26 (lv_sub hl [3, 4, 5, 1, 6, 0] rfl) hP hS h
  refine lv_lload_n hx hb dX3_gatherGrown_0 rfl (lv_at hl 0 rfl) ?_
  obtain ⟨r_29, hr_30, h⟩ := bd1_s h
  refine sc_i hx hb hml hown hw hN (c_jl_bitCount l v0 r_29 hr_30) g_RX3_36 hd_J13_bitCount_95d88 (rest := []) hl.1 hS dX3_gatherGrown_1 rfl rfl ⟨Nat.le_of_ble_eq_true rfl, Nat.le_of_ble_eq_true rfl⟩ rfl rfl (Nat.le_of_ble_eq_true rfl) ⟨Nat.zero_le _, Nat.zero_le _⟩ (fun H locs hk hS => ?_)
  have hP := cP_kept hP hk
  refine lv_bipush (v := 12) hx hb dX3_gatherGrown_4 kb_12 ?_
  refine lv_icmp_lt hx hb dX3_gatherGrown_6 (tgt := 10) rfl (fun hc => ?_) (fun hc => ?_)
  · replace h := ifp h hc
    refine lv_lload_n hx hb dX3_gatherGrown_10 rfl (lv_at hl 0 rfl) ?_
    obtain ⟨r_31, hr_32, h⟩ := bd1_s h
    refine sc_l hx hb hml hown hw hN (c_gr_roomed l v0 r_31 hr_32) g_RX3_42 hd_X2_roomed (rest := []) hl.1 hS dX3_gatherGrown_11 rfl rfl ⟨Nat.le_of_ble_eq_true rfl, Nat.le_of_ble_eq_true rfl⟩ rfl rfl (Nat.le_of_ble_eq_true rfl) ⟨Nat.zero_le _, Nat.zero_le _⟩ (fun H locs hk hS => ?_)
    have hP := cP_kept hP hk
    refine lv_lstore hx hb dX3_gatherGrown_14 hl (Nat.le_of_ble_eq_true rfl) (lv' := [(4, .long r_31), (0, .long v0), (2, .int v2), (3, .ref (ad 5))]) rfl (fun ls hl => ?_)
    refine lv_lload_n hx hb dX3_gatherGrown_16 rfl (lv_at hl 1 rfl) ?_
    refine lv_lload hx hb dX3_gatherGrown_17 (lv_at hl 0 rfl) ?_
    obtain ⟨r_33, hr_34, h⟩ := bd1_s h
    refine sc_l hx hb hml hown hw hN (c_gr_sites l v0 r_31 r_33 hr_34) g_RX3_45 hd_X2_sites (rest := []) hl.1 hS dX3_gatherGrown_19 rfl rfl ⟨Nat.le_of_ble_eq_true rfl, Nat.le_of_ble_eq_true rfl⟩ rfl rfl (Nat.le_of_ble_eq_true rfl) ⟨Nat.zero_le _, Nat.zero_le _⟩ (fun H locs hk hS => ?_)
    have hP := cP_kept hP hk
    refine lv_lstore hx hb dX3_gatherGrown_22 hl (Nat.le_of_ble_eq_true rfl) (lv' := [(6, .long r_33), (4, .long r_31), (0, .long v0), (2, .int v2), (3, .ref (ad 5))]) rfl (fun ls hl => ?_)
    refine lv_lload hx hb dX3_gatherGrown_24 (lv_at hl 0 rfl) ?_
    obtain ⟨r_35, hr_36, h⟩ := bd1_s h
    refine sc_i hx hb hml hown hw hN (c_jl_bitCount l r_33 r_35 hr_36) g_RX3_36 hd_J13_bitCount_95d88 (rest := []) hl.1 hS dX3_gatherGrown_26 rfl rfl ⟨Nat.le_of_ble_eq_true rfl, Nat.le_of_ble_eq_true rfl⟩ rfl rfl (Nat.le_of_ble_eq_true rfl) ⟨Nat.zero_le _, Nat.zero_le _⟩ (fun H locs hk hS => ?_)
    have hP := cP_kept hP hk
    refine lv_istore hx hb dX3_gatherGrown_29 hl (Nat.le_of_ble_eq_true rfl) (lv' := [(8, .int r_35), (6, .long r_33), (4, .long r_31), (0, .long v0), (2, .int v2), (3, .ref (ad 5))]) rfl (fun ls hl => ?_)
    refine lv_iconst (v := 0) hx hb dX3_gatherGrown_31 ki_0 ?_
    refine lv_istore hx hb dX3_gatherGrown_32 hl (Nat.le_of_ble_eq_true rfl) (lv' := [(9, .int 0), (8, .int r_35), (6, .long r_33), (4, .long r_31), (0, .long v0), (2, .int v2), (3, .ref (ad 5))]) rfl (fun ls hl => ?_)
    exact hL34 v2 r_31 r_35 FU _ _ _ r_33 0 x_rsize a_items (lv_sub hl [5, 6, 3, 2, 1, 0] rfl) hP hS h
  · replace h := ifn h hc
    simp only [Option.some.injEq, Prod.mk.injEq] at h
    obtain ⟨rfl, rfl⟩ := h
    exact rc_v hx hb hr hlocks hS dX3_gatherGrown_9 hP
noncomputable def gw_gather (v0 : Int64) (v2 : Int32) (v3 : Int32) (x_rsize : Int32) (a_items : Nat → Int64) : Option (Int32 × (Nat → Int64)) :=
  bd1 (rw_clear x_rsize) fun x_rsize_1 =>
  if v3 = 0 then (bd2 (gw_gatherShrunk v0 v2 x_rsize_1 a_items) fun x_rsize_3 a_items_4 =>
  some (x_rsize_3, a_items_4)) else
  bd2 (gw_gatherGrown v0 v2 x_rsize_1 a_items) fun x_rsize_6 a_items_7 =>
  some (x_rsize_6, a_items_7)
set_option maxHeartbeats 4000000 in
set_option maxRecDepth 100000 in
theorem c_gw_gather (l : Launch) (D : va_G) (ct : Nat → ClassId) (ad : Nat → Nat) (hI : cI ad) {x_fed x_tk x_col x_line x_rcells x_rsize x_len x_cuts x_bare x_place x_lA x_lB x_lC x_fX x_fY x_sX x_sY x_made x_fsize x_psize x_over x_touch x_most x_mU x_mV x_area : Int32} {x_board : Int64} {a_tape a_letters a_oneSided a_free a_ends a_crowds a_wmade a_firsts a_widths a_heights a_places a_next a_pnear a_table a_overlaps : Nat → Int32} {a_drawers a_kept a_items a_numbers a_marks a_near a_figures a_covered a_pcells a_matrix : Nat → Int64} (v0 : Int64) (v2 : Int32) (v3 : Int32)  (z_x_rsize : Int32) (z_a_items : Nat → Int64) (h : gw_gather v0 v2 v3 x_rsize a_items = some (z_x_rsize, z_a_items)) : Met l yX3_gather (wm yX3_gather cX3_gather 5 none) (rmm 5 127) (va_Pc [.long v0, .int v2, .int v3, .ref (ad 5)] (cB D ct ad x_fed x_tk x_col x_line x_rcells x_rsize x_len x_cuts x_bare x_place x_lA x_lB x_lC x_fX x_fY x_sX x_sY x_made x_fsize x_psize x_over x_touch x_most x_mU x_mV x_area x_board a_tape a_letters a_oneSided a_free a_ends a_crowds a_wmade a_firsts a_widths a_heights a_places a_next a_pnear a_table a_overlaps a_drawers a_kept a_items a_numbers a_marks a_near a_figures a_covered a_pcells a_matrix)) (va_Qv (fun (_ : Unit) => True) (fun _ t => cP D ct ad x_fed x_tk x_col x_line x_rcells z_x_rsize x_len x_cuts x_bare x_place x_lA x_lB x_lC x_fX x_fY x_sX x_sY x_made x_fsize x_psize x_over x_touch x_most x_mU x_mV x_area x_board a_tape a_letters a_oneSided a_free a_ends a_crowds a_wmade a_firsts a_widths a_heights a_places a_next a_pnear a_table a_overlaps a_drawers a_kept z_a_items a_numbers a_marks a_near a_figures a_covered a_pcells a_matrix t.heap) (cA ad)) 0 0 (cA ad) := by
  refine met_s (y := yX3_gather) (rm := rmm 5 127) (by decide) (Nat.le_of_ble_eq_true rfl) ?_
  intro p e s m below meth c hx hb hr hw hown hlocks _ hml hB ls hl
  obtain ⟨hN, hK, hP⟩ := hB
  replace hl : lv_has ls 5 [(0, .long v0), (2, .int v2), (3, .int v3), (4, .ref (ad 5))] := hl
  have hS : va_S (cA ad) s.heap s.heap [] := va_S.rf
  generalize (([.long v0, .int v2, .int v3, .ref (ad 5)] : List Value).toArray) = av at hw ⊢
  rw [gw_gather] at h
  refine lv_aload hx hb dX3_gather_0 (lv_at hl 3 rfl) ?_
  obtain ⟨x_rsize_9, hr_10, h⟩ := bd1_s h
  refine hv_v hx hb hml hown hw cB_bl (cB_of hN hK hP) (cr_RW hK hP) (c_rw_clear l D ct ad hI x_rsize_9 hr_10) g_RX3_24 ⟨rfl, hd_X8_clear⟩ (rest := []) hl.1 hS (fun q h => h) dX3_gather_2 rfl rfl ⟨Nat.le_of_ble_eq_true rfl, Nat.le_of_ble_eq_true rfl⟩ rfl rfl (Nat.le_of_ble_eq_true rfl) ⟨Nat.zero_le _, Nat.zero_le _⟩ (fun H locs hP _ hS => ?_)
  refine lv_iload_n hx hb dX3_gather_5 rfl (lv_at hl 2 rfl) ?_
  refine lv_if_eq hx hb dX3_gather_6 (tgt := 19) rfl (fun hc => ?_) (fun hc => ?_)
  · replace h := ifp h hc
    refine lv_lload_n hx hb dX3_gather_19 rfl (lv_at hl 0 rfl) ?_
    refine lv_iload_n hx hb dX3_gather_20 rfl (lv_at hl 1 rfl) ?_
    refine lv_aload hx hb dX3_gather_21 (lv_at hl 3 rfl) ?_
    obtain ⟨x_rsize_11, a_items_12, hr_13, h⟩ := bd2_s h
    refine hs_v hx hb hml hown hw cB_bl (cB_of hN hK hP) (c_gw_gatherShrunk l D ct ad hI v0 v2 x_rsize_11 a_items_12 hr_13) g_RX3_33 hd_X3_gatherShrunk (rest := []) hl.1 hS (fun q h => h) dX3_gather_23 rfl rfl ⟨Nat.le_of_ble_eq_true rfl, Nat.le_of_ble_eq_true rfl⟩ rfl rfl (Nat.le_of_ble_eq_true rfl) ⟨Nat.zero_le _, Nat.zero_le _⟩ (fun H locs hP _ hS => ?_)
    simp only [Option.some.injEq, Prod.mk.injEq] at h
    obtain ⟨rfl, rfl⟩ := h
    exact rc_v hx hb hr hlocks hS dX3_gather_26 hP
  · replace h := ifn h hc
    refine lv_lload_n hx hb dX3_gather_9 rfl (lv_at hl 0 rfl) ?_
    refine lv_iload_n hx hb dX3_gather_10 rfl (lv_at hl 1 rfl) ?_
    refine lv_aload hx hb dX3_gather_11 (lv_at hl 3 rfl) ?_
    obtain ⟨x_rsize_14, a_items_15, hr_16, h⟩ := bd2_s h
    refine hs_v hx hb hml hown hw cB_bl (cB_of hN hK hP) (c_gw_gatherGrown l D ct ad hI v0 v2 x_rsize_14 a_items_15 hr_16) g_RX3_27 hd_X3_gatherGrown (rest := []) hl.1 hS (fun q h => h) dX3_gather_13 rfl rfl ⟨Nat.le_of_ble_eq_true rfl, Nat.le_of_ble_eq_true rfl⟩ rfl rfl (Nat.le_of_ble_eq_true rfl) ⟨Nat.zero_le _, Nat.zero_le _⟩ (fun H locs hP _ hS => ?_)
    refine lv_goto hx hb dX3_gather_16 (tgt := 26) rfl ?_
    simp only [Option.some.injEq, Prod.mk.injEq] at h
    obtain ⟨rfl, rfl⟩ := h
    exact rc_v hx hb hr hlocks hS dX3_gather_26 hP
noncomputable def me_placings_J91 (k5 : Int32 → Int32 → Option (Int32)) (k49 : Int32 → Int32 → Option (Int32)) (k59 : Int32 → Int32 → Option (Int32)) (x_rsize : Int32) (a_items : Nat → Int64) (v1 : Int64) (v3 : Int32) (v4 : Int32) (v5 : Int64) (v7 : Int32) (v8 : Int32) (v9 : Int32) (v10 : Int32)  : Option (Int32) :=
  nm (v10 + Int32.ofInt 1) fun v10_1 =>
  k59 v3 v10_1
noncomputable def me_placings_B59 (v1 : Int64) (v4 : Int32) (v5 : Int64) (v7 : Int32) (v8 : Int32) (v9 : Int32) (x_rsize : Int32) (a_items : Nat → Int64) (k5 : Int32 → Int32 → Option (Int32)) (k49 : Int32 → Int32 → Option (Int32)) (k59 : Int32 → Int32 → Option (Int32)) (v3 : Int32) (v10 : Int32) : Option (Int32) :=
  if v8 < v10 then (nm (v9 + Int32.ofInt 1) fun v9_2 =>
  k49 v3 v9_2) else
  if ((sl v5 ((8 * v9) + v10)) &&& (v1 ^^^ (((-1) : Int64)))) = 0 then (nm (v3 + Int32.ofInt 1) fun v3_3 =>
  me_placings_J91 k5 k49 k59 x_rsize a_items v1 v3_3 v4 v5 v7 v8 v9 v10) else
  me_placings_J91 k5 k49 k59 x_rsize a_items v1 v3 v4 v5 v7 v8 v9 v10
noncomputable def me_placings_B49 (v1 : Int64) (v4 : Int32) (v5 : Int64) (v7 : Int32) (v8 : Int32) (x_rsize : Int32) (a_items : Nat → Int64) (k5 : Int32 → Int32 → Option (Int32)) (k49 : Int32 → Int32 → Option (Int32)) (v3 : Int32) (v9 : Int32) : Option (Int32) :=
  if v7 < v9 then (nm (v4 + Int32.ofInt 1) fun v4_4 =>
  k5 v3 v4_4) else
  fl2 (me_placings_B59 v1 v4 v5 v7 v8 v9 x_rsize a_items k5 k49) FU v3 0
noncomputable def me_placings_B5 (v1 : Int64) (x_rsize : Int32) (a_items : Nat → Int64)  (k5 : Int32 → Int32 → Option (Int32)) (v3 : Int32) (v4 : Int32) : Option (Int32) :=
  bd1 (rw_size x_rsize) fun r_5 =>
  if r_5 ≤ v4 then (some (v3)) else
  bd1 (rw_at v4 x_rsize a_items) fun r_7 =>
  bd1 (gr_height v1) fun r_9 =>
  bd1 (gr_height r_7) fun r_11 =>
  nm (r_9 - r_11 : Int32) fun v7_13 =>
  bd1 (gr_width v1) fun r_14 =>
  bd1 (gr_width r_7) fun r_16 =>
  nm (r_14 - r_16 : Int32) fun v8_18 =>
  fl2 (me_placings_B49 v1 v4 r_7 v7_13 v8_18 x_rsize a_items k5) FU v3 0
noncomputable def me_placings (v1 : Int64) (x_rsize : Int32) (a_items : Nat → Int64) : Option (Int32) :=
  fl2 (me_placings_B5 v1 x_rsize a_items) FU 0 0
set_option maxHeartbeats 4000000 in
set_option maxRecDepth 100000 in
theorem c_me_placings (l : Launch) (D : va_G) (ct : Nat → ClassId) (ad : Nat → Nat) (hI : cI ad) {x_fed x_tk x_col x_line x_rcells x_rsize x_len x_cuts x_bare x_place x_lA x_lB x_lC x_fX x_fY x_sX x_sY x_made x_fsize x_psize x_over x_touch x_most x_mU x_mV x_area : Int32} {x_board : Int64} {a_tape a_letters a_oneSided a_free a_ends a_crowds a_wmade a_firsts a_widths a_heights a_places a_next a_pnear a_table a_overlaps : Nat → Int32} {a_drawers a_kept a_items a_numbers a_marks a_near a_figures a_covered a_pcells a_matrix : Nat → Int64} (v1 : Int64) (r : Int32)  (h : me_placings v1 x_rsize a_items = some (r)) : Met l yX4_placings (wm yX4_placings cX4_placings 11 (some .int)) (rmm 2 44) (va_Pc [.ref (ad 5), .long v1] (cB D ct ad x_fed x_tk x_col x_line x_rcells x_rsize x_len x_cuts x_bare x_place x_lA x_lB x_lC x_fX x_fY x_sX x_sY x_made x_fsize x_psize x_over x_touch x_most x_mU x_mV x_area x_board a_tape a_letters a_oneSided a_free a_ends a_crowds a_wmade a_firsts a_widths a_heights a_places a_next a_pnear a_table a_overlaps a_drawers a_kept a_items a_numbers a_marks a_near a_figures a_covered a_pcells a_matrix)) (va_Qi (fun z (_ : Unit) => z = r) (fun _ t => cP D ct ad x_fed x_tk x_col x_line x_rcells x_rsize x_len x_cuts x_bare x_place x_lA x_lB x_lC x_fX x_fY x_sX x_sY x_made x_fsize x_psize x_over x_touch x_most x_mU x_mV x_area x_board a_tape a_letters a_oneSided a_free a_ends a_crowds a_wmade a_firsts a_widths a_heights a_places a_next a_pnear a_table a_overlaps a_drawers a_kept a_items a_numbers a_marks a_near a_figures a_covered a_pcells a_matrix t.heap) (cA ad)) 0 0 (cA ad) := by
  refine met_s (y := yX4_placings) (rm := rmm 2 44) (by decide) (Nat.le_of_ble_eq_true rfl) ?_
  intro p e s m below meth c hx hb hr hw hown hlocks _ hml hB ls hl
  obtain ⟨hN, hK, hP⟩ := hB
  replace hl : lv_has ls 11 [(0, .ref (ad 5)), (1, .long v1)] := hl
  have hS : va_S (cA ad) s.heap s.heap [] := va_S.rf
  generalize (([.ref (ad 5), .long v1] : List Value).toArray) = av at hw ⊢
  rw [me_placings] at h
  have hL5 : ∀ (v1 : Int64), ∀ (x_rsize : Int32), ∀ (a_items : Nat → Int64), ∀ (n5 : Nat) (H : Heap) (locs : List Loc) (ls : Array Slot) (v3 : Int32) (v4 : Int32), lv_has ls 11 [(0, .ref (ad 5)), (1, .long v1), (3, .int v3), (4, .int v4)] → cP D ct ad x_fed x_tk x_col x_line x_rcells x_rsize x_len x_cuts x_bare x_place x_lA x_lB x_lC x_fX x_fY x_sX x_sY x_made x_fsize x_psize x_over x_touch x_most x_mU x_mV x_area x_board a_tape a_letters a_oneSided a_free a_ends a_crowds a_wmade a_firsts a_widths a_heights a_places a_next a_pnear a_table a_overlaps a_drawers a_kept a_items a_numbers a_marks a_near a_figures a_covered a_pcells a_matrix H → va_S (cA ad) s.heap H locs → fl2 (me_placings_B5 v1 x_rsize a_items) n5 v3 v4 = some (r) → W p l e (rmm 2 44) s m av below meth c H locs 0 0 (MQ below (va_Qi (fun z (_ : Unit) => z = r) (fun _ t => cP D ct ad x_fed x_tk x_col x_line x_rcells x_rsize x_len x_cuts x_bare x_place x_lA x_lB x_lC x_fX x_fY x_sX x_sY x_made x_fsize x_psize x_over x_touch x_most x_mU x_mV x_area x_board a_tape a_letters a_oneSided a_free a_ends a_crowds a_wmade a_firsts a_widths a_heights a_places a_next a_pnear a_table a_overlaps a_drawers a_kept a_items a_numbers a_marks a_near a_figures a_covered a_pcells a_matrix t.heap) (cA ad)) av s 0 0 (cA ad)) (F0 m 5 ls []) := by
    intro v1 x_rsize a_items n5
    induction n5 with
    | zero => intro H locs ls v3 v4 hl hP hS h; cases h
    | succ n5 ih5 =>
      intro H locs ls v3 v4 hl hP hS h
      replace h : me_placings_B5 v1 x_rsize a_items (fl2 (me_placings_B5 v1 x_rsize a_items) n5) v3 v4 = some (r) := h
      generalize fl2 (me_placings_B5 v1 x_rsize a_items) n5 = k5 at h ih5
      have hL49 : ∀ (v4 : Int32), ∀ (v5 : Int64), ∀ (v7 : Int32), ∀ (v8 : Int32), ∀ (n49 : Nat) (H : Heap) (locs : List Loc) (ls : Array Slot) (v3 : Int32) (v9 : Int32), lv_has ls 11 [(0, .ref (ad 5)), (1, .long v1), (3, .int v3), (4, .int v4), (5, .long v5), (7, .int v7), (8, .int v8), (9, .int v9)] → cP D ct ad x_fed x_tk x_col x_line x_rcells x_rsize x_len x_cuts x_bare x_place x_lA x_lB x_lC x_fX x_fY x_sX x_sY x_made x_fsize x_psize x_over x_touch x_most x_mU x_mV x_area x_board a_tape a_letters a_oneSided a_free a_ends a_crowds a_wmade a_firsts a_widths a_heights a_places a_next a_pnear a_table a_overlaps a_drawers a_kept a_items a_numbers a_marks a_near a_figures a_covered a_pcells a_matrix H → va_S (cA ad) s.heap H locs → fl2 (me_placings_B49 v1 v4 v5 v7 v8 x_rsize a_items k5) n49 v3 v9 = some (r) → W p l e (rmm 2 44) s m av below meth c H locs 0 0 (MQ below (va_Qi (fun z (_ : Unit) => z = r) (fun _ t => cP D ct ad x_fed x_tk x_col x_line x_rcells x_rsize x_len x_cuts x_bare x_place x_lA x_lB x_lC x_fX x_fY x_sX x_sY x_made x_fsize x_psize x_over x_touch x_most x_mU x_mV x_area x_board a_tape a_letters a_oneSided a_free a_ends a_crowds a_wmade a_firsts a_widths a_heights a_places a_next a_pnear a_table a_overlaps a_drawers a_kept a_items a_numbers a_marks a_near a_figures a_covered a_pcells a_matrix t.heap) (cA ad)) av s 0 0 (cA ad)) (F0 m 49 ls []) := by
        intro v4 v5 v7 v8 n49
        induction n49 with
        | zero => intro H locs ls v3 v9 hl hP hS h; cases h
        | succ n49 ih49 =>
          intro H locs ls v3 v9 hl hP hS h
          replace h : me_placings_B49 v1 v4 v5 v7 v8 x_rsize a_items k5 (fl2 (me_placings_B49 v1 v4 v5 v7 v8 x_rsize a_items k5) n49) v3 v9 = some (r) := h
          generalize fl2 (me_placings_B49 v1 v4 v5 v7 v8 x_rsize a_items k5) n49 = k49 at h ih49
          have hL59 : ∀ (v9 : Int32), ∀ (n59 : Nat) (H : Heap) (locs : List Loc) (ls : Array Slot) (v3 : Int32) (v10 : Int32), lv_has ls 11 [(0, .ref (ad 5)), (1, .long v1), (3, .int v3), (4, .int v4), (5, .long v5), (7, .int v7), (8, .int v8), (9, .int v9), (10, .int v10)] → cP D ct ad x_fed x_tk x_col x_line x_rcells x_rsize x_len x_cuts x_bare x_place x_lA x_lB x_lC x_fX x_fY x_sX x_sY x_made x_fsize x_psize x_over x_touch x_most x_mU x_mV x_area x_board a_tape a_letters a_oneSided a_free a_ends a_crowds a_wmade a_firsts a_widths a_heights a_places a_next a_pnear a_table a_overlaps a_drawers a_kept a_items a_numbers a_marks a_near a_figures a_covered a_pcells a_matrix H → va_S (cA ad) s.heap H locs → fl2 (me_placings_B59 v1 v4 v5 v7 v8 v9 x_rsize a_items k5 k49) n59 v3 v10 = some (r) → W p l e (rmm 2 44) s m av below meth c H locs 0 0 (MQ below (va_Qi (fun z (_ : Unit) => z = r) (fun _ t => cP D ct ad x_fed x_tk x_col x_line x_rcells x_rsize x_len x_cuts x_bare x_place x_lA x_lB x_lC x_fX x_fY x_sX x_sY x_made x_fsize x_psize x_over x_touch x_most x_mU x_mV x_area x_board a_tape a_letters a_oneSided a_free a_ends a_crowds a_wmade a_firsts a_widths a_heights a_places a_next a_pnear a_table a_overlaps a_drawers a_kept a_items a_numbers a_marks a_near a_figures a_covered a_pcells a_matrix t.heap) (cA ad)) av s 0 0 (cA ad)) (F0 m 59 ls []) := by
            intro v9 n59
            induction n59 with
            | zero => intro H locs ls v3 v10 hl hP hS h; cases h
            | succ n59 ih59 =>
              intro H locs ls v3 v10 hl hP hS h
              replace h : me_placings_B59 v1 v4 v5 v7 v8 v9 x_rsize a_items k5 k49 (fl2 (me_placings_B59 v1 v4 v5 v7 v8 v9 x_rsize a_items k5 k49) n59) v3 v10 = some (r) := h
              generalize fl2 (me_placings_B59 v1 v4 v5 v7 v8 v9 x_rsize a_items k5 k49) n59 = k59 at h ih59
              have hJ91 : ∀ (H : Heap) (locs : List Loc) (ls : Array Slot) (v3 : Int32) (v10 : Int32) , lv_has ls 11 [(0, .ref (ad 5)), (1, .long v1), (3, .int v3), (4, .int v4), (5, .long v5), (7, .int v7), (8, .int v8), (9, .int v9), (10, .int v10)] → cP D ct ad x_fed x_tk x_col x_line x_rcells x_rsize x_len x_cuts x_bare x_place x_lA x_lB x_lC x_fX x_fY x_sX x_sY x_made x_fsize x_psize x_over x_touch x_most x_mU x_mV x_area x_board a_tape a_letters a_oneSided a_free a_ends a_crowds a_wmade a_firsts a_widths a_heights a_places a_next a_pnear a_table a_overlaps a_drawers a_kept a_items a_numbers a_marks a_near a_figures a_covered a_pcells a_matrix H → va_S (cA ad) s.heap H locs → me_placings_J91 k5 k49 k59 x_rsize a_items v1 v3 v4 v5 v7 v8 v9 v10 = some (r) → W p l e (rmm 2 44) s m av below meth c H locs 0 0 (MQ below (va_Qi (fun z (_ : Unit) => z = r) (fun _ t => cP D ct ad x_fed x_tk x_col x_line x_rcells x_rsize x_len x_cuts x_bare x_place x_lA x_lB x_lC x_fX x_fY x_sX x_sY x_made x_fsize x_psize x_over x_touch x_most x_mU x_mV x_area x_board a_tape a_letters a_oneSided a_free a_ends a_crowds a_wmade a_firsts a_widths a_heights a_places a_next a_pnear a_table a_overlaps a_drawers a_kept a_items a_numbers a_marks a_near a_figures a_covered a_pcells a_matrix t.heap) (cA ad)) av s 0 0 (cA ad)) (F0 m 91 ls []) := by
                intro H locs ls v3 v10  hl hP hS h
                rw [me_placings_J91] at h
                obtain ⟨v10_19, ev10_19, h⟩ := nm_s h
                refine lv_iinc hx hb dX4_placings_91 hl (k := 8) rfl ev10_19.symm (Nat.le_of_ble_eq_true rfl) (lv' := [(10, .int v10_19), (0, .ref (ad 5)), (1, .long v1), (3, .int v3), (4, .int v4), (5, .long v5), (7, .int v7), (8, .int v8), (9, .int v9)]) rfl (fun ls hl => ?_)
                refine lv_goto hx hb dX4_placings_94 (tgt := 59) rfl ?_
                exact ih59 _ _ _ v3 v10_19 (lv_sub hl [1, 2, 3, 4, 5, 6, 7, 8, 0] rfl) hP hS h
              rw [me_placings_B59] at h
              refine lv_iload hx hb dX4_placings_59 (lv_at hl 8 rfl) ?_
              refine lv_iload hx hb dX4_placings_61 (lv_at hl 6 rfl) ?_
              refine lv_icmp_gt hx hb dX4_placings_63 (tgt := 97) rfl (fun hc => ?_) (fun hc => ?_)
              · replace h := ifp h hc
                obtain ⟨v9_20, ev9_20, h⟩ := nm_s h
                refine lv_iinc hx hb dX4_placings_97 hl (k := 7) rfl ev9_20.symm (Nat.le_of_ble_eq_true rfl) (lv' := [(9, .int v9_20), (0, .ref (ad 5)), (1, .long v1), (3, .int v3), (4, .int v4), (5, .long v5), (7, .int v7), (8, .int v8), (10, .int v10)]) rfl (fun ls hl => ?_)
                refine lv_goto hx hb dX4_placings_100 (tgt := 49) rfl ?_
                exact ih49 _ _ _ v3 v9_20 (lv_sub hl [1, 2, 3, 4, 5, 6, 7, 0] rfl) hP hS h
              · replace h := ifn h hc
                refine lv_lload hx hb dX4_placings_66 (lv_at hl 4 rfl) ?_
                refine lv_bipush (v := 8) hx hb dX4_placings_68 kb_8 ?_
                refine lv_iload hx hb dX4_placings_70 (lv_at hl 7 rfl) ?_
                refine lv_imul hx hb dX4_placings_72 ?_
                refine lv_iload hx hb dX4_placings_73 (lv_at hl 8 rfl) ?_
                refine lv_iadd hx hb dX4_placings_75 ?_
                refine lv_lshl hx hb (v := sl v5 ((8 * v9) + v10)) dX4_placings_76 rfl ?_
                refine lv_lload_n hx hb dX4_placings_77 rfl (lv_at hl 1 rfl) ?_
                refine lv_ldc2 hx hb hown (hw _ tw_48_6) dX4_placings_78 ?_
                refine lv_lxor hx hb dX4_placings_81 ?_
                refine lv_land hx hb dX4_placings_82 ?_
                refine lv_lconst (v := 0) hx hb dX4_placings_83 kl_0 ?_
                refine W.lcmp hx hb dX4_placings_84 ?_
                refine lv_if_ne hx hb dX4_placings_85 (tgt := 91) rfl (fun hc => ?_) (fun hc => ?_)
                · replace h := ifn h (fun q => hc ((lg_cmp_eq _ _).mpr q))
                  exact hJ91 _ _ _ v3 v10 (lv_sub hl [0, 1, 2, 3, 4, 5, 6, 7, 8] rfl) hP hS h
                · replace h := ifp h ((lg_cmp_eq _ _).mp hc)
                  obtain ⟨v3_21, ev3_21, h⟩ := nm_s h
                  refine lv_iinc hx hb dX4_placings_88 hl (k := 2) rfl ev3_21.symm (Nat.le_of_ble_eq_true rfl) (lv' := [(3, .int v3_21), (0, .ref (ad 5)), (1, .long v1), (4, .int v4), (5, .long v5), (7, .int v7), (8, .int v8), (9, .int v9), (10, .int v10)]) rfl (fun ls hl => ?_)
                  exact hJ91 _ _ _ v3_21 v10 (lv_sub hl [1, 2, 0, 3, 4, 5, 6, 7, 8] rfl) hP hS h
          rw [me_placings_B49] at h
          refine lv_iload hx hb dX4_placings_49 (lv_at hl 7 rfl) ?_
          refine lv_iload hx hb dX4_placings_51 (lv_at hl 5 rfl) ?_
          refine lv_icmp_gt hx hb dX4_placings_53 (tgt := 103) rfl (fun hc => ?_) (fun hc => ?_)
          · replace h := ifp h hc
            obtain ⟨v4_22, ev4_22, h⟩ := nm_s h
            refine lv_iinc hx hb dX4_placings_103 hl (k := 3) rfl ev4_22.symm (Nat.le_of_ble_eq_true rfl) (lv' := [(4, .int v4_22), (0, .ref (ad 5)), (1, .long v1), (3, .int v3), (5, .long v5), (7, .int v7), (8, .int v8), (9, .int v9)]) rfl (fun ls hl => ?_)
            refine lv_goto hx hb dX4_placings_106 (tgt := 5) rfl ?_
            exact ih5 _ _ _ v3 v4_22 (lv_sub hl [1, 2, 3, 0] rfl) hP hS h
          · replace h := ifn h hc
            refine lv_iconst (v := 0) hx hb dX4_placings_56 ki_0 ?_
            refine lv_istore hx hb dX4_placings_57 hl (Nat.le_of_ble_eq_true rfl) (lv' := [(10, .int 0), (0, .ref (ad 5)), (1, .long v1), (3, .int v3), (4, .int v4), (5, .long v5), (7, .int v7), (8, .int v8), (9, .int v9)]) rfl (fun ls hl => ?_)
            exact hL59 v9 FU _ _ _ v3 0 (lv_sub hl [1, 2, 3, 4, 5, 6, 7, 8, 0] rfl) hP hS h
      rw [me_placings_B5] at h
      refine lv_iload hx hb dX4_placings_5 (lv_at hl 3 rfl) ?_
      refine lv_aload_n hx hb dX4_placings_7 rfl (lv_at hl 0 rfl) ?_
      obtain ⟨r_23, hr_24, h⟩ := bd1_s h
      refine hv_i hx hb hml hown hw cB_bl (cB_of hN hK hP) (cr_RW hK hP) (c_rw_size l D ct ad hI r_23 hr_24) g_RX4_31 ⟨rfl, hd_X8_size⟩ (rest := [.int v4]) hl.1 hS (fun q h => h) dX4_placings_8 rfl rfl ⟨Nat.le_of_ble_eq_true rfl, Nat.le_of_ble_eq_true rfl⟩ rfl rfl (Nat.le_of_ble_eq_true rfl) ⟨Nat.zero_le _, Nat.zero_le _⟩ (fun H locs hP _ hS => ?_)
      refine lv_icmp_ge hx hb dX4_placings_11 (tgt := 109) rfl (fun hc => ?_) (fun hc => ?_)
      · replace h := ifp h hc
        refine lv_iload_n hx hb dX4_placings_109 rfl (lv_at hl 2 rfl) ?_
        replace h := Option.some.inj h
        subst h
        exact rc_i hx hb hr hlocks hS dX4_placings_110 rfl hP
      · replace h := ifn h hc
        refine lv_aload_n hx hb dX4_placings_14 rfl (lv_at hl 0 rfl) ?_
        refine lv_iload hx hb dX4_placings_15 (lv_at hl 3 rfl) ?_
        obtain ⟨r_25, hr_26, h⟩ := bd1_s h
        refine hv_l hx hb hml hown hw cB_bl (cB_of hN hK hP) (cr_RW hK hP) (c_rw_at l D ct ad hI v4 r_25 hr_26) g_RX4_37 ⟨rfl, hd_X8_at⟩ (rest := []) hl.1 hS (fun q h => h) dX4_placings_17 rfl rfl ⟨Nat.le_of_ble_eq_true rfl, Nat.le_of_ble_eq_true rfl⟩ rfl rfl (Nat.le_of_ble_eq_true rfl) ⟨Nat.zero_le _, Nat.zero_le _⟩ (fun H locs hP _ hS => ?_)
        refine lv_lstore hx hb dX4_placings_20 hl (Nat.le_of_ble_eq_true rfl) (lv' := [(5, .long r_25), (0, .ref (ad 5)), (1, .long v1), (3, .int v3), (4, .int v4)]) rfl (fun ls hl => ?_)
        refine lv_lload_n hx hb dX4_placings_22 rfl (lv_at hl 2 rfl) ?_
        obtain ⟨r_27, hr_28, h⟩ := bd1_s h
        refine sc_i hx hb hml hown hw hN (c_gr_height l v1 r_27 hr_28) g_RX4_41 hd_X2_height (rest := []) hl.1 hS dX4_placings_23 rfl rfl ⟨Nat.le_of_ble_eq_true rfl, Nat.le_of_ble_eq_true rfl⟩ rfl rfl (Nat.le_of_ble_eq_true rfl) ⟨Nat.zero_le _, Nat.zero_le _⟩ (fun H locs hk hS => ?_)
        have hP := cP_kept hP hk
        refine lv_lload hx hb dX4_placings_26 (lv_at hl 0 rfl) ?_
        obtain ⟨r_29, hr_30, h⟩ := bd1_s h
        refine sc_i hx hb hml hown hw hN (c_gr_height l r_25 r_29 hr_30) g_RX4_41 hd_X2_height (rest := [.int r_27]) hl.1 hS dX4_placings_28 rfl rfl ⟨Nat.le_of_ble_eq_true rfl, Nat.le_of_ble_eq_true rfl⟩ rfl rfl (Nat.le_of_ble_eq_true rfl) ⟨Nat.zero_le _, Nat.zero_le _⟩ (fun H locs hk hS => ?_)
        have hP := cP_kept hP hk
        refine lv_isub hx hb dX4_placings_31 ?_
        obtain ⟨v7_31, ev7_31, h⟩ := nm_s h
        refine nmI ev7_31 ?_
        refine lv_istore hx hb dX4_placings_32 hl (Nat.le_of_ble_eq_true rfl) (lv' := [(7, .int v7_31), (5, .long r_25), (0, .ref (ad 5)), (1, .long v1), (3, .int v3), (4, .int v4)]) rfl (fun ls hl => ?_)
        refine lv_lload_n hx hb dX4_placings_34 rfl (lv_at hl 3 rfl) ?_
        obtain ⟨r_32, hr_33, h⟩ := bd1_s h
        refine sc_i hx hb hml hown hw hN (c_gr_width l v1 r_32 hr_33) g_RX4_44 hd_X2_width (rest := []) hl.1 hS dX4_placings_35 rfl rfl ⟨Nat.le_of_ble_eq_true rfl, Nat.le_of_ble_eq_true rfl⟩ rfl rfl (Nat.le_of_ble_eq_true rfl) ⟨Nat.zero_le _, Nat.zero_le _⟩ (fun H locs hk hS => ?_)
        have hP := cP_kept hP hk
        refine lv_lload hx hb dX4_placings_38 (lv_at hl 1 rfl) ?_
        obtain ⟨r_34, hr_35, h⟩ := bd1_s h
        refine sc_i hx hb hml hown hw hN (c_gr_width l r_25 r_34 hr_35) g_RX4_44 hd_X2_width (rest := [.int r_32]) hl.1 hS dX4_placings_40 rfl rfl ⟨Nat.le_of_ble_eq_true rfl, Nat.le_of_ble_eq_true rfl⟩ rfl rfl (Nat.le_of_ble_eq_true rfl) ⟨Nat.zero_le _, Nat.zero_le _⟩ (fun H locs hk hS => ?_)
        have hP := cP_kept hP hk
        refine lv_isub hx hb dX4_placings_43 ?_
        obtain ⟨v8_36, ev8_36, h⟩ := nm_s h
        refine nmI ev8_36 ?_
        refine lv_istore hx hb dX4_placings_44 hl (Nat.le_of_ble_eq_true rfl) (lv' := [(8, .int v8_36), (7, .int v7_31), (5, .long r_25), (0, .ref (ad 5)), (1, .long v1), (3, .int v3), (4, .int v4)]) rfl (fun ls hl => ?_)
        refine lv_iconst (v := 0) hx hb dX4_placings_46 ki_0 ?_
        refine lv_istore hx hb dX4_placings_47 hl (Nat.le_of_ble_eq_true rfl) (lv' := [(9, .int 0), (8, .int v8_36), (7, .int v7_31), (5, .long r_25), (0, .ref (ad 5)), (1, .long v1), (3, .int v3), (4, .int v4)]) rfl (fun ls hl => ?_)
        exact hL49 v4 r_25 v7_31 v8_36 FU _ _ _ v3 0 (lv_sub hl [4, 5, 6, 7, 3, 2, 1, 0] rfl) hP hS h
  refine lv_iconst (v := 0) hx hb dX4_placings_0 ki_0 ?_
  refine lv_istore_n hx hb dX4_placings_1 rfl hl (Nat.le_of_ble_eq_true rfl) (lv' := [(3, .int 0), (0, .ref (ad 5)), (1, .long v1)]) rfl (fun ls hl => ?_)
  refine lv_iconst (v := 0) hx hb dX4_placings_2 ki_0 ?_
  refine lv_istore hx hb dX4_placings_3 hl (Nat.le_of_ble_eq_true rfl) (lv' := [(4, .int 0), (3, .int 0), (0, .ref (ad 5)), (1, .long v1)]) rfl (fun ls hl => ?_)
  exact hL5 v1 x_rsize a_items FU _ _ _ 0 0 (lv_sub hl [2, 3, 1, 0] rfl) hP hS h
noncomputable def me_largestCommon_B29 (v1 : Int64) (v4 : Int32) (v5 : Int32) (x_rsize : Int32) (a_items : Nat → Int64) (k5 : Int32 → Int32 → Option (Int32)) (k18 : Int32 → Int32 → Option (Int32)) (k29 : Int32 → Int32 → Option (Int32)) (v3 : Int32) (v6 : Int32) : Option (Int32) :=
  if 7 ≤ v6 then (nm (v5 + Int32.ofInt 1) fun v5_1 =>
  k18 v3 v5_1) else
  bd1 (rw_at v4 x_rsize a_items) fun r_2 =>
  bd1 (gr_moved r_2 v6 v5) fun r_4 =>
  nm (v1 &&& r_4 : Int64) fun v7_6 =>
  bd1 (me_largestPart v7_6 v3) fun r_7 =>
  nm (v6 + Int32.ofInt 1) fun v6_9 =>
  k29 r_7 v6_9
noncomputable def me_largestCommon_B18 (v1 : Int64) (v4 : Int32) (x_rsize : Int32) (a_items : Nat → Int64) (k5 : Int32 → Int32 → Option (Int32)) (k18 : Int32 → Int32 → Option (Int32)) (v3 : Int32) (v5 : Int32) : Option (Int32) :=
  if 7 ≤ v5 then (nm (v4 + Int32.ofInt 1) fun v4_10 =>
  k5 v3 v4_10) else
  fl2 (me_largestCommon_B29 v1 v4 v5 x_rsize a_items k5 k18) FU v3 (-6)
noncomputable def me_largestCommon_B5 (v1 : Int64) (x_rsize : Int32) (a_items : Nat → Int64)  (k5 : Int32 → Int32 → Option (Int32)) (v3 : Int32) (v4 : Int32) : Option (Int32) :=
  bd1 (rw_size x_rsize) fun r_11 =>
  if r_11 ≤ v4 then (some (v3)) else
  fl2 (me_largestCommon_B18 v1 v4 x_rsize a_items k5) FU v3 (-6)
noncomputable def me_largestCommon (v1 : Int64) (x_rsize : Int32) (a_items : Nat → Int64) : Option (Int32) :=
  fl2 (me_largestCommon_B5 v1 x_rsize a_items) FU 0 0
set_option maxHeartbeats 4000000 in
set_option maxRecDepth 100000 in
theorem c_me_largestCommon (l : Launch) (D : va_G) (ct : Nat → ClassId) (ad : Nat → Nat) (hI : cI ad) {x_fed x_tk x_col x_line x_rcells x_rsize x_len x_cuts x_bare x_place x_lA x_lB x_lC x_fX x_fY x_sX x_sY x_made x_fsize x_psize x_over x_touch x_most x_mU x_mV x_area : Int32} {x_board : Int64} {a_tape a_letters a_oneSided a_free a_ends a_crowds a_wmade a_firsts a_widths a_heights a_places a_next a_pnear a_table a_overlaps : Nat → Int32} {a_drawers a_kept a_items a_numbers a_marks a_near a_figures a_covered a_pcells a_matrix : Nat → Int64} (v1 : Int64) (r : Int32)  (h : me_largestCommon v1 x_rsize a_items = some (r)) : Met l yX4_largestCommon (wm yX4_largestCommon cX4_largestCommon 9 (some .int)) (rmm 3 77) (va_Pc [.ref (ad 5), .long v1] (cB D ct ad x_fed x_tk x_col x_line x_rcells x_rsize x_len x_cuts x_bare x_place x_lA x_lB x_lC x_fX x_fY x_sX x_sY x_made x_fsize x_psize x_over x_touch x_most x_mU x_mV x_area x_board a_tape a_letters a_oneSided a_free a_ends a_crowds a_wmade a_firsts a_widths a_heights a_places a_next a_pnear a_table a_overlaps a_drawers a_kept a_items a_numbers a_marks a_near a_figures a_covered a_pcells a_matrix)) (va_Qi (fun z (_ : Unit) => z = r) (fun _ t => cP D ct ad x_fed x_tk x_col x_line x_rcells x_rsize x_len x_cuts x_bare x_place x_lA x_lB x_lC x_fX x_fY x_sX x_sY x_made x_fsize x_psize x_over x_touch x_most x_mU x_mV x_area x_board a_tape a_letters a_oneSided a_free a_ends a_crowds a_wmade a_firsts a_widths a_heights a_places a_next a_pnear a_table a_overlaps a_drawers a_kept a_items a_numbers a_marks a_near a_figures a_covered a_pcells a_matrix t.heap) (cA ad)) 0 0 (cA ad) := by
  refine met_s (y := yX4_largestCommon) (rm := rmm 3 77) (by decide) (Nat.le_of_ble_eq_true rfl) ?_
  intro p e s m below meth c hx hb hr hw hown hlocks _ hml hB ls hl
  obtain ⟨hN, hK, hP⟩ := hB
  replace hl : lv_has ls 9 [(0, .ref (ad 5)), (1, .long v1)] := hl
  have hS : va_S (cA ad) s.heap s.heap [] := va_S.rf
  generalize (([.ref (ad 5), .long v1] : List Value).toArray) = av at hw ⊢
  rw [me_largestCommon] at h
  have hL5 : ∀ (v1 : Int64), ∀ (x_rsize : Int32), ∀ (a_items : Nat → Int64), ∀ (n5 : Nat) (H : Heap) (locs : List Loc) (ls : Array Slot) (v3 : Int32) (v4 : Int32), lv_has ls 9 [(0, .ref (ad 5)), (1, .long v1), (3, .int v3), (4, .int v4)] → cP D ct ad x_fed x_tk x_col x_line x_rcells x_rsize x_len x_cuts x_bare x_place x_lA x_lB x_lC x_fX x_fY x_sX x_sY x_made x_fsize x_psize x_over x_touch x_most x_mU x_mV x_area x_board a_tape a_letters a_oneSided a_free a_ends a_crowds a_wmade a_firsts a_widths a_heights a_places a_next a_pnear a_table a_overlaps a_drawers a_kept a_items a_numbers a_marks a_near a_figures a_covered a_pcells a_matrix H → va_S (cA ad) s.heap H locs → fl2 (me_largestCommon_B5 v1 x_rsize a_items) n5 v3 v4 = some (r) → W p l e (rmm 3 77) s m av below meth c H locs 0 0 (MQ below (va_Qi (fun z (_ : Unit) => z = r) (fun _ t => cP D ct ad x_fed x_tk x_col x_line x_rcells x_rsize x_len x_cuts x_bare x_place x_lA x_lB x_lC x_fX x_fY x_sX x_sY x_made x_fsize x_psize x_over x_touch x_most x_mU x_mV x_area x_board a_tape a_letters a_oneSided a_free a_ends a_crowds a_wmade a_firsts a_widths a_heights a_places a_next a_pnear a_table a_overlaps a_drawers a_kept a_items a_numbers a_marks a_near a_figures a_covered a_pcells a_matrix t.heap) (cA ad)) av s 0 0 (cA ad)) (F0 m 5 ls []) := by
    intro v1 x_rsize a_items n5
    induction n5 with
    | zero => intro H locs ls v3 v4 hl hP hS h; cases h
    | succ n5 ih5 =>
      intro H locs ls v3 v4 hl hP hS h
      replace h : me_largestCommon_B5 v1 x_rsize a_items (fl2 (me_largestCommon_B5 v1 x_rsize a_items) n5) v3 v4 = some (r) := h
      generalize fl2 (me_largestCommon_B5 v1 x_rsize a_items) n5 = k5 at h ih5
      have hL18 : ∀ (v4 : Int32), ∀ (n18 : Nat) (H : Heap) (locs : List Loc) (ls : Array Slot) (v3 : Int32) (v5 : Int32), lv_has ls 9 [(0, .ref (ad 5)), (1, .long v1), (3, .int v3), (4, .int v4), (5, .int v5)] → cP D ct ad x_fed x_tk x_col x_line x_rcells x_rsize x_len x_cuts x_bare x_place x_lA x_lB x_lC x_fX x_fY x_sX x_sY x_made x_fsize x_psize x_over x_touch x_most x_mU x_mV x_area x_board a_tape a_letters a_oneSided a_free a_ends a_crowds a_wmade a_firsts a_widths a_heights a_places a_next a_pnear a_table a_overlaps a_drawers a_kept a_items a_numbers a_marks a_near a_figures a_covered a_pcells a_matrix H → va_S (cA ad) s.heap H locs → fl2 (me_largestCommon_B18 v1 v4 x_rsize a_items k5) n18 v3 v5 = some (r) → W p l e (rmm 3 77) s m av below meth c H locs 0 0 (MQ below (va_Qi (fun z (_ : Unit) => z = r) (fun _ t => cP D ct ad x_fed x_tk x_col x_line x_rcells x_rsize x_len x_cuts x_bare x_place x_lA x_lB x_lC x_fX x_fY x_sX x_sY x_made x_fsize x_psize x_over x_touch x_most x_mU x_mV x_area x_board a_tape a_letters a_oneSided a_free a_ends a_crowds a_wmade a_firsts a_widths a_heights a_places a_next a_pnear a_table a_overlaps a_drawers a_kept a_items a_numbers a_marks a_near a_figures a_covered a_pcells a_matrix t.heap) (cA ad)) av s 0 0 (cA ad)) (F0 m 18 ls []) := by
        intro v4 n18
        induction n18 with
        | zero => intro H locs ls v3 v5 hl hP hS h; cases h
        | succ n18 ih18 =>
          intro H locs ls v3 v5 hl hP hS h
          replace h : me_largestCommon_B18 v1 v4 x_rsize a_items k5 (fl2 (me_largestCommon_B18 v1 v4 x_rsize a_items k5) n18) v3 v5 = some (r) := h
          generalize fl2 (me_largestCommon_B18 v1 v4 x_rsize a_items k5) n18 = k18 at h ih18
          have hL29 : ∀ (v5 : Int32), ∀ (n29 : Nat) (H : Heap) (locs : List Loc) (ls : Array Slot) (v3 : Int32) (v6 : Int32), lv_has ls 9 [(0, .ref (ad 5)), (1, .long v1), (3, .int v3), (4, .int v4), (5, .int v5), (6, .int v6)] → cP D ct ad x_fed x_tk x_col x_line x_rcells x_rsize x_len x_cuts x_bare x_place x_lA x_lB x_lC x_fX x_fY x_sX x_sY x_made x_fsize x_psize x_over x_touch x_most x_mU x_mV x_area x_board a_tape a_letters a_oneSided a_free a_ends a_crowds a_wmade a_firsts a_widths a_heights a_places a_next a_pnear a_table a_overlaps a_drawers a_kept a_items a_numbers a_marks a_near a_figures a_covered a_pcells a_matrix H → va_S (cA ad) s.heap H locs → fl2 (me_largestCommon_B29 v1 v4 v5 x_rsize a_items k5 k18) n29 v3 v6 = some (r) → W p l e (rmm 3 77) s m av below meth c H locs 0 0 (MQ below (va_Qi (fun z (_ : Unit) => z = r) (fun _ t => cP D ct ad x_fed x_tk x_col x_line x_rcells x_rsize x_len x_cuts x_bare x_place x_lA x_lB x_lC x_fX x_fY x_sX x_sY x_made x_fsize x_psize x_over x_touch x_most x_mU x_mV x_area x_board a_tape a_letters a_oneSided a_free a_ends a_crowds a_wmade a_firsts a_widths a_heights a_places a_next a_pnear a_table a_overlaps a_drawers a_kept a_items a_numbers a_marks a_near a_figures a_covered a_pcells a_matrix t.heap) (cA ad)) av s 0 0 (cA ad)) (F0 m 29 ls []) := by
            intro v5 n29
            induction n29 with
            | zero => intro H locs ls v3 v6 hl hP hS h; cases h
            | succ n29 ih29 =>
              intro H locs ls v3 v6 hl hP hS h
              replace h : me_largestCommon_B29 v1 v4 v5 x_rsize a_items k5 k18 (fl2 (me_largestCommon_B29 v1 v4 v5 x_rsize a_items k5 k18) n29) v3 v6 = some (r) := h
              generalize fl2 (me_largestCommon_B29 v1 v4 v5 x_rsize a_items k5 k18) n29 = k29 at h ih29
              rw [me_largestCommon_B29] at h
              refine lv_iload hx hb dX4_largestCommon_29 (lv_at hl 5 rfl) ?_
              refine lv_bipush (v := 7) hx hb dX4_largestCommon_31 kb_7 ?_
              refine lv_icmp_ge hx hb dX4_largestCommon_33 (tgt := 66) rfl (fun hc => ?_) (fun hc => ?_)
              · replace h := ifp h hc
                obtain ⟨v5_13, ev5_13, h⟩ := nm_s h
                refine lv_iinc hx hb dX4_largestCommon_66 hl (k := 4) rfl ev5_13.symm (Nat.le_of_ble_eq_true rfl) (lv' := [(5, .int v5_13), (0, .ref (ad 5)), (1, .long v1), (3, .int v3), (4, .int v4), (6, .int v6)]) rfl (fun ls hl => ?_)
                refine lv_goto hx hb dX4_largestCommon_69 (tgt := 18) rfl ?_
                exact ih18 _ _ _ v3 v5_13 (lv_sub hl [1, 2, 3, 4, 0] rfl) hP hS h
              · replace h := ifn h hc
                refine lv_lload_n hx hb dX4_largestCommon_36 rfl (lv_at hl 1 rfl) ?_
                refine lv_aload_n hx hb dX4_largestCommon_37 rfl (lv_at hl 0 rfl) ?_
                refine lv_iload hx hb dX4_largestCommon_38 (lv_at hl 3 rfl) ?_
                obtain ⟨r_14, hr_15, h⟩ := bd1_s h
                refine hv_l hx hb hml hown hw cB_bl (cB_of hN hK hP) (cr_RW hK hP) (c_rw_at l D ct ad hI v4 r_14 hr_15) g_RX4_37 ⟨rfl, hd_X8_at⟩ (rest := [.long v1]) hl.1 hS (fun q h => h) dX4_largestCommon_40 rfl rfl ⟨Nat.le_of_ble_eq_true rfl, Nat.le_of_ble_eq_true rfl⟩ rfl rfl (Nat.le_of_ble_eq_true rfl) ⟨Nat.zero_le _, Nat.zero_le _⟩ (fun H locs hP _ hS => ?_)
                refine lv_iload hx hb dX4_largestCommon_43 (lv_at hl 5 rfl) ?_
                refine lv_iload hx hb dX4_largestCommon_45 (lv_at hl 4 rfl) ?_
                obtain ⟨r_16, hr_17, h⟩ := bd1_s h
                refine sc_l hx hb hml hown hw hN (c_gr_moved l r_14 v6 v5 r_16 hr_17) g_RX4_15 hd_X2_moved (rest := [.long v1]) hl.1 hS dX4_largestCommon_47 rfl rfl ⟨Nat.le_of_ble_eq_true rfl, Nat.le_of_ble_eq_true rfl⟩ rfl rfl (Nat.le_of_ble_eq_true rfl) ⟨Nat.zero_le _, Nat.zero_le _⟩ (fun H locs hk hS => ?_)
                have hP := cP_kept hP hk
                refine lv_land hx hb dX4_largestCommon_50 ?_
                obtain ⟨v7_18, ev7_18, h⟩ := nm_s h
                refine nmL ev7_18 ?_
                refine lv_lstore hx hb dX4_largestCommon_51 hl (Nat.le_of_ble_eq_true rfl) (lv' := [(7, .long v7_18), (0, .ref (ad 5)), (1, .long v1), (3, .int v3), (4, .int v4), (5, .int v5), (6, .int v6)]) rfl (fun ls hl => ?_)
                refine lv_lload hx hb dX4_largestCommon_53 (lv_at hl 0 rfl) ?_
                refine lv_iload_n hx hb dX4_largestCommon_55 rfl (lv_at hl 3 rfl) ?_
                obtain ⟨r_19, hr_20, h⟩ := bd1_s h
                refine sc_i hx hb hml hown hw hN (c_me_largestPart l v7_18 v3 r_19 hr_20) g_RX4_49 hd_X4_largestPart (rest := []) hl.1 hS dX4_largestCommon_56 rfl rfl ⟨Nat.le_of_ble_eq_true rfl, Nat.le_of_ble_eq_true rfl⟩ rfl rfl (Nat.le_of_ble_eq_true rfl) ⟨Nat.zero_le _, Nat.zero_le _⟩ (fun H locs hk hS => ?_)
                have hP := cP_kept hP hk
                refine lv_istore_n hx hb dX4_largestCommon_59 rfl hl (Nat.le_of_ble_eq_true rfl) (lv' := [(3, .int r_19), (7, .long v7_18), (0, .ref (ad 5)), (1, .long v1), (4, .int v4), (5, .int v5), (6, .int v6)]) rfl (fun ls hl => ?_)
                obtain ⟨v6_21, ev6_21, h⟩ := nm_s h
                refine lv_iinc hx hb dX4_largestCommon_60 hl (k := 6) rfl ev6_21.symm (Nat.le_of_ble_eq_true rfl) (lv' := [(6, .int v6_21), (3, .int r_19), (7, .long v7_18), (0, .ref (ad 5)), (1, .long v1), (4, .int v4), (5, .int v5)]) rfl (fun ls hl => ?_)
                refine lv_goto hx hb dX4_largestCommon_63 (tgt := 29) rfl ?_
                exact ih29 _ _ _ r_19 v6_21 (lv_sub hl [3, 4, 1, 5, 6, 0] rfl) hP hS h
          rw [me_largestCommon_B18] at h
          refine lv_iload hx hb dX4_largestCommon_18 (lv_at hl 4 rfl) ?_
          refine lv_bipush (v := 7) hx hb dX4_largestCommon_20 kb_7 ?_
          refine lv_icmp_ge hx hb dX4_largestCommon_22 (tgt := 72) rfl (fun hc => ?_) (fun hc => ?_)
          · replace h := ifp h hc
            obtain ⟨v4_22, ev4_22, h⟩ := nm_s h
            refine lv_iinc hx hb dX4_largestCommon_72 hl (k := 3) rfl ev4_22.symm (Nat.le_of_ble_eq_true rfl) (lv' := [(4, .int v4_22), (0, .ref (ad 5)), (1, .long v1), (3, .int v3), (5, .int v5)]) rfl (fun ls hl => ?_)
            refine lv_goto hx hb dX4_largestCommon_75 (tgt := 5) rfl ?_
            exact ih5 _ _ _ v3 v4_22 (lv_sub hl [1, 2, 3, 0] rfl) hP hS h
          · replace h := ifn h hc
            refine lv_bipush (v := (-6)) hx hb dX4_largestCommon_25 kb_m6 ?_
            refine lv_istore hx hb dX4_largestCommon_27 hl (Nat.le_of_ble_eq_true rfl) (lv' := [(6, .int (-6)), (0, .ref (ad 5)), (1, .long v1), (3, .int v3), (4, .int v4), (5, .int v5)]) rfl (fun ls hl => ?_)
            exact hL29 v5 FU _ _ _ v3 (-6) (lv_sub hl [1, 2, 3, 4, 5, 0] rfl) hP hS h
      rw [me_largestCommon_B5] at h
      refine lv_iload hx hb dX4_largestCommon_5 (lv_at hl 3 rfl) ?_
      refine lv_aload_n hx hb dX4_largestCommon_7 rfl (lv_at hl 0 rfl) ?_
      obtain ⟨r_23, hr_24, h⟩ := bd1_s h
      refine hv_i hx hb hml hown hw cB_bl (cB_of hN hK hP) (cr_RW hK hP) (c_rw_size l D ct ad hI r_23 hr_24) g_RX4_31 ⟨rfl, hd_X8_size⟩ (rest := [.int v4]) hl.1 hS (fun q h => h) dX4_largestCommon_8 rfl rfl ⟨Nat.le_of_ble_eq_true rfl, Nat.le_of_ble_eq_true rfl⟩ rfl rfl (Nat.le_of_ble_eq_true rfl) ⟨Nat.zero_le _, Nat.zero_le _⟩ (fun H locs hP _ hS => ?_)
      refine lv_icmp_ge hx hb dX4_largestCommon_11 (tgt := 78) rfl (fun hc => ?_) (fun hc => ?_)
      · replace h := ifp h hc
        refine lv_iload_n hx hb dX4_largestCommon_78 rfl (lv_at hl 2 rfl) ?_
        replace h := Option.some.inj h
        subst h
        exact rc_i hx hb hr hlocks hS dX4_largestCommon_79 rfl hP
      · replace h := ifn h hc
        refine lv_bipush (v := (-6)) hx hb dX4_largestCommon_14 kb_m6 ?_
        refine lv_istore hx hb dX4_largestCommon_16 hl (Nat.le_of_ble_eq_true rfl) (lv' := [(5, .int (-6)), (0, .ref (ad 5)), (1, .long v1), (3, .int v3), (4, .int v4)]) rfl (fun ls hl => ?_)
        exact hL18 v4 FU _ _ _ v3 (-6) (lv_sub hl [1, 2, 3, 4, 0] rfl) hP hS h
  refine lv_iconst (v := 0) hx hb dX4_largestCommon_0 ki_0 ?_
  refine lv_istore_n hx hb dX4_largestCommon_1 rfl hl (Nat.le_of_ble_eq_true rfl) (lv' := [(3, .int 0), (0, .ref (ad 5)), (1, .long v1)]) rfl (fun ls hl => ?_)
  refine lv_iconst (v := 0) hx hb dX4_largestCommon_2 ki_0 ?_
  refine lv_istore hx hb dX4_largestCommon_3 hl (Nat.le_of_ble_eq_true rfl) (lv' := [(4, .int 0), (3, .int 0), (0, .ref (ad 5)), (1, .long v1)]) rfl (fun ls hl => ?_)
  exact hL5 v1 x_rsize a_items FU _ _ _ 0 0 (lv_sub hl [2, 3, 1, 0] rfl) hP hS h
noncomputable def me_overlapAt (v1 : Int32) (v2 : Int32) (a_overlaps : Nat → Int32) : Option (Int32) :=
  nm ((((v2 + 8) * 17) + v1) + 8 : Int32) fun v3_1 =>
  bd1 (cf_within v3_1 0 (289 - 1)) fun r_2 =>
  if r_2 = 0 then (some (0)) else
  ck v3_1 289 <|
  some (a_overlaps v3_1.toNatClampNeg)
set_option maxHeartbeats 4000000 in
set_option maxRecDepth 100000 in
theorem c_me_overlapAt (l : Launch) (D : va_G) (ct : Nat → ClassId) (ad : Nat → Nat) (hI : cI ad) {x_fed x_tk x_col x_line x_rcells x_rsize x_len x_cuts x_bare x_place x_lA x_lB x_lC x_fX x_fY x_sX x_sY x_made x_fsize x_psize x_over x_touch x_most x_mU x_mV x_area : Int32} {x_board : Int64} {a_tape a_letters a_oneSided a_free a_ends a_crowds a_wmade a_firsts a_widths a_heights a_places a_next a_pnear a_table a_overlaps : Nat → Int32} {a_drawers a_kept a_items a_numbers a_marks a_near a_figures a_covered a_pcells a_matrix : Nat → Int64} (v1 : Int32) (v2 : Int32) (r : Int32)  (h : me_overlapAt v1 v2 a_overlaps = some (r)) : Met l yX4_overlapAt (wm yX4_overlapAt cX4_overlapAt 4 (some .int)) (rmm 1 22) (va_Pc [.ref (ad 32), .int v1, .int v2] (cB D ct ad x_fed x_tk x_col x_line x_rcells x_rsize x_len x_cuts x_bare x_place x_lA x_lB x_lC x_fX x_fY x_sX x_sY x_made x_fsize x_psize x_over x_touch x_most x_mU x_mV x_area x_board a_tape a_letters a_oneSided a_free a_ends a_crowds a_wmade a_firsts a_widths a_heights a_places a_next a_pnear a_table a_overlaps a_drawers a_kept a_items a_numbers a_marks a_near a_figures a_covered a_pcells a_matrix)) (va_Qi (fun z (_ : Unit) => z = r) (fun _ t => cP D ct ad x_fed x_tk x_col x_line x_rcells x_rsize x_len x_cuts x_bare x_place x_lA x_lB x_lC x_fX x_fY x_sX x_sY x_made x_fsize x_psize x_over x_touch x_most x_mU x_mV x_area x_board a_tape a_letters a_oneSided a_free a_ends a_crowds a_wmade a_firsts a_widths a_heights a_places a_next a_pnear a_table a_overlaps a_drawers a_kept a_items a_numbers a_marks a_near a_figures a_covered a_pcells a_matrix t.heap) (cA ad)) 0 0 (cA ad) := by
  refine met_s (y := yX4_overlapAt) (rm := rmm 1 22) (by decide) (Nat.le_of_ble_eq_true rfl) ?_
  intro p e s m below meth c hx hb hr hw hown hlocks _ hml hB ls hl
  obtain ⟨hN, hK, hP⟩ := hB
  replace hl : lv_has ls 4 [(0, .ref (ad 32)), (1, .int v1), (2, .int v2)] := hl
  have hS : va_S (cA ad) s.heap s.heap [] := va_S.rf
  generalize (([.ref (ad 32), .int v1, .int v2] : List Value).toArray) = av at hw ⊢
  rw [me_overlapAt] at h
  refine lv_iload_n hx hb dX4_overlapAt_0 rfl (lv_at hl 2 rfl) ?_
  refine lv_bipush (v := 8) hx hb dX4_overlapAt_1 kb_8 ?_
  refine lv_iadd hx hb dX4_overlapAt_3 ?_
  refine lv_bipush (v := 17) hx hb dX4_overlapAt_4 kb_17 ?_
  refine lv_imul hx hb dX4_overlapAt_6 ?_
  refine lv_iload_n hx hb dX4_overlapAt_7 rfl (lv_at hl 1 rfl) ?_
  refine lv_iadd hx hb dX4_overlapAt_8 ?_
  refine lv_bipush (v := 8) hx hb dX4_overlapAt_9 kb_8 ?_
  refine lv_iadd hx hb dX4_overlapAt_11 ?_
  obtain ⟨v3_4, ev3_4, h⟩ := nm_s h
  refine nmI ev3_4 ?_
  refine lv_istore_n hx hb dX4_overlapAt_12 rfl hl (Nat.le_of_ble_eq_true rfl) (lv' := [(3, .int v3_4), (0, .ref (ad 32)), (1, .int v1), (2, .int v2)]) rfl (fun ls hl => ?_)
  refine lv_iload_n hx hb dX4_overlapAt_13 rfl (lv_at hl 0 rfl) ?_
  refine lv_iconst (v := 0) hx hb dX4_overlapAt_14 ki_0 ?_
  refine lv_aload_n hx hb dX4_overlapAt_15 rfl (lv_at hl 1 rfl) ?_
  refine cg_ME_0 hx hb hw hown hK hP dX4_overlapAt_16 ?_
  refine cl_overlaps hx hb hK hP dX4_overlapAt_19 ?_
  refine lv_iconst (v := 1) hx hb dX4_overlapAt_20 ki_1 ?_
  refine lv_isub hx hb dX4_overlapAt_21 ?_
  obtain ⟨r_5, hr_6, h⟩ := bd1_s h
  refine sn_i hx hb hml hown hw hN (c_cf_within l v3_4 0 (289 - 1) r_5 hr_6) nq_RX4_97 tw_9_21 tw_9_20 tw_1_2 hd_X11_within (rest := []) hl.1 hS dX4_overlapAt_22 rfl rfl ⟨Nat.le_of_ble_eq_true rfl, Nat.le_of_ble_eq_true rfl⟩ rfl rfl (Nat.le_of_ble_eq_true rfl) ⟨Nat.zero_le _, Nat.zero_le _⟩ (fun H locs hk hS => ?_)
  have hP := cP_kept hP hk
  refine lv_if_eq hx hb dX4_overlapAt_25 (tgt := 37) rfl (fun hc => ?_) (fun hc => ?_)
  · replace h := ifp h hc
    refine lv_iconst (v := 0) hx hb dX4_overlapAt_37 ki_0 ?_
    replace h := Option.some.inj h
    subst h
    exact rc_i hx hb hr hlocks hS dX4_overlapAt_38 rfl hP
  · replace h := ifn h hc
    refine lv_aload_n hx hb dX4_overlapAt_28 rfl (lv_at hl 1 rfl) ?_
    refine cg_ME_0 hx hb hw hown hK hP dX4_overlapAt_29 ?_
    refine lv_iload_n hx hb dX4_overlapAt_32 rfl (lv_at hl 0 rfl) ?_
    obtain ⟨hin, h⟩ := ck_s h
    refine cd_overlaps hx hb hK hP hin dX4_overlapAt_33 ?_
    refine lv_goto hx hb dX4_overlapAt_34 (tgt := 38) rfl ?_
    replace h := Option.some.inj h
    subst h
    exact rc_i hx hb hr hlocks hS dX4_overlapAt_38 rfl hP
noncomputable def me_noteShared_J50  (a_overlaps : Nat → Int32) (v1 : Int32) (v2 : Int32) (v3 : Int32) (x_touch : Int32) (x_most : Int32) (x_mU : Int32) (x_mV : Int32)  : Option (Int32 × Int32 × Int32 × Int32) :=
  if v3 ≤ x_most then (some (x_touch, x_most, x_mU, x_mV)) else
  some (x_touch, v3, v1, v2)
noncomputable def me_noteShared (v1 : Int32) (v2 : Int32) (x_touch : Int32) (x_most : Int32) (x_mU : Int32) (x_mV : Int32) (a_overlaps : Nat → Int32) : Option (Int32 × Int32 × Int32 × Int32) :=
  bd1 (me_overlapAt (v1 - 1) v2 a_overlaps) fun r_1 =>
  bd1 (me_overlapAt (v1 + 1) v2 a_overlaps) fun r_3 =>
  bd1 (me_overlapAt v1 (v2 - 1) a_overlaps) fun r_5 =>
  bd1 (me_overlapAt v1 (v2 + 1) a_overlaps) fun r_7 =>
  nm (((r_1 + r_3) + r_5) + r_7 : Int32) fun v3_9 =>
  if v3_9 ≤ 0 then (me_noteShared_J50 a_overlaps v1 v2 v3_9 x_touch x_most x_mU x_mV) else
  nm (x_touch + 1 : Int32) fun x_touch_10 =>
  me_noteShared_J50 a_overlaps v1 v2 v3_9 x_touch_10 x_most x_mU x_mV
set_option maxHeartbeats 4000000 in
set_option maxRecDepth 100000 in
theorem c_me_noteShared (l : Launch) (D : va_G) (ct : Nat → ClassId) (ad : Nat → Nat) (hI : cI ad) {x_fed x_tk x_col x_line x_rcells x_rsize x_len x_cuts x_bare x_place x_lA x_lB x_lC x_fX x_fY x_sX x_sY x_made x_fsize x_psize x_over x_touch x_most x_mU x_mV x_area : Int32} {x_board : Int64} {a_tape a_letters a_oneSided a_free a_ends a_crowds a_wmade a_firsts a_widths a_heights a_places a_next a_pnear a_table a_overlaps : Nat → Int32} {a_drawers a_kept a_items a_numbers a_marks a_near a_figures a_covered a_pcells a_matrix : Nat → Int64} (v1 : Int32) (v2 : Int32)  (z_x_touch : Int32) (z_x_most : Int32) (z_x_mU : Int32) (z_x_mV : Int32) (h : me_noteShared v1 v2 x_touch x_most x_mU x_mV a_overlaps = some (z_x_touch, z_x_most, z_x_mU, z_x_mV)) : Met l yX4_noteShared (wm yX4_noteShared cX4_noteShared 4 none) (rmm 2 45) (va_Pc [.ref (ad 32), .int v1, .int v2] (cB D ct ad x_fed x_tk x_col x_line x_rcells x_rsize x_len x_cuts x_bare x_place x_lA x_lB x_lC x_fX x_fY x_sX x_sY x_made x_fsize x_psize x_over x_touch x_most x_mU x_mV x_area x_board a_tape a_letters a_oneSided a_free a_ends a_crowds a_wmade a_firsts a_widths a_heights a_places a_next a_pnear a_table a_overlaps a_drawers a_kept a_items a_numbers a_marks a_near a_figures a_covered a_pcells a_matrix)) (va_Qv (fun (_ : Unit) => True) (fun _ t => cP D ct ad x_fed x_tk x_col x_line x_rcells x_rsize x_len x_cuts x_bare x_place x_lA x_lB x_lC x_fX x_fY x_sX x_sY x_made x_fsize x_psize x_over z_x_touch z_x_most z_x_mU z_x_mV x_area x_board a_tape a_letters a_oneSided a_free a_ends a_crowds a_wmade a_firsts a_widths a_heights a_places a_next a_pnear a_table a_overlaps a_drawers a_kept a_items a_numbers a_marks a_near a_figures a_covered a_pcells a_matrix t.heap) (cA ad)) 0 0 (cA ad) := by
  refine met_s (y := yX4_noteShared) (rm := rmm 2 45) (by decide) (Nat.le_of_ble_eq_true rfl) ?_
  intro p e s m below meth c hx hb hr hw hown hlocks _ hml hB ls hl
  obtain ⟨hN, hK, hP⟩ := hB
  replace hl : lv_has ls 4 [(0, .ref (ad 32)), (1, .int v1), (2, .int v2)] := hl
  have hS : va_S (cA ad) s.heap s.heap [] := va_S.rf
  generalize (([.ref (ad 32), .int v1, .int v2] : List Value).toArray) = av at hw ⊢
  rw [me_noteShared] at h
  have hJ50 : ∀ (H : Heap) (locs : List Loc) (ls : Array Slot) (a_overlaps : Nat → Int32) (v1 : Int32) (v2 : Int32) (v3 : Int32) (x_touch : Int32) (x_most : Int32) (x_mU : Int32) (x_mV : Int32) , lv_has ls 4 [(0, .ref (ad 32)), (1, .int v1), (2, .int v2), (3, .int v3)] → cP D ct ad x_fed x_tk x_col x_line x_rcells x_rsize x_len x_cuts x_bare x_place x_lA x_lB x_lC x_fX x_fY x_sX x_sY x_made x_fsize x_psize x_over x_touch x_most x_mU x_mV x_area x_board a_tape a_letters a_oneSided a_free a_ends a_crowds a_wmade a_firsts a_widths a_heights a_places a_next a_pnear a_table a_overlaps a_drawers a_kept a_items a_numbers a_marks a_near a_figures a_covered a_pcells a_matrix H → va_S (cA ad) s.heap H locs → me_noteShared_J50 a_overlaps v1 v2 v3 x_touch x_most x_mU x_mV = some (z_x_touch, z_x_most, z_x_mU, z_x_mV) → W p l e (rmm 2 45) s m av below meth c H locs 0 0 (MQ below (va_Qv (fun (_ : Unit) => True) (fun _ t => cP D ct ad x_fed x_tk x_col x_line x_rcells x_rsize x_len x_cuts x_bare x_place x_lA x_lB x_lC x_fX x_fY x_sX x_sY x_made x_fsize x_psize x_over z_x_touch z_x_most z_x_mU z_x_mV x_area x_board a_tape a_letters a_oneSided a_free a_ends a_crowds a_wmade a_firsts a_widths a_heights a_places a_next a_pnear a_table a_overlaps a_drawers a_kept a_items a_numbers a_marks a_near a_figures a_covered a_pcells a_matrix t.heap) (cA ad)) av s 0 0 (cA ad)) (F0 m 50 ls []) := by
    intro H locs ls a_overlaps v1 v2 v3 x_touch x_most x_mU x_mV  hl hP hS h
    rw [me_noteShared_J50] at h
    refine lv_iload_n hx hb dX4_noteShared_50 rfl (lv_at hl 3 rfl) ?_
    refine lv_aload_n hx hb dX4_noteShared_51 rfl (lv_at hl 0 rfl) ?_
    refine cg_ME_3 hx hb hw hown hK hP dX4_noteShared_52 ?_
    refine lv_icmp_le hx hb dX4_noteShared_55 (tgt := 73) rfl (fun hc => ?_) (fun hc => ?_)
    · replace h := ifp h hc
      simp only [Option.some.injEq, Prod.mk.injEq] at h
      obtain ⟨rfl, rfl, rfl, rfl⟩ := h
      exact rc_v hx hb hr hlocks hS dX4_noteShared_73 hP
    · replace h := ifn h hc
      refine lv_aload_n hx hb dX4_noteShared_58 rfl (lv_at hl 0 rfl) ?_
      refine lv_iload_n hx hb dX4_noteShared_59 rfl (lv_at hl 3 rfl) ?_
      refine cp_ME_3 hx hb hw hown hK hP hI hS dX4_noteShared_60 (fun H locs hP hS => ?_)
      refine lv_aload_n hx hb dX4_noteShared_63 rfl (lv_at hl 0 rfl) ?_
      refine lv_iload_n hx hb dX4_noteShared_64 rfl (lv_at hl 1 rfl) ?_
      refine cp_ME_4 hx hb hw hown hK hP hI hS dX4_noteShared_65 (fun H locs hP hS => ?_)
      refine lv_aload_n hx hb dX4_noteShared_68 rfl (lv_at hl 0 rfl) ?_
      refine lv_iload_n hx hb dX4_noteShared_69 rfl (lv_at hl 2 rfl) ?_
      refine cp_ME_5 hx hb hw hown hK hP hI hS dX4_noteShared_70 (fun H locs hP hS => ?_)
      simp only [Option.some.injEq, Prod.mk.injEq] at h
      obtain ⟨rfl, rfl, rfl, rfl⟩ := h
      exact rc_v hx hb hr hlocks hS dX4_noteShared_73 hP
  refine lv_aload_n hx hb dX4_noteShared_0 rfl (lv_at hl 0 rfl) ?_
  refine lv_iload_n hx hb dX4_noteShared_1 rfl (lv_at hl 1 rfl) ?_
  refine lv_iconst (v := 1) hx hb dX4_noteShared_2 ki_1 ?_
  refine lv_isub hx hb dX4_noteShared_3 ?_
  refine lv_iload_n hx hb dX4_noteShared_4 rfl (lv_at hl 2 rfl) ?_
  obtain ⟨r_11, hr_12, h⟩ := bd1_s h
  refine hv_i hx hb hml hown hw cB_bl (cB_of hN hK hP) (cr_ME hK hP) (c_me_overlapAt l D ct ad hI (v1 - 1) v2 r_11 hr_12) g_RX4_82 ⟨rfl, hd_X4_overlapAt⟩ (rest := []) hl.1 hS (fun q h => h) dX4_noteShared_5 rfl rfl ⟨Nat.le_of_ble_eq_true rfl, Nat.le_of_ble_eq_true rfl⟩ rfl rfl (Nat.le_of_ble_eq_true rfl) ⟨Nat.zero_le _, Nat.zero_le _⟩ (fun H locs hP _ hS => ?_)
  refine lv_aload_n hx hb dX4_noteShared_8 rfl (lv_at hl 0 rfl) ?_
  refine lv_iload_n hx hb dX4_noteShared_9 rfl (lv_at hl 1 rfl) ?_
  refine lv_iconst (v := 1) hx hb dX4_noteShared_10 ki_1 ?_
  refine lv_iadd hx hb dX4_noteShared_11 ?_
  refine lv_iload_n hx hb dX4_noteShared_12 rfl (lv_at hl 2 rfl) ?_
  obtain ⟨r_13, hr_14, h⟩ := bd1_s h
  refine hv_i hx hb hml hown hw cB_bl (cB_of hN hK hP) (cr_ME hK hP) (c_me_overlapAt l D ct ad hI (v1 + 1) v2 r_13 hr_14) g_RX4_82 ⟨rfl, hd_X4_overlapAt⟩ (rest := [.int r_11]) hl.1 hS (fun q h => h) dX4_noteShared_13 rfl rfl ⟨Nat.le_of_ble_eq_true rfl, Nat.le_of_ble_eq_true rfl⟩ rfl rfl (Nat.le_of_ble_eq_true rfl) ⟨Nat.zero_le _, Nat.zero_le _⟩ (fun H locs hP _ hS => ?_)
  refine lv_iadd hx hb dX4_noteShared_16 ?_
  refine lv_aload_n hx hb dX4_noteShared_17 rfl (lv_at hl 0 rfl) ?_
  refine lv_iload_n hx hb dX4_noteShared_18 rfl (lv_at hl 1 rfl) ?_
  refine lv_iload_n hx hb dX4_noteShared_19 rfl (lv_at hl 2 rfl) ?_
  refine lv_iconst (v := 1) hx hb dX4_noteShared_20 ki_1 ?_
  refine lv_isub hx hb dX4_noteShared_21 ?_
  obtain ⟨r_15, hr_16, h⟩ := bd1_s h
  refine hv_i hx hb hml hown hw cB_bl (cB_of hN hK hP) (cr_ME hK hP) (c_me_overlapAt l D ct ad hI v1 (v2 - 1) r_15 hr_16) g_RX4_82 ⟨rfl, hd_X4_overlapAt⟩ (rest := [.int (r_11 + r_13)]) hl.1 hS (fun q h => h) dX4_noteShared_22 rfl rfl ⟨Nat.le_of_ble_eq_true rfl, Nat.le_of_ble_eq_true rfl⟩ rfl rfl (Nat.le_of_ble_eq_true rfl) ⟨Nat.zero_le _, Nat.zero_le _⟩ (fun H locs hP _ hS => ?_)
  refine lv_iadd hx hb dX4_noteShared_25 ?_
  refine lv_aload_n hx hb dX4_noteShared_26 rfl (lv_at hl 0 rfl) ?_
  refine lv_iload_n hx hb dX4_noteShared_27 rfl (lv_at hl 1 rfl) ?_
  refine lv_iload_n hx hb dX4_noteShared_28 rfl (lv_at hl 2 rfl) ?_
  refine lv_iconst (v := 1) hx hb dX4_noteShared_29 ki_1 ?_
  refine lv_iadd hx hb dX4_noteShared_30 ?_
  obtain ⟨r_17, hr_18, h⟩ := bd1_s h
  refine hv_i hx hb hml hown hw cB_bl (cB_of hN hK hP) (cr_ME hK hP) (c_me_overlapAt l D ct ad hI v1 (v2 + 1) r_17 hr_18) g_RX4_82 ⟨rfl, hd_X4_overlapAt⟩ (rest := [.int ((r_11 + r_13) + r_15)]) hl.1 hS (fun q h => h) dX4_noteShared_31 rfl rfl ⟨Nat.le_of_ble_eq_true rfl, Nat.le_of_ble_eq_true rfl⟩ rfl rfl (Nat.le_of_ble_eq_true rfl) ⟨Nat.zero_le _, Nat.zero_le _⟩ (fun H locs hP _ hS => ?_)
  refine lv_iadd hx hb dX4_noteShared_34 ?_
  obtain ⟨v3_19, ev3_19, h⟩ := nm_s h
  refine nmI ev3_19 ?_
  refine lv_istore_n hx hb dX4_noteShared_35 rfl hl (Nat.le_of_ble_eq_true rfl) (lv' := [(3, .int v3_19), (0, .ref (ad 32)), (1, .int v1), (2, .int v2)]) rfl (fun ls hl => ?_)
  refine lv_iload_n hx hb dX4_noteShared_36 rfl (lv_at hl 0 rfl) ?_
  refine lv_if_le hx hb dX4_noteShared_37 (tgt := 50) rfl (fun hc => ?_) (fun hc => ?_)
  · replace h := ifp h hc
    exact hJ50 _ _ _ a_overlaps v1 v2 v3_19 x_touch x_most x_mU x_mV (lv_sub hl [1, 2, 3, 0] rfl) hP hS h
  · replace h := ifn h hc
    refine lv_aload_n hx hb dX4_noteShared_40 rfl (lv_at hl 1 rfl) ?_
    refine lv_dup hx hb dX4_noteShared_41 rfl ?_
    refine cg_ME_2 hx hb hw hown hK hP dX4_noteShared_42 ?_
    refine lv_iconst (v := 1) hx hb dX4_noteShared_45 ki_1 ?_
    refine lv_iadd hx hb dX4_noteShared_46 ?_
    obtain ⟨x_touch_20, ex_touch_20, h⟩ := nm_s h
    refine nmI ex_touch_20 ?_
    refine cp_ME_2 hx hb hw hown hK hP hI hS dX4_noteShared_47 (fun H locs hP hS => ?_)
    exact hJ50 _ _ _ a_overlaps v1 v2 v3_19 x_touch_20 x_most x_mU x_mV (lv_sub hl [1, 2, 3, 0] rfl) hP hS h
noncomputable def me_noteBox (v1 : Int32) (x_area : Int32) : Option (Int32) :=
  if x_area = 0 then (some (v1)) else
  if x_area ≤ v1 then (some (x_area)) else
  some (v1)
set_option maxHeartbeats 4000000 in
set_option maxRecDepth 100000 in
theorem c_me_noteBox (l : Launch) (D : va_G) (ct : Nat → ClassId) (ad : Nat → Nat) (hI : cI ad) {x_fed x_tk x_col x_line x_rcells x_rsize x_len x_cuts x_bare x_place x_lA x_lB x_lC x_fX x_fY x_sX x_sY x_made x_fsize x_psize x_over x_touch x_most x_mU x_mV x_area : Int32} {x_board : Int64} {a_tape a_letters a_oneSided a_free a_ends a_crowds a_wmade a_firsts a_widths a_heights a_places a_next a_pnear a_table a_overlaps : Nat → Int32} {a_drawers a_kept a_items a_numbers a_marks a_near a_figures a_covered a_pcells a_matrix : Nat → Int64} (v1 : Int32)  (z_x_area : Int32) (h : me_noteBox v1 x_area = some (z_x_area)) : Met l yX4_noteBox (wm yX4_noteBox cX4_noteBox 2 none) (rmm 0 0) (va_Pc [.ref (ad 32), .int v1] (cB D ct ad x_fed x_tk x_col x_line x_rcells x_rsize x_len x_cuts x_bare x_place x_lA x_lB x_lC x_fX x_fY x_sX x_sY x_made x_fsize x_psize x_over x_touch x_most x_mU x_mV x_area x_board a_tape a_letters a_oneSided a_free a_ends a_crowds a_wmade a_firsts a_widths a_heights a_places a_next a_pnear a_table a_overlaps a_drawers a_kept a_items a_numbers a_marks a_near a_figures a_covered a_pcells a_matrix)) (va_Qv (fun (_ : Unit) => True) (fun _ t => cP D ct ad x_fed x_tk x_col x_line x_rcells x_rsize x_len x_cuts x_bare x_place x_lA x_lB x_lC x_fX x_fY x_sX x_sY x_made x_fsize x_psize x_over x_touch x_most x_mU x_mV z_x_area x_board a_tape a_letters a_oneSided a_free a_ends a_crowds a_wmade a_firsts a_widths a_heights a_places a_next a_pnear a_table a_overlaps a_drawers a_kept a_items a_numbers a_marks a_near a_figures a_covered a_pcells a_matrix t.heap) (cA ad)) 0 0 (cA ad) := by
  refine met_s (y := yX4_noteBox) (rm := rmm 0 0) (by decide) (Nat.le_of_ble_eq_true rfl) ?_
  intro p e s m below meth c hx hb hr hw hown hlocks _ hml hB ls hl
  obtain ⟨hN, hK, hP⟩ := hB
  replace hl : lv_has ls 2 [(0, .ref (ad 32)), (1, .int v1)] := hl
  have hS : va_S (cA ad) s.heap s.heap [] := va_S.rf
  generalize (([.ref (ad 32), .int v1] : List Value).toArray) = av at hw ⊢
  rw [me_noteBox] at h
  refine lv_aload_n hx hb dX4_noteBox_0 rfl (lv_at hl 0 rfl) ?_
  refine cg_ME_6 hx hb hw hown hK hP dX4_noteBox_1 ?_
  refine lv_if_eq hx hb dX4_noteBox_4 (tgt := 15) rfl (fun hc => ?_) (fun hc => ?_)
  · replace h := ifp h hc
    refine lv_aload_n hx hb dX4_noteBox_15 rfl (lv_at hl 0 rfl) ?_
    refine lv_iload_n hx hb dX4_noteBox_16 rfl (lv_at hl 1 rfl) ?_
    refine cp_ME_6 hx hb hw hown hK hP hI hS dX4_noteBox_17 (fun H locs hP hS => ?_)
    replace h := Option.some.inj h
    subst h
    exact rc_v hx hb hr hlocks hS dX4_noteBox_20 hP
  · replace h := ifn h hc
    refine lv_iload_n hx hb dX4_noteBox_7 rfl (lv_at hl 1 rfl) ?_
    refine lv_aload_n hx hb dX4_noteBox_8 rfl (lv_at hl 0 rfl) ?_
    refine cg_ME_6 hx hb hw hown hK hP dX4_noteBox_9 ?_
    refine lv_icmp_ge hx hb dX4_noteBox_12 (tgt := 20) rfl (fun hc => ?_) (fun hc => ?_)
    · replace h := ifp h hc
      replace h := Option.some.inj h
      subst h
      exact rc_v hx hb hr hlocks hS dX4_noteBox_20 hP
    · replace h := ifn h hc
      refine lv_aload_n hx hb dX4_noteBox_15 rfl (lv_at hl 0 rfl) ?_
      refine lv_iload_n hx hb dX4_noteBox_16 rfl (lv_at hl 1 rfl) ?_
      refine cp_ME_6 hx hb hw hown hK hP hI hS dX4_noteBox_17 (fun H locs hP hS => ?_)
      replace h := Option.some.inj h
      subst h
      exact rc_v hx hb hr hlocks hS dX4_noteBox_20 hP
noncomputable def me_measure_J162 (k81 : Int32 → Int32 → Int32 → Int32 → Int32 → Int32 → Int32 → Option (Int32 × Int32 × Int32 × Int32 × Int32 × Int32 × (Nat → Int32))) (k92 : Int32 → Int32 → Int32 → Int32 → Int32 → Int32 → Int32 → Option (Int32 × Int32 × Int32 × Int32 × Int32 × Int32 × (Nat → Int32))) (v1 : Int64) (v3 : Int64) (v5 : Int32) (v6 : Int32) (x_over : Int32) (x_touch : Int32) (x_most : Int32) (x_mU : Int32) (x_mV : Int32) (x_area : Int32) (a_overlaps : Nat → Int32)  : Option (Int32 × Int32 × Int32 × Int32 × Int32 × Int32 × (Nat → Int32)) :=
  nm (v6 + Int32.ofInt 1) fun v6_1 =>
  k92 v6_1 x_over x_touch x_most x_mU x_mV x_area
noncomputable def me_measure_B92 (v1 : Int64) (v3 : Int64) (v5 : Int32) (a_overlaps : Nat → Int32) (k81 : Int32 → Int32 → Int32 → Int32 → Int32 → Int32 → Int32 → Option (Int32 × Int32 × Int32 × Int32 × Int32 × Int32 × (Nat → Int32))) (k92 : Int32 → Int32 → Int32 → Int32 → Int32 → Int32 → Int32 → Option (Int32 × Int32 × Int32 × Int32 × Int32 × Int32 × (Nat → Int32))) (v6 : Int32) (x_over : Int32) (x_touch : Int32) (x_most : Int32) (x_mU : Int32) (x_mV : Int32) (x_area : Int32) : Option (Int32 × Int32 × Int32 × Int32 × Int32 × Int32 × (Nat → Int32)) :=
  if 7 < v6 then (nm (v5 + Int32.ofInt 1) fun v5_2 =>
  k81 v5_2 x_over x_touch x_most x_mU x_mV x_area) else
  bd1 (me_overlapAt v6 v5 a_overlaps) fun r_3 =>
  if r_3 ≤ 0 then (bd4 (me_noteShared v6 v5 x_touch x_most x_mU x_mV a_overlaps) fun x_touch_5 x_most_6 x_mU_7 x_mV_8 =>
  bd1 (gr_width v1) fun r_10 =>
  bd1 (gr_width v3) fun r_12 =>
  bd1 (me_around r_10 r_12 v6) fun r_14 =>
  bd1 (gr_height v1) fun r_16 =>
  bd1 (gr_height v3) fun r_18 =>
  bd1 (me_around r_16 r_18 v5) fun r_20 =>
  bd1 (me_noteBox (r_14 * r_20) x_area) fun x_area_22 =>
  me_measure_J162 k81 k92 v1 v3 v5 v6 x_over x_touch_5 x_most_6 x_mU_7 x_mV_8 x_area_22 a_overlaps) else
  nm (x_over + 1 : Int32) fun x_over_24 =>
  me_measure_J162 k81 k92 v1 v3 v5 v6 x_over_24 x_touch x_most x_mU x_mV x_area a_overlaps
noncomputable def me_measure_B81 (v1 : Int64) (v3 : Int64) (a_overlaps : Nat → Int32)  (k81 : Int32 → Int32 → Int32 → Int32 → Int32 → Int32 → Int32 → Option (Int32 × Int32 × Int32 × Int32 × Int32 × Int32 × (Nat → Int32))) (v5 : Int32) (x_over : Int32) (x_touch : Int32) (x_most : Int32) (x_mU : Int32) (x_mV : Int32) (x_area : Int32) : Option (Int32 × Int32 × Int32 × Int32 × Int32 × Int32 × (Nat → Int32)) :=
  if 7 < v5 then (some (x_over, x_touch, x_most, x_mU, x_mV, x_area, a_overlaps)) else
  fl7 (me_measure_B92 v1 v3 v5 a_overlaps k81) FU (-7) x_over x_touch x_most x_mU x_mV x_area
noncomputable def me_measure_B3 (v1 : Int64) (v3 : Int64) (x_over : Int32) (x_touch : Int32) (x_most : Int32) (x_mU : Int32) (x_mV : Int32) (x_area : Int32)  (k3 : Int32 → (Nat → Int32) → Option (Int32 × Int32 × Int32 × Int32 × Int32 × Int32 × (Nat → Int32))) (v5 : Int32) (a_overlaps : Nat → Int32) : Option (Int32 × Int32 × Int32 × Int32 × Int32 × Int32 × (Nat → Int32)) :=
  if 289 ≤ v5 then (fl7 (me_measure_B81 v1 v3 a_overlaps) FU (-7) 0 0 0 0 0 0) else
  dzI 17 <|
  dzI 17 <|
  bd1 (me_overlap v1 v3 ((remI v5 17) - 8) ((v5 / 17) - 8)) fun r_25 =>
  ck v5 289 <|
  nm (upd a_overlaps v5.toNatClampNeg r_25) fun a_overlaps_27 =>
  nm (v5 + Int32.ofInt 1) fun v5_28 =>
  k3 v5_28 a_overlaps_27
noncomputable def me_measure (v1 : Int64) (v3 : Int64) (x_over : Int32) (x_touch : Int32) (x_most : Int32) (x_mU : Int32) (x_mV : Int32) (x_area : Int32) (a_overlaps : Nat → Int32) : Option (Int32 × Int32 × Int32 × Int32 × Int32 × Int32 × (Nat → Int32)) :=
  fl2 (me_measure_B3 v1 v3 x_over x_touch x_most x_mU x_mV x_area) FU 0 a_overlaps
set_option maxHeartbeats 4000000 in
set_option maxRecDepth 100000 in
theorem c_me_measure (l : Launch) (D : va_G) (ct : Nat → ClassId) (ad : Nat → Nat) (hI : cI ad) {x_fed x_tk x_col x_line x_rcells x_rsize x_len x_cuts x_bare x_place x_lA x_lB x_lC x_fX x_fY x_sX x_sY x_made x_fsize x_psize x_over x_touch x_most x_mU x_mV x_area : Int32} {x_board : Int64} {a_tape a_letters a_oneSided a_free a_ends a_crowds a_wmade a_firsts a_widths a_heights a_places a_next a_pnear a_table a_overlaps : Nat → Int32} {a_drawers a_kept a_items a_numbers a_marks a_near a_figures a_covered a_pcells a_matrix : Nat → Int64} (v1 : Int64) (v3 : Int64)  (z_x_over : Int32) (z_x_touch : Int32) (z_x_most : Int32) (z_x_mU : Int32) (z_x_mV : Int32) (z_x_area : Int32) (z_a_overlaps : Nat → Int32) (h : me_measure v1 v3 x_over x_touch x_most x_mU x_mV x_area a_overlaps = some (z_x_over, z_x_touch, z_x_most, z_x_mU, z_x_mV, z_x_area, z_a_overlaps)) : Met l yX4_measure (wm yX4_measure cX4_measure 7 none) (rmm 3 72) (va_Pc [.ref (ad 32), .long v1, .long v3] (cB D ct ad x_fed x_tk x_col x_line x_rcells x_rsize x_len x_cuts x_bare x_place x_lA x_lB x_lC x_fX x_fY x_sX x_sY x_made x_fsize x_psize x_over x_touch x_most x_mU x_mV x_area x_board a_tape a_letters a_oneSided a_free a_ends a_crowds a_wmade a_firsts a_widths a_heights a_places a_next a_pnear a_table a_overlaps a_drawers a_kept a_items a_numbers a_marks a_near a_figures a_covered a_pcells a_matrix)) (va_Qv (fun (_ : Unit) => True) (fun _ t => cP D ct ad x_fed x_tk x_col x_line x_rcells x_rsize x_len x_cuts x_bare x_place x_lA x_lB x_lC x_fX x_fY x_sX x_sY x_made x_fsize x_psize z_x_over z_x_touch z_x_most z_x_mU z_x_mV z_x_area x_board a_tape a_letters a_oneSided a_free a_ends a_crowds a_wmade a_firsts a_widths a_heights a_places a_next a_pnear a_table z_a_overlaps a_drawers a_kept a_items a_numbers a_marks a_near a_figures a_covered a_pcells a_matrix t.heap) (cA ad)) 0 0 (cA ad) := by
  refine met_s (y := yX4_measure) (rm := rmm 3 72) (by decide) (Nat.le_of_ble_eq_true rfl) ?_
  intro p e s m below meth c hx hb hr hw hown hlocks _ hml hB ls hl
  obtain ⟨hN, hK, hP⟩ := hB
  replace hl : lv_has ls 7 [(0, .ref (ad 32)), (1, .long v1), (3, .long v3)] := hl
  have hS : va_S (cA ad) s.heap s.heap [] := va_S.rf
  generalize (([.ref (ad 32), .long v1, .long v3] : List Value).toArray) = av at hw ⊢
  rw [me_measure] at h
  have hL81 : ∀ (v1 : Int64), ∀ (v3 : Int64), ∀ (a_overlaps : Nat → Int32), ∀ (n81 : Nat) (H : Heap) (locs : List Loc) (ls : Array Slot) (v5 : Int32) (x_over : Int32) (x_touch : Int32) (x_most : Int32) (x_mU : Int32) (x_mV : Int32) (x_area : Int32), lv_has ls 7 [(0, .ref (ad 32)), (1, .long v1), (3, .long v3), (5, .int v5)] → cP D ct ad x_fed x_tk x_col x_line x_rcells x_rsize x_len x_cuts x_bare x_place x_lA x_lB x_lC x_fX x_fY x_sX x_sY x_made x_fsize x_psize x_over x_touch x_most x_mU x_mV x_area x_board a_tape a_letters a_oneSided a_free a_ends a_crowds a_wmade a_firsts a_widths a_heights a_places a_next a_pnear a_table a_overlaps a_drawers a_kept a_items a_numbers a_marks a_near a_figures a_covered a_pcells a_matrix H → va_S (cA ad) s.heap H locs → fl7 (me_measure_B81 v1 v3 a_overlaps) n81 v5 x_over x_touch x_most x_mU x_mV x_area = some (z_x_over, z_x_touch, z_x_most, z_x_mU, z_x_mV, z_x_area, z_a_overlaps) → W p l e (rmm 3 72) s m av below meth c H locs 0 0 (MQ below (va_Qv (fun (_ : Unit) => True) (fun _ t => cP D ct ad x_fed x_tk x_col x_line x_rcells x_rsize x_len x_cuts x_bare x_place x_lA x_lB x_lC x_fX x_fY x_sX x_sY x_made x_fsize x_psize z_x_over z_x_touch z_x_most z_x_mU z_x_mV z_x_area x_board a_tape a_letters a_oneSided a_free a_ends a_crowds a_wmade a_firsts a_widths a_heights a_places a_next a_pnear a_table z_a_overlaps a_drawers a_kept a_items a_numbers a_marks a_near a_figures a_covered a_pcells a_matrix t.heap) (cA ad)) av s 0 0 (cA ad)) (F0 m 81 ls []) := by
    intro v1 v3 a_overlaps n81
    induction n81 with
    | zero => intro H locs ls v5 x_over x_touch x_most x_mU x_mV x_area hl hP hS h; cases h
    | succ n81 ih81 =>
      intro H locs ls v5 x_over x_touch x_most x_mU x_mV x_area hl hP hS h
      replace h : me_measure_B81 v1 v3 a_overlaps (fl7 (me_measure_B81 v1 v3 a_overlaps) n81) v5 x_over x_touch x_most x_mU x_mV x_area = some (z_x_over, z_x_touch, z_x_most, z_x_mU, z_x_mV, z_x_area, z_a_overlaps) := h
      generalize fl7 (me_measure_B81 v1 v3 a_overlaps) n81 = k81 at h ih81
      have hL92 : ∀ (v5 : Int32), ∀ (n92 : Nat) (H : Heap) (locs : List Loc) (ls : Array Slot) (v6 : Int32) (x_over : Int32) (x_touch : Int32) (x_most : Int32) (x_mU : Int32) (x_mV : Int32) (x_area : Int32), lv_has ls 7 [(0, .ref (ad 32)), (1, .long v1), (3, .long v3), (5, .int v5), (6, .int v6)] → cP D ct ad x_fed x_tk x_col x_line x_rcells x_rsize x_len x_cuts x_bare x_place x_lA x_lB x_lC x_fX x_fY x_sX x_sY x_made x_fsize x_psize x_over x_touch x_most x_mU x_mV x_area x_board a_tape a_letters a_oneSided a_free a_ends a_crowds a_wmade a_firsts a_widths a_heights a_places a_next a_pnear a_table a_overlaps a_drawers a_kept a_items a_numbers a_marks a_near a_figures a_covered a_pcells a_matrix H → va_S (cA ad) s.heap H locs → fl7 (me_measure_B92 v1 v3 v5 a_overlaps k81) n92 v6 x_over x_touch x_most x_mU x_mV x_area = some (z_x_over, z_x_touch, z_x_most, z_x_mU, z_x_mV, z_x_area, z_a_overlaps) → W p l e (rmm 3 72) s m av below meth c H locs 0 0 (MQ below (va_Qv (fun (_ : Unit) => True) (fun _ t => cP D ct ad x_fed x_tk x_col x_line x_rcells x_rsize x_len x_cuts x_bare x_place x_lA x_lB x_lC x_fX x_fY x_sX x_sY x_made x_fsize x_psize z_x_over z_x_touch z_x_most z_x_mU z_x_mV z_x_area x_board a_tape a_letters a_oneSided a_free a_ends a_crowds a_wmade a_firsts a_widths a_heights a_places a_next a_pnear a_table z_a_overlaps a_drawers a_kept a_items a_numbers a_marks a_near a_figures a_covered a_pcells a_matrix t.heap) (cA ad)) av s 0 0 (cA ad)) (F0 m 92 ls []) := by
        intro v5 n92
        induction n92 with
        | zero => intro H locs ls v6 x_over x_touch x_most x_mU x_mV x_area hl hP hS h; cases h
        | succ n92 ih92 =>
          intro H locs ls v6 x_over x_touch x_most x_mU x_mV x_area hl hP hS h
          replace h : me_measure_B92 v1 v3 v5 a_overlaps k81 (fl7 (me_measure_B92 v1 v3 v5 a_overlaps k81) n92) v6 x_over x_touch x_most x_mU x_mV x_area = some (z_x_over, z_x_touch, z_x_most, z_x_mU, z_x_mV, z_x_area, z_a_overlaps) := h
          generalize fl7 (me_measure_B92 v1 v3 v5 a_overlaps k81) n92 = k92 at h ih92
          have hJ162 : ∀ (H : Heap) (locs : List Loc) (ls : Array Slot) (v6 : Int32) (x_over : Int32) (x_touch : Int32) (x_most : Int32) (x_mU : Int32) (x_mV : Int32) (x_area : Int32) , lv_has ls 7 [(0, .ref (ad 32)), (1, .long v1), (3, .long v3), (5, .int v5), (6, .int v6)] → cP D ct ad x_fed x_tk x_col x_line x_rcells x_rsize x_len x_cuts x_bare x_place x_lA x_lB x_lC x_fX x_fY x_sX x_sY x_made x_fsize x_psize x_over x_touch x_most x_mU x_mV x_area x_board a_tape a_letters a_oneSided a_free a_ends a_crowds a_wmade a_firsts a_widths a_heights a_places a_next a_pnear a_table a_overlaps a_drawers a_kept a_items a_numbers a_marks a_near a_figures a_covered a_pcells a_matrix H → va_S (cA ad) s.heap H locs → me_measure_J162 k81 k92 v1 v3 v5 v6 x_over x_touch x_most x_mU x_mV x_area a_overlaps = some (z_x_over, z_x_touch, z_x_most, z_x_mU, z_x_mV, z_x_area, z_a_overlaps) → W p l e (rmm 3 72) s m av below meth c H locs 0 0 (MQ below (va_Qv (fun (_ : Unit) => True) (fun _ t => cP D ct ad x_fed x_tk x_col x_line x_rcells x_rsize x_len x_cuts x_bare x_place x_lA x_lB x_lC x_fX x_fY x_sX x_sY x_made x_fsize x_psize z_x_over z_x_touch z_x_most z_x_mU z_x_mV z_x_area x_board a_tape a_letters a_oneSided a_free a_ends a_crowds a_wmade a_firsts a_widths a_heights a_places a_next a_pnear a_table z_a_overlaps a_drawers a_kept a_items a_numbers a_marks a_near a_figures a_covered a_pcells a_matrix t.heap) (cA ad)) av s 0 0 (cA ad)) (F0 m 162 ls []) := by
            intro H locs ls v6 x_over x_touch x_most x_mU x_mV x_area  hl hP hS h
            rw [me_measure_J162] at h
            obtain ⟨v6_29, ev6_29, h⟩ := nm_s h
            refine lv_iinc hx hb dX4_measure_162 hl (k := 4) rfl ev6_29.symm (Nat.le_of_ble_eq_true rfl) (lv' := [(6, .int v6_29), (0, .ref (ad 32)), (1, .long v1), (3, .long v3), (5, .int v5)]) rfl (fun ls hl => ?_)
            refine lv_goto hx hb dX4_measure_165 (tgt := 92) rfl ?_
            exact ih92 _ _ _ v6_29 x_over x_touch x_most x_mU x_mV x_area (lv_sub hl [1, 2, 3, 4, 0] rfl) hP hS h
          rw [me_measure_B92] at h
          refine lv_iload hx hb dX4_measure_92 (lv_at hl 4 rfl) ?_
          refine lv_bipush (v := 7) hx hb dX4_measure_94 kb_7 ?_
          refine lv_icmp_gt hx hb dX4_measure_96 (tgt := 168) rfl (fun hc => ?_) (fun hc => ?_)
          · replace h := ifp h hc
            obtain ⟨v5_30, ev5_30, h⟩ := nm_s h
            refine lv_iinc hx hb dX4_measure_168 hl (k := 3) rfl ev5_30.symm (Nat.le_of_ble_eq_true rfl) (lv' := [(5, .int v5_30), (0, .ref (ad 32)), (1, .long v1), (3, .long v3), (6, .int v6)]) rfl (fun ls hl => ?_)
            refine lv_goto hx hb dX4_measure_171 (tgt := 81) rfl ?_
            exact ih81 _ _ _ v5_30 x_over x_touch x_most x_mU x_mV x_area (lv_sub hl [1, 2, 3, 0] rfl) hP hS h
          · replace h := ifn h hc
            refine lv_aload_n hx hb dX4_measure_99 rfl (lv_at hl 0 rfl) ?_
            refine lv_iload hx hb dX4_measure_100 (lv_at hl 4 rfl) ?_
            refine lv_iload hx hb dX4_measure_102 (lv_at hl 3 rfl) ?_
            obtain ⟨r_31, hr_32, h⟩ := bd1_s h
            refine hv_i hx hb hml hown hw cB_bl (cB_of hN hK hP) (cr_ME hK hP) (c_me_overlapAt l D ct ad hI v6 v5 r_31 hr_32) g_RX4_82 ⟨rfl, hd_X4_overlapAt⟩ (rest := []) hl.1 hS (fun q h => h) dX4_measure_104 rfl rfl ⟨Nat.le_of_ble_eq_true rfl, Nat.le_of_ble_eq_true rfl⟩ rfl rfl (Nat.le_of_ble_eq_true rfl) ⟨Nat.zero_le _, Nat.zero_le _⟩ (fun H locs hP _ hS => ?_)
            refine lv_if_le hx hb dX4_measure_107 (tgt := 123) rfl (fun hc => ?_) (fun hc => ?_)
            · replace h := ifp h hc
              refine lv_aload_n hx hb dX4_measure_123 rfl (lv_at hl 0 rfl) ?_
              refine lv_iload hx hb dX4_measure_124 (lv_at hl 4 rfl) ?_
              refine lv_iload hx hb dX4_measure_126 (lv_at hl 3 rfl) ?_
              obtain ⟨x_touch_33, x_most_34, x_mU_35, x_mV_36, hr_37, h⟩ := bd4_s h
              refine hv_v hx hb hml hown hw cB_bl (cB_of hN hK hP) (cr_ME hK hP) (c_me_noteShared l D ct ad hI v6 v5 x_touch_33 x_most_34 x_mU_35 x_mV_36 hr_37) g_RX4_85 ⟨rfl, hd_X4_noteShared⟩ (rest := []) hl.1 hS (fun q h => h) dX4_measure_128 rfl rfl ⟨Nat.le_of_ble_eq_true rfl, Nat.le_of_ble_eq_true rfl⟩ rfl rfl (Nat.le_of_ble_eq_true rfl) ⟨Nat.zero_le _, Nat.zero_le _⟩ (fun H locs hP _ hS => ?_)
              refine lv_aload_n hx hb dX4_measure_131 rfl (lv_at hl 0 rfl) ?_
              refine lv_lload_n hx hb dX4_measure_132 rfl (lv_at hl 1 rfl) ?_
              obtain ⟨r_38, hr_39, h⟩ := bd1_s h
              refine sc_i hx hb hml hown hw hN (c_gr_width l v1 r_38 hr_39) g_RX4_44 hd_X2_width (rest := [.ref (ad 32)]) hl.1 hS dX4_measure_133 rfl rfl ⟨Nat.le_of_ble_eq_true rfl, Nat.le_of_ble_eq_true rfl⟩ rfl rfl (Nat.le_of_ble_eq_true rfl) ⟨Nat.zero_le _, Nat.zero_le _⟩ (fun H locs hk hS => ?_)
              have hP := cP_kept hP hk
              refine lv_lload_n hx hb dX4_measure_136 rfl (lv_at hl 2 rfl) ?_
              obtain ⟨r_40, hr_41, h⟩ := bd1_s h
              refine sc_i hx hb hml hown hw hN (c_gr_width l v3 r_40 hr_41) g_RX4_44 hd_X2_width (rest := [.int r_38, .ref (ad 32)]) hl.1 hS dX4_measure_137 rfl rfl ⟨Nat.le_of_ble_eq_true rfl, Nat.le_of_ble_eq_true rfl⟩ rfl rfl (Nat.le_of_ble_eq_true rfl) ⟨Nat.zero_le _, Nat.zero_le _⟩ (fun H locs hk hS => ?_)
              have hP := cP_kept hP hk
              refine lv_iload hx hb dX4_measure_140 (lv_at hl 4 rfl) ?_
              obtain ⟨r_42, hr_43, h⟩ := bd1_s h
              refine sc_i hx hb hml hown hw hN (c_me_around l r_38 r_40 v6 r_42 hr_43) g_RX4_89 hd_X4_around (rest := [.ref (ad 32)]) hl.1 hS dX4_measure_142 rfl rfl ⟨Nat.le_of_ble_eq_true rfl, Nat.le_of_ble_eq_true rfl⟩ rfl rfl (Nat.le_of_ble_eq_true rfl) ⟨Nat.zero_le _, Nat.zero_le _⟩ (fun H locs hk hS => ?_)
              have hP := cP_kept hP hk
              refine lv_lload_n hx hb dX4_measure_145 rfl (lv_at hl 1 rfl) ?_
              obtain ⟨r_44, hr_45, h⟩ := bd1_s h
              refine sc_i hx hb hml hown hw hN (c_gr_height l v1 r_44 hr_45) g_RX4_41 hd_X2_height (rest := [.int r_42, .ref (ad 32)]) hl.1 hS dX4_measure_146 rfl rfl ⟨Nat.le_of_ble_eq_true rfl, Nat.le_of_ble_eq_true rfl⟩ rfl rfl (Nat.le_of_ble_eq_true rfl) ⟨Nat.zero_le _, Nat.zero_le _⟩ (fun H locs hk hS => ?_)
              have hP := cP_kept hP hk
              refine lv_lload_n hx hb dX4_measure_149 rfl (lv_at hl 2 rfl) ?_
              obtain ⟨r_46, hr_47, h⟩ := bd1_s h
              refine sc_i hx hb hml hown hw hN (c_gr_height l v3 r_46 hr_47) g_RX4_41 hd_X2_height (rest := [.int r_44, .int r_42, .ref (ad 32)]) hl.1 hS dX4_measure_150 rfl rfl ⟨Nat.le_of_ble_eq_true rfl, Nat.le_of_ble_eq_true rfl⟩ rfl rfl (Nat.le_of_ble_eq_true rfl) ⟨Nat.zero_le _, Nat.zero_le _⟩ (fun H locs hk hS => ?_)
              have hP := cP_kept hP hk
              refine lv_iload hx hb dX4_measure_153 (lv_at hl 3 rfl) ?_
              obtain ⟨r_48, hr_49, h⟩ := bd1_s h
              refine sc_i hx hb hml hown hw hN (c_me_around l r_44 r_46 v5 r_48 hr_49) g_RX4_89 hd_X4_around (rest := [.int r_42, .ref (ad 32)]) hl.1 hS dX4_measure_155 rfl rfl ⟨Nat.le_of_ble_eq_true rfl, Nat.le_of_ble_eq_true rfl⟩ rfl rfl (Nat.le_of_ble_eq_true rfl) ⟨Nat.zero_le _, Nat.zero_le _⟩ (fun H locs hk hS => ?_)
              have hP := cP_kept hP hk
              refine lv_imul hx hb dX4_measure_158 ?_
              obtain ⟨x_area_50, hr_51, h⟩ := bd1_s h
              refine hv_v hx hb hml hown hw cB_bl (cB_of hN hK hP) (cr_ME hK hP) (c_me_noteBox l D ct ad hI (r_42 * r_48) x_area_50 hr_51) g_RX4_93 ⟨rfl, hd_X4_noteBox⟩ (rest := []) hl.1 hS (fun q h => h) dX4_measure_159 rfl rfl ⟨Nat.le_of_ble_eq_true rfl, Nat.le_of_ble_eq_true rfl⟩ rfl rfl (Nat.le_of_ble_eq_true rfl) ⟨Nat.zero_le _, Nat.zero_le _⟩ (fun H locs hP _ hS => ?_)
              exact hJ162 _ _ _ v6 x_over x_touch_33 x_most_34 x_mU_35 x_mV_36 x_area_50 (lv_sub hl [0, 1, 2, 3, 4] rfl) hP hS h
            · replace h := ifn h hc
              refine lv_aload_n hx hb dX4_measure_110 rfl (lv_at hl 0 rfl) ?_
              refine lv_dup hx hb dX4_measure_111 rfl ?_
              refine cg_ME_1 hx hb hw hown hK hP dX4_measure_112 ?_
              refine lv_iconst (v := 1) hx hb dX4_measure_115 ki_1 ?_
              refine lv_iadd hx hb dX4_measure_116 ?_
              obtain ⟨x_over_52, ex_over_52, h⟩ := nm_s h
              refine nmI ex_over_52 ?_
              refine cp_ME_1 hx hb hw hown hK hP hI hS dX4_measure_117 (fun H locs hP hS => ?_)
              refine lv_goto hx hb dX4_measure_120 (tgt := 162) rfl ?_
              exact hJ162 _ _ _ v6 x_over_52 x_touch x_most x_mU x_mV x_area (lv_sub hl [0, 1, 2, 3, 4] rfl) hP hS h
      rw [me_measure_B81] at h
      refine lv_iload hx hb dX4_measure_81 (lv_at hl 3 rfl) ?_
      refine lv_bipush (v := 7) hx hb dX4_measure_83 kb_7 ?_
      refine lv_icmp_gt hx hb dX4_measure_85 (tgt := 174) rfl (fun hc => ?_) (fun hc => ?_)
      · replace h := ifp h hc
        simp only [Option.some.injEq, Prod.mk.injEq] at h
        obtain ⟨rfl, rfl, rfl, rfl, rfl, rfl, rfl⟩ := h
        exact rc_v hx hb hr hlocks hS dX4_measure_174 hP
      · replace h := ifn h hc
        refine lv_bipush (v := (-7)) hx hb dX4_measure_88 kb_m7 ?_
        refine lv_istore hx hb dX4_measure_90 hl (Nat.le_of_ble_eq_true rfl) (lv' := [(6, .int (-7)), (0, .ref (ad 32)), (1, .long v1), (3, .long v3), (5, .int v5)]) rfl (fun ls hl => ?_)
        exact hL92 v5 FU _ _ _ (-7) x_over x_touch x_most x_mU x_mV x_area (lv_sub hl [1, 2, 3, 4, 0] rfl) hP hS h
  have hL3 : ∀ (v1 : Int64), ∀ (v3 : Int64), ∀ (x_over : Int32), ∀ (x_touch : Int32), ∀ (x_most : Int32), ∀ (x_mU : Int32), ∀ (x_mV : Int32), ∀ (x_area : Int32), ∀ (n3 : Nat) (H : Heap) (locs : List Loc) (ls : Array Slot) (v5 : Int32) (a_overlaps : Nat → Int32), lv_has ls 7 [(0, .ref (ad 32)), (1, .long v1), (3, .long v3), (5, .int v5)] → cP D ct ad x_fed x_tk x_col x_line x_rcells x_rsize x_len x_cuts x_bare x_place x_lA x_lB x_lC x_fX x_fY x_sX x_sY x_made x_fsize x_psize x_over x_touch x_most x_mU x_mV x_area x_board a_tape a_letters a_oneSided a_free a_ends a_crowds a_wmade a_firsts a_widths a_heights a_places a_next a_pnear a_table a_overlaps a_drawers a_kept a_items a_numbers a_marks a_near a_figures a_covered a_pcells a_matrix H → va_S (cA ad) s.heap H locs → fl2 (me_measure_B3 v1 v3 x_over x_touch x_most x_mU x_mV x_area) n3 v5 a_overlaps = some (z_x_over, z_x_touch, z_x_most, z_x_mU, z_x_mV, z_x_area, z_a_overlaps) → W p l e (rmm 3 72) s m av below meth c H locs 0 0 (MQ below (va_Qv (fun (_ : Unit) => True) (fun _ t => cP D ct ad x_fed x_tk x_col x_line x_rcells x_rsize x_len x_cuts x_bare x_place x_lA x_lB x_lC x_fX x_fY x_sX x_sY x_made x_fsize x_psize z_x_over z_x_touch z_x_most z_x_mU z_x_mV z_x_area x_board a_tape a_letters a_oneSided a_free a_ends a_crowds a_wmade a_firsts a_widths a_heights a_places a_next a_pnear a_table z_a_overlaps a_drawers a_kept a_items a_numbers a_marks a_near a_figures a_covered a_pcells a_matrix t.heap) (cA ad)) av s 0 0 (cA ad)) (F0 m 3 ls []) := by
    intro v1 v3 x_over x_touch x_most x_mU x_mV x_area n3
    induction n3 with
    | zero => intro H locs ls v5 a_overlaps hl hP hS h; cases h
    | succ n3 ih3 =>
      intro H locs ls v5 a_overlaps hl hP hS h
      replace h : me_measure_B3 v1 v3 x_over x_touch x_most x_mU x_mV x_area (fl2 (me_measure_B3 v1 v3 x_over x_touch x_most x_mU x_mV x_area) n3) v5 a_overlaps = some (z_x_over, z_x_touch, z_x_most, z_x_mU, z_x_mV, z_x_area, z_a_overlaps) := h
      generalize fl2 (me_measure_B3 v1 v3 x_over x_touch x_most x_mU x_mV x_area) n3 = k3 at h ih3
      rw [me_measure_B3] at h
      refine lv_iload hx hb dX4_measure_3 (lv_at hl 3 rfl) ?_
      refine lv_aload_n hx hb dX4_measure_5 rfl (lv_at hl 0 rfl) ?_
      refine cg_ME_0 hx hb hw hown hK hP dX4_measure_6 ?_
      refine cl_overlaps hx hb hK hP dX4_measure_9 ?_
      refine lv_icmp_ge hx hb dX4_measure_10 (tgt := 47) rfl (fun hc => ?_) (fun hc => ?_)
      · replace h := ifp h hc
        refine lv_aload_n hx hb dX4_measure_47 rfl (lv_at hl 0 rfl) ?_
        refine lv_iconst (v := 0) hx hb dX4_measure_48 ki_0 ?_
        refine cp_ME_1 hx hb hw hown hK hP hI hS dX4_measure_49 (fun H locs hP hS => ?_)
        refine lv_aload_n hx hb dX4_measure_52 rfl (lv_at hl 0 rfl) ?_
        refine lv_iconst (v := 0) hx hb dX4_measure_53 ki_0 ?_
        refine cp_ME_2 hx hb hw hown hK hP hI hS dX4_measure_54 (fun H locs hP hS => ?_)
        refine lv_aload_n hx hb dX4_measure_57 rfl (lv_at hl 0 rfl) ?_
        refine lv_iconst (v := 0) hx hb dX4_measure_58 ki_0 ?_
        refine cp_ME_3 hx hb hw hown hK hP hI hS dX4_measure_59 (fun H locs hP hS => ?_)
        refine lv_aload_n hx hb dX4_measure_62 rfl (lv_at hl 0 rfl) ?_
        refine lv_iconst (v := 0) hx hb dX4_measure_63 ki_0 ?_
        refine cp_ME_4 hx hb hw hown hK hP hI hS dX4_measure_64 (fun H locs hP hS => ?_)
        refine lv_aload_n hx hb dX4_measure_67 rfl (lv_at hl 0 rfl) ?_
        refine lv_iconst (v := 0) hx hb dX4_measure_68 ki_0 ?_
        refine cp_ME_5 hx hb hw hown hK hP hI hS dX4_measure_69 (fun H locs hP hS => ?_)
        refine lv_aload_n hx hb dX4_measure_72 rfl (lv_at hl 0 rfl) ?_
        refine lv_iconst (v := 0) hx hb dX4_measure_73 ki_0 ?_
        refine cp_ME_6 hx hb hw hown hK hP hI hS dX4_measure_74 (fun H locs hP hS => ?_)
        refine lv_bipush (v := (-7)) hx hb dX4_measure_77 kb_m7 ?_
        refine lv_istore hx hb dX4_measure_79 hl (Nat.le_of_ble_eq_true rfl) (lv' := [(5, .int (-7)), (0, .ref (ad 32)), (1, .long v1), (3, .long v3)]) rfl (fun ls hl => ?_)
        exact hL81 v1 v3 a_overlaps FU _ _ _ (-7) 0 0 0 0 0 0 (lv_sub hl [1, 2, 3, 0] rfl) hP hS h
      · replace h := ifn h hc
        refine lv_aload_n hx hb dX4_measure_13 rfl (lv_at hl 0 rfl) ?_
        refine cg_ME_0 hx hb hw hown hK hP dX4_measure_14 ?_
        refine lv_iload hx hb dX4_measure_17 (lv_at hl 3 rfl) ?_
        refine lv_lload_n hx hb dX4_measure_19 rfl (lv_at hl 1 rfl) ?_
        refine lv_lload_n hx hb dX4_measure_20 rfl (lv_at hl 2 rfl) ?_
        refine lv_iload hx hb dX4_measure_21 (lv_at hl 3 rfl) ?_
        refine lv_bipush (v := 17) hx hb dX4_measure_23 kb_17 ?_
        obtain ⟨hne, h⟩ := dzI_s h
        refine lv_irem hx hb dX4_measure_25 hne ?_
        refine nmI (v := remI v5 17) rfl ?_
        refine lv_bipush (v := 8) hx hb dX4_measure_26 kb_8 ?_
        refine lv_isub hx hb dX4_measure_28 ?_
        refine lv_iload hx hb dX4_measure_29 (lv_at hl 3 rfl) ?_
        refine lv_bipush (v := 17) hx hb dX4_measure_31 kb_17 ?_
        obtain ⟨hne, h⟩ := dzI_s h
        refine lv_idiv hx hb dX4_measure_33 hne ?_
        refine lv_bipush (v := 8) hx hb dX4_measure_34 kb_8 ?_
        refine lv_isub hx hb dX4_measure_36 ?_
        obtain ⟨r_53, hr_54, h⟩ := bd1_s h
        refine sc_i hx hb hml hown hw hN (c_me_overlap l v1 v3 ((remI v5 17) - 8) ((v5 / 17) - 8) r_53 hr_54) g_RX4_27 hd_X4_overlap (rest := [.int v5, .ref (ad 33)]) hl.1 hS dX4_measure_37 rfl rfl ⟨Nat.le_of_ble_eq_true rfl, Nat.le_of_ble_eq_true rfl⟩ rfl rfl (Nat.le_of_ble_eq_true rfl) ⟨Nat.zero_le _, Nat.zero_le _⟩ (fun H locs hk hS => ?_)
        have hP := cP_kept hP hk
        obtain ⟨hin, h⟩ := ck_s h
        obtain ⟨a_overlaps_55, ea_overlaps_55, h⟩ := nm_s h
        refine cs_overlaps hx hb hK hP hI hS hin ea_overlaps_55 dX4_measure_40 (fun H locs hP hS => ?_)
        obtain ⟨v5_56, ev5_56, h⟩ := nm_s h
        refine lv_iinc hx hb dX4_measure_41 hl (k := 3) rfl ev5_56.symm (Nat.le_of_ble_eq_true rfl) (lv' := [(5, .int v5_56), (0, .ref (ad 32)), (1, .long v1), (3, .long v3)]) rfl (fun ls hl => ?_)
        refine lv_goto hx hb dX4_measure_44 (tgt := 3) rfl ?_
        exact ih3 _ _ _ v5_56 a_overlaps_55 (lv_sub hl [1, 2, 3, 0] rfl) hP hS h
  refine lv_iconst (v := 0) hx hb dX4_measure_0 ki_0 ?_
  refine lv_istore hx hb dX4_measure_1 hl (Nat.le_of_ble_eq_true rfl) (lv' := [(5, .int 0), (0, .ref (ad 32)), (1, .long v1), (3, .long v3)]) rfl (fun ls hl => ?_)
  exact hL3 v1 v3 x_over x_touch x_most x_mU x_mV x_area FU _ _ _ 0 a_overlaps (lv_sub hl [1, 2, 3, 0] rfl) hP hS h
