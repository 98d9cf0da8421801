/-! LAYER 2: told -/
theorem told_ok {f : Int64} (hf : FIG f) {w : Nat} (hw : w ≤ 14) (g : Int32) (fl go : Nat → Int32) : ∃ r g' fl' go', tr_of f (nI w) = some (nI r) ∧ mo_toldOf f (nI w) g fl go = some (nI r, g', fl', go') ∧ r ≤ 200 := by
  have h7 := hf.1.c7
  have c12 := hf.2.2.2.1
  have wb := wdt_b hf
  obtain ⟨hn, g1, fl1, go1, hn64, ho1, ho2, _, _⟩ := holes_ok hf.1 g fl go
  obtain ⟨g2, fl2', go2, hi⟩ := mo_inHoles_eq hf.1 g fl go
  obtain ⟨cn, hcn, cc1, cc2⟩ := cutCells_ok hf
  obtain ⟨rn, hrn, rr1, rr2⟩ := rowWhole_ok hf
  obtain ⟨wn, hwn, ww1, ww2⟩ := columnWhole_ok hf
  have t1 : two f ≤ 128 := by unfold two; have := cnt_le (f &&& su f 1); have := cnt_le (f &&& su f 8); omega
  have hh := cnt_le (hlw f)
  have p0 : ptS f 0 8 ≤ 192 := by
    rw [pt_out h7]
    have := cnt_le (oddL f &&& (thrL f ^^^ (-1)))
    have := cnt_le (aslL f)
    omega
  have p1 : ptS f 1 8 ≤ 64 := by rw [pt_thr h7]; exact cnt_le _
  have p3 : ptS f 3 8 ≤ 64 := by rw [pt_sqr h7]; exact cnt_le _
  have bs : besS f 9 ≤ 112 := by
    rw [besS_eq hf.1]
    have := cnt_le (besB f)
    have := cnt_mono (and_sub f 72340172838076673)
    have := cnt_mono (and_sub f 4629771061636907072)
    have := cnt_mono (and_sub f 255)
    have := cnt_mono (and_sub f 71776119061217280)
    omega
  have sm8 : smC f 8 ≤ 8 := fb_ct_le _ _
  have sd : ∃ s, s ≤ 48 ∧ (4 * nI (cnt f) - 2 * nI (two f) : Int32) = nI s := by
    refine ⟨4 * cnt f - 2 * two f, by omega, ?_⟩
    rw [show (4 : Int32) = nI 4 from rfl, show (2 : Int32) = nI 2 from rfl, pk_mul, pk_mul, pk_sub ?_]
    -- every cell has at most two twos to the right and below
    have a1 := cnt_mono (and_sub f (su f 1))
    have a2 := cnt_mono (and_sub f (su f 8))
    unfold two
    omega
  obtain ⟨s, hs48, hs⟩ := sd
  unfold tr_of mo_toldOf
  rcases (show w = 0 ∨ w = 1 ∨ w = 2 ∨ w = 3 ∨ w = 4 ∨ w = 5 ∨ w = 6 ∨ w = 7 ∨ w = 8 ∨ w = 9 ∨ w = 10 ∨ w = 11 ∨ w = 12 ∨ w = 13 ∨ w = 14 by omega) with rfl | rfl | rfl | rfl | rfl | rfl | rfl | rfl | rfl | rfl | rfl | rfl | rfl | rfl | rfl
  · refine ⟨cnt f, g, fl, go, ?_, ?_, by omega⟩
    · rw [if_pos (by decide), jl_bitCount_eq]; rfl
    · rw [if_pos (by decide), mo_bits_eq]; rfl
  · refine ⟨wdt f, g, fl, go, ?_, ?_, by omega⟩
    · rw [if_neg (by decide), if_pos (by decide), gr_width_eq]; rfl
    · rw [if_neg (by decide), if_pos (by decide), mo_wide_eq hf]; rfl
  · refine ⟨hgt f, g, fl, go, ?_, ?_, by omega⟩
    · rw [if_neg (by decide), if_neg (by decide), if_pos (by decide), gr_height_eq]; rfl
    · rw [if_neg (by decide), if_neg (by decide), if_pos (by decide), mo_high_eq hf]; rfl
  · refine ⟨s, g, fl, go, ?_, ?_, by omega⟩
    · rw [if_neg (by decide), if_neg (by decide), if_neg (by decide), if_pos (by decide), tr_sides_eq, hs]; rfl
    · rw [if_neg (by decide), if_neg (by decide), if_neg (by decide), if_pos (by decide), mo_bits_eq, bd1_some, mo_twos_eq h7, bd1_some, hs]
  · refine ⟨hn, g1, fl1, go1, ?_, ?_, by omega⟩
    · rw [if_neg (by decide), if_neg (by decide), if_neg (by decide), if_neg (by decide), if_pos (by decide), ho1]; rfl
    · rw [if_neg (by decide), if_neg (by decide), if_neg (by decide), if_neg (by decide), if_pos (by decide), ho2]; rfl
  · refine ⟨cnt (hlw f), g2, fl2', go2, ?_, ?_, by omega⟩
    · rw [if_neg (by decide), if_neg (by decide), if_neg (by decide), if_neg (by decide), if_neg (by decide), if_pos (by decide), (hlw_spec f).1, bd1_some, jl_bitCount_eq]; rfl
    · rw [if_neg (by decide), if_neg (by decide), if_neg (by decide), if_neg (by decide), if_neg (by decide), if_pos (by decide), hi]; rfl
  · refine ⟨cn, g, fl, go, ?_, ?_, by omega⟩
    · simp only [show nI 6 = 6 from rfl, show ¬ (6 : Int32) = 0 by decide, show ¬ (6 : Int32) = 1 by decide, show ¬ (6 : Int32) = 2 by decide, show ¬ (6 : Int32) = 3 by decide, show ¬ (6 : Int32) = 4 by decide, show ¬ (6 : Int32) = 5 by decide, if_false, if_true, cc1, bd1_some]
    · simp only [show nI 6 = 6 from rfl, show ¬ (6 : Int32) = 0 by decide, show ¬ (6 : Int32) = 1 by decide, show ¬ (6 : Int32) = 2 by decide, show ¬ (6 : Int32) = 3 by decide, show ¬ (6 : Int32) = 4 by decide, show ¬ (6 : Int32) = 5 by decide, if_false, if_true, cc2, bd1_some]
  · refine ⟨besS f 9, g, fl, go, ?_, ?_, by omega⟩
    · rw [if_neg (by decide), if_neg (by decide), if_neg (by decide), if_neg (by decide), if_neg (by decide), if_neg (by decide), if_neg (by decide), if_pos (by decide), tr_beside_eq hf.1]; rfl
    · rw [if_neg (by decide), if_neg (by decide), if_neg (by decide), if_neg (by decide), if_neg (by decide), if_neg (by decide), if_neg (by decide), if_pos (by decide), mo_besideOf_eq]; rfl
  · refine ⟨ptS f 0 8, g, fl, go, ?_, ?_, by omega⟩
    · rw [if_neg (by decide), if_neg (by decide), if_neg (by decide), if_neg (by decide), if_neg (by decide), if_neg (by decide), if_neg (by decide), if_neg (by decide), if_pos (by decide), tr_outer_eq h7]; rfl
    · rw [if_neg (by decide), if_neg (by decide), if_neg (by decide), if_neg (by decide), if_neg (by decide), if_neg (by decide), if_neg (by decide), if_neg (by decide), if_pos (by decide), show mo_pointsOf f 0 = mo_pointsOf f (nI 0) by rw [nI_0], mo_pointsOf_eq f (by omega)]; rfl
  · refine ⟨ptS f 1 8, g, fl, go, ?_, ?_, by omega⟩
    · rw [if_neg (by decide), if_neg (by decide), if_neg (by decide), if_neg (by decide), if_neg (by decide), if_neg (by decide), if_neg (by decide), if_neg (by decide), if_neg (by decide), if_pos (by decide), tr_threes_eq, bd1_some, jl_bitCount_eq, pt_thr h7]; rfl
    · rw [if_neg (by decide), if_neg (by decide), if_neg (by decide), if_neg (by decide), if_neg (by decide), if_neg (by decide), if_neg (by decide), if_neg (by decide), if_neg (by decide), if_pos (by decide), show mo_pointsOf f 1 = mo_pointsOf f (nI 1) from rfl, mo_pointsOf_eq f (by omega)]; rfl
  · refine ⟨ptS f 3 8, g, fl, go, ?_, ?_, by omega⟩
    · rw [if_neg (by decide), if_neg (by decide), if_neg (by decide), if_neg (by decide), if_neg (by decide), if_neg (by decide), if_neg (by decide), if_neg (by decide), if_neg (by decide), if_neg (by decide), if_pos (by decide), tr_squares_eq h7]; rfl
    · rw [if_neg (by decide), if_neg (by decide), if_neg (by decide), if_neg (by decide), if_neg (by decide), if_neg (by decide), if_neg (by decide), if_neg (by decide), if_neg (by decide), if_neg (by decide), if_pos (by decide), show mo_pointsOf f 3 = mo_pointsOf f (nI 3) from rfl, mo_pointsOf_eq f (by omega)]; rfl
  · refine ⟨rn, g, fl, go, ?_, ?_, by omega⟩
    · rw [if_neg (by decide), if_neg (by decide), if_neg (by decide), if_neg (by decide), if_neg (by decide), if_neg (by decide), if_neg (by decide), if_neg (by decide), if_neg (by decide), if_neg (by decide), if_neg (by decide), if_pos (by decide), rr2, bd1_some]
      rcases (show rn = 0 ∨ rn = 1 by omega) with rfl | rfl
      · rw [if_pos nI_0, nI_0]
      · rw [if_neg (by decide)]; rfl
    · rw [if_neg (by decide), if_neg (by decide), if_neg (by decide), if_neg (by decide), if_neg (by decide), if_neg (by decide), if_neg (by decide), if_neg (by decide), if_neg (by decide), if_neg (by decide), if_neg (by decide), if_pos (by decide), rr1]; rfl
  · refine ⟨wn, g, fl, go, ?_, ?_, by omega⟩
    · rw [if_neg (by decide), if_neg (by decide), if_neg (by decide), if_neg (by decide), if_neg (by decide), if_neg (by decide), if_neg (by decide), if_neg (by decide), if_neg (by decide), if_neg (by decide), if_neg (by decide), if_neg (by decide), if_pos (by decide), ww2, bd1_some]
      rcases (show wn = 0 ∨ wn = 1 by omega) with rfl | rfl
      · rw [if_pos nI_0, nI_0]
      · rw [if_neg (by decide)]; rfl
    · rw [if_neg (by decide), if_neg (by decide), if_neg (by decide), if_neg (by decide), if_neg (by decide), if_neg (by decide), if_neg (by decide), if_neg (by decide), if_neg (by decide), if_neg (by decide), if_neg (by decide), if_neg (by decide), if_pos (by decide), (qf_spec hf).2.1, bd1_some, ww1]; rfl
  · refine ⟨smC f 8, g, fl, go, ?_, ?_, by omega⟩
    · rw [if_neg (by decide), if_neg (by decide), if_neg (by decide), if_neg (by decide), if_neg (by decide), if_neg (by decide), if_neg (by decide), if_neg (by decide), if_neg (by decide), if_neg (by decide), if_neg (by decide), if_neg (by decide), if_neg (by decide), if_pos (by decide), tr_same_eq hf]; rfl
    · rw [if_neg (by decide), if_neg (by decide), if_neg (by decide), if_neg (by decide), if_neg (by decide), if_neg (by decide), if_neg (by decide), if_neg (by decide), if_neg (by decide), if_neg (by decide), if_neg (by decide), if_neg (by decide), if_neg (by decide), if_pos (by decide), mo_sameOf_eq hf]; rfl
  · refine ⟨two f, g, fl, go, ?_, ?_, by omega⟩
    · rw [if_neg (by decide), if_neg (by decide), if_neg (by decide), if_neg (by decide), if_neg (by decide), if_neg (by decide), if_neg (by decide), if_neg (by decide), if_neg (by decide), if_neg (by decide), if_neg (by decide), if_neg (by decide), if_neg (by decide), if_neg (by decide), if_pos (by decide), tr_twos_eq]; rfl
    · rw [if_neg (by decide), if_neg (by decide), if_neg (by decide), if_neg (by decide), if_neg (by decide), if_neg (by decide), if_neg (by decide), if_neg (by decide), if_neg (by decide), if_neg (by decide), if_neg (by decide), if_neg (by decide), if_neg (by decide), if_neg (by decide), mo_twos_eq h7]; rfl
theorem opc_told (v w : Int32) {g h : Nat → Int64} (hd : DR g h) (go : Int32) (fl gg : Nat → Int32) : ∃ r go' fl' gg', cf_told v w g = some r ∧ mo_told v w go h fl gg = some (r, go', fl', gg') := by
  cases hv : inr v 0 7 with
  | false =>
    simp only [cf_told, mo_told, cf_isDrawer_eq, mo_isDrawer_eq, hv, bd1_some, bf0, if_true]
    exact ⟨-1, _, _, _, rfl, rfl⟩
  | true =>
    cases hw : inr w 0 14 with
    | false =>
      simp only [cf_told, mo_told, cf_isDrawer_eq, mo_isDrawer_eq, cf_within_eq, mo_in_eq, hv, hw, bd1_some, bf0, bt0, if_true, if_false]
      exact ⟨-1, _, _, _, rfl, rfl⟩
    | true =>
      obtain ⟨j, hj, rfl⟩ := inr_dr hv
      obtain ⟨k, hk, rfl⟩ := inr_nI (n := 14) (by omega) hw
      have e := (hd j hj).1
      simp only [cf_told, mo_told, cf_isDrawer_eq, mo_isDrawer_eq, cf_within_eq, mo_in_eq, hv, hw, bd1_some, bt0, if_false, ck_n hj (show 8 < 2 ^ 31 by omega), cl_n (show j < 2 ^ 31 by omega), e]
      by_cases h0 : h j = 0
      · rw [if_pos h0, if_pos h0]; exact ⟨-2, _, _, _, rfl, rfl⟩
      · rw [if_neg h0, if_neg h0]
        obtain ⟨r, g', fl', go', h1, h2, _⟩ := told_ok (DRf hd hj h0) hk go fl gg
        rw [h1, h2]
        exact ⟨_, _, _, _, rfl, rfl⟩
