/-! line, tiles -/
theorem bd8_some {α β γ δ ε ζ η θ ι : Type} (a : α) (b : β) (c : γ) (d : δ) (e : ε) (f : ζ) (g : η) (h : θ) (k : α → β → γ → δ → ε → ζ → η → θ → Option ι) : bd8 (some (a, b, c, d, e, f, g, h)) k = k a b c d e f g h := rfl
theorem line_set {f : Int64} (hf : FIG f) (h0 : hlw f = 0 ∧ aslL f = 0) : ∃ x0 h, low f x0 ∧ LNs f x0 ∧ LEN f x0 (2 * h) ∧ LTR (wL f x0) h := by
  obtain ⟨x0, k1, k2⟩ := low_x0 hf
  have hl : LNs f x0 := ⟨hf, asl_na hf.1 h0.2, h0.1, k2, k1.2.1⟩
  obtain ⟨L, hL⟩ := LEN_ex hl
  obtain ⟨e1, e2, e3⟩ := len_eq hl hL
  have L1 := hL.1
  have e : L = 2 * (L / 2) := by omega
  have hp := wk_per hl hL
  rw [e] at hL hp
  exact ⟨x0, L / 2, k1, hl, hL, fun i => (wk_sd hl i).2, fun i => (hp i).2.2, by omega, by omega⟩
theorem trc {f : Int64} {x0 h : Nat} (hk : low f x0) (hl : LNs f x0) (hL : LEN f x0 (2 * h)) (ha : aslL f = 0) (xl : Int32) (le : Nat → Int32) : ∃ le', ol_trace f xl le = some (1, nI (2 * h), le') ∧ ∀ i, i < 4 * h → le' i = nI (wL f x0 i) := by
  obtain ⟨le', a, b⟩ := trace_eq hl hL hk ha xl le
  exact ⟨le', a, fun i hi => b i (by omega)⟩
theorem opc_line (v w : Int32) {g h : Nat → Int64} (hd : DR g h) (xl : Int32) (le : Nat → Int32) (y s : Int32) (fl go ml lx ly : Nat → Int32) : ∃ r xl' le' y' s' fl' go' ml' lx' ly', cf_line v w g xl le = some (r, xl', le') ∧ mo_line v w y s h fl go ml lx ly = some (r, y', s', fl', go', ml', lx', ly') := by
  cases hv : inr v 0 7 with
  | false =>
    simp only [cf_line, mo_line, cf_isDrawer_eq, mo_isDrawer_eq, hv, bd1_some, bf0, if_true]
    exact ⟨-1, _, _, _, _, _, _, _, _, _, rfl, rfl⟩
  | true =>
    obtain ⟨j, hj, rfl⟩ := inr_dr hv
    have ej := (hd j hj).1
    simp only [cf_line, mo_line, cf_isDrawer_eq, mo_isDrawer_eq, hv, bd1_some, bt0, if_false, ck_n hj (show 8 < 2 ^ 31 by omega), cl_n (show j < 2 ^ 31 by omega), ej]
    by_cases qw : 0 ≤ w
    · obtain ⟨t, ht, rfl⟩ := nI_of (i32_nlt.mpr qw)
      rw [if_pos qw, if_pos qw]
      by_cases h0 : h j = 0
      · rw [if_pos h0, if_pos h0]; exact ⟨-2, _, _, _, _, _, _, _, _, _, rfl, rfl⟩
      · rw [if_neg h0, if_neg h0]
        have hf := DRf hd hj h0
        by_cases hn : hlw (h j) = 0 ∧ aslL (h j) = 0
        · obtain ⟨x0, H, k1, k2, k3, k4⟩ := line_set hf hn
          obtain ⟨le', r1, r2⟩ := trc k1 k2 k3 hn.2 xl le
          obtain ⟨y', fl', go', ml', lx', ly', s1, s2⟩ := hasLine_eq k2 k3 k1 hn.2 y s fl go ml lx ly
          have h13 := k4.2.2.2
          rw [r1, bd3_some, s1, bd8_some, if_neg (by decide), if_neg (by decide), ol_length, bd1_some]
          by_cases q : 2 * H ≤ t
          · rw [if_pos (nI_le q ht), if_pos (nI_le q ht)]
            exact ⟨-4, _, _, _, _, _, _, _, _, _, rfl, rfl⟩
          · have i1 : inr (nI t) 0 51 = true := by
              unfold inr
              rw [Bool.and_eq_true, decide_eq_true_eq, decide_eq_true_eq]
              exact ⟨nI_pos' (by omega), nI_le (a := t) (b := 51) (by omega) (by omega)⟩
            rw [if_neg (nI_ge (by omega) (by omega)), if_neg (nI_ge (by omega) (by omega)), ol_letter, cf_within_eq, bd1_some, i1, if_neg (by decide), ck_n (show t < 52 by omega) (by omega), bd1_some, ck_n (show t < 60 by omega) (by omega), cl_n (by omega), r2 t (by omega), s2 t (by omega)]
            exact ⟨_, _, _, _, _, _, _, _, _, _, rfl, rfl⟩
        · obtain ⟨y', fl', go', s1⟩ := hasLine_no hf hn y s fl go ml lx ly
          rw [trace_no hn, bd3_some, s1, bd8_some, if_pos rfl, if_pos rfl]
          exact ⟨-3, _, _, _, _, _, _, _, _, _, rfl, rfl⟩
    · rw [if_neg qw, if_neg qw]
      exact ⟨-1, _, _, _, _, _, _, _, _, _, rfl, rfl⟩
theorem CI_f {W : Nat → Nat} {h Q : Nat} (hn : ¬ fb_ct (ctB W h) Q = 0) : ∃ s a b, ctP W h s a b ∧ ∀ cu ba pl la lb lc, CI W h Q cu ba pl la lb lc → pl = nI s ∧ la = nI a ∧ lb = nI b ∧ lc = nI (h - a - b) := by
  obtain ⟨q, q1, q2⟩ := fb_ct_pos.mp (show 0 < fb_ct (ctB W h) Q by omega)
  obtain ⟨q0, a1, a2, a3⟩ := fb_first (p := fun q => ctB W h q = true) ⟨q, q1, q2⟩
  have a3' : ∀ q', q' < q0 → ctB W h q' = false := fun q' h' => by
    cases z : ctB W h q' with
    | false => rfl
    | true => exact absurd z (a3 q' h')
  exact ⟨q0 / 196, q0 / 14 % 14, q0 % 14, ctB_t.mp a2, fun cu ba pl la lb lc hc => hc.2.2 q0 a1 a2 a3'⟩
/-- whether a figure tiles -/
noncomputable def nCt (f : Int64) (x0 h : Nat) : Nat := fb_ct (ctB (wL f x0) h) (196 * h + 15)
theorem nCt_b {f : Int64} {x0 h : Nat} (h13 : h ≤ 13) : nCt f x0 h ≤ 2563 := by
  have := fb_ct_le (ctB (wL f x0) h) (196 * h + 15)
  unfold nCt
  omega
theorem tiles_cut {W : Nat → Nat} {h : Nat} (h13 : h ≤ 13) {cu ba pl la lb lc cu2 ba2 pl2 la2 lb2 lc2 : Int32} (c1 : CI W h (196 * h + 15) cu ba pl la lb lc) (c2 : CI W h (196 * h + 15) cu2 ba2 pl2 la2 lb2 lc2) : cu2 = cu ∧ ba2 = ba ∧ (¬ cu = 0 → ∃ s a b, ctP W h s a b ∧ (pl = nI s ∧ la = nI a ∧ lb = nI b ∧ lc = nI (h - a - b)) ∧ (pl2 = nI s ∧ la2 = nI a ∧ lb2 = nI b ∧ lc2 = nI (h - a - b))) := by
  refine ⟨by rw [c1.1, c2.1], by rw [c1.2.1, c2.2.1], fun hn => ?_⟩
  have hz : ¬ fb_ct (ctB W h) (196 * h + 15) = 0 := fun e => hn (by rw [c1.1, e]; rfl)
  obtain ⟨s, a, b, p1, p2⟩ := CI_f hz
  exact ⟨s, a, b, p1, p2 _ _ _ _ _ _ c1, p2 _ _ _ _ _ _ c2⟩
theorem opc_tiles (v w : Int32) {g h : Nat → Int64} (hd : DR g h) (xl x1 x2 x3 x4 x5 x6 : Int32) (le : Nat → Int32) (y s z1 z2 z3 z4 z5 : Int32) (fl go ml lx ly : Nat → Int32) : ∃ r xl' x1' x2' x3' x4' x5' x6' le' y' s' z1' z2' z3' z4' z5' fl' go' ml' lx' ly', cf_tiles v w g xl x1 x2 x3 x4 x5 x6 le = some (r, xl', x1', x2', x3', x4', x5', x6', le') ∧ mo_tiles v w y s z1 z2 z3 z4 z5 h fl go ml lx ly = some (r, y', s', z1', z2', z3', z4', z5', fl', go', ml', lx', ly') := by
  cases hv : inr v 0 7 with
  | false =>
    simp only [cf_tiles, mo_tiles, cf_isDrawer_eq, mo_isDrawer_eq, hv, bd1_some, bf0, if_true]
    exact ⟨-1, _, _, _, _, _, _, _, _, _, _, _, _, _, _, _, _, _, _, _, _, rfl, rfl⟩
  | true =>
    cases hw : inr w 0 5 with
    | false =>
      simp only [cf_tiles, mo_tiles, cf_isDrawer_eq, mo_isDrawer_eq, cf_within_eq, mo_in_eq, hv, hw, bd1_some, bf0, bt0, if_true, if_false]
      exact ⟨-1, _, _, _, _, _, _, _, _, _, _, _, _, _, _, _, _, _, _, _, _, rfl, rfl⟩
    | true =>
      obtain ⟨j, hj, rfl⟩ := inr_dr hv
      obtain ⟨t, ht, rfl⟩ := inr_nI (n := 5) (by omega) hw
      have ej := (hd j hj).1
      simp only [cf_tiles, mo_tiles, cf_isDrawer_eq, mo_isDrawer_eq, cf_within_eq, mo_in_eq, hv, hw, bd1_some, bt0, if_false, ck_n hj (show 8 < 2 ^ 31 by omega), cl_n (show j < 2 ^ 31 by omega), ej]
      by_cases h0 : h j = 0
      · rw [if_pos h0, if_pos h0]; exact ⟨-2, _, _, _, _, _, _, _, _, _, _, _, _, _, _, _, _, _, _, _, _, rfl, rfl⟩
      · rw [if_neg h0, if_neg h0]
        have hf := DRf hd hj h0
        by_cases hn : hlw (h j) = 0 ∧ aslL (h j) = 0
        · obtain ⟨x0, H, k1, k2, k3, k4⟩ := line_set hf hn
          obtain ⟨le', r1, r2⟩ := trc k1 k2 k3 hn.2 xl le
          obtain ⟨y', fl', go', ml', lx', ly', s1, s2⟩ := hasLine_eq k2 k3 k1 hn.2 y s fl go ml lx ly
          have h13 := k4.2.2.2
          obtain ⟨cu, ba, pl, la, lb, lc, d1, d2⟩ := cut_eq k4 r2 x1 x2 x3 x4 x5 x6
          obtain ⟨cu2, ba2, pl2, la2, lb2, lc2, e1, e2⟩ := lays_eq k4 s2 z1 z2 z3 z4 z5
          obtain ⟨f1, f2, f3⟩ := tiles_cut h13 d2 e2
          rw [r1, bd3_some, s1, bd8_some, if_neg (by decide), if_neg (by decide), d1, bd6_some, e1, bd5_some, ol_cuttings, bd1_some, cf_tiles_J78, f1, f2]
          rcases (show t = 0 ∨ t = 1 ∨ 2 ≤ t by omega) with rfl | rfl | t2
          · rw [if_pos (show nI 0 ≤ 1 by decide), if_neg (show ¬ (2 : Int32) ≤ nI 0 by decide), if_pos (show nI 0 = 0 by decide), ol_cutting, if_pos (show nI 0 = 0 by decide), bd1_some]
            exact ⟨_, _, _, _, _, _, _, _, _, _, _, _, _, _, _, _, _, _, _, _, _, rfl, rfl⟩
          · rw [if_pos (show nI 1 ≤ 1 by decide), if_neg (show ¬ (2 : Int32) ≤ nI 1 by decide), if_neg (show ¬ nI 1 = 0 by decide), ol_cutting, if_neg (show ¬ nI 1 = 0 by decide), if_pos (show nI 1 = 1 by decide), bd1_some]
            exact ⟨_, _, _, _, _, _, _, _, _, _, _, _, _, _, _, _, _, _, _, _, _, rfl, rfl⟩
          · rw [if_neg (show ¬ nI t ≤ (1 : Int32) from nI_ge (a := 1) (b := t) (by omega) (by omega)), if_pos (show (2 : Int32) ≤ nI t from nI_le (a := 2) (b := t) t2 (by omega))]
            by_cases c0 : cu = 0
            · rw [if_pos c0, if_pos c0]
              exact ⟨-4, _, _, _, _, _, _, _, _, _, _, _, _, _, _, _, _, _, _, _, _, rfl, rfl⟩
            · obtain ⟨S, a, b, p1, ⟨p2, p3, p4, p5⟩, p6, p7, p8, p9⟩ := f3 c0
              have ab := p1.2.2.2.1
              rw [if_neg c0, if_neg c0, p2, p3, p4, p5, p6, p7, p8, hlf_n h13, pk_sub (show a ≤ H by omega), pk_sub (show b ≤ H - a by omega), dzI_n (by decide)]
              rcases (show t = 2 ∨ t = 3 ∨ t = 4 ∨ t = 5 by omega) with rfl | rfl | rfl | rfl
              · rw [if_pos (show nI 2 = 2 by decide), ol_cutting, if_neg (show ¬ nI 2 = 0 by decide), if_neg (show ¬ nI 2 = 1 by decide), if_pos (show nI 2 = 2 by decide), bd1_some]
                exact ⟨_, _, _, _, _, _, _, _, _, _, _, _, _, _, _, _, _, _, _, _, _, rfl, rfl⟩
              · rw [if_neg (show ¬ nI 3 = 2 by decide), if_pos (show nI 3 = 3 by decide), ol_cutting, if_neg (show ¬ nI 3 = 0 by decide), if_neg (show ¬ nI 3 = 1 by decide), if_neg (show ¬ nI 3 = 2 by decide), if_pos (show nI 3 = 3 by decide), bd1_some]
                exact ⟨_, _, _, _, _, _, _, _, _, _, _, _, _, _, _, _, _, _, _, _, _, rfl, rfl⟩
              · rw [if_neg (show ¬ nI 4 = 2 by decide), if_neg (show ¬ nI 4 = 3 by decide), if_pos (show nI 4 = 4 by decide), ol_cutting, if_neg (show ¬ nI 4 = 0 by decide), if_neg (show ¬ nI 4 = 1 by decide), if_neg (show ¬ nI 4 = 2 by decide), if_neg (show ¬ nI 4 = 3 by decide), if_pos (show nI 4 = 4 by decide), bd1_some]
                exact ⟨_, _, _, _, _, _, _, _, _, _, _, _, _, _, _, _, _, _, _, _, _, rfl, rfl⟩
              · rw [if_neg (show ¬ nI 5 = 2 by decide), if_neg (show ¬ nI 5 = 3 by decide), if_neg (show ¬ nI 5 = 4 by decide), ol_cutting, if_neg (show ¬ nI 5 = 0 by decide), if_neg (show ¬ nI 5 = 1 by decide), if_neg (show ¬ nI 5 = 2 by decide), if_neg (show ¬ nI 5 = 3 by decide), if_neg (show ¬ nI 5 = 4 by decide), bd1_some]
                exact ⟨_, _, _, _, _, _, _, _, _, _, _, _, _, _, _, _, _, _, _, _, _, rfl, rfl⟩
        · obtain ⟨y', fl', go', s1⟩ := hasLine_no hf hn y s fl go ml lx ly
          rw [trace_no hn, bd3_some, s1, bd8_some, if_pos rfl, if_pos rfl]
          exact ⟨-3, _, _, _, _, _, _, _, _, _, _, _, _, _, _, _, _, _, _, _, _, rfl, rfl⟩
