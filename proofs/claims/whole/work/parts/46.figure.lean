/-! LAYER 2: figure -/
theorem bd3_some {α β γ δ : Type} (a : α) (b : β) (c : γ) (k : α → β → γ → Option δ) : bd3 (some (a, b, c)) k = k a b c := rfl
theorem bd4_some {α β γ δ ε : Type} (a : α) (b : β) (c : γ) (d : δ) (k : α → β → γ → δ → Option ε) : bd4 (some (a, b, c, d)) k = k a b c d := rfl
theorem bd5_some {α β γ δ ε ζ : Type} (a : α) (b : β) (c : γ) (d : δ) (e : ε) (k : α → β → γ → δ → ε → Option ζ) : bd5 (some (a, b, c, d, e)) k = k a b c d e := rfl
theorem ft_ne {z : Int32} {i : Nat} (hz : z = -1000 ∨ z = -2000 ∨ z = -3000 ∨ z = -4000 ∨ z = -5000) (hi : i ≤ 60) : z - nI i ≠ 0 := fun e => by
  have h1 : z.toInt ≤ -1000 ∧ -5000 ≤ z.toInt := by
    rcases hz with rfl | rfl | rfl | rfl | rfl <;> decide
  have := congrArg Int32.toInt e
  have h2 := nI_toInt (n := i) (by omega)
  rw [fb_subI (by omega) (by omega), show (0 : Int32).toInt = 0 from rfl] at this
  omega
theorem f1 : (-1000 * 1 : Int32) = -1000 := by decide
theorem f2 : (-1000 * 2 : Int32) = -2000 := by decide
theorem f3 : (-1000 * 3 : Int32) = -3000 := by decide
theorem f4 : (-1000 * 4 : Int32) = -4000 := by decide
theorem z1 : ¬ (1 : Int32) = 0 := by decide
theorem z2 : ¬ (2 : Int32) = 0 := by decide
theorem z3 : ¬ (3 : Int32) = 0 := by decide
theorem z4 : ¬ (4 : Int32) = 0 := by decide
theorem or_cnt {b : Int64} {k : Nat} (hk : k < 64) (h : bt b k = false) : cnt (b ||| sl 1 (nI k)) = cnt b + 1 := by
  have e : cnt (b ||| sl 1 (nI k)) = fb_ct (fun i => if i = k then true else bt b i) 64 := fb_ct_cong (fun i hi => by
    rw [bt_or]
    by_cases q : i = k
    · rw [if_pos q, (bt_one hk).mpr q, Bool.or_true]
    · rw [if_neg q, bf_of (fun h => q ((bt_one hk).mp h)), Bool.or_false])
  have := fb_ct_upd (bt b) true (i := k) (n := 64) hk
  rw [h, if_neg (by decide), Nat.add_zero, if_pos rfl] at this
  rw [e, this]; rfl
theorem read_go {j N : Nat} (hj : j < 8) (hN : N ≤ 60) {t1 t2 : Nat → Int32} (ht : ∀ i, i < N → t1 i = t2 i) (h : Nat → Int64) : ∀ (n i : Nat) (b : Int64) (c l m : Nat), i ≤ N → N - i < n → c ≤ 7 → l ≤ 6 → m ≤ 12 → cnt b = m → (∀ q, bt b q = true → q % 8 < 7 ∧ q < 8 * l + c) → ∃ r B C L M, fl5 (rd_read_B22 (nI N) t1) n (nI i) b (nI c) (nI l) (nI m) = some (r, B, C, L, M) ∧ ((r ≠ 0 ∧ fl5 (mo_figure_B46 (nI j) (nI N) 0 h t2) n b (nI c) (nI l) (nI m) (nI i) = some (r, 0, h)) ∨ (r = 0 ∧ ∃ R, gr_settled B = some R ∧ FIG R ∧ fl5 (mo_figure_B46 (nI j) (nI N) 0 h t2) n b (nI c) (nI l) (nI m) (nI i) = some (nI (cnt R), 0, vp_updL h j R))) := by
  intro n
  induction n with
  | zero => intro i b c l m _ h; omega
  | succ n ih =>
    intro i b c l m hi hn hc hl hm hcm hb
    show ∃ r B C L M, rd_read_B22 (nI N) t1 (fl5 (rd_read_B22 (nI N) t1) n) (nI i) b (nI c) (nI l) (nI m) = some (r, B, C, L, M) ∧ ((r ≠ 0 ∧ mo_figure_B46 (nI j) (nI N) 0 h t2 (fl5 (mo_figure_B46 (nI j) (nI N) 0 h t2) n) b (nI c) (nI l) (nI m) (nI i) = some (r, 0, h)) ∨ (r = 0 ∧ ∃ R, gr_settled B = some R ∧ FIG R ∧ mo_figure_B46 (nI j) (nI N) 0 h t2 (fl5 (mo_figure_B46 (nI j) (nI N) 0 h t2) n) b (nI c) (nI l) (nI m) (nI i) = some (nI (cnt R), 0, vp_updL h j R)))
    rw [rd_read_B22, mo_figure_B46]
    have h77 : F77 b := fun q hq => by have := hb q hq; omega
    rcases Nat.eq_or_lt_of_le hi with q | q
    · subst q
      rw [if_pos (nI_le (Nat.le_refl _) (by omega)), if_pos (nI_le (Nat.le_refl _) (by omega))]
      unfold rd_read_J62
      rw [gr_hangs_b h77.c7, mo_hangs_b, bd1_some, bd1_some]
      cases hcon : conB b with
      | false =>
        rw [if_pos (by decide), if_pos (by decide)]
        exact ⟨_, _, _, _, _, rfl, Or.inl ⟨ft_ne (z := -5000) (Or.inr (Or.inr (Or.inr (Or.inr rfl)))) hN, rfl⟩⟩
      | true =>
        rw [if_neg (by decide), if_neg (by decide)]
        have hC := conB_t.mp hcon
        obtain ⟨k0, hk0⟩ := low_ex hC.1
        obtain ⟨c0, hc0⟩ := colp_ex hC.1
        have hF := FIG_STL (b := b) ⟨k0, c0, hk0, hc0, rfl⟩ hC (by omega) (fun x y hx _ => by have := h77 x hx; omega) (fun x y hx _ => by have := h77 x hx; omega)
        refine ⟨_, _, _, _, _, rfl, Or.inr ⟨rfl, _, gr_settled_eq hk0 hc0, hF.1, ?_⟩⟩
        rw [mo_moved_eq hk0 hc0, bd1_some, ck_n hj (by omega), nm_eq, cl_n (by omega), hF.2, hcm]
    · rw [if_neg (nI_ge q (by omega)), if_neg (nI_ge q (by omega)), if_neg (show ¬ (120 : Int32) ≤ nI i from nI_ge (a := i) (b := 120) (by omega) (by omega)), ck_n (show i < 120 by omega) (by omega), ck_n (show i < 120 by omega) (by omega), cl_n (by omega), nm_eq, ht i q]
      generalize t2 i = s
      have nxt : ∀ (b' : Int64) (c' l' m' : Nat), c' ≤ 7 → l' ≤ 6 → m' ≤ 12 → cnt b' = m' → (∀ q, bt b' q = true → q % 8 < 7 ∧ q < 8 * l' + c') → _ := fun b' c' l' m' a1 a2 a3 a4 a5 => ih (i + 1) b' c' l' m' (by omega) (by omega) a1 a2 a3 a4 a5
      unfold rd_accept
      by_cases s32 : s = 32
      · subst s32
        simp only [show ¬ (32 : Int32) = 35 by decide, show ¬ (32 : Int32) = 46 by decide, show ¬ (32 : Int32) = 47 by decide, if_true, if_false, mo_figure_J96, mo_figure_J196, nm_eq, o1, bd3_some, bd5_some, eq_self, f1, f2, f3, f4, z1, z2, z3, z4]
        exact nxt b c l m hc hl hm hcm hb
      · by_cases s47 : s = 47
        · subst s47
          simp only [show ¬ (47 : Int32) = 35 by decide, show ¬ (47 : Int32) = 46 by decide, show ¬ (47 : Int32) = 32 by decide, if_true, if_false, mo_figure_J96, mo_figure_J196, nm_eq, o1, rd_endRow, bd3_some, bd5_some, eq_self, f1, f2, f3, f4, z1, z2, z3, z4]
          by_cases l6 : l = 6
          · subst l6
            simp only [show ¬ nI 6 < (6 : Int32) by decide, show nI 6 = 6 from rfl, if_true, if_false, bd3_some, bd5_some, eq_self, f1, f2, f3, f4, z1, z2, z3, z4]
            exact ⟨_, _, _, _, _, rfl, Or.inl ⟨ft_ne (z := -3000) (Or.inr (Or.inr (Or.inl rfl))) (by omega), rfl⟩⟩
          · simp only [show nI l < (6 : Int32) from nI_lt (a := l) (b := 6) (by omega) (by omega), show ¬ nI l = 6 from fun e => l6 ((nI_eq (by omega) (by omega)).mp (show nI l = nI 6 from e)), if_true, if_false, nI_1, bd3_some, bd5_some, eq_self, f1, f2, f3, f4, z1, z2, z3, z4]
            have := nxt b 0 (l + 1) m (by omega) (by omega) hm hcm (fun q hq => by have := hb q hq; omega)
            rw [nI_0] at this
            exact this
        · by_cases s35 : s = 35
          · subst s35
            simp only [show ¬ (35 : Int32) = 32 by decide, show ¬ (35 : Int32) = 47 by decide, if_true, if_false, mo_figure_J96, mo_figure_J190, mo_figure_J196, nm_eq, o1, rd_accept_J33, rd_accept_J94, bd3_some, bd5_some, eq_self, f1, f2, f3, f4, z1, z2, z3, z4]
            by_cases c7 : c = 7
            · subst c7
              simp only [show ¬ nI 7 < (7 : Int32) by decide, show nI 7 = 7 from rfl, if_true, if_false, bd3_some, bd5_some, eq_self, f1, f2, f3, f4, z1, z2, z3, z4]
              exact ⟨_, _, _, _, _, rfl, Or.inl ⟨ft_ne (z := -2000) (Or.inr (Or.inl rfl)) (by omega), rfl⟩⟩
            · simp only [show nI c < (7 : Int32) from nI_lt (a := c) (b := 7) (by omega) (by omega), show ¬ nI c = 7 from fun e => c7 ((nI_eq (by omega) (by omega)).mp (show nI c = nI 7 from e)), if_true, if_false, bd3_some, bd5_some, eq_self, f1, f2, f3, f4, z1, z2, z3, z4]
              by_cases m12 : m = 12
              · simp only [m12, show ¬ nI 12 < (12 : Int32) by decide, show nI 12 = 12 from rfl, if_true, if_false, bd3_some, bd5_some, eq_self, f1, f2, f3, f4, z1, z2, z3, z4]
                exact ⟨_, _, _, _, _, rfl, Or.inl ⟨ft_ne (z := -4000) (Or.inr (Or.inr (Or.inr (Or.inl rfl)))) (by omega), rfl⟩⟩
              · simp only [show nI m < (12 : Int32) from nI_lt (a := m) (b := 12) (by omega) (by omega), show ¬ nI m = 12 from fun e => m12 ((nI_eq (by omega) (by omega)).mp (show nI m = nI 12 from e)), if_true, if_false, mo_cellBit, bd1_some, ix_eq, nI_1, bd3_some, bd5_some, eq_self, f1, f2, f3, f4, z1, z2, z3, z4]
                refine nxt _ (c + 1) l (m + 1) (by omega) hl (by omega) ?_ (fun q hq => ?_)
                · rw [or_cnt (by omega) (bf_of (fun h => by have := hb _ h; omega)), hcm]
                · rw [bt_or, Bool.or_eq_true, bt_one (by omega)] at hq
                  rcases hq with hq | hq
                  · have := hb q hq; omega
                  · omega
          · by_cases s46 : s = 46
            · subst s46
              simp only [show ¬ (46 : Int32) = 32 by decide, show ¬ (46 : Int32) = 47 by decide, show ¬ (46 : Int32) = 35 by decide, if_true, if_false, mo_figure_J96, mo_figure_J190, mo_figure_J196, nm_eq, o1, rd_accept_J33, rd_accept_J94, bd3_some, bd5_some, eq_self, f1, f2, f3, f4, z1, z2, z3, z4]
              by_cases c7 : c = 7
              · subst c7
                simp only [show ¬ nI 7 < (7 : Int32) by decide, show nI 7 = 7 from rfl, if_true, if_false, bd3_some, bd5_some, eq_self, f1, f2, f3, f4, z1, z2, z3, z4]
                exact ⟨_, _, _, _, _, rfl, Or.inl ⟨ft_ne (z := -2000) (Or.inr (Or.inl rfl)) (by omega), rfl⟩⟩
              · simp only [show nI c < (7 : Int32) from nI_lt (a := c) (b := 7) (by omega) (by omega), show ¬ nI c = 7 from fun e => c7 ((nI_eq (by omega) (by omega)).mp (show nI c = nI 7 from e)), if_true, if_false, nI_1, bd3_some, bd5_some, eq_self, f1, f2, f3, f4, z1, z2, z3, z4]
                exact nxt b (c + 1) l m (by omega) hl hm hcm (fun q hq => by have := hb q hq; omega)
            · simp only [s32, s47, s35, s46, if_true, if_false, bd3_some, bd5_some, eq_self, f1, f2, f3, f4, z1, z2, z3, z4]
              exact ⟨_, _, _, _, _, rfl, Or.inl ⟨ft_ne (z := -1000) (Or.inl rfl) (by omega), rfl⟩⟩
theorem opc_figure (v w : Int32) {g h : Nat → Int64} (hd : DR g h) {fed tp : Int32} {t1 t2 : Nat → Int32} (ht : TP fed tp t1 t2) (bd : Int64) (cl ln rc : Int32) : ∃ r fed' g' bd' cl' ln' rc' tp' h', cf_figure v w fed t1 g bd cl ln rc = some (r, fed', g', bd', cl', ln', rc') ∧ mo_figure v w tp h t2 = some (r, tp', h') ∧ TP fed' tp' t1 t2 ∧ DR g' h' := by
  cases hv : inr v 0 7 with
  | false =>
    simp only [cf_figure, mo_figure, cf_isDrawer_eq, mo_isDrawer_eq, hv, bd1_some, bf0, if_true]
    exact ⟨_, _, _, _, _, _, _, _, _, rfl, rfl, ht, hd⟩
  | true =>
    cases hw : inr w 1 60 with
    | false =>
      simp only [cf_figure, mo_figure, cf_isDrawer_eq, mo_isDrawer_eq, cf_within_eq, mo_in_eq, hv, hw, bd1_some, bf0, bt0, if_true, if_false]
      exact ⟨_, _, _, _, _, _, _, _, _, rfl, rfl, ht, hd⟩
    | true =>
      obtain ⟨j, hj, rfl⟩ := inr_dr hv
      obtain ⟨N, hN1, hN, rfl⟩ := inr_lo (m := 1) (n := 60) (by omega) (by omega) hw
      obtain ⟨F, hF, rfl, rfl, he⟩ := ht
      simp only [cf_figure, mo_figure, cf_isDrawer_eq, mo_isDrawer_eq, cf_within_eq, mo_in_eq, hv, hw, bd1_some, bt0, if_false]
      by_cases q : N ≤ 20 * F
      · rw [if_pos (nI_le q (by omega)), if_pos (nI_le q (by omega))]
        obtain ⟨r, B, C, L, M, a1, a2⟩ := read_go hj hN (t1 := t1) (t2 := t2) (fun i hi => he i (by omega)) h FU 0 0 0 0 0 (by omega) (FU_lt (by omega)) (by omega) (by omega) (by omega) cnt_zero (fun q hq => by rw [bt_zero] at hq; cases hq)
        unfold rd_read
        rw [nI_0] at a1 a2
        rw [a1]
        have hT : TP 0 0 t1 t2 := ⟨0, by omega, nI_0.symm, nI_0.symm, fun i hi => by omega⟩
        rcases a2 with ⟨b1, b2⟩ | ⟨b1, R, b2, b3, b4⟩
        · show ∃ r' fed' g' bd' cl' ln' rc' tp' h', (if r = 0 then _ else some (r, 0, g, B, C, L, M)) = some (r', fed', g', bd', cl', ln', rc') ∧ _
          rw [if_neg b1, b2]
          exact ⟨_, _, _, _, _, _, _, _, _, rfl, rfl, hT, hd⟩
        · subst b1
          rw [bd5_some, if_pos rfl, b4]
          unfold rd_board
          rw [bd1_some, store_eq hj g b2, figB_t.mpr b3]
          exact ⟨_, _, _, _, _, _, _, _, _, rfl, rfl, hT, DR_set hd (Or.inr b3)⟩
      · rw [if_neg (nI_ge (by omega) (by omega)), if_neg (nI_ge (by omega) (by omega))]
        exact ⟨_, _, _, _, _, _, _, _, _, rfl, rfl, ⟨F, hF, rfl, rfl, he⟩, hd⟩
