/-! LAYER 2: moved to 0, 0; figures -/
theorem ctz {f : Int64} {k : Nat} (hk : low f k) : jl_bitCount ((f &&& -f) - 1) = some (nI k) := by
  rw [jl_bitCount_eq]
  congr 2
  have hl := lowest_bits hk
  have hy : low (f &&& -f) k := ⟨hk.1, (hl k).mpr rfl, fun i hi => by
    cases hb : bt (f &&& -f) i with
    | false => rfl
    | true => have := (hl i).mp hb; omega⟩
  have e : cnt ((f &&& -f) - 1) = fb_ct (fun i => decide (i < k)) 64 := fb_ct_cong (fun i hi => by
    rw [low_sub hy hi]
    by_cases h1 : i < k
    · rw [if_pos h1]; simp [h1]
    · rw [if_neg h1]
      by_cases h2 : i = k
      · rw [if_pos h2]; simp [h1]
      · rw [if_neg h2]
        cases hb : bt (f &&& -f) i with
        | false => simp [h1]
        | true => exact absurd ((hl i).mp hb) h2)
  rw [e]
  have h1 : ∀ n, k ≤ n → fb_ct (fun i => decide (i < k)) n = k := by
    intro n hn
    induction n with
    | zero => simp [fb_ct]; omega
    | succ n ih =>
      rw [fb_ct_succ]
      by_cases q : n < k
      · have : k = n + 1 := by omega
        have h2 : fb_ct (fun i => decide (i < k)) n = n := fb_ct_all.mpr (fun i hi => decide_eq_true (by omega))
        rw [h2, if_pos (decide_eq_true q)]; omega
      · rw [ih (by omega), if_neg (by simp; omega)]; rfl
  exact h1 64 (by have := hk.1; omega)
theorem gr_lowest_eq {f : Int64} {k : Nat} (hk : low f k) : gr_lowest f = some (nI k) := by
  unfold gr_lowest; rw [ctz hk, bd1_some]
theorem su_su (x : Int64) {a b : Nat} (h : a + b < 64) : su (su x (nI a)) (nI b) = su x (nI (a + b)) := by
  apply bt_ext
  intro i _
  rw [bt_su _ (by omega), bt_su _ (by omega), bt_su _ h]
  congr 1; omega
theorem su_0 (x : Int64) : su x (nI 0) = x := by
  apply bt_ext
  intro i _
  rw [bt_su _ (by omega), Nat.zero_add]
def colp (f : Int64) (c : Nat) : Prop := c < 8 ∧ (∃ y, bt f (8 * y + c) = true) ∧ ∀ c', c' < c → ∀ y, bt f (8 * y + c') = false
theorem colp_ex {f : Int64} (h : f ≠ 0) : ∃ c, colp f c := by
  obtain ⟨k, hk⟩ := low_ex h
  obtain ⟨c, ⟨h1, y, h2⟩, h3⟩ := pk_least (fun c => c < 8 ∧ ∃ y, bt f (8 * y + c) = true) ⟨k % 8, by omega, k / 8, by rw [show 8 * (k / 8) + k % 8 = k by omega]; exact hk.2.1⟩
  refine ⟨c, h1, ⟨y, h2⟩, fun c' hc y' => ?_⟩
  cases hb : bt f (8 * y' + c') with
  | false => rfl
  | true => exact absurd ⟨by omega, y', hb⟩ (h3 c' hc)
def gcol (b : Int64) : Int64 := (((b ||| su b 32) ||| su (b ||| su b 32) 16) ||| su ((b ||| su b 32) ||| su (b ||| su b 32) 16) 8) &&& 255
theorem gr_columns_eq (b : Int64) : gr_columns b = some (gcol b) := rfl
theorem bt_gcol (b : Int64) {j : Nat} : bt (gcol b) j = true ↔ j < 8 ∧ ∃ y, bt b (8 * y + j) = true := by
  have key : ∀ j, j < 8 → (bt (gcol b) j = true ↔ ∃ y, bt b (8 * y + j) = true) := by
    intro j hj
    unfold gcol
    have s32 : ∀ x i, bt (su x 32) i = bt x (32 + i) := fun x i => bt_su x (n := 32) (by omega) i
    have s16 : ∀ x i, bt (su x 16) i = bt x (16 + i) := fun x i => bt_su x (n := 16) (by omega) i
    have s8 : ∀ x i, bt (su x 8) i = bt x (8 + i) := fun x i => bt_su x (n := 8) (by omega) i
    simp only [bt_and, bt_or, s32, s16, s8, k_255 (show j < 64 by omega)]
    simp only [Bool.and_eq_true, Bool.or_eq_true, decide_eq_true_eq]
    constructor
    · rintro ⟨((h | h) | (h | h)) | ((h | h) | (h | h)), _⟩
      · exact ⟨0, by rw [show 8 * 0 + j = j by omega]; exact h⟩
      · exact ⟨4, by rw [show 8 * 4 + j = 32 + j by omega]; exact h⟩
      · exact ⟨2, by rw [show 8 * 2 + j = 16 + j by omega]; exact h⟩
      · exact ⟨6, by rw [show 8 * 6 + j = 32 + (16 + j) by omega]; exact h⟩
      · exact ⟨1, by rw [show 8 * 1 + j = 8 + j by omega]; exact h⟩
      · exact ⟨5, by rw [show 8 * 5 + j = 32 + (8 + j) by omega]; exact h⟩
      · exact ⟨3, by rw [show 8 * 3 + j = 16 + (8 + j) by omega]; exact h⟩
      · exact ⟨7, by rw [show 8 * 7 + j = 32 + (16 + (8 + j)) by omega]; exact h⟩
    · rintro ⟨y, h⟩
      refine ⟨?_, hj⟩
      have hy := bt_lt h
      rcases (show y = 0 ∨ y = 1 ∨ y = 2 ∨ y = 3 ∨ y = 4 ∨ y = 5 ∨ y = 6 ∨ y = 7 by omega) with rfl | rfl | rfl | rfl | rfl | rfl | rfl | rfl
      · exact Or.inl (Or.inl (Or.inl (by rw [show j = 8 * 0 + j by omega]; exact h)))
      · exact Or.inr (Or.inl (Or.inl (by rw [show 8 + j = 8 * 1 + j by omega]; exact h)))
      · exact Or.inl (Or.inr (Or.inl (by rw [show 16 + j = 8 * 2 + j by omega]; exact h)))
      · exact Or.inr (Or.inr (Or.inl (by rw [show 16 + (8 + j) = 8 * 3 + j by omega]; exact h)))
      · exact Or.inl (Or.inl (Or.inr (by rw [show 32 + j = 8 * 4 + j by omega]; exact h)))
      · exact Or.inr (Or.inl (Or.inr (by rw [show 32 + (8 + j) = 8 * 5 + j by omega]; exact h)))
      · exact Or.inl (Or.inr (Or.inr (by rw [show 32 + (16 + j) = 8 * 6 + j by omega]; exact h)))
      · exact Or.inr (Or.inr (Or.inr (by rw [show 32 + (16 + (8 + j)) = 8 * 7 + j by omega]; exact h)))
  constructor
  · intro h
    have h8 : j < 8 := by
      have h64 := bt_lt h
      unfold gcol at h
      rw [bt_and, Bool.and_eq_true, k_255 h64] at h
      exact of_decide_eq_true h.2
    exact ⟨h8, (key j h8).mp h⟩
  · rintro ⟨h1, h2⟩
    exact (key j h1).mpr h2
theorem low_row {f : Int64} {k : Nat} (hk : low f k) {i : Nat} (h : bt f i = true) : k ≤ i := by
  rcases Nat.lt_or_ge i k with q | q
  · rw [hk.2.2 i q] at h; cases h
  · exact q
theorem and56 : ∀ k : Fin 64, nI k.val &&& 56 = nI (8 * (k.val / 8)) := by decide +kernel
theorem gr_settled_eq {f : Int64} {k c : Nat} (hk : low f k) (hc : colp f c) : gr_settled f = some (su f (nI (8 * (k / 8) + c))) := by
  have h0 : f ≠ 0 := fun e => by have := hk.2.1; rw [e, bt_zero] at this; cases this
  have hk64 := hk.1
  have hc8 := hc.1
  unfold gr_settled
  rw [if_neg h0, ctz hk, bd1_some, and56 ⟨k, hk.1⟩, nm_eq, gr_columns_eq, bd1_some]
  have hlow : low (gcol (su f (nI (8 * (k / 8))))) c := by
    refine ⟨by omega, bt_gcol _ |>.mpr ⟨hc8, ?_⟩, fun i hi => ?_⟩
    · obtain ⟨y, hy⟩ := hc.2.1
      have h1 := low_row hk hy
      refine ⟨y - k / 8, ?_⟩
      rw [bt_su _ (by omega), show 8 * (k / 8) + (8 * (y - k / 8) + c) = 8 * y + c by omega]
      exact hy
    · cases hb : bt (gcol (su f (nI (8 * (k / 8))))) i with
      | false => rfl
      | true =>
        obtain ⟨_, y, hy⟩ := (bt_gcol _).mp hb
        rw [bt_su _ (by omega), show 8 * (k / 8) + (8 * y + i) = 8 * (k / 8 + y) + i by omega, hc.2.2 i hi] at hy
        cases hy
  rw [ctz hlow, bd1_some, su_su _ (by omega)]
theorem mo_moved_go2 {f : Int64} {k c : Nat} (hk : low f k) (hc : colp f c) : ∀ (n d : Nat), d ≤ c → c - d < n → fl1 mo_moved_B20 n (su f (nI (8 * (k / 8) + d))) = some (su f (nI (8 * (k / 8) + c))) := by
  have hk64 := hk.1
  have hc8 := hc.1
  intro n
  induction n with
  | zero => intro d _ h; omega
  | succ n ih =>
    intro d hd hn
    show mo_moved_B20 (fl1 mo_moved_B20 n) _ = _
    rw [mo_moved_B20]
    by_cases q : d = c
    · subst q
      rw [if_neg]
      intro e
      obtain ⟨y, hy⟩ := hc.2.1
      have h1 := low_row hk hy
      have h2 := bt_lt hy
      have h3 := i64_eq0.mp e (8 * (y - k / 8)) (by omega)
      rw [bt_and, bt_su _ (by omega), k_col (by omega), show 8 * (k / 8) + d + 8 * (y - k / 8) = 8 * y + d by omega, hy, decide_eq_true (show 8 * (y - k / 8) % 8 = 0 by omega)] at h3
      cases h3
    · rw [if_pos, nm_eq, show (1 : Int32) = nI 1 from rfl, su_su _ (by omega)]
      · exact ih (d + 1) (by omega) (by omega)
      · apply i64_eq0.mpr
        intro i hi
        rw [bt_and, bt_su _ (by omega), k_col hi]
        by_cases h8 : i % 8 = 0
        · have := hc.2.2 d (by omega) (k / 8 + i / 8)
          rw [show 8 * (k / 8 + i / 8) + d = 8 * (k / 8) + d + i by omega] at this
          rw [this]; rfl
        · rw [decide_eq_false h8, Bool.and_false]
theorem mo_moved_go1 {f : Int64} {k c : Nat} (hk : low f k) (hc : colp f c) : ∀ (n d : Nat), d ≤ k / 8 → k / 8 - d < n → fl1 mo_moved_B2 n (su f (nI (8 * d))) = some (su f (nI (8 * (k / 8) + c))) := by
  have hk64 := hk.1
  have hc8 := hc.1
  intro n
  induction n with
  | zero => intro d _ h; omega
  | succ n ih =>
    intro d hd hn
    show mo_moved_B2 (fl1 mo_moved_B2 n) _ = _
    rw [mo_moved_B2]
    by_cases q : d = k / 8
    · rw [if_neg]
      · rw [q]
        exact mo_moved_go2 hk hc FU 0 (by omega) (FU_lt (by omega))
      · intro e
        have h3 := i64_eq0.mp e (k % 8) (by omega)
        rw [bt_and, bt_su _ (by omega), k_255 (by omega), show 8 * d + k % 8 = k by omega, hk.2.1, decide_eq_true (show k % 8 < 8 by omega)] at h3
        cases h3
    · rw [if_pos, nm_eq, show (8 : Int32) = nI 8 from rfl, su_su _ (by omega), show 8 * d + 8 = 8 * (d + 1) by omega]
      · exact ih (d + 1) (by omega) (by omega)
      · apply i64_eq0.mpr
        intro i hi
        rw [bt_and, bt_su _ (by omega), k_255 hi]
        by_cases h8 : i < 8
        · rw [hk.2.2 (8 * d + i) (by omega)]; rfl
        · rw [decide_eq_false h8, Bool.and_false]
theorem mo_moved_eq {f : Int64} {k c : Nat} (hk : low f k) (hc : colp f c) : mo_moved f = some (su f (nI (8 * (k / 8) + c))) := by
  have h := mo_moved_go1 hk hc FU 0 (Nat.zero_le _) (FU_lt (by have := hk.1; omega))
  rw [Nat.mul_zero, su_0] at h
  exact h
theorem settled_moved {f : Int64} (h : f ≠ 0) : ∃ g, gr_settled f = some g ∧ mo_moved f = some g := by
  obtain ⟨k, hk⟩ := low_ex h
  obtain ⟨c, hc⟩ := colp_ex h
  exact ⟨_, gr_settled_eq hk hc, mo_moved_eq hk hc⟩
theorem out_iff (f : Int64) : f &&& (-35887507618889600) = 0 ↔ F77 f := by
  constructor
  · intro e i hi
    have h := i64_eq0.mp e i (bt_lt hi)
    rw [bt_and, hi, k_out (bt_lt hi), Bool.true_and] at h
    exact Classical.not_not.mp (of_decide_eq_false h)
  · intro h
    apply i64_eq0.mpr
    intro i hi
    rw [bt_and, k_out hi]
    cases hb : bt f i with
    | false => rfl
    | true => rw [decide_eq_false (fun q => q (h i hb)), Bool.and_false]
theorem row0_iff (f : Int64) : ¬ (f &&& 255 = 0) ↔ ∃ x, x < 8 ∧ bt f x = true := by
  constructor
  · intro h
    obtain ⟨k, hk⟩ := low_ex h
    have := hk.2.1
    rw [bt_and, Bool.and_eq_true, k_255 hk.1] at this
    exact ⟨k, of_decide_eq_true this.2, this.1⟩
  · rintro ⟨x, hx, hb⟩ e
    have := i64_eq0.mp e x (by omega)
    rw [bt_and, hb, k_255 (by omega), decide_eq_true hx] at this
    cases this
theorem col0_iff (f : Int64) : ¬ (f &&& 72340172838076673 = 0) ↔ ∃ y, bt f (8 * y) = true := by
  constructor
  · intro h
    obtain ⟨k, hk⟩ := low_ex h
    have := hk.2.1
    rw [bt_and, Bool.and_eq_true, k_col hk.1] at this
    have h2 := of_decide_eq_true this.2
    exact ⟨k / 8, by rw [show 8 * (k / 8) = k by omega]; exact this.1⟩
  · rintro ⟨y, hb⟩ e
    have h64 := bt_lt hb
    have := i64_eq0.mp e (8 * y) h64
    rw [bt_and, hb, k_col h64, decide_eq_true (show 8 * y % 8 = 0 by omega)] at this
    cases this
theorem F77.c7 {f : Int64} (h : F77 f) : C7 f := fun i hi => (h i hi).1
theorem gr_isFigure_eq (f : Int64) : (FIG f → gr_isFigure f = some 1) ∧ (¬ FIG f → gr_isFigure f = some 0) := by
  unfold gr_isFigure
  rw [zb_0, zb_1]
  by_cases h1 : F77 f
  · rw [if_pos ((out_iff f).mpr h1)]
    by_cases h2 : f &&& 255 = 0
    · rw [if_pos h2]
      refine ⟨fun h => ?_, fun _ => rfl⟩
      obtain ⟨x, hx, hb⟩ := h.2.1
      exact absurd h2 ((row0_iff f).mpr ⟨x, by omega, hb⟩)
    · rw [if_neg h2]
      by_cases h3 : f &&& 72340172838076673 = 0
      · rw [if_pos h3]
        refine ⟨fun h => ?_, fun _ => rfl⟩
        obtain ⟨y, hy, hb⟩ := h.2.2.1
        exact absurd h3 ((col0_iff f).mpr ⟨y, hb⟩)
      · rw [if_neg h3, jl_bitCount_eq, bd1_some]
        have h64 := cnt_le f
        by_cases h4 : 12 < cnt f
        · rw [if_pos (show (12 : Int32) < nI (cnt f) from nI_lt (a := 12) h4 (by omega))]
          exact ⟨fun h => absurd h.2.2.2.1 (by omega), fun _ => rfl⟩
        · rw [if_neg (show ¬ (12 : Int32) < nI (cnt f) from nI_nlt (b := cnt f) (a := 12) (by omega) (by omega))]
          have hh := gr_hangs_eq h1.c7
          obtain ⟨x, hx, hb⟩ := (row0_iff f).mp h2
          obtain ⟨y, hb2⟩ := (col0_iff f).mp h3
          by_cases h5 : CON f
          · rw [hh.1 h5, bd1_some, if_neg (by decide)]
            have a1 := h1 x hb
            have a2 := h1 _ hb2
            exact ⟨fun _ => rfl, fun h => absurd ⟨h1, ⟨x, by omega, hb⟩, ⟨y, by omega, hb2⟩, by omega, h5⟩ h⟩
          · rw [hh.2 h5, bd1_some, if_pos rfl]
            exact ⟨fun h => absurd h.2.2.2.2 h5, fun _ => rfl⟩
  · rw [if_neg (fun e => h1 ((out_iff f).mp e))]
    exact ⟨fun h => absurd h.1 h1, fun _ => rfl⟩
theorem mo_isFigure_eq (f : Int64) : (FIG f → mo_isFigure f = some 1) ∧ (¬ FIG f → mo_isFigure f = some 0) := by
  unfold mo_isFigure
  rw [zb_0, zb_1]
  by_cases h1 : F77 f
  · rw [if_pos ((out_iff f).mpr h1), mo_bits_eq, bd1_some, mo_in_eq, bd1_some]
    have h64 := cnt_le f
    by_cases h0 : f = 0
    · subst h0
      rw [cnt_zero]
      exact ⟨fun h => absurd rfl h.2.2.2.2.1, fun _ => rfl⟩
    · have hp := cnt_pos h0
      by_cases h4 : 12 < cnt f
      · have e : inr (nI (cnt f)) 1 12 = false := by
          unfold inr
          rw [decide_eq_false (show ¬ nI (cnt f) ≤ (12 : Int32) from nI_ge (a := 12) (b := cnt f) h4 (by omega)), Bool.and_false]
        rw [e]
        exact ⟨fun h => absurd h.2.2.2.1 (by omega), fun _ => rfl⟩
      · have e : inr (nI (cnt f)) 1 12 = true := by
          unfold inr
          rw [decide_eq_true (show (1 : Int32) ≤ nI (cnt f) from nI_le (a := 1) (b := cnt f) hp (by omega)), decide_eq_true (show nI (cnt f) ≤ (12 : Int32) from nI_le (a := cnt f) (b := 12) (by omega) (by omega))]; rfl
        rw [e, if_neg (by decide)]
        have hh := mo_hangs_eq f
        by_cases h5 : CON f
        · rw [hh.1 h5, bd1_some, if_neg (by decide)]
          obtain ⟨k, hk⟩ := low_ex h0
          obtain ⟨c, hc⟩ := colp_ex h0
          rw [mo_moved_eq hk hc, bd1_some]
          have hk64 := hk.1
          have hc8 := hc.1
          by_cases hz : 8 * (k / 8) + c = 0
          · rw [hz, su_0, if_pos rfl]
            refine ⟨fun _ => rfl, fun h => absurd ⟨h1, ?_, ?_, by omega, h5⟩ h⟩
            · have := h1 k hk.2.1
              exact ⟨k, by omega, hk.2.1⟩
            · obtain ⟨y, hy⟩ := hc.2.1
              rw [show c = 0 by omega, Nat.add_zero] at hy
              have := h1 _ hy
              exact ⟨y, by omega, hy⟩
          · rw [if_neg]
            · refine ⟨fun h => ?_, fun _ => rfl⟩
              exfalso
              obtain ⟨x, hx, hb⟩ := h.2.1
              obtain ⟨y, hy, hb2⟩ := h.2.2.1
              have a1 := low_row hk hb
              have a2 : c = 0 := by
                rcases Nat.eq_zero_or_pos c with q | q
                · exact q
                · have := hc.2.2 0 q y
                  rw [Nat.add_zero, hb2] at this
                  cases this
              omega
            · intro e2
              have h6 : bt (su f (nI (8 * (k / 8) + c))) k = true := by rw [e2]; exact hk.2.1
              have h7 : bt f k = true := hk.2.1
              have h8 : ∀ j, bt f (k + j * (8 * (k / 8) + c)) = true := by
                intro j
                induction j with
                | zero => rw [Nat.zero_mul, Nat.add_zero]; exact h7
                | succ j ih =>
                  have h9 : bt (su f (nI (8 * (k / 8) + c))) (k + j * (8 * (k / 8) + c)) = true := by rw [e2]; exact ih
                  rw [bt_su _ (by omega)] at h9
                  rw [show k + (j + 1) * (8 * (k / 8) + c) = 8 * (k / 8) + c + (k + j * (8 * (k / 8) + c)) by rw [Nat.succ_mul]; omega]
                  exact h9
              have h10 := bt_lt (h8 64)
              have h11 : 64 * 1 ≤ 64 * (8 * (k / 8) + c) := Nat.mul_le_mul_left 64 (by omega)
              omega
        · rw [hh.2 h5, bd1_some, if_pos rfl]
          exact ⟨fun h => absurd h.2.2.2.2 h5, fun _ => rfl⟩
  · rw [if_neg (fun e => h1 ((out_iff f).mp e))]
    exact ⟨fun h => absurd h.1 h1, fun _ => rfl⟩
