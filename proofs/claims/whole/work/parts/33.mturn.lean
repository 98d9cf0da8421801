/-! LAYER 2: the reference's turns -/
theorem bt_one {m : Nat} (hm : m < 64) {j : Nat} : bt (sl 1 (nI m)) j = true ↔ j = m := by
  have e1 : ∀ i, bt 1 i = true ↔ i = 0 := by
    intro i
    rcases Nat.lt_or_ge i 64 with q | q
    · have : ∀ i : Fin 64, bt 1 i.val = decide (i.val = 0) := by decide +kernel
      have h := this ⟨i, q⟩
      show bt 1 i = true ↔ i = 0
      rw [show bt 1 i = decide (i = 0) from h]; simp
    · rw [bt_big q]; constructor
      · intro h; cases h
      · intro h; omega
  constructor
  · intro h
    have h64 := bt_lt h
    rw [bt_sl _ hm h64, Bool.and_eq_true, decide_eq_true_eq] at h
    have := (e1 _).mp h.2
    omega
  · intro h
    subst h
    rw [bt_sl _ hm hm, Bool.and_eq_true]
    exact ⟨decide_eq_true (Nat.le_refl _), (e1 _).mpr (by omega)⟩
theorem six_sub {y : Nat} (h : y < 7) : (6 - nI y : Int32) = nI (6 - y) := by
  rw [show (6 : Int32) = nI 6 from rfl, pk_sub (by omega)]
theorem quarter_in {f : Int64} {k : Int64 → Int32 → Option Int64} {y : Nat} (hy : y < 7) : ∀ (n d : Nat) (g : Int64), d ≤ 7 → 7 - d < n → ∃ g', (∀ j, bt g' j = true ↔ bt g j = true ∨ ∃ x, d ≤ x ∧ x < 7 ∧ bt f (8 * y + x) = true ∧ j = 8 * x + (6 - y)) ∧ fl2 (mo_quarter_B15 f (nI y) k) n g (nI d) = k g' (nI (y + 1)) := by
  intro n
  induction n with
  | zero => intro d g _ h; omega
  | succ n ih =>
    intro d g hd hn
    show ∃ g', _ ∧ mo_quarter_B15 f (nI y) k (fl2 (mo_quarter_B15 f (nI y) k) n) g (nI d) = _
    rw [mo_quarter_B15]
    by_cases q : d = 7
    · subst q
      rw [if_pos (show (7 : Int32) ≤ nI 7 from nI_le (a := 7) (b := 7) (by omega) (by omega)), nm_eq, show Int32.ofInt 1 = nI 1 by decide, nI_add]
      refine ⟨g, fun j => ⟨Or.inl, fun h => ?_⟩, rfl⟩
      rcases h with h | ⟨x, h1, h2, _⟩
      · exact h
      · omega
    · rw [if_neg (show ¬ (7 : Int32) ≤ nI d from nI_ge (a := d) (b := 7) (by omega) (by omega)), ix_eq, mo_has_eq f (by omega), bd1_some]
      have hj : ∀ z, mo_quarter_J50 k (fl2 (mo_quarter_B15 f (nI y) k) n) f z (nI y) (nI d) = fl2 (mo_quarter_B15 f (nI y) k) n z (nI (d + 1)) := by
        intro z
        unfold mo_quarter_J50
        rw [nm_eq, show Int32.ofInt 1 = nI 1 by decide, nI_add]
      rw [hj]
      cases hb : bt f (8 * y + d) with
      | false =>
        rw [if_pos (by decide)]
        obtain ⟨g', h1, h2⟩ := ih (d + 1) g (by omega) (by omega)
        refine ⟨g', fun j => ?_, h2⟩
        rw [h1 j]
        constructor
        · rintro (h | ⟨x, a, b, c, e⟩)
          · exact Or.inl h
          · exact Or.inr ⟨x, by omega, b, c, e⟩
        · rintro (h | ⟨x, a, b, c, e⟩)
          · exact Or.inl h
          · rcases Nat.eq_or_lt_of_le a with q2 | q2
            · subst q2; rw [hb] at c; cases c
            · exact Or.inr ⟨x, by omega, b, c, e⟩
      | true =>
        rw [if_neg (by decide)]
        have e1 : mo_cellBit (6 - nI y) (nI d) = some (sl 1 (nI (8 * d + (6 - y)))) := by
          unfold mo_cellBit
          rw [six_sub hy, ix_eq]
        rw [e1, bd1_some, nm_eq, hj]
        obtain ⟨g', h1, h2⟩ := ih (d + 1) (g ||| sl 1 (nI (8 * d + (6 - y)))) (by omega) (by omega)
        refine ⟨g', fun j => ?_, h2⟩
        rw [h1 j, bt_or, Bool.or_eq_true, bt_one (by omega)]
        constructor
        · rintro ((h | h) | ⟨x, a, b, c, e⟩)
          · exact Or.inl h
          · exact Or.inr ⟨d, by omega, by omega, hb, h⟩
          · exact Or.inr ⟨x, by omega, b, c, e⟩
        · rintro (h | ⟨x, a, b, c, e⟩)
          · exact Or.inl (Or.inl h)
          · rcases Nat.eq_or_lt_of_le a with q2 | q2
            · subst q2; exact Or.inl (Or.inr e)
            · exact Or.inr ⟨x, by omega, b, c, e⟩
theorem quarter_out {f : Int64} : ∀ (n e : Nat) (g : Int64), e ≤ 7 → 7 - e < n → ∃ g', (∀ j, bt g' j = true ↔ bt g j = true ∨ ∃ y, e ≤ y ∧ y < 7 ∧ ∃ x, x < 7 ∧ bt f (8 * y + x) = true ∧ j = 8 * x + (6 - y)) ∧ fl2 (mo_quarter_B5 f) n g (nI e) = mo_moved g' := by
  intro n
  induction n with
  | zero => intro d g _ h; omega
  | succ n ih =>
    intro d g hd hn
    show ∃ g', _ ∧ mo_quarter_B5 f (fl2 (mo_quarter_B5 f) n) g (nI d) = _
    rw [mo_quarter_B5]
    by_cases q : d = 7
    · subst q
      rw [if_pos (show (7 : Int32) ≤ nI 7 from nI_le (a := 7) (b := 7) (by omega) (by omega))]
      refine ⟨g, fun j => ⟨Or.inl, fun h => ?_⟩, ?_⟩
      · rcases h with h | ⟨x, h1, h2, _⟩
        · exact h
        · omega
      · cases mo_moved g <;> rfl
    · rw [if_neg (show ¬ (7 : Int32) ≤ nI d from nI_ge (a := d) (b := 7) (by omega) (by omega)), show (0 : Int32) = nI 0 from nI_0.symm]
      obtain ⟨g1, a1, a2⟩ := quarter_in (f := f) (k := fl2 (mo_quarter_B5 f) n) (y := d) (by omega) FU 0 g (by omega) (FU_lt (by omega))
      obtain ⟨g', b1, b2⟩ := ih (d + 1) g1 (by omega) (by omega)
      refine ⟨g', fun j => ?_, a2.trans b2⟩
      rw [b1 j, a1 j]
      constructor
      · rintro ((h | ⟨x, _, hx, hb, e⟩) | ⟨y, a, b, c⟩)
        · exact Or.inl h
        · exact Or.inr ⟨d, by omega, by omega, x, hx, hb, e⟩
        · exact Or.inr ⟨y, by omega, b, c⟩
      · rintro (h | ⟨y, a, b, x, hx, hb, e⟩)
        · exact Or.inl (Or.inl h)
        · rcases Nat.eq_or_lt_of_le a with q2 | q2
          · subst q2; exact Or.inl (Or.inr ⟨x, by omega, hx, hb, e⟩)
          · exact Or.inr ⟨y, by omega, b, x, hx, hb, e⟩
theorem mo_quarter_ex (f : Int64) : ∃ g, (∀ j, bt g j = true ↔ ∃ x y, x < 7 ∧ y < 7 ∧ bt f (8 * y + x) = true ∧ j = 8 * x + (6 - y)) ∧ mo_quarter f = mo_moved g := by
  obtain ⟨g, h1, h2⟩ := quarter_out (f := f) FU 0 0 (by omega) (FU_lt (by omega))
  refine ⟨g, fun j => ?_, ?_⟩
  · rw [h1 j, bt_zero]
    constructor
    · rintro (h | ⟨y, _, hy, x, hx, hb, e⟩)
      · cases h
      · exact ⟨x, y, hx, hy, hb, e⟩
    · rintro ⟨x, y, hx, hy, hb, e⟩
      exact Or.inr ⟨y, by omega, hy, x, hx, hb, e⟩
  · unfold mo_quarter
    rw [show (0 : Int32) = nI 0 from nI_0.symm]
    exact h2
theorem mirrored_in {f : Int64} {k : Int64 → Int32 → Option Int64} {y : Nat} (hy : y < 7) : ∀ (n d : Nat) (g : Int64), d ≤ 7 → 7 - d < n → ∃ g', (∀ j, bt g' j = true ↔ bt g j = true ∨ ∃ x, d ≤ x ∧ x < 7 ∧ bt f (8 * y + x) = true ∧ j = 8 * y + (6 - x)) ∧ fl2 (mo_mirrored_B15 f (nI y) k) n g (nI d) = k g' (nI (y + 1)) := by
  intro n
  induction n with
  | zero => intro d g _ h; omega
  | succ n ih =>
    intro d g hd hn
    show ∃ g', _ ∧ mo_mirrored_B15 f (nI y) k (fl2 (mo_mirrored_B15 f (nI y) k) n) g (nI d) = _
    rw [mo_mirrored_B15]
    by_cases q : d = 7
    · subst q
      rw [if_pos (show (7 : Int32) ≤ nI 7 from nI_le (a := 7) (b := 7) (by omega) (by omega)), nm_eq, show Int32.ofInt 1 = nI 1 by decide, nI_add]
      refine ⟨g, fun j => ⟨Or.inl, fun h => ?_⟩, rfl⟩
      rcases h with h | ⟨x, h1, h2, _⟩
      · exact h
      · omega
    · rw [if_neg (show ¬ (7 : Int32) ≤ nI d from nI_ge (a := d) (b := 7) (by omega) (by omega)), ix_eq, mo_has_eq f (by omega), bd1_some]
      have hj : ∀ z, mo_mirrored_J50 k (fl2 (mo_mirrored_B15 f (nI y) k) n) f z (nI y) (nI d) = fl2 (mo_mirrored_B15 f (nI y) k) n z (nI (d + 1)) := by
        intro z
        unfold mo_mirrored_J50
        rw [nm_eq, show Int32.ofInt 1 = nI 1 by decide, nI_add]
      rw [hj]
      cases hb : bt f (8 * y + d) with
      | false =>
        rw [if_pos (by decide)]
        obtain ⟨g', h1, h2⟩ := ih (d + 1) g (by omega) (by omega)
        refine ⟨g', fun j => ?_, h2⟩
        rw [h1 j]
        constructor
        · rintro (h | ⟨x, a, b, c, e⟩)
          · exact Or.inl h
          · exact Or.inr ⟨x, by omega, b, c, e⟩
        · rintro (h | ⟨x, a, b, c, e⟩)
          · exact Or.inl h
          · rcases Nat.eq_or_lt_of_le a with q2 | q2
            · subst q2; rw [hb] at c; cases c
            · exact Or.inr ⟨x, by omega, b, c, e⟩
      | true =>
        rw [if_neg (by decide)]
        have e1 : mo_cellBit (6 - nI d) (nI y) = some (sl 1 (nI (8 * y + (6 - d)))) := by
          unfold mo_cellBit
          rw [six_sub (show d < 7 by omega), ix_eq]
        rw [e1, bd1_some, nm_eq, hj]
        obtain ⟨g', h1, h2⟩ := ih (d + 1) (g ||| sl 1 (nI (8 * y + (6 - d)))) (by omega) (by omega)
        refine ⟨g', fun j => ?_, h2⟩
        rw [h1 j, bt_or, Bool.or_eq_true, bt_one (by omega)]
        constructor
        · rintro ((h | h) | ⟨x, a, b, c, e⟩)
          · exact Or.inl h
          · exact Or.inr ⟨d, by omega, by omega, hb, h⟩
          · exact Or.inr ⟨x, by omega, b, c, e⟩
        · rintro (h | ⟨x, a, b, c, e⟩)
          · exact Or.inl (Or.inl h)
          · rcases Nat.eq_or_lt_of_le a with q2 | q2
            · subst q2; exact Or.inl (Or.inr e)
            · exact Or.inr ⟨x, by omega, b, c, e⟩
theorem mirrored_out {f : Int64} : ∀ (n e : Nat) (g : Int64), e ≤ 7 → 7 - e < n → ∃ g', (∀ j, bt g' j = true ↔ bt g j = true ∨ ∃ y, e ≤ y ∧ y < 7 ∧ ∃ x, x < 7 ∧ bt f (8 * y + x) = true ∧ j = 8 * y + (6 - x)) ∧ fl2 (mo_mirrored_B5 f) n g (nI e) = mo_moved g' := by
  intro n
  induction n with
  | zero => intro d g _ h; omega
  | succ n ih =>
    intro d g hd hn
    show ∃ g', _ ∧ mo_mirrored_B5 f (fl2 (mo_mirrored_B5 f) n) g (nI d) = _
    rw [mo_mirrored_B5]
    by_cases q : d = 7
    · subst q
      rw [if_pos (show (7 : Int32) ≤ nI 7 from nI_le (a := 7) (b := 7) (by omega) (by omega))]
      refine ⟨g, fun j => ⟨Or.inl, fun h => ?_⟩, ?_⟩
      · rcases h with h | ⟨x, h1, h2, _⟩
        · exact h
        · omega
      · cases mo_moved g <;> rfl
    · rw [if_neg (show ¬ (7 : Int32) ≤ nI d from nI_ge (a := d) (b := 7) (by omega) (by omega)), show (0 : Int32) = nI 0 from nI_0.symm]
      obtain ⟨g1, a1, a2⟩ := mirrored_in (f := f) (k := fl2 (mo_mirrored_B5 f) n) (y := d) (by omega) FU 0 g (by omega) (FU_lt (by omega))
      obtain ⟨g', b1, b2⟩ := ih (d + 1) g1 (by omega) (by omega)
      refine ⟨g', fun j => ?_, a2.trans b2⟩
      rw [b1 j, a1 j]
      constructor
      · rintro ((h | ⟨x, _, hx, hb, e⟩) | ⟨y, a, b, c⟩)
        · exact Or.inl h
        · exact Or.inr ⟨d, by omega, by omega, x, hx, hb, e⟩
        · exact Or.inr ⟨y, by omega, b, c⟩
      · rintro (h | ⟨y, a, b, x, hx, hb, e⟩)
        · exact Or.inl (Or.inl h)
        · rcases Nat.eq_or_lt_of_le a with q2 | q2
          · subst q2; exact Or.inl (Or.inr ⟨x, by omega, hx, hb, e⟩)
          · exact Or.inr ⟨y, by omega, b, x, hx, hb, e⟩
theorem mo_mirrored_ex (f : Int64) : ∃ g, (∀ j, bt g j = true ↔ ∃ x y, x < 7 ∧ y < 7 ∧ bt f (8 * y + x) = true ∧ j = 8 * y + (6 - x)) ∧ mo_mirrored f = mo_moved g := by
  obtain ⟨g, h1, h2⟩ := mirrored_out (f := f) FU 0 0 (by omega) (FU_lt (by omega))
  refine ⟨g, fun j => ?_, ?_⟩
  · rw [h1 j, bt_zero]
    constructor
    · rintro (h | ⟨y, _, hy, x, hx, hb, e⟩)
      · cases h
      · exact ⟨x, y, hx, hy, hb, e⟩
    · rintro ⟨x, y, hx, hy, hb, e⟩
      exact Or.inr ⟨y, by omega, hy, x, hx, hb, e⟩
  · unfold mo_mirrored
    rw [show (0 : Int32) = nI 0 from nI_0.symm]
    exact h2
