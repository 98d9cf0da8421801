/-! LAYER 2: wide and high, twos, sides, cut cells, same -/
theorem ct_seg {p : Nat → Bool} : ∀ {n : Nat}, (∀ i j, i ≤ j → j < n → p i = false → p j = false) → ∀ i, i < n → (p i = true ↔ i < fb_ct p n) := by
  intro n
  induction n with
  | zero => intro _ i hi; omega
  | succ n ih =>
    intro h i hi
    have hd : ∀ i j, i ≤ j → j < n → p i = false → p j = false := fun i j a b c => h i j a (by omega) c
    rw [fb_ct_succ]
    have hle := fb_ct_le p n
    cases hn : p n with
    | true =>
      have all : fb_ct p n = n := fb_ct_all.mpr (fun k hk => by
        cases hk2 : p k with
        | true => rfl
        | false => have := h k n (by omega) (by omega) hk2; rw [hn] at this; cases this)
      rw [if_pos rfl, all]
      rcases Nat.lt_or_ge i n with q | q
      · have := fb_ct_all.mp all i q
        exact ⟨fun _ => by omega, fun _ => this⟩
      · have : i = n := by omega
        subst this
        exact ⟨fun _ => by omega, fun _ => hn⟩
    | false =>
      rw [if_neg (by decide), Nat.add_zero]
      rcases Nat.lt_or_ge i n with q | q
      · exact ih hd i q
      · have : i = n := by omega
        subst this
        rw [hn]
        exact ⟨fun hh => (by cases hh), fun hh => by omega⟩
def wdt (f : Int64) : Nat := cnt (gcol f)
def grw (v0 : Int64) : Int64 :=
  (((v0 ||| su v0 4) ||| su (v0 ||| su v0 4) 2) ||| su ((v0 ||| su v0 4) ||| su (v0 ||| su v0 4) 2) 1) &&& 72340172838076673
def hgt (f : Int64) : Nat := fb_ct (fun y => bt (grw f) (8 * y)) 8
theorem bt_grw (b : Int64) {y : Nat} (hy : y < 8) : bt (grw b) (8 * y) = true ↔ ∃ x, x < 8 ∧ bt b (8 * y + x) = true := by
  unfold grw
  have s4 : ∀ x i, bt (su x 4) i = bt x (4 + i) := fun x i => bt_su x (n := 4) (by omega) i
  have s2 : ∀ x i, bt (su x 2) i = bt x (2 + i) := fun x i => bt_su x (n := 2) (by omega) i
  have s1 : ∀ x i, bt (su x 1) i = bt x (1 + i) := fun x i => bt_su x (n := 1) (by omega) i
  simp only [bt_and, bt_or, s4, s2, s1, k_col (show 8 * y < 64 by omega)]
  simp only [Bool.and_eq_true, Bool.or_eq_true, decide_eq_true_eq]
  constructor
  · rintro ⟨((h | h) | (h | h)) | ((h | h) | (h | h)), _⟩
    · exact ⟨0, by omega, h⟩
    · exact ⟨4, by omega, by rw [Nat.add_comm]; exact h⟩
    · exact ⟨2, by omega, by rw [Nat.add_comm]; exact h⟩
    · exact ⟨6, by omega, by rw [show 8 * y + 6 = 4 + (2 + 8 * y) by omega]; exact h⟩
    · exact ⟨1, by omega, by rw [Nat.add_comm]; exact h⟩
    · exact ⟨5, by omega, by rw [show 8 * y + 5 = 4 + (1 + 8 * y) by omega]; exact h⟩
    · exact ⟨3, by omega, by rw [show 8 * y + 3 = 2 + (1 + 8 * y) by omega]; exact h⟩
    · exact ⟨7, by omega, by rw [show 8 * y + 7 = 4 + (2 + (1 + 8 * y)) by omega]; exact h⟩
  · rintro ⟨x, hx, h⟩
    refine ⟨?_, by omega⟩
    rcases (show x = 0 ∨ x = 1 ∨ x = 2 ∨ x = 3 ∨ x = 4 ∨ x = 5 ∨ x = 6 ∨ x = 7 by omega) with rfl | rfl | rfl | rfl | rfl | rfl | rfl | rfl
    · exact Or.inl (Or.inl (Or.inl h))
    · exact Or.inr (Or.inl (Or.inl (by rw [show 1 + 8 * y = 8 * y + 1 by omega]; exact h)))
    · exact Or.inl (Or.inr (Or.inl (by rw [show 2 + 8 * y = 8 * y + 2 by omega]; exact h)))
    · exact Or.inr (Or.inr (Or.inl (by rw [show 2 + (1 + 8 * y) = 8 * y + 3 by omega]; exact h)))
    · exact Or.inl (Or.inl (Or.inr (by rw [show 4 + 8 * y = 8 * y + 4 by omega]; exact h)))
    · exact Or.inr (Or.inl (Or.inr (by rw [show 4 + (1 + 8 * y) = 8 * y + 5 by omega]; exact h)))
    · exact Or.inl (Or.inr (Or.inr (by rw [show 4 + (2 + 8 * y) = 8 * y + 6 by omega]; exact h)))
    · exact Or.inr (Or.inr (Or.inr (by rw [show 4 + (2 + (1 + 8 * y)) = 8 * y + 7 by omega]; exact h)))
theorem ct_rows (p : Nat → Bool) : ∀ n, fb_ct p (8 * n) = fb_sm (fun y => fb_ct (fun x => p (8 * y + x)) 8) n := by
  intro n
  induction n with
  | zero => rfl
  | succ n ih => rw [show 8 * (n + 1) = 8 * n + 8 by omega, fb_ct_split, ih, fb_sm_succ]
theorem cnt_rows (f : Int64) : cnt f = fb_sm (fun y => fb_ct (fun x => bt f (8 * y + x)) 8) 8 := ct_rows (bt f) 8
theorem ct_one {p : Nat → Bool} (h : ∀ x, x < 7 → p (x + 1) = false) : fb_ct p 8 = if p 0 then 1 else 0 := by
  simp only [fb_ct_succ, h 0 (by omega), h 1 (by omega), h 2 (by omega), h 3 (by omega), h 4 (by omega), h 5 (by omega), h 6 (by omega)]
  simp [fb_ct]
theorem sm_ct (p : Nat → Bool) : ∀ n, fb_sm (fun y => if p y then 1 else 0) n = fb_ct p n := by
  intro n
  induction n with
  | zero => rfl
  | succ n ih => rw [fb_sm_succ, fb_ct_succ, ih]
theorem cnt_grw (f : Int64) : cnt (grw f) = hgt f := by
  rw [cnt_rows]
  unfold hgt
  rw [← sm_ct]
  refine fb_sm_cong (fun y hy => ?_)
  rw [ct_one (fun x hx => ?_)]
  · rfl
  · unfold grw
    rw [bt_and, k_col (by omega), decide_eq_false (by omega), Bool.and_false]
theorem gr_width_eq (f : Int64) : gr_width f = some (nI (wdt f)) := by
  unfold gr_width; rw [gr_columns_eq, bd1_some, jl_bitCount_eq, bd1_some]; rfl
theorem gr_height_eq (f : Int64) : gr_height f = some (nI (hgt f)) := by
  have h : gr_height f = bd1 (jl_bitCount (grw f)) fun r => some r := rfl
  rw [h, jl_bitCount_eq, bd1_some, cnt_grw]
theorem FIG_w {f : Int64} (hf : FIG f) {x : Nat} (hx : x < 8) : (∃ y, bt f (8 * y + x) = true) ↔ x < wdt f := by
  have hseg : ∀ i j, i ≤ j → j < 8 → bt (gcol f) i = false → bt (gcol f) j = false := by
    intro i j hij hj hi
    cases hb : bt (gcol f) j with
    | false => rfl
    | true =>
      exfalso
      obtain ⟨_, y, hy⟩ := (bt_gcol f).mp hb
      have hi2 : ∀ y, bt f (8 * y + i) = false := fun y' => by
        cases hc : bt f (8 * y' + i) with
        | false => rfl
        | true => rw [(bt_gcol f).mpr ⟨by omega, y', hc⟩] at hi; cases hi
      obtain ⟨y0, _, h0⟩ := hf.2.2.1
      have := hf.2.2.2.2.2 (fun a => a % 8 < i) ⟨8 * y0, h0, by
        rcases Nat.eq_zero_or_pos i with q | q
        · subst q; rw [show 8 * y0 = 8 * y0 + 0 by omega, hi2 y0] at h0; cases h0
        · omega⟩ (fun a b ha hb hab hT => by
        have hne : b % 8 ≠ i := fun e => by
          have := hi2 (b / 8)
          rw [show 8 * (b / 8) + i = b by omega, hb] at this; cases this
        unfold adj at hab
        omega) _ hy
      omega
  have h1 := ct_seg hseg x hx
  have h2 : fb_ct (bt (gcol f)) 8 = wdt f := by
    unfold wdt cnt
    have z : fb_ct (fun k => bt (gcol f) (8 + k)) 56 = 0 := fb_ct_zero.mpr (fun k _ => by
      show bt (gcol f) (8 + k) = false
      cases hb : bt (gcol f) (8 + k) with
      | false => rfl
      | true => have := ((bt_gcol f).mp hb).1; omega)
    rw [show (64 : Nat) = 8 + 56 by omega, fb_ct_split, z]; rfl
  rw [h2] at h1
  rw [← h1, bt_gcol]
  exact ⟨fun h => ⟨hx, h⟩, fun h => h.2⟩
theorem FIG_h {f : Int64} (hf : FIG f) {y : Nat} (hy : y < 8) : (∃ x, x < 8 ∧ bt f (8 * y + x) = true) ↔ y < hgt f := by
  have hseg : ∀ i j, i ≤ j → j < 8 → bt (grw f) (8 * i) = false → bt (grw f) (8 * j) = false := by
    intro i j hij hj hi
    cases hb : bt (grw f) (8 * j) with
    | false => rfl
    | true =>
      exfalso
      obtain ⟨x, hx, hxb⟩ := (bt_grw f hj).mp hb
      have hi2 : ∀ x, x < 8 → bt f (8 * i + x) = false := fun x' hx' => by
        cases hc : bt f (8 * i + x') with
        | false => rfl
        | true => rw [(bt_grw f (by omega)).mpr ⟨x', hx', hc⟩] at hi; cases hi
      obtain ⟨x0, hx0, h0⟩ := hf.2.1
      have := hf.2.2.2.2.2 (fun a => a / 8 < i) ⟨x0, h0, by
        rcases Nat.eq_zero_or_pos i with q | q
        · subst q; rw [show x0 = 8 * 0 + x0 by omega, hi2 x0 (by omega)] at h0; cases h0
        · omega⟩ (fun a b ha hb hab hT => by
        have hne : b / 8 ≠ i := fun e => by
          have := hi2 (b % 8) (by omega)
          rw [show 8 * i + b % 8 = b by omega, hb] at this; cases this
        unfold adj at hab
        omega) _ hxb
      omega
  have h1 := ct_seg (p := fun y => bt (grw f) (8 * y)) hseg y hy
  unfold hgt
  rw [← h1, bt_grw f hy]
theorem wdt_b {f : Int64} (hf : FIG f) : 0 < wdt f ∧ wdt f ≤ 7 ∧ 0 < hgt f ∧ hgt f ≤ 7 := by
  obtain ⟨y0, _, h0⟩ := hf.2.2.1
  obtain ⟨x0, _, h1⟩ := hf.2.1
  have a1 := (FIG_w hf (x := 0) (by omega)).mp ⟨y0, h0⟩
  have a2 := (FIG_h hf (y := 0) (by omega)).mp ⟨x0, by omega, by rw [show 8 * 0 + x0 = x0 by omega]; exact h1⟩
  refine ⟨a1, ?_, a2, ?_⟩
  · rcases Nat.lt_or_ge 7 (wdt f) with q | q
    · obtain ⟨y, hy⟩ := (FIG_w hf (x := 7) (by omega)).mpr q
      have := hf.1 _ hy; omega
    · exact q
  · rcases Nat.lt_or_ge 7 (hgt f) with q | q
    · obtain ⟨x, _, hx⟩ := (FIG_h hf (y := 7) (by omega)).mpr q
      have := hf.1 _ hx; omega
    · exact q
theorem bt_wh {f : Int64} (hf : FIG f) {i : Nat} (h : bt f i = true) : i % 8 < wdt f ∧ i / 8 < hgt f := by
  have h64 := bt_lt h
  exact ⟨(FIG_w hf (by omega)).mp ⟨i / 8, by rw [show 8 * (i / 8) + i % 8 = i by omega]; exact h⟩, (FIG_h hf (by omega)).mp ⟨i % 8, by omega, by rw [show 8 * (i / 8) + i % 8 = i by omega]; exact h⟩⟩
theorem bt_ss (x : Int64) {k i : Nat} (h : k + i < 64) : bt (ss x (nI k)) i = bt x (k + i) := by
  show (x >>> ((nI k).toInt64 &&& 63)).toBitVec.getLsbD i = _
  rw [Int64.toBitVec_shiftRight, BitVec.sshiftRight_eq', sh_l ⟨k, by omega⟩, BitVec.getLsbD_sshiftRight]
  have h1 : ¬ 64 ≤ i := by omega
  have h2 : k + i < 64 := h
  simp [h1, h2, bt]
theorem col_iff (f : Int64) {x : Nat} (hx : x < 8) : f &&& sl 72340172838076673 (nI x) = 0 ↔ ¬ ∃ y, bt f (8 * y + x) = true := by
  rw [i64_eq0]
  constructor
  · rintro h ⟨y, hy⟩
    have h64 := bt_lt hy
    have := h _ h64
    rw [bt_and, hy, bt_sl _ (by omega) h64, k_col (by omega), decide_eq_true (show x ≤ 8 * y + x by omega), decide_eq_true (show (8 * y + x - x) % 8 = 0 by omega)] at this
    cases this
  · intro h i hi
    cases hb : bt (f &&& sl 72340172838076673 (nI x)) i with
    | false => rfl
    | true =>
      rw [bt_and, Bool.and_eq_true, bt_sl _ (by omega) hi, Bool.and_eq_true, k_col (by omega)] at hb
      have e1 := of_decide_eq_true hb.2.1
      have e2 := of_decide_eq_true hb.2.2
      exact absurd ⟨i / 8, by rw [show 8 * (i / 8) + x = i by omega]; exact hb.1⟩ h
theorem row_iff (f : Int64) {y : Nat} (hy : y < 8) : ss f (nI (8 * y)) &&& 255 = 0 ↔ ¬ ∃ x, x < 8 ∧ bt f (8 * y + x) = true := by
  rw [i64_eq0]
  constructor
  · rintro h ⟨x, hx, hb⟩
    have := h x (by omega)
    rw [bt_and, bt_ss f (by omega), hb, k_255 (by omega), decide_eq_true hx] at this
    cases this
  · intro h i hi
    cases hb : bt (ss f (nI (8 * y)) &&& 255) i with
    | false => rfl
    | true =>
      rw [bt_and, Bool.and_eq_true, k_255 hi] at hb
      have e2 := of_decide_eq_true hb.2
      rw [bt_ss f (by omega)] at hb
      exact absurd ⟨i, e2, hb.1⟩ h
theorem mo_wide_eq {f : Int64} (hf : FIG f) : mo_wide f = some (nI (wdt f)) := by
  have hb := wdt_b hf
  unfold mo_wide
  rw [show fl2 (mo_wide_B4 f) FU 0 0 = fl2 (mo_wide_B4 f) FU (nI (min 0 (wdt f))) (nI 0) by rw [Nat.zero_min, nI_0]]
  refine crs2 (B := mo_wide_B4 f) (fun i => nI (min i (wdt f))) nI 8 (fun i hi k => ?_) (fun k => ?_) FU (FU_lt (by omega))
  · rw [mo_wide_B4, if_neg (show ¬ (8 : Int32) ≤ nI i from nI_ge (a := i) (b := 8) hi (by omega))]
    have h1 := col_iff f hi
    rw [FIG_w hf hi] at h1
    unfold mo_wide_J26
    by_cases q : i < wdt f
    · rw [if_neg (fun e => h1.mp e q), nm_eq, nm_eq, nI_1, o1]
      show k (nI (i + 1)) _ = k (nI (min (i + 1) (wdt f))) _
      rw [Nat.min_eq_left (by omega)]
    · rw [if_pos (h1.mpr q), nm_eq, o1]
      show k (nI (min i (wdt f))) _ = k (nI (min (i + 1) (wdt f))) _
      rw [Nat.min_eq_right (by omega), Nat.min_eq_right (by omega)]
  · show mo_wide_B4 f k (nI (min 8 (wdt f))) (nI 8) = _
    rw [mo_wide_B4, if_pos (show (8 : Int32) ≤ nI 8 from nI_le (a := 8) (b := 8) (by omega) (by omega)), Nat.min_eq_right (by omega)]
theorem mo_high_eq {f : Int64} (hf : FIG f) : mo_high f = some (nI (hgt f)) := by
  have hb := wdt_b hf
  unfold mo_high
  rw [show fl2 (mo_high_B4 f) FU 0 0 = fl2 (mo_high_B4 f) FU (nI (min 0 (hgt f))) (nI 0) by rw [Nat.zero_min, nI_0]]
  refine crs2 (B := mo_high_B4 f) (fun i => nI (min i (hgt f))) nI 8 (fun i hi k => ?_) (fun k => ?_) FU (FU_lt (by omega))
  · rw [mo_high_B4, if_neg (show ¬ (8 : Int32) ≤ nI i from nI_ge (a := i) (b := 8) hi (by omega)), show (8 * nI i : Int32) = nI (8 * i) from by rw [show (8 : Int32) = nI 8 from rfl, pk_mul]]
    have h1 := row_iff f hi
    rw [FIG_h hf hi] at h1
    unfold mo_high_J29
    by_cases q : i < hgt f
    · rw [if_neg (fun e => h1.mp e q), nm_eq, nm_eq, nI_1, o1]
      show k (nI (i + 1)) _ = k (nI (min (i + 1) (hgt f))) _
      rw [Nat.min_eq_left (by omega)]
    · rw [if_pos (h1.mpr q), nm_eq, o1]
      show k (nI (min i (hgt f))) _ = k (nI (min (i + 1) (hgt f))) _
      rw [Nat.min_eq_right (by omega), Nat.min_eq_right (by omega)]
  · show mo_high_B4 f k (nI (min 8 (hgt f))) (nI 8) = _
    rw [mo_high_B4, if_pos (show (8 : Int32) ≤ nI 8 from nI_le (a := 8) (b := 8) (by omega) (by omega)), Nat.min_eq_right (by omega)]
/-! twos, sides -/
def two (f : Int64) : Nat := cnt (f &&& su f 1) + cnt (f &&& su f 8)
theorem tr_twos_eq (f : Int64) : tr_twos f = some (nI (two f)) := by
  unfold tr_twos; rw [jl_bitCount_eq, bd1_some, jl_bitCount_eq, bd1_some, nI_add]; rfl
theorem mo_twos_eq {f : Int64} (hf : C7 f) : mo_twos f = some (nI (two f)) := by
  have e : f &&& su f 1 &&& 9187201950435737471 = f &&& su f 1 := bt_ext (fun i hi => by
    rw [bt_and, bt_and, k_7F hi]
    cases hb : bt f i with
    | false => rfl
    | true => rw [decide_eq_true (show ¬ i % 8 = 7 by have := hf i hb; omega), Bool.and_true])
  unfold mo_twos; rw [e, mo_bits_eq, bd1_some, mo_bits_eq, bd1_some, nI_add]; rfl
theorem tr_sides_eq (f : Int64) : tr_sides f = some (4 * nI (cnt f) - 2 * nI (two f)) := by
  unfold tr_sides; rw [jl_bitCount_eq, bd1_some, tr_twos_eq, bd1_some]
/-! bits taken away from below -/
def clr (x : Int64) : Int64 := x &&& (x - 1)
theorem xor_low (x : Int64) : x ^^^ (x &&& -x) = clr x := by
  by_cases h : x = 0
  · subst h; decide
  · obtain ⟨k, hk⟩ := low_ex h
    unfold clr
    apply bt_ext
    intro i hi
    rw [bt_xor, bt_lowest hk hi, bt_clear hk hi]
    by_cases q : i = k
    · rw [if_pos q, q, hk.2.1, decide_eq_true rfl]; rfl
    · rw [if_neg q, decide_eq_false q, Bool.xor_false]
def itr (f : Int64) : Nat → Int64
  | 0 => f
  | n + 1 => clr (itr f n)
theorem itr_cnt (f : Int64) : ∀ i, i ≤ cnt f → cnt (itr f i) = cnt f - i := by
  intro i
  induction i with
  | zero => intro _; rfl
  | succ i ih =>
    intro h
    have h1 := ih (by omega)
    have h2 : itr f i ≠ 0 := fun e => by rw [e, cnt_zero] at h1; omega
    have h3 := cnt_clear h2
    show cnt (itr f i &&& (itr f i - 1)) = _
    omega
theorem itr_ne {f : Int64} {i : Nat} (h : i < cnt f) : itr f i ≠ 0 := fun e => by
  have := itr_cnt f i (by omega)
  rw [e, cnt_zero] at this; omega
theorem cnt_0 {x : Int64} (h : cnt x = 0) : x = 0 := by
  apply Classical.byContradiction
  intro q
  have := cnt_pos q; omega
theorem itr_end (f : Int64) : itr f (cnt f) = 0 := cnt_0 (by rw [itr_cnt f _ (Nat.le_refl _)]; omega)
theorem itr_sub (f : Int64) : ∀ i, sub (itr f i) f := by
  intro i
  induction i with
  | zero => exact fun _ h => h
  | succ i ih =>
    intro j hj
    apply ih
    have : bt (itr f i &&& (itr f i - 1)) j = true := hj
    rw [bt_and, Bool.and_eq_true] at this
    exact this.1
/-- the place of the i-th bit -/
noncomputable def ith (f : Int64) (i : Nat) : Nat := cnt ((itr f i &&& -(itr f i)) - 1)
theorem ith_low {f : Int64} {i : Nat} (h : i < cnt f) : low (itr f i) (ith f i) := by
  obtain ⟨k, hk⟩ := low_ex (itr_ne h)
  have := ctz hk
  rw [jl_bitCount_eq] at this
  have h2 := hk.1
  have e : ith f i = k := (nI_eq (show cnt ((itr f i &&& -(itr f i)) - 1) < 2 ^ 31 by have := cnt_le ((itr f i &&& -(itr f i)) - 1); omega) (by omega)).mp (Option.some.inj this)
  rw [e]; exact hk
theorem ith_bt {f : Int64} {i : Nat} (h : i < cnt f) : bt f (ith f i) = true := itr_sub f i _ (ith_low h).2.1
theorem itr_bt (f : Int64) : ∀ i, i ≤ cnt f → ∀ j, bt (itr f i) j = true ↔ (bt f j = true ∧ ∀ m, m < i → ith f m < j) := by
  intro i
  induction i with
  | zero => intro _ j; exact ⟨fun h => ⟨h, fun m hm => by omega⟩, fun h => h.1⟩
  | succ i ih =>
    intro h j
    have hl := ith_low (f := f) (i := i) (by omega)
    have h1 := ih (by omega) j
    constructor
    · intro hj
      have hj64 := bt_lt hj
      have hj2 : bt (itr f i &&& (itr f i - 1)) j = true := hj
      rw [bt_clear hl hj64] at hj2
      by_cases q : j = ith f i
      · rw [if_pos q] at hj2; cases hj2
      · rw [if_neg q] at hj2
        have h2 := h1.mp hj2
        refine ⟨h2.1, fun m hm => ?_⟩
        rcases Nat.lt_or_ge m i with q2 | q2
        · exact h2.2 m q2
        · have e : m = i := by omega
          subst e
          have := low_row hl hj2
          omega
    · rintro ⟨a, b⟩
      have hj2 := h1.mpr ⟨a, fun m hm => b m (by omega)⟩
      have := b i (by omega)
      show bt (itr f i &&& (itr f i - 1)) j = true
      rw [bt_clear hl (bt_lt a), if_neg (by omega)]
      exact hj2
theorem ith_mono {f : Int64} {i j : Nat} (hij : i < j) (hj : j < cnt f) : ith f i < ith f j :=
  ((itr_bt f j (by omega) _).mp (ith_low hj).2.1).2 i hij
theorem ith_all {f : Int64} {j : Nat} (h : bt f j = true) : ∃ i, i < cnt f ∧ ith f i = j := by
  apply Classical.byContradiction
  intro hn
  have : ∀ i, i ≤ cnt f → bt (itr f i) j = true := by
    intro i
    induction i with
    | zero => intro _; exact h
    | succ i ih =>
      intro hi
      have h1 := ih (by omega)
      have hl := ith_low (f := f) (i := i) (by omega)
      show bt (itr f i &&& (itr f i - 1)) j = true
      rw [bt_clear hl (bt_lt h), if_neg (fun e => hn ⟨i, by omega, e.symm⟩)]
      exact h1
  have h2 := this _ (Nat.le_refl _)
  rw [itr_end, bt_zero] at h2; cases h2
