/-! LAYER 2: the lowest bit, how many bits -/
def bn (x : Int64) : Nat := x.toBitVec.toNat
theorem bt_bn (x : Int64) (i : Nat) : bt x i = (bn x).testBit i := rfl
theorem bn_lt (x : Int64) : bn x < 2 ^ 64 := x.toBitVec.isLt
theorem bn_inj {x y : Int64} (h : bn x = bn y) : x = y := Int64.toBitVec_inj.mp (BitVec.eq_of_toNat_eq h)
def low (x : Int64) (k : Nat) : Prop := k < 64 ∧ bt x k = true ∧ ∀ i, i < k → bt x i = false
theorem low_ex {x : Int64} (h : x ≠ 0) : ∃ k, low x k := by
  have h1 : ∃ k, k < 64 ∧ bt x k = true := by
    apply Classical.byContradiction
    intro hn
    apply h
    apply i64_eq0.mpr
    intro i hi
    cases hb : bt x i with
    | false => rfl
    | true => exact absurd ⟨i, hi, hb⟩ hn
  obtain ⟨k, ⟨h2, h3⟩, h4⟩ := pk_least (fun k => k < 64 ∧ bt x k = true) h1
  refine ⟨k, h2, h3, fun i hi => ?_⟩
  cases hb : bt x i with
  | false => rfl
  | true => exact absurd ⟨by omega, hb⟩ (h4 i hi)
theorem low_one {x : Int64} {k j : Nat} (h : low x k) (h2 : low x j) : k = j := by
  rcases Nat.lt_trichotomy k j with q | q | q
  · have := h2.2.2 k q; rw [h.2.1] at this; cases this
  · exact q
  · have := h.2.2 j q; rw [h2.2.1] at this; cases this
theorem low_mod {x : Int64} {k : Nat} (h : low x k) : bn x % 2 ^ (k + 1) = 2 ^ k := by
  apply Nat.eq_of_testBit_eq
  intro i
  rw [Nat.testBit_mod_two_pow, Nat.testBit_two_pow, ← bt_bn]
  rcases Nat.lt_trichotomy i k with q | q | q
  · rw [h.2.2 i q]; simp; omega
  · subst q; rw [h.2.1]; simp
  · rw [decide_eq_false (show ¬ i < k + 1 by omega), decide_eq_false (show ¬ k = i by omega)]; rfl
theorem low_sub {x : Int64} {k : Nat} (h : low x k) {i : Nat} (hi : i < 64) : bt (x - 1) i = if i < k then true else if i = k then false else bt x i := by
  have hm := low_mod h
  have hd := Nat.div_add_mod (bn x) (2 ^ (k + 1))
  rw [hm] at hd
  have hp : 0 < 2 ^ k := Nat.two_pow_pos k
  have e : bn (x - 1) = 2 ^ (k + 1) * (bn x / 2 ^ (k + 1)) + (2 ^ k - 1) := by
    have hlt := bn_lt x
    show (x - 1).toBitVec.toNat = _
    rw [Int64.toBitVec_sub, BitVec.toNat_sub]
    have h1 : (1 : Int64).toBitVec.toNat = 1 := by decide
    rw [h1]
    show (2 ^ 64 - 1 + bn x) % 2 ^ 64 = _
    generalize bn x / 2 ^ (k + 1) = z at hd ⊢
    generalize 2 ^ (k + 1) * z = w at hd ⊢
    omega
  have hk1 : 2 ^ k - 1 < 2 ^ (k + 1) := by rw [Nat.pow_succ]; omega
  rw [bt_bn, e, Nat.testBit_two_pow_mul_add _ hk1]
  by_cases h1 : i < k
  · rw [if_pos (by omega), if_pos h1, Nat.testBit_two_pow_sub_one]; simp [h1]
  · by_cases h2 : i = k
    · subst h2
      rw [if_pos (by omega), if_neg h1, if_pos rfl, Nat.testBit_two_pow_sub_one]; simp
    · rw [if_neg (by omega), if_neg h1, if_neg h2, bt_bn, Nat.testBit_div_two_pow]
      congr 1; omega
theorem bt_neg (x : Int64) {i : Nat} (hi : i < 64) : bt (-x) i = !(bt (x - 1) i) := by
  have e : (-x).toBitVec = ~~~((x - 1).toBitVec) := by
    rw [Int64.toBitVec_neg, Int64.toBitVec_sub]
    have h1 : (1 : Int64).toBitVec = 1#64 := by decide
    rw [h1, BitVec.neg_eq_not_add, BitVec.not_sub_one_eq_not_add_one]
  show (-x).toBitVec.getLsbD i = _
  rw [e, BitVec.getLsbD_not]
  simp [hi, bt]
theorem bt_lowest {x : Int64} {k : Nat} (h : low x k) {i : Nat} (hi : i < 64) : bt (x &&& -x) i = decide (i = k) := by
  rw [bt_and, bt_neg x hi, low_sub h hi]
  by_cases h1 : i < k
  · rw [if_pos h1, h.2.2 i h1]; simp; omega
  · rw [if_neg h1]
    by_cases h2 : i = k
    · rw [if_pos h2, h2, h.2.1]; simp
    · rw [if_neg h2]; cases bt x i <;> simp [h2]
theorem bt_clear {x : Int64} {k : Nat} (h : low x k) {i : Nat} (hi : i < 64) : bt (x &&& (x - 1)) i = if i = k then false else bt x i := by
  rw [bt_and, low_sub h hi]
  by_cases h1 : i < k
  · rw [if_pos h1, if_neg (by omega)]; simp
  · rw [if_neg h1]
    by_cases h2 : i = k
    · rw [if_pos h2]; simp
    · rw [if_neg h2]; cases bt x i <;> rfl
def cnt (x : Int64) : Nat := fb_ct (bt x) 64
theorem cnt_le (x : Int64) : cnt x ≤ 64 := fb_ct_le _ _
theorem cnt_zero : cnt 0 = 0 := fb_ct_zero.mpr (fun k _ => bt_zero k)
theorem cnt_pos {x : Int64} (h : x ≠ 0) : 0 < cnt x := by
  obtain ⟨k, h1, h2, _⟩ := low_ex h
  exact fb_ct_pos.mpr ⟨k, h1, h2⟩
theorem cnt_clear {x : Int64} (h : x ≠ 0) : cnt (x &&& (x - 1)) + 1 = cnt x := by
  obtain ⟨k, hk⟩ := low_ex h
  have e : cnt (x &&& (x - 1)) = fb_ct (fun i => if i = k then false else bt x i) 64 := fb_ct_cong (fun i hi => bt_clear hk hi)
  have := fb_ct_upd (bt x) false (i := k) (n := 64) hk.1
  rw [hk.2.1] at this
  rw [e]
  show _ + 1 = fb_ct (bt x) 64
  simpa using this
theorem mo_bits_go : ∀ (n : Nat) (x : Int64) (a : Nat), cnt x < n → fl2 mo_bits_B4 n (nI a) x = some (nI (a + cnt x)) := by
  intro n
  induction n with
  | zero => intro x a h; omega
  | succ n ih =>
    intro x a h
    show mo_bits_B4 (fl2 mo_bits_B4 n) (nI a) x = _
    unfold mo_bits_B4
    by_cases hx : x = 0
    · rw [if_pos hx, hx, cnt_zero]; rfl
    · rw [if_neg hx]
      show fl2 mo_bits_B4 n (nI a + 1) (x &&& (x - 1)) = _
      have h1 := cnt_clear hx
      rw [show nI a + 1 = nI (a + 1) from nI_1 a, ih _ _ (by omega)]
      congr 2; omega
theorem mo_bits_eq (x : Int64) : mo_bits x = some (nI (cnt x)) := by
  have := mo_bits_go FU x 0 (FU_lt (Nat.lt_of_le_of_lt (cnt_le x) (by decide)))
  rw [Nat.zero_add] at this
  exact this
/-! the reference's lowest, has; the class's lowest -/
theorem ss_bit (x : Int64) {k : Nat} (hk : k < 64) : (ss x (nI k) &&& 1 = 1 ↔ bt x k = true) ∧ (ss x (nI k) &&& 1 = 0 ↔ bt x k = false) := by
  have hb : bt (ss x (nI k)) 0 = bt x k := by
    show (x >>> ((nI k).toInt64 &&& 63)).toBitVec.getLsbD 0 = _
    rw [Int64.toBitVec_shiftRight, BitVec.sshiftRight_eq', sh_l ⟨k, hk⟩, BitVec.getLsbD_sshiftRight]
    simp [hk, bt]
  have h1 : ∀ y : Int64, (y &&& 1 = 1 ↔ bt y 0 = true) ∧ (y &&& 1 = 0 ↔ bt y 0 = false) := by
    intro y
    have e1 : ∀ i, i < 64 → bt 1 i = decide (i = 0) := by
      have : ∀ i : Fin 64, bt 1 i.val = decide (i.val = 0) := by decide
      exact fun i hi => this ⟨i, hi⟩
    have e : bt y 0 = true → y &&& 1 = 1 := fun h => bt_ext (fun i hi => by
      rw [bt_and, e1 i hi]
      by_cases h0 : i = 0
      · subst h0; rw [h]; rfl
      · simp [h0])
    have e' : bt y 0 = false → y &&& 1 = 0 := fun h => bt_ext (fun i hi => by
      rw [bt_and, e1 i hi, bt_zero]
      by_cases h0 : i = 0
      · subst h0; rw [h]; rfl
      · simp [h0])
    have n01 : (0 : Int64) ≠ 1 := by decide
    cases hy : bt y 0 with
    | true => exact ⟨⟨fun _ => rfl, fun _ => e hy⟩, ⟨fun h => absurd (h.symm.trans (e hy)) n01, fun h => by cases h⟩⟩
    | false => exact ⟨⟨fun h => absurd ((e' hy).symm.trans h) n01, fun h => by cases h⟩, ⟨fun _ => rfl, fun _ => e' hy⟩⟩
  have h2 := h1 (ss x (nI k))
  rw [hb] at h2
  exact h2
theorem mo_lowest_go {x : Int64} {k : Nat} (h : low x k) : ∀ (n j : Nat), j ≤ k → k - j < n → fl1 (mo_lowest_B2 x) n (nI j) = some (nI k) := by
  intro n
  induction n with
  | zero => intro j _ h; omega
  | succ n ih =>
    intro j hj hn
    show mo_lowest_B2 x (fl1 (mo_lowest_B2 x) n) (nI j) = _
    unfold mo_lowest_B2
    have hk := h.1
    by_cases hjk : j = k
    · subst hjk
      rw [if_neg]
      intro q
      have := (ss_bit x hk).2.mp q
      rw [h.2.1] at this; cases this
    · rw [if_pos ((ss_bit x (by omega)).2.mpr (h.2.2 j (by omega)))]
      show fl1 (mo_lowest_B2 x) n (nI j + 1) = _
      rw [nI_1, ih _ (by omega) (by omega)]
theorem mo_lowest_eq {x : Int64} {k : Nat} (h : low x k) : mo_lowest x = some (nI k) := by
  have := mo_lowest_go h FU 0 (Nat.zero_le _) (FU_lt (by have := h.1; omega))
  exact this
