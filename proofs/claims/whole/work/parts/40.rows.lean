/-! LAYER 2: rows and columns whole -/
def rowN (f : Int64) (y : Nat) : Nat := (bn f / 2 ^ (8 * y)) % 256
theorem rowN_bit (f : Int64) {y x : Nat} (hx : x < 8) : (rowN f y).testBit x = bt f (8 * y + x) := by
  unfold rowN
  rw [show (256 : Nat) = 2 ^ 8 from rfl, Nat.testBit_mod_two_pow, decide_eq_true hx, Bool.true_and, Nat.testBit_div_two_pow, bt_bn, Nat.add_comm]
theorem bt_ofNat (r : Nat) (hr : r < 2 ^ 64) (i : Nat) : bt (Int64.ofNat r) i = r.testBit i := by
  rw [bt_bn]
  congr 1
  show (Int64.ofNat r).toBitVec.toNat = r
  show (BitVec.ofNat 64 r).toNat = r
  rw [BitVec.toNat_ofNat, Nat.mod_eq_of_lt hr]
theorem row_ofNat (f : Int64) {y : Nat} (hy : y < 8) : ss f (nI (8 * y)) &&& 255 = Int64.ofNat (rowN f y) := by
  apply bt_ext
  intro i hi
  have hr : rowN f y < 256 := Nat.mod_lt _ (by omega)
  rw [bt_and, bt_ofNat _ (by omega), k_255 hi]
  by_cases q : i < 8
  · rw [decide_eq_true q, Bool.and_true, bt_ss f (by omega), rowN_bit f q]
  · rw [decide_eq_false q, Bool.and_false, Nat.testBit_lt_two_pow (Nat.lt_of_lt_of_le (show rowN f y < 2 ^ 8 from hr) (Nat.pow_le_pow_right (by omega) (by omega)))]
def stp (p : Nat → Bool) : Nat := fb_ct (fun x => p x && !(decide (1 ≤ x) && p (x - 1))) 8
theorem stp_cong {p q : Nat → Bool} (h : ∀ x, x < 8 → p x = q x) : stp p = stp q := fb_ct_cong (fun x hx => by rw [h x hx, h (x - 1) (by omega)])
theorem row_test : ∀ r : Fin 256, ((Int64.ofNat r.val + (Int64.ofNat r.val &&& -(Int64.ofNat r.val))) &&& Int64.ofNat r.val = 0) ↔ stp (Nat.testBit r.val) ≤ 1 := by decide +kernel
theorem row_ctg : ∀ r : Fin 256, stp (Nat.testBit r.val) ≤ 1 ↔ ∀ a b c : Fin 8, a < b → b < c → r.val.testBit a.val = true → r.val.testBit c.val = true → r.val.testBit b.val = true := by decide +kernel
theorem row_low : ∀ r : Fin 256, (r.val = 0 → stp (Nat.testBit r.val) = 0) ∧ (r.val ≠ 0 → 1 ≤ stp (Nat.testBit r.val)) := by decide +kernel
def st (f : Int64) (y : Nat) : Nat := stp (fun x => bt f (8 * y + x))
theorem st_N (f : Int64) (y : Nat) : st f y = stp (Nat.testBit (rowN f y)) := stp_cong (fun x hx => (rowN_bit f hx).symm)
theorem rowN_lt (f : Int64) (y : Nat) : rowN f y < 256 := Nat.mod_lt _ (by omega)
theorem rowN_0 (f : Int64) (y : Nat) : rowN f y = 0 ↔ ¬ ∃ x, x < 8 ∧ bt f (8 * y + x) = true := by
  constructor
  · rintro h ⟨x, hx, hb⟩
    rw [← rowN_bit f hx, h, Nat.zero_testBit] at hb; cases hb
  · intro h
    apply Nat.eq_of_testBit_eq
    intro i
    rw [Nat.zero_testBit]
    by_cases q : i < 8
    · rw [rowN_bit f q]
      exact bf_of (fun hb => h ⟨i, q, hb⟩)
    · exact Nat.testBit_lt_two_pow (Nat.lt_of_lt_of_le (show rowN f y < 2 ^ 8 from rowN_lt f y) (Nat.pow_le_pow_right (by omega) (by omega)))
theorem mo_rowWhole_eq (f : Int64) : ((∀ y, y < 7 → st f y ≤ 1) → mo_rowWhole f = some 1) ∧ ((¬ ∀ y, y < 7 → st f y ≤ 1) → mo_rowWhole f = some 0) := by
  have step : ∀ y, y < 7 → st f y ≤ 1 → ∀ k, mo_rowWhole_B2 f k (nI y) = k (nI (y + 1)) := by
    intro y hy hs k
    rw [mo_rowWhole_B2, if_neg (show ¬ (7 : Int32) ≤ nI y from nI_ge (a := y) (b := 7) hy (by omega)), show (8 * nI y : Int32) = nI (8 * y) from by rw [show (8 : Int32) = nI 8 from rfl, pk_mul], nm_eq, nm_eq, row_ofNat f (by omega)]
    unfold mo_rowWhole_J44
    rw [nm_eq, o1]
    by_cases c : Int64.ofNat (rowN f y) = 0
    · rw [if_pos c]
    · rw [if_neg c, if_pos ((row_test ⟨_, rowN_lt f y⟩).mpr (by rw [← st_N]; exact hs))]
  constructor
  · intro h
    unfold mo_rowWhole
    rw [show (0 : Int32) = nI 0 from nI_0.symm]
    refine crs1 (B := mo_rowWhole_B2 f) nI 7 (fun y hy k => step y hy (h y hy) k) (fun k => ?_) FU (FU_lt (by omega))
    rw [mo_rowWhole_B2, if_pos (show (7 : Int32) ≤ nI 7 from nI_le (a := 7) (b := 7) (by omega) (by omega))]
  · intro h
    have hex : ∃ y, y < 7 ∧ ¬ st f y ≤ 1 := by
      apply Classical.byContradiction
      intro hn
      exact h (fun y hy => Classical.byContradiction (fun q => hn ⟨y, hy, q⟩))
    obtain ⟨N, hN, hbad, hfst⟩ := fb_first (p := fun y => ¬ st f y ≤ 1) hex
    unfold mo_rowWhole
    rw [show fl1 (mo_rowWhole_B2 f) FU 0 = fl1 (mo_rowWhole_B2 f) FU (nI 0) by rw [nI_0]]
    refine crs1 (B := mo_rowWhole_B2 f) nI N (fun y hy k => step y (by omega) (Classical.not_not.mp (hfst y hy)) k) (fun k => ?_) FU (FU_lt (by omega))
    rw [mo_rowWhole_B2, if_neg (show ¬ (7 : Int32) ≤ nI N from nI_ge (a := N) (b := 7) hN (by omega)), show (8 * nI N : Int32) = nI (8 * N) from by rw [show (8 : Int32) = nI 8 from rfl, pk_mul], nm_eq, nm_eq, row_ofNat f (by omega)]
    have t1 := row_test ⟨_, rowN_lt f N⟩
    rw [← st_N] at t1
    have t2 := row_low ⟨_, rowN_lt f N⟩
    rw [← st_N] at t2
    rw [if_neg, if_neg (fun e => hbad (t1.mp e))]
    intro e
    have h0 : rowN f N = 0 := by
      apply Nat.eq_of_testBit_eq
      intro i
      rw [Nat.zero_testBit, ← bt_ofNat _ (by have := rowN_lt f N; omega), e, bt_zero]
    have := t2.1 h0
    omega
theorem sm_eq_iff {a b : Nat → Nat} : ∀ {n : Nat}, (∀ k, k < n → b k ≤ a k) → (fb_sm a n = fb_sm b n ↔ ∀ k, k < n → a k ≤ b k) := by
  intro n
  induction n with
  | zero => intro _; exact ⟨fun _ k hk => by omega, fun _ => rfl⟩
  | succ n ih =>
    intro h
    have h1 := ih (fun k hk => h k (by omega))
    have h2 : fb_sm b n ≤ fb_sm a n := fb_sm_le (fun k hk => h k (by omega))
    have h3 := h n (by omega)
    rw [fb_sm_succ, fb_sm_succ]
    constructor
    · intro e k hk
      rcases Nat.lt_or_ge k n with q | q
      · exact h1.mp (by omega) k q
      · have : k = n := by omega
        subst this; omega
    · intro e
      have := h1.mpr (fun k hk => e k (by omega))
      have := e n (by omega)
      omega
theorem runs_eq {f : Int64} (hf : C7 f) : cnt (f &&& (sl f 1 ^^^ (-1))) = fb_sm (st f) 8 := by
  rw [cnt_rows]
  refine fb_sm_cong (fun y hy => ?_)
  unfold st stp
  refine fb_ct_cong (fun x hx => ?_)
  have h64 : 8 * y + x < 64 := by omega
  rw [bt_and, bt_xor, bt_m1 h64, ← hB_l hf hx hy]
  cases x with
  | zero => rw [hB_o f (by omega)]; rfl
  | succ x => rw [show ((x + 1 : Nat) : Int) - 1 = (x : Nat) by omega, hB_n f (by omega) hy, decide_eq_true (show 1 ≤ x + 1 by omega), show x + 1 - 1 = x by omega]; simp
theorem bool_b2 {p : Nat → Bool} {n : Nat} : fb_ct p n = fb_sm (fun y => if p y then 1 else 0) n := (sm_ct p n).symm
theorem whole_iff {f : Int64} : fb_sm (st f) 8 = hgt f ↔ ∀ y, y < 8 → st f y ≤ 1 := by
  unfold hgt
  have hb : ∀ y, y < 8 → (if bt (grw f) (8 * y) then 1 else 0) ≤ st f y ∧ (st f y ≤ 1 → st f y ≤ if bt (grw f) (8 * y) then 1 else 0) := by
    intro y hy
    have t2 := row_low ⟨_, rowN_lt f y⟩
    rw [← st_N] at t2
    have t3 := rowN_0 f y
    have t4 := bt_grw f hy
    by_cases q : rowN f y = 0
    · have e := t2.1 q
      have e2 : bt (grw f) (8 * y) = false := bf_of (fun h => (t3.mp q) (t4.mp h))
      rw [e, e2]; exact ⟨Nat.le_refl _, fun _ => Nat.le_refl _⟩
    · have e := t2.2 q
      have e2 : bt (grw f) (8 * y) = true := t4.mpr (Classical.byContradiction (fun h => q (t3.mpr h)))
      rw [e2, if_pos rfl]; exact ⟨e, fun h => h⟩
  rw [bool_b2, sm_eq_iff (fun k hk => (hb k hk).1)]
  constructor
  · intro h y hy
    have := h y hy
    have h2 : (if bt (grw f) (8 * y) then 1 else 0) ≤ 1 := by split <;> omega
    omega
  · intro h y hy
    exact (hb y hy).2 (h y hy)
theorem st_ctg (f : Int64) (y : Nat) : st f y ≤ 1 ↔ ∀ a b c, a < b → b < c → c < 8 → bt f (8 * y + a) = true → bt f (8 * y + c) = true → bt f (8 * y + b) = true := by
  rw [st_N, row_ctg ⟨_, rowN_lt f y⟩]
  constructor
  · intro h a b c hab hbc hc h1 h2
    have := h ⟨a, by omega⟩ ⟨b, by omega⟩ ⟨c, hc⟩ hab hbc (by rw [rowN_bit f (by omega)]; exact h1) (by rw [rowN_bit f hc]; exact h2)
    rw [rowN_bit f (by omega)] at this
    exact this
  · intro h a b c hab hbc h1 h2
    rw [rowN_bit f a.isLt] at h1
    rw [rowN_bit f c.isLt] at h2
    rw [rowN_bit f b.isLt]
    exact h _ _ _ hab hbc c.isLt h1 h2
def RW (f : Int64) : Prop := ∀ Y A B C : Int, A < B → B < C → pt f A Y → pt f C Y → pt f B Y
def CW (f : Int64) : Prop := ∀ X A B C : Int, A < B → B < C → pt f X A → pt f X C → pt f X B
theorem RW_iff (f : Int64) : RW f ↔ ∀ y, y < 8 → st f y ≤ 1 := by
  constructor
  · intro h y hy
    rw [st_ctg]
    intro a b c hab hbc hc h1 h2
    obtain ⟨j, hj, e1, e2⟩ := h y a b c (by omega) (by omega) ⟨8 * y + a, h1, by omega, by omega⟩ ⟨8 * y + c, h2, by omega, by omega⟩
    rw [show 8 * y + b = j by omega]; exact hj
  · intro h Y A B C hAB hBC ⟨a, ha, e1, e2⟩ ⟨c, hc, e3, e4⟩
    have h64 := bt_lt ha
    have h65 := bt_lt hc
    have hst := (st_ctg f (a / 8)).mp (h _ (by omega)) (a % 8) B.toNat (c % 8) (by omega) (by omega) (by omega) (by rw [show 8 * (a / 8) + a % 8 = a by omega]; exact ha) (by rw [show 8 * (a / 8) + c % 8 = c by omega]; exact hc)
    exact ⟨_, hst, by omega, by omega⟩
theorem pt_trp (f : Int64) (X Y : Int) : pt (trp f) X Y ↔ pt f Y X := by
  constructor
  · rintro ⟨i, hi, e1, e2⟩
    obtain ⟨j, hj, rfl⟩ := (trp_img i).mp hi
    have := bt_lt hj
    exact ⟨j, hj, by omega, by omega⟩
  · rintro ⟨j, hj, e1, e2⟩
    have := bt_lt hj
    exact ⟨_, (trp_img _).mpr ⟨j, hj, rfl⟩, by omega, by omega⟩
theorem CW_iff (f : Int64) : CW f ↔ ∀ y, y < 8 → st (trp f) y ≤ 1 := by
  rw [← RW_iff]
  constructor
  · intro h Y A B C a b c d
    rw [pt_trp] at c d ⊢
    exact h Y A B C a b c d
  · intro h X A B C a b c d
    rw [← pt_trp] at c d ⊢
    exact h X A B C a b c d
theorem RW_qf {f : Int64} (hf : FIG f) : RW (qf f) ↔ CW f := by
  obtain ⟨u, v, h⟩ := qf_pt hf
  constructor
  · intro hr X A B C hAB hBC h1 h2
    have := hr (X - u) (v - C) (v - B) (v - A) (by omega) (by omega) ((h _ _).mpr (by rw [show X - u + u = X by omega, show v - (v - C) = C by omega]; exact h2)) ((h _ _).mpr (by rw [show X - u + u = X by omega, show v - (v - A) = A by omega]; exact h1))
    rw [h, show X - u + u = X by omega, show v - (v - B) = B by omega] at this
    exact this
  · intro hc Y A B C hAB hBC h1 h2
    rw [h] at h1 h2 ⊢
    exact hc (Y + u) (v - C) (v - B) (v - A) (by omega) (by omega) h2 h1
theorem six_seven {f : Int64} (h : F77 f) : (∀ y, y < 7 → st f y ≤ 1) ↔ ∀ y, y < 8 → st f y ≤ 1 := by
  constructor
  · intro a y hy
    rcases Nat.lt_or_ge y 7 with q | q
    · exact a y q
    · have : y = 7 := by omega
      subst this
      rw [st_ctg]
      intro x1 _ _ _ _ _ hb
      have := h _ hb; omega
  · intro a y hy; exact a y (by omega)
theorem rowWhole_ok {f : Int64} (hf : FIG f) : ∃ n, n ≤ 1 ∧ mo_rowWhole f = some (nI n) ∧ tr_isRowWhole f = some (nI n) := by
  have e := runs_eq hf.1.c7
  have w := whole_iff (f := f)
  have s := six_seven hf.1
  have m := mo_rowWhole_eq f
  unfold tr_isRowWhole
  rw [jl_bitCount_eq, bd1_some, gr_height_eq, bd1_some, e, zb_0, zb_1]
  have b1 : fb_sm (st f) 8 < 2 ^ 31 := by rw [← e]; have := cnt_le (f &&& (sl f 1 ^^^ (-1))); omega
  have b2 := wdt_b hf
  by_cases q : ∀ y, y < 8 → st f y ≤ 1
  · refine ⟨1, by omega, (m.1 (s.mpr q)), ?_⟩
    rw [w.mpr q, if_pos rfl]; rfl
  · refine ⟨0, by omega, (m.2 (fun h => q (s.mp h))), ?_⟩
    rw [if_neg (fun h => q (w.mp ((nI_eq b1 (by omega)).mp h)))]; rfl
theorem stp_col {f : Int64} : cnt (f &&& (sl f 8 ^^^ (-1))) = fb_sm (st (trp f)) 8 := by
  rw [← cnt_trp, cnt_rows]
  refine fb_sm_cong (fun x hx => ?_)
  unfold st stp
  refine fb_ct_cong (fun y hy => ?_)
  have h64 : 8 * x + y < 64 := by omega
  show _ = (bt (trp f) (8 * x + y) && !(decide (1 ≤ y) && bt (trp f) (8 * x + (y - 1))))
  rw [bt_trp _ h64, show (8 * x + y) % 8 = y by omega, show (8 * x + y) / 8 = x by omega, bt_and, bt_xor, bt_m1 (by omega), ← hB_u hx hy, bt_trp f h64, show (8 * x + y) % 8 = y by omega, show (8 * x + y) / 8 = x by omega]
  cases y with
  | zero => rw [hB_o f (by omega)]; rfl
  | succ y => rw [show ((y + 1 : Nat) : Int) - 1 = (y : Nat) by omega, hB_n f hx (by omega), decide_eq_true (show 1 ≤ y + 1 by omega), show y + 1 - 1 = y by omega, bt_trp f (by omega), show (8 * x + y) % 8 = y by omega, show (8 * x + y) / 8 = x by omega]; simp
theorem wdt_trp {f : Int64} : hgt (trp f) = wdt f := by
  unfold hgt wdt cnt
  have z : fb_ct (fun k => bt (gcol f) (8 + k)) 56 = 0 := fb_ct_zero.mpr (fun k _ => bf_of (fun hb => by have := ((bt_gcol f).mp hb).1; omega))
  rw [show fb_ct (bt (gcol f)) 64 = fb_ct (bt (gcol f)) (8 + 56) from rfl, fb_ct_split, z, Nat.add_zero]
  refine fb_ct_cong (fun y hy => ?_)
  have h1 := bt_grw (trp f) hy
  have h2 := bt_gcol f (j := y)
  have e : bt (grw (trp f)) (8 * y) = true ↔ bt (gcol f) y = true := by
    rw [h1, h2]
    constructor
    · rintro ⟨x, hx, hb⟩
      rw [bt_trp f (by omega), show (8 * y + x) % 8 = x by omega, show (8 * y + x) / 8 = y by omega] at hb
      exact ⟨hy, x, hb⟩
    · rintro ⟨_, x, hb⟩
      have := bt_lt hb
      refine ⟨x, by omega, ?_⟩
      rw [bt_trp f (by omega), show (8 * y + x) % 8 = x by omega, show (8 * y + x) / 8 = y by omega]
      exact hb
  cases hb : bt (gcol f) y with
  | true => exact e.mpr hb
  | false => exact bf_of (fun h => by rw [e.mp h] at hb; cases hb)
theorem columnWhole_ok {f : Int64} (hf : FIG f) : ∃ n, n ≤ 1 ∧ mo_rowWhole (qf f) = some (nI n) ∧ tr_isColumnWhole f = some (nI n) := by
  have w := whole_iff (f := trp f)
  have s := six_seven (qf_F hf).1
  have m := mo_rowWhole_eq (qf f)
  have r := RW_qf hf
  rw [RW_iff, CW_iff] at r
  unfold tr_isColumnWhole
  rw [jl_bitCount_eq, bd1_some, gr_width_eq, bd1_some, stp_col, zb_0, zb_1]
  rw [wdt_trp] at w
  have b1 : fb_sm (st (trp f)) 8 < 2 ^ 31 := by rw [← stp_col]; have := cnt_le (f &&& (sl f 8 ^^^ (-1))); omega
  have b2 := wdt_b hf
  by_cases q : ∀ y, y < 8 → st (trp f) y ≤ 1
  · refine ⟨1, by omega, (m.1 (s.mpr (r.mpr q))), ?_⟩
    rw [w.mpr q, if_pos rfl]; rfl
  · refine ⟨0, by omega, (m.2 (fun h => q (r.mp (s.mp h)))), ?_⟩
    rw [if_neg (fun h => q (w.mp ((nI_eq b1 (by omega)).mp h)))]; rfl
