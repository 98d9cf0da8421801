/-! the packed list means what it should -/
theorem tbN_eq (m n : Nat) : tbN m n = m.testBit n := by
  unfold tbN
  rw [Nat.testBit_eq_decide_div_mod_eq, Nat.shiftRight_eq_div_pow]
  apply bool_iff
  rw [Nat.beq_eq, decide_eq_true_eq]
noncomputable def Lf (i : Nat) : Int64 := Int64.ofNat (Lt i)
theorem Lt_lt (i : Nat) : Lt i < 2 ^ 56 := Nat.mod_lt _ (by decide)
theorem bt_ofN {N : Nat} (h : N < 2 ^ 56) (k : Nat) : bt (Int64.ofNat N) k = N.testBit k := bt_ofNat N (by omega) k
theorem ble_t {a b : Nat} : Nat.ble a b = true ↔ a ≤ b := ⟨Nat.le_of_ble_eq_true, Nat.ble_eq_true_of_le⟩
theorem k_c6N {k : Nat} (h : k < 64) : Nat.testBit 18085043209519168 k = decide (k % 8 = 6 ∧ k < 56) := by
  have : ∀ k : Fin 64, Nat.testBit 18085043209519168 k.val = decide (k.val % 8 = 6 ∧ k.val < 56) := by decide +kernel
  exact this ⟨k, h⟩
theorem w7_iff {N : Nat} (hN : N < 2 ^ 56) (hf : FIG (Int64.ofNat N)) : w7 N = decide (wdt (Int64.ofNat N) < 7) := by
  have wb := wdt_b hf
  apply bool_iff
  unfold w7
  rw [Nat.beq_eq, decide_eq_true_eq]
  constructor
  · intro h
    refine Classical.byContradiction (fun q => ?_)
    obtain ⟨y, hy⟩ := (FIG_w hf (x := 6) (by omega)).mpr (by omega)
    have h77 := hf.1 _ hy
    rw [bt_ofN hN] at hy
    have := congrArg (fun z => Nat.testBit z (8 * y + 6)) h
    simp only [Nat.testBit_and, Nat.zero_testBit] at this
    rw [hy, k_c6N (by omega), decide_eq_true (by omega)] at this
    cases this
  · intro h
    apply Nat.eq_of_testBit_eq
    intro k
    rw [Nat.testBit_and, Nat.zero_testBit]
    cases hk : N.testBit k with
    | false => rfl
    | true =>
      have k64 : k < 64 := bt_lt (by rw [bt_ofN hN]; exact hk)
      rw [k_c6N k64]
      rw [← bt_ofN hN] at hk
      have := bt_wh hf hk
      rw [decide_eq_false (by omega)]; rfl
theorem h7_iff {N : Nat} (hN : N < 2 ^ 56) (hf : FIG (Int64.ofNat N)) : h7 N = decide (hgt (Int64.ofNat N) < 7) := by
  have wb := wdt_b hf
  apply bool_iff
  unfold h7
  rw [ble_t, decide_eq_true_eq]
  constructor
  · intro h
    refine Classical.byContradiction (fun q => ?_)
    obtain ⟨x, hx, hb⟩ := (FIG_h hf (y := 6) (by omega)).mpr (by omega)
    rw [bt_ofN hN] at hb
    rw [Nat.testBit_lt_two_pow (Nat.lt_of_lt_of_le (show N < 2 ^ 48 by omega) (Nat.pow_le_pow_right (n := 2) (by omega) (show 48 ≤ 8 * 6 + x by omega)))] at hb
    cases hb
  · intro h
    have : N < 2 ^ 48 := Nat.lt_pow_two_of_testBit N (fun i hi => by
      cases hk : N.testBit i with
      | false => rfl
      | true =>
        rw [← bt_ofN hN] at hk
        have := bt_wh hf hk
        omega)
    omega
def shN (bx byy : Bool) (N : Nat) : Nat := cond byy 256 1 * (cond bx 2 1 * N)
theorem shN_lt {bx byy : Bool} {N : Nat} (hN : N < 2 ^ 56) (hy : byy = true → N < 2 ^ 48) : shN bx byy N < 2 ^ 58 := by
  unfold shN
  cases bx <;> cases byy
  · show 1 * (1 * N) < _; omega
  · have := hy rfl; show 256 * (1 * N) < _; omega
  · show 1 * (2 * N) < _; omega
  · have := hy rfl; show 256 * (2 * N) < _; omega
theorem tb_shl (N n k : Nat) : (2 ^ n * N).testBit k = (decide (n ≤ k) && N.testBit (k - n)) := by
  rw [Nat.mul_comm, ← Nat.shiftLeft_eq, Nat.testBit_shiftLeft]
theorem sl1_N {N : Nat} (hN : N < 2 ^ 62) : sl (Int64.ofNat N) 1 = Int64.ofNat (2 * N) := by
  apply bt_ext
  intro i hi
  rw [show (1 : Int32) = nI 1 from rfl, bt_sl _ (by omega) hi, bt_ofNat N (by omega), bt_ofNat _ (by omega), show 2 * N = 2 ^ 1 * N by omega, tb_shl]
theorem sl8_N {N : Nat} (hN : N < 2 ^ 55) : sl (Int64.ofNat N) 8 = Int64.ofNat (256 * N) := by
  apply bt_ext
  intro i hi
  rw [show (8 : Int32) = nI 8 from rfl, bt_sl _ (by omega) hi, bt_ofNat N (by omega), bt_ofNat _ (by omega), show 256 * N = 2 ^ 8 * N by omega, tb_shl]
theorem rmB_N {bx byy : Bool} {N : Nat} (hN : N < 2 ^ 56) (hy : byy = true → N < 2 ^ 48) : rmB bx byy (Int64.ofNat N) = Int64.ofNat (shN bx byy N) := by
  unfold rmB shN
  cases bx <;> cases byy
  · show Int64.ofNat N = Int64.ofNat (1 * (1 * N)); rw [Nat.one_mul, Nat.one_mul]
  · have := hy rfl
    show sl (Int64.ofNat N) 8 = Int64.ofNat (256 * (1 * N))
    rw [Nat.one_mul, sl8_N (by omega)]
  · show sl (Int64.ofNat N) 1 = Int64.ofNat (1 * (2 * N))
    rw [Nat.one_mul, sl1_N (by omega)]
  · have := hy rfl
    show sl (sl (Int64.ofNat N) 1) 8 = Int64.ofNat (256 * (2 * N))
    rw [sl1_N (by omega), sl8_N (by omega)]
theorem rmN_sh (N : Nat) : rmN N = shN (w7 N) (h7 N) N := by
  unfold rmN shN
  cases w7 N <;> cases h7 N <;> simp
theorem h7_48 {N : Nat} (h : h7 N = true) : N < 2 ^ 48 := by
  unfold h7 at h
  rw [ble_t] at h
  omega
theorem rmL_N {N : Nat} (hN : N < 2 ^ 56) (hf : FIG (Int64.ofNat N)) : rmL (Int64.ofNat N) = Int64.ofNat (rmN N) := by
  unfold rmL
  rw [rmN_sh, ← w7_iff hN hf, ← h7_iff hN hf, rmB_N hN (fun h => h7_48 h)]
theorem rmN_lt {N : Nat} (hN : N < 2 ^ 56) : rmN N < 2 ^ 58 := by rw [rmN_sh]; exact shN_lt hN (fun h => h7_48 h)
theorem gar_N {R : Nat} (hR : R < 2 ^ 58) {i : Nat} (hi : i < 64) : bt (gar (Int64.ofNat R)) i = ((((R <<< 1) ||| (R >>> 1)) ||| (R <<< 8)) ||| (R >>> 8)).testBit i := by
  rw [bt_gar _ hi, Nat.testBit_or, Nat.testBit_or, Nat.testBit_or, Nat.testBit_shiftLeft, Nat.testBit_shiftRight, Nat.testBit_shiftLeft, Nat.testBit_shiftRight]
  simp only [bt_ofNat R (show R < 2 ^ 64 by omega)]
theorem f64_bit {i : Nat} (hi : i < 64) : Nat.testBit 18446744073709551615 i = true := by
  have : ∀ i : Fin 64, Nat.testBit 18446744073709551615 i.val = true := by decide +kernel
  exact this ⟨i, hi⟩
theorem n7F_bit {i : Nat} (hi : i < 64) : Nat.testBit 9187201950435737471 i = bt 9187201950435737471 i := by
  have : ∀ i : Fin 64, Nat.testBit 9187201950435737471 i.val = bt 9187201950435737471 i.val := by decide +kernel
  exact this ⟨i, hi⟩
theorem n56_bit {i : Nat} (hi : i < 64) : Nat.testBit 72057594037927935 i = bt 72057594037927935 i := by
  have : ∀ i : Fin 64, Nat.testBit 72057594037927935 i.val = bt 72057594037927935 i.val := by decide +kernel
  exact this ⟨i, hi⟩
theorem stN_eq {N : Nat} (hN : N < 2 ^ 56) (hf : FIG (Int64.ofNat N)) {i : Nat} (hi : i < 64) : bt (stL (Int64.ofNat N)) i = tbN (stN N) i := by
  have rl := rmN_lt hN
  have cw := w7_iff hN hf
  have ch := h7_iff hN hf
  rw [tbN_eq]
  unfold stL stN
  rw [rmL_N hN hf, bt_and, gar_N rl hi]
  simp only [Nat.testBit_and, Nat.testBit_xor, f64_bit hi]
  rw [Bool.and_assoc, Bool.and_assoc]
  congr 1
  by_cases qw : wdt (Int64.ofNat N) < 7 <;> by_cases qh : hgt (Int64.ofNat N) < 7
  · rw [decide_eq_true qw] at cw
    rw [decide_eq_true qh] at ch
    simp only [qw, qh, if_true, cw, ch, cond_true, f64_bit hi, bt_xor, bt_m1 hi, bt_ofNat _ (show rmN N < 2 ^ 64 by omega)]
    cases (rmN N).testBit i <;> rfl
  · rw [decide_eq_true qw] at cw
    rw [decide_eq_false qh] at ch
    simp only [qw, qh, if_true, if_false, cw, ch, cond_true, cond_false, f64_bit hi, bt_and, bt_xor, bt_m1 hi, bt_ofNat _ (show rmN N < 2 ^ 64 by omega), n56_bit hi]
    cases (rmN N).testBit i <;> cases bt 72057594037927935 i <;> rfl
  · rw [decide_eq_false qw] at cw
    rw [decide_eq_true qh] at ch
    simp only [qw, qh, if_true, if_false, cw, ch, cond_true, cond_false, f64_bit hi, bt_and, bt_xor, bt_m1 hi, bt_ofNat _ (show rmN N < 2 ^ 64 by omega), n7F_bit hi]
    cases (rmN N).testBit i <;> cases bt 9187201950435737471 i <;> rfl
  · rw [decide_eq_false qw] at cw
    rw [decide_eq_false qh] at ch
    simp only [qw, qh, if_false, cw, ch, cond_false, bt_and, bt_xor, bt_m1 hi, bt_ofNat _ (show rmN N < 2 ^ 64 by omega), n7F_bit hi, n56_bit hi]
    cases (rmN N).testBit i <;> cases bt 9187201950435737471 i <;> cases bt 72057594037927935 i <;> rfl
theorem wsN_eq {N : Nat} (hN : N < 2 ^ 56) (hf : FIG (Int64.ofNat N)) {s : Nat} (hs : s < 64) : wth (Int64.ofNat N) (((s % 8 : Nat) : Int) - rxI (Int64.ofNat N)) (((s / 8 : Nat) : Int) - ryI (Int64.ofNat N)) = Int64.ofNat (wsN N s) := by
  have cw := w7_iff hN hf
  have ch := h7_iff hN hf
  have ex : decide (((s % 8 : Nat) : Int) - rxI (Int64.ofNat N) < 0) = bX N s := by
    unfold bX rxI zB
    rw [← cw]
    apply bool_iff
    rw [decide_eq_true_eq, Bool.and_eq_true, Nat.beq_eq]
    cases w7 N <;> simp <;> omega
  have ey : decide (((s / 8 : Nat) : Int) - ryI (Int64.ofNat N) < 0) = bY N s := by
    unfold bY ryI zB
    rw [← ch]
    apply bool_iff
    rw [decide_eq_true_eq, Bool.and_eq_true, Nat.beq_eq]
    cases h7 N <;> simp <;> omega
  have px : pz (((s % 8 : Nat) : Int) - rxI (Int64.ofNat N)) = s % 8 - cond (w7 N) 1 0 := by
    unfold pz rxI zB
    rw [← cw]
    cases w7 N
    · show (if ((s % 8 : Nat) : Int) - 0 < 0 then 0 else (((s % 8 : Nat) : Int) - 0).toNat) = s % 8 - 0
      split <;> omega
    · show (if ((s % 8 : Nat) : Int) - 1 < 0 then 0 else (((s % 8 : Nat) : Int) - 1).toNat) = s % 8 - 1
      split <;> omega
  have py : pz (((s / 8 : Nat) : Int) - ryI (Int64.ofNat N)) = s / 8 - cond (h7 N) 1 0 := by
    unfold pz ryI zB
    rw [← ch]
    cases h7 N
    · show (if ((s / 8 : Nat) : Int) - 0 < 0 then 0 else (((s / 8 : Nat) : Int) - 0).toNat) = s / 8 - 0
      split <;> omega
    · show (if ((s / 8 : Nat) : Int) - 1 < 0 then 0 else (((s / 8 : Nat) : Int) - 1).toNat) = s / 8 - 1
      split <;> omega
  have hy : bY N s = true → N < 2 ^ 48 := by
    intro h
    unfold bY at h
    rw [Bool.and_eq_true] at h
    exact h7_48 h.1
  unfold wth
  rw [ex, ey, px, py, rmB_N hN hy]
  have m64 : 8 * (s / 8 - cond (h7 N) 1 0) + (s % 8 - cond (w7 N) 1 0) < 64 := by omega
  have e : wsN N s = shN (bX N s) (bY N s) N ||| 2 ^ (8 * (s / 8 - cond (h7 N) 1 0) + (s % 8 - cond (w7 N) 1 0)) := rfl
  have sl' := shN_lt (bx := bX N s) hN hy
  have l : wsN N s < 2 ^ 64 := by
    rw [e]
    exact Nat.or_lt_two_pow (by omega) (Nat.pow_lt_pow_right (by omega) m64)
  apply bt_ext
  intro i hi
  rw [bt_or, bt_ofNat _ (by omega), bt_ofNat _ l, e, Nat.testBit_or]
  congr 1
  apply bool_iff
  rw [bt_one m64, Nat.testBit_two_pow, decide_eq_true_eq]
  exact ⟨Eq.symm, Eq.symm⟩
/-! groups -/
def eN (n : Nat) : Nat := match n with
  | 0 => 0
  | 1 => 1
  | 2 => 3
  | 3 => 9
  | 4 => 28
  | 5 => 91
  | 6 => 307
  | _ => 1067
/-- of how many cells the figure at a place is -/
def gn (i : Nat) : Nat := if i < 1 then 1 else if i < 3 then 2 else if i < 9 then 3 else if i < 28 then 4 else if i < 91 then 5 else if i < 307 then 6 else 7
theorem g_ok : ∀ a : Fin 34, ∀ b : Fin 32, 32 * a.val + b.val < 1067 → gLo (32 * a.val + b.val) = eN (gn (32 * a.val + b.val)) ∧ gHi (32 * a.val + b.val) = eN (gn (32 * a.val + b.val) + 1) := by decide +kernel
theorem g_eq {i : Nat} (hi : i < 1067) : gLo i = eN (gn i) ∧ gHi i = eN (gn i + 1) := by
  have := g_ok ⟨i / 32, by omega⟩ ⟨i % 32, by omega⟩
  have e : 32 * (i / 32) + i % 32 = i := by omega
  simp only [e] at this
  exact this hi
theorem gn_of {i m : Nat} (hm : m < 7) (h1 : eN m ≤ i) (h2 : i < eN (m + 1)) : gn i = m + 1 := by
  unfold gn
  match m, hm with
  | 0, _ => have : i < 1 := h2; rw [if_pos (by omega)]
  | 1, _ => have a : 1 ≤ i := h1; have b : i < 3 := h2; rw [if_neg (by omega), if_pos (by omega)]
  | 2, _ => have a : 3 ≤ i := h1; have b : i < 9 := h2; rw [if_neg (by omega), if_neg (by omega), if_pos (by omega)]
  | 3, _ => have a : 9 ≤ i := h1; have b : i < 28 := h2; rw [if_neg (by omega), if_neg (by omega), if_neg (by omega), if_pos (by omega)]
  | 4, _ => have a : 28 ≤ i := h1; have b : i < 91 := h2; rw [if_neg (by omega), if_neg (by omega), if_neg (by omega), if_neg (by omega), if_pos (by omega)]
  | 5, _ => have a : 91 ≤ i := h1; have b : i < 307 := h2; rw [if_neg (by omega), if_neg (by omega), if_neg (by omega), if_neg (by omega), if_neg (by omega), if_pos (by omega)]
  | 6, _ => have a : 307 ≤ i := h1; have b : i < 1067 := h2; rw [if_neg (by omega), if_neg (by omega), if_neg (by omega), if_neg (by omega), if_neg (by omega), if_neg (by omega)]
  | n + 7, h => omega
theorem gn_b {i : Nat} (hi : i < 1067) : 1 ≤ gn i ∧ gn i ≤ 7 ∧ eN (gn i - 1) ≤ i ∧ i < eN (gn i) := by
  unfold gn
  by_cases q1 : i < 1
  · rw [if_pos q1]; exact ⟨by omega, by omega, by show 0 ≤ i; omega, by show i < 1; omega⟩
  · rw [if_neg q1]
    by_cases q2 : i < 3
    · rw [if_pos q2]; exact ⟨by omega, by omega, by show 1 ≤ i; omega, by show i < 3; omega⟩
    · rw [if_neg q2]
      by_cases q3 : i < 9
      · rw [if_pos q3]; exact ⟨by omega, by omega, by show 3 ≤ i; omega, by show i < 9; omega⟩
      · rw [if_neg q3]
        by_cases q4 : i < 28
        · rw [if_pos q4]; exact ⟨by omega, by omega, by show 9 ≤ i; omega, by show i < 28; omega⟩
        · rw [if_neg q4]
          by_cases q5 : i < 91
          · rw [if_pos q5]; exact ⟨by omega, by omega, by show 28 ≤ i; omega, by show i < 91; omega⟩
          · rw [if_neg q5]
            by_cases q6 : i < 307
            · rw [if_pos q6]; exact ⟨by omega, by omega, by show 91 ≤ i; omega, by show i < 307; omega⟩
            · rw [if_neg q6]; exact ⟨by omega, by omega, by show 307 ≤ i; omega, by show i < 1067; omega⟩
theorem eN_b {n : Nat} (h : n ≤ 7) : eN n ≤ 1067 := by
  have : ∀ n : Fin 8, eN n.val ≤ 1067 := by decide
  exact this ⟨n, by omega⟩
theorem eN_s {n : Nat} (h : n < 7) : eN n < eN (n + 1) := by
  have : ∀ n : Fin 7, eN n.val < eN (n.val + 1) := by decide
  exact this ⟨n, h⟩
/-- where a figure comes from -/
theorem par {i : Nat} (h0 : 0 < i) (hi : i < 1067) : tbN (stN (Lt (tP i))) (tS i) = true ∧ wsN (Lt (tP i)) (tS i) = Lt i ∧ gLo (tP i) ≤ i ∧ i < gHi (tP i) ∧ tS i < 64 := by
  have := chP_ok ⟨i / 32, by omega⟩ ⟨i % 32, by omega⟩
  have e : 32 * (i / 32) + i % 32 = i := by omega
  simp only [e] at this
  have h := this h0 hi
  unfold chP at h
  rw [Bool.and_eq_true, Bool.and_eq_true, Bool.and_eq_true, Nat.beq_eq, ble_t, ble_t] at h
  exact ⟨h.1, h.2.1, h.2.2.1, h.2.2.2, Nat.mod_lt _ (by decide)⟩
theorem gLo_gt (i : Nat) : i < 307 → i < gLo i := by
  intro h
  have := (g_eq (i := i) (by omega)).1
  rw [this]
  exact (gn_b (by omega)).2.2.2
theorem gHi_7 (i : Nat) (h : 307 ≤ i) : gHi i = 1067 ∧ gLo i = 1067 := by
  unfold gHi gLo
  rw [ble_t.mpr (show 91 ≤ i by omega), ble_t.mpr h]
  exact ⟨rfl, rfl⟩
theorem Lf_F : ∀ m i, i < m → i < 1067 → FIG (Lf i) ∧ cnt (Lf i) = gn i
  | 0, i, h, _ => by omega
  | m + 1, i, h, hi => by
    rcases Nat.eq_zero_or_pos i with z | z
    · subst z
      have : Lf 0 = 1 := by unfold Lf; decide +kernel
      rw [this]
      exact ⟨FIG_1, bt1c⟩
    · obtain ⟨p1, p2, p3, p4, p5⟩ := par z hi
      have pl : tP i < 307 := by
        rcases Nat.lt_or_ge (tP i) 307 with q | q
        · exact q
        · have := gHi_7 _ q
          omega
      have plt := gLo_gt _ pl
      obtain ⟨f1, f2⟩ := Lf_F m (tP i) (by omega) (by omega)
      have gb := gn_b (i := tP i) (by omega)
      have ge := g_eq (i := tP i) (by omega)
      have g6 : gn (tP i) ≤ 6 := by
        rcases Nat.lt_or_ge (gn (tP i)) 7 with q | q
        · omega
        · have e7 : gn (tP i) = 7 := by omega
          rw [e7] at gb
          have : (307 : Nat) ≤ tP i := gb.2.2.1
          omega
      have hb : bt (stL (Int64.ofNat (Lt (tP i)))) (tS i) = true := by rw [stN_eq (Lt_lt _) f1 p5]; exact p1
      have sc := site_c f1 hb
      have w := wth_FIG f1 (by omega) sc.1 sc.2
      have e1 := wsN_eq (Lt_lt (tP i)) f1 p5
      rw [p2] at e1
      have e2 : wth (Lf (tP i)) (((tS i % 8 : Nat) : Int) - rxI (Lf (tP i))) (((tS i / 8 : Nat) : Int) - ryI (Lf (tP i))) = Lf i := e1
      rw [e2] at w
      refine ⟨w.1, ?_⟩
      rw [w.2, f2]
      exact (gn_of (i := i) (m := gn (tP i)) (by omega) (by rw [← ge.1]; exact p3) (by rw [← ge.2]; exact p4)).symm
theorem Lf_FIG {i : Nat} (hi : i < 1067) : FIG (Lf i) := (Lf_F (i + 1) i (by omega) hi).1
theorem Lf_cnt {i : Nat} (hi : i < 1067) : cnt (Lf i) = gn i := (Lf_F (i + 1) i (by omega) hi).2
/-- grown ones are in the next group -/
theorem Lf_grow {i q : Nat} (hi : i < 307) (hq : q < 81) (h : PLq (Lf i) q = true) : ∃ j, eN (gn i) ≤ j ∧ j < eN (gn i + 1) ∧ wtq (Lf i) q = Lf j := by
  have hf := Lf_FIG (i := i) (by omega)
  obtain ⟨s, hs, rfl⟩ := PLq_onto hf hq h
  have s64 := bt_lt hs
  have ge := g_eq (i := i) (by omega)
  have := chC_ok ⟨i / 16, by omega⟩ ⟨i % 16, by omega⟩ ⟨s, s64⟩
  have e : 16 * (i / 16) + i % 16 = i := by omega
  simp only [e] at this
  have hc := this hi
  unfold chC at hc
  have hb : tbN (stN (Lt i)) s = true := by rw [← stN_eq (Lt_lt i) hf s64]; exact hs
  rw [hb, Bool.not_true, Bool.false_or] at hc
  unfold fndB at hc
  rw [Bool.and_eq_true, Bool.and_eq_true, ble_t, ble_t, Nat.beq_eq] at hc
  refine ⟨bsr (wsN (Lt i) s) 11 (gLo i) (gHi i), by rw [← ge.1]; exact hc.1, by rw [← ge.2]; exact hc.2.1, ?_⟩
  rw [wtq_sgm]
  have e1 := wsN_eq (Lt_lt i) hf s64
  have e2 : wth (Lf i) (((s % 8 : Nat) : Int) - rxI (Lf i)) (((s / 8 : Nat) : Int) - ryI (Lf i)) = Int64.ofNat (wsN (Lt i) s) := e1
  rw [e2]
  unfold Lf
  rw [hc.2.2]
/-- each one but the first is grown -/
theorem Lf_par {i : Nat} (h0 : 0 < i) (hi : i < 1067) : ∃ p q, p < 307 ∧ gn i = gn p + 1 ∧ q < 81 ∧ PLq (Lf p) q = true ∧ wtq (Lf p) q = Lf i := by
  obtain ⟨p1, p2, p3, p4, p5⟩ := par h0 hi
  have pl : tP i < 307 := by
    rcases Nat.lt_or_ge (tP i) 307 with q | q
    · exact q
    · have := gHi_7 _ q
      omega
  have f1 := Lf_FIG (i := tP i) (by omega)
  have gb := gn_b (i := tP i) (by omega)
  have ge := g_eq (i := tP i) (by omega)
  have g6 : gn (tP i) ≤ 6 := by
    rcases Nat.lt_or_ge (gn (tP i)) 7 with q | q
    · omega
    · have e7 : gn (tP i) = 7 := by omega
      rw [e7] at gb
      have : (307 : Nat) ≤ tP i := gb.2.2.1
      omega
  have hb : bt (stL (Lf (tP i))) (tS i) = true := by
    have : bt (stL (Int64.ofNat (Lt (tP i)))) (tS i) = true := by rw [stN_eq (Lt_lt _) f1 p5]; exact p1
    exact this
  have e1 := wsN_eq (Lt_lt (tP i)) f1 p5
  rw [p2] at e1
  refine ⟨tP i, sgm (Lf (tP i)) (tS i), pl, gn_of (m := gn (tP i)) (by omega) (by rw [← ge.1]; exact p3) (by rw [← ge.2]; exact p4), sgm_lt _ p5, by rw [PLq_sgm f1 p5]; exact hb, ?_⟩
  rw [wtq_sgm]
  exact e1
/-- rising within a group -/
theorem Lt_s {i : Nat} (hi : i + 1 < 1067) (hg : gn i = gn (i + 1)) : Lt i < Lt (i + 1) := by
  have := chS_ok ⟨i / 32, by omega⟩ ⟨i % 32, by omega⟩
  have e : 32 * (i / 32) + i % 32 = i := by omega
  simp only [e] at this
  have h := this (by omega)
  unfold chS at h
  rw [Bool.or_eq_true, ble_t] at h
  rcases h with h | h
  · omega
  · unfold isE at h
    simp only [Bool.or_eq_true, Nat.beq_eq] at h
    unfold gn at hg
    rcases h with h | h | h | h | h | h <;> rw [h] at hg <;> (have : i = _ := Nat.succ.inj h; subst this) <;> simp at hg
theorem Lt_mono {a b : Nat} (hab : a < b) (hb : b < 1067) (hg : gn a = gn b) : Lt a < Lt b := by
  obtain ⟨d, rfl⟩ := Nat.le.dest (show a + 1 ≤ b from hab)
  induction d with
  | zero => exact Lt_s hb hg
  | succ d ih =>
    have ga := gn_b (i := a) (by omega)
    have gb := gn_b (i := a + 1 + (d + 1)) hb
    have gm : gn (a + 1 + d) = gn a := by
      have := gn_of (m := gn a - 1) (i := a + 1 + d) (by omega) (by omega) (by rw [show gn a - 1 + 1 = gn a by omega, hg]; omega)
      omega
    have i1 := ih (by omega) (by omega) gm.symm
    have i2 := Lt_s (i := a + 1 + d) (by omega) (by rw [gm, hg]; rfl)
    have i2' : Lt (a + 1 + d) < Lt (a + 1 + (d + 1)) := i2
    omega
theorem Lf_lt {a b : Nat} (ha : a < 1067) (hb : b < 1067) (hg : gn a = gn b) : Lf a < Lf b ↔ a < b := by
  have l1 := Lt_lt a
  have l2 := Lt_lt b
  have e : Lf a < Lf b ↔ Lt a < Lt b := pk_lLT (by omega) (by omega)
  rw [e]
  constructor
  · intro h
    rcases Nat.lt_trichotomy a b with q | q | q
    · exact q
    · subst q; omega
    · have := Lt_mono q ha hg.symm; omega
  · intro h; exact Lt_mono h hb hg
theorem Lf_inj {a b : Nat} (ha : a < 1067) (hb : b < 1067) (h : Lf a = Lf b) : a = b := by
  have hg : gn a = gn b := by rw [← Lf_cnt ha, ← Lf_cnt hb, h]
  rcases Nat.lt_trichotomy a b with q | q | q
  · have := (Lf_lt ha hb hg).mpr q
    rw [h] at this
    exact absurd this (l_irr _)
  · exact q
  · have := (Lf_lt hb ha hg.symm).mpr q
    rw [h] at this
    exact absurd this (l_irr _)
