/-! LAYER 2: turned and mirrored -/
def flp (v0 : Int64) : Int64 :=
  let a := ((su v0 1) &&& (6148914691236517205 : Int64)) ||| (sl (v0 &&& (6148914691236517205 : Int64)) 1)
  let b := ((su a 2) &&& (3689348814741910323 : Int64)) ||| (sl (a &&& (3689348814741910323 : Int64)) 2)
  ((su b 4) &&& (1085102592571150095 : Int64)) ||| (sl (b &&& (1085102592571150095 : Int64)) 4)
theorem gr_flipped_eq (f : Int64) : gr_flipped f = some (flp f) := rfl
theorem k_55 {i : Nat} (h : i < 64) : bt 6148914691236517205 i = decide (i % 2 = 0) := by
  have : ∀ i : Fin 64, bt 6148914691236517205 i.val = decide (i.val % 2 = 0) := by decide +kernel
  exact this ⟨i, h⟩
theorem k_33 {i : Nat} (h : i < 64) : bt 3689348814741910323 i = decide (i % 4 < 2) := by
  have : ∀ i : Fin 64, bt 3689348814741910323 i.val = decide (i.val % 4 < 2) := by decide +kernel
  exact this ⟨i, h⟩
theorem k_0f {i : Nat} (h : i < 64) : bt 1085102592571150095 i = decide (i % 8 < 4) := by
  have : ∀ i : Fin 64, bt 1085102592571150095 i.val = decide (i.val % 8 < 4) := by decide +kernel
  exact this ⟨i, h⟩
theorem bt_f1 (x : Int64) {i : Nat} (hi : i < 64) : bt (((su x 1) &&& 6148914691236517205) ||| (sl (x &&& 6148914691236517205) 1)) i = bt x (if i % 2 = 0 then i + 1 else i - 1) := by
  rw [bt_or, bt_and, show su x 1 = su x (nI 1) from rfl, bt_su _ (by omega), k_55 hi, show sl (x &&& 6148914691236517205) 1 = sl (x &&& 6148914691236517205) (nI 1) from rfl, bt_sl _ (by omega) hi, bt_and]
  by_cases h : i % 2 = 0
  · rw [if_pos h, decide_eq_true h]
    by_cases h0 : i = 0
    · subst h0; simp
    · rw [k_55 (by omega), decide_eq_false (show ¬ (i - 1) % 2 = 0 by omega), Nat.add_comm]; simp
  · rw [if_neg h, decide_eq_false h, k_55 (by omega), decide_eq_true (show (i - 1) % 2 = 0 by omega), decide_eq_true (show 1 ≤ i by omega)]; simp
theorem bt_f2 (x : Int64) {i : Nat} (hi : i < 64) : bt (((su x 2) &&& 3689348814741910323) ||| (sl (x &&& 3689348814741910323) 2)) i = bt x (if i % 4 < 2 then i + 2 else i - 2) := by
  rw [bt_or, bt_and, show su x 2 = su x (nI 2) from rfl, bt_su _ (by omega), k_33 hi, show sl (x &&& 3689348814741910323) 2 = sl (x &&& 3689348814741910323) (nI 2) from rfl, bt_sl _ (by omega) hi, bt_and]
  by_cases h : i % 4 < 2
  · rw [if_pos h, decide_eq_true h]
    by_cases h0 : 2 ≤ i
    · rw [k_33 (by omega), decide_eq_false (show ¬ (i - 2) % 4 < 2 by omega), Nat.add_comm]; simp
    · rw [decide_eq_false h0, Nat.add_comm]; simp
  · rw [if_neg h, decide_eq_false h, k_33 (by omega), decide_eq_true (show (i - 2) % 4 < 2 by omega), decide_eq_true (show 2 ≤ i by omega)]; simp
theorem bt_f4 (x : Int64) {i : Nat} (hi : i < 64) : bt (((su x 4) &&& 1085102592571150095) ||| (sl (x &&& 1085102592571150095) 4)) i = bt x (if i % 8 < 4 then i + 4 else i - 4) := by
  rw [bt_or, bt_and, show su x 4 = su x (nI 4) from rfl, bt_su _ (by omega), k_0f hi, show sl (x &&& 1085102592571150095) 4 = sl (x &&& 1085102592571150095) (nI 4) from rfl, bt_sl _ (by omega) hi, bt_and]
  by_cases h : i % 8 < 4
  · rw [if_pos h, decide_eq_true h]
    by_cases h0 : 4 ≤ i
    · rw [k_0f (by omega), decide_eq_false (show ¬ (i - 4) % 8 < 4 by omega), Nat.add_comm]; simp
    · rw [decide_eq_false h0, Nat.add_comm]; simp
  · rw [if_neg h, decide_eq_false h, k_0f (by omega), decide_eq_true (show (i - 4) % 8 < 4 by omega), decide_eq_true (show 4 ≤ i by omega)]; simp
theorem bt_flp (x : Int64) {i : Nat} (hi : i < 64) : bt (flp x) i = bt x (8 * (i / 8) + (7 - i % 8)) := by
  unfold flp
  rw [bt_f4 _ hi, bt_f2 _ (by split <;> omega), bt_f1 _ (by split <;> split <;> omega)]
  congr 1
  have : ∀ i : Fin 64, (if (if (if i.val % 8 < 4 then i.val + 4 else i.val - 4) % 4 < 2 then (if i.val % 8 < 4 then i.val + 4 else i.val - 4) + 2 else (if i.val % 8 < 4 then i.val + 4 else i.val - 4) - 2) % 2 = 0 then (if (if i.val % 8 < 4 then i.val + 4 else i.val - 4) % 4 < 2 then (if i.val % 8 < 4 then i.val + 4 else i.val - 4) + 2 else (if i.val % 8 < 4 then i.val + 4 else i.val - 4) - 2) + 1 else (if (if i.val % 8 < 4 then i.val + 4 else i.val - 4) % 4 < 2 then (if i.val % 8 < 4 then i.val + 4 else i.val - 4) + 2 else (if i.val % 8 < 4 then i.val + 4 else i.val - 4) - 2) - 1) = 8 * (i.val / 8) + (7 - i.val % 8) := by decide +kernel
  exact this ⟨i, hi⟩
/-- a swap of bits: mask m, distance d: bits of m go up by d, those d above a bit of m come down -/
theorem bt_sw (x m : Int64) {d : Nat} (hd : d < 64) {i : Nat} (hi : i < 64) : bt ((x ^^^ ((x ^^^ su x (nI d)) &&& m)) ^^^ sl ((x ^^^ su x (nI d)) &&& m) (nI d)) i = ((bt x i ^^ ((bt x i ^^ bt x (d + i)) && bt m i)) ^^ (decide (d ≤ i) && ((bt x (i - d) ^^ bt x (d + (i - d))) && bt m (i - d)))) := by
  rw [bt_xor, bt_xor, bt_and, bt_xor, bt_su _ hd, bt_sl _ hd hi, bt_and, bt_xor, bt_su _ hd]
theorem k_t1 {i : Nat} (h : i < 64) : bt 47851476196393130 i = decide (i % 2 = 1 ∧ i / 8 % 2 = 0 ∧ i < 56) := by
  have : ∀ i : Fin 64, bt 47851476196393130 i.val = decide (i.val % 2 = 1 ∧ i.val / 8 % 2 = 0 ∧ i.val < 56) := by decide +kernel
  exact this ⟨i, h⟩
theorem k_t2 {i : Nat} (h : i < 64) : bt 225176545447116 i = decide (2 ≤ i % 4 ∧ i / 8 % 4 < 2) := by
  have : ∀ i : Fin 64, bt 225176545447116 i.val = decide (2 ≤ i.val % 4 ∧ i.val / 8 % 4 < 2) := by decide +kernel
  exact this ⟨i, h⟩
theorem k_t4 {i : Nat} (h : i < 64) : bt 4042322160 i = decide (4 ≤ i % 8 ∧ i < 32) := by
  have : ∀ i : Fin 64, bt 4042322160 i.val = decide (4 ≤ i.val % 8 ∧ i.val < 32) := by decide +kernel
  exact this ⟨i, h⟩
def tr1 (x : Int64) : Int64 := (x ^^^ ((x ^^^ su x 7) &&& 47851476196393130)) ^^^ sl ((x ^^^ su x 7) &&& 47851476196393130) 7
def tr2 (x : Int64) : Int64 := (x ^^^ ((x ^^^ su x 14) &&& 225176545447116)) ^^^ sl ((x ^^^ su x 14) &&& 225176545447116) 14
def tr4 (x : Int64) : Int64 := (x ^^^ ((x ^^^ su x 28) &&& 4042322160)) ^^^ sl ((x ^^^ su x 28) &&& 4042322160) 28
theorem gr_transposed_eq (f : Int64) : gr_transposed f = some (tr4 (tr2 (tr1 f))) := rfl
theorem xx (a b : Bool) : (a ^^ (a ^^ b)) = b := by cases a <;> cases b <;> rfl
theorem bt_tr1 (x : Int64) {i : Nat} (hi : i < 64) : bt (tr1 x) i = bt x (if i % 2 = 1 ∧ i / 8 % 2 = 0 then i + 7 else if i % 2 = 0 ∧ i / 8 % 2 = 1 then i - 7 else i) := by
  unfold tr1
  rw [show (7 : Int32) = nI 7 from rfl, bt_sw x _ (by omega) hi, k_t1 hi]
  by_cases h1 : i % 2 = 1 ∧ i / 8 % 2 = 0
  · rw [if_pos h1, decide_eq_true (show i % 2 = 1 ∧ i / 8 % 2 = 0 ∧ i < 56 by omega), Bool.and_true, xx]
    by_cases h7 : 7 ≤ i
    · rw [k_t1 (by omega), decide_eq_false (show ¬ ((i - 7) % 2 = 1 ∧ (i - 7) / 8 % 2 = 0 ∧ i - 7 < 56) by omega), Nat.add_comm]; simp
    · rw [decide_eq_false h7, Nat.add_comm]; simp
  · rw [if_neg h1, decide_eq_false (show ¬ (i % 2 = 1 ∧ i / 8 % 2 = 0 ∧ i < 56) by omega), Bool.and_false, Bool.xor_false]
    by_cases h2 : i % 2 = 0 ∧ i / 8 % 2 = 1
    · rw [if_pos h2, decide_eq_true (show 7 ≤ i by omega), k_t1 (by omega), decide_eq_true (show (i - 7) % 2 = 1 ∧ (i - 7) / 8 % 2 = 0 ∧ i - 7 < 56 by omega), show 7 + (i - 7) = i by omega, Bool.true_and, Bool.and_true, Bool.xor_comm (bt x (i - 7)), xx]
    · rw [if_neg h2]
      by_cases h7 : 7 ≤ i
      · rw [k_t1 (by omega), decide_eq_false (show ¬ ((i - 7) % 2 = 1 ∧ (i - 7) / 8 % 2 = 0 ∧ i - 7 < 56) by omega)]; simp
      · rw [decide_eq_false h7]; simp
theorem bt_tr2 (x : Int64) {i : Nat} (hi : i < 64) : bt (tr2 x) i = bt x (if 2 ≤ i % 4 ∧ i / 8 % 4 < 2 then i + 14 else if i % 4 < 2 ∧ 2 ≤ i / 8 % 4 then i - 14 else i) := by
  unfold tr2
  rw [show (14 : Int32) = nI 14 from rfl, bt_sw x _ (by omega) hi, k_t2 hi]
  by_cases h1 : 2 ≤ i % 4 ∧ i / 8 % 4 < 2
  · rw [if_pos h1, decide_eq_true h1, Bool.and_true, xx]
    by_cases h7 : 14 ≤ i
    · rw [k_t2 (by omega), decide_eq_false (show ¬ (2 ≤ (i - 14) % 4 ∧ (i - 14) / 8 % 4 < 2) by omega), Nat.add_comm]; simp
    · rw [decide_eq_false h7, Nat.add_comm]; simp
  · rw [if_neg h1, decide_eq_false h1, Bool.and_false, Bool.xor_false]
    by_cases h2 : i % 4 < 2 ∧ 2 ≤ i / 8 % 4
    · rw [if_pos h2, decide_eq_true (show 14 ≤ i by omega), k_t2 (by omega), decide_eq_true (show 2 ≤ (i - 14) % 4 ∧ (i - 14) / 8 % 4 < 2 by omega), show 14 + (i - 14) = i by omega, Bool.true_and, Bool.and_true, Bool.xor_comm (bt x (i - 14)), xx]
    · rw [if_neg h2]
      by_cases h7 : 14 ≤ i
      · rw [k_t2 (by omega), decide_eq_false (show ¬ (2 ≤ (i - 14) % 4 ∧ (i - 14) / 8 % 4 < 2) by omega)]; simp
      · rw [decide_eq_false h7]; simp
theorem bt_tr4 (x : Int64) {i : Nat} (hi : i < 64) : bt (tr4 x) i = bt x (if 4 ≤ i % 8 ∧ i < 32 then i + 28 else if i % 8 < 4 ∧ 32 ≤ i then i - 28 else i) := by
  unfold tr4
  rw [show (28 : Int32) = nI 28 from rfl, bt_sw x _ (by omega) hi, k_t4 hi]
  by_cases h1 : 4 ≤ i % 8 ∧ i < 32
  · rw [if_pos h1, decide_eq_true h1, Bool.and_true, xx]
    by_cases h7 : 28 ≤ i
    · rw [k_t4 (by omega), decide_eq_false (show ¬ (4 ≤ (i - 28) % 8 ∧ i - 28 < 32) by omega), Nat.add_comm]; simp
    · rw [decide_eq_false h7, Nat.add_comm]; simp
  · rw [if_neg h1, decide_eq_false h1, Bool.and_false, Bool.xor_false]
    by_cases h2 : i % 8 < 4 ∧ 32 ≤ i
    · rw [if_pos h2, decide_eq_true (show 28 ≤ i by omega), k_t4 (by omega), decide_eq_true (show 4 ≤ (i - 28) % 8 ∧ i - 28 < 32 by omega), show 28 + (i - 28) = i by omega, Bool.true_and, Bool.and_true, Bool.xor_comm (bt x (i - 28)), xx]
    · rw [if_neg h2]
      by_cases h7 : 28 ≤ i
      · rw [k_t4 (by omega), decide_eq_false (show ¬ (4 ≤ (i - 28) % 8 ∧ i - 28 < 32) by omega)]; simp
      · rw [decide_eq_false h7]; simp
def trp (x : Int64) : Int64 := tr4 (tr2 (tr1 x))
theorem bt_trp (x : Int64) {i : Nat} (hi : i < 64) : bt (trp x) i = bt x (8 * (i % 8) + i / 8) := by
  unfold trp
  have b4 : (if 4 ≤ i % 8 ∧ i < 32 then i + 28 else if i % 8 < 4 ∧ 32 ≤ i then i - 28 else i) < 64 := by split <;> (try split) <;> omega
  rw [bt_tr4 _ hi]
  generalize hj : (if 4 ≤ i % 8 ∧ i < 32 then i + 28 else if i % 8 < 4 ∧ 32 ≤ i then i - 28 else i) = j at b4
  have b2 : (if 2 ≤ j % 4 ∧ j / 8 % 4 < 2 then j + 14 else if j % 4 < 2 ∧ 2 ≤ j / 8 % 4 then j - 14 else j) < 64 := by split <;> (try split) <;> omega
  rw [bt_tr2 _ b4, bt_tr1 _ b2]
  congr 1
  subst hj
  have : ∀ i : Fin 64, (fun j => (fun k => if k % 2 = 1 ∧ k / 8 % 2 = 0 then k + 7 else if k % 2 = 0 ∧ k / 8 % 2 = 1 then k - 7 else k) (if 2 ≤ j % 4 ∧ j / 8 % 4 < 2 then j + 14 else if j % 4 < 2 ∧ 2 ≤ j / 8 % 4 then j - 14 else j)) (if 4 ≤ i.val % 8 ∧ i.val < 32 then i.val + 28 else if i.val % 8 < 4 ∧ 32 ≤ i.val then i.val - 28 else i.val) = 8 * (i.val % 8) + i.val / 8 := by decide +kernel
  exact this ⟨i, hi⟩
