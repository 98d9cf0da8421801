/-! LAYER 2: bits of longs -/
def bt (x : Int64) (i : Nat) : Bool := x.toBitVec.getLsbD i
theorem bt_ext {x y : Int64} (h : ∀ i, i < 64 → bt x i = bt y i) : x = y := by
  apply Int64.toBitVec_inj.mp
  apply BitVec.eq_of_getLsbD_eq
  intro i hi
  exact h i hi
theorem bt_big {x : Int64} {i : Nat} (h : 64 ≤ i) : bt x i = false := BitVec.getLsbD_of_ge _ _ h
theorem bt_and (x y : Int64) (i : Nat) : bt (x &&& y) i = (bt x i && bt y i) := by
  show (x &&& y).toBitVec.getLsbD i = _
  rw [Int64.toBitVec_and, BitVec.getLsbD_and]; rfl
theorem bt_or (x y : Int64) (i : Nat) : bt (x ||| y) i = (bt x i || bt y i) := by
  show (x ||| y).toBitVec.getLsbD i = _
  rw [Int64.toBitVec_or, BitVec.getLsbD_or]; rfl
theorem bt_xor (x y : Int64) (i : Nat) : bt (x ^^^ y) i = (bt x i ^^ bt y i) := by
  show (x ^^^ y).toBitVec.getLsbD i = _
  rw [Int64.toBitVec_xor, BitVec.getLsbD_xor]; rfl
theorem bt_zero (i : Nat) : bt 0 i = false := by
  show (0 : Int64).toBitVec.getLsbD i = false
  simp
theorem bt_m1 {i : Nat} (h : i < 64) : bt (-1) i = true := by
  have : ∀ i : Fin 64, bt (-1) i.val = true := by decide
  exact this ⟨i, h⟩
theorem sh_l : ∀ n : Fin 64, (((nI n.val).toInt64 &&& 63).toBitVec.smod 64).toNat = n.val := by decide
theorem sh_u : ∀ n : Fin 64, ((nI n.val).toInt64.toUInt64 &&& Int64.toUInt64 63).toNat % 64 = n.val := by decide
theorem bt_sl (x : Int64) {n : Nat} (hn : n < 64) {i : Nat} (hi : i < 64) : bt (sl x (nI n)) i = (decide (n ≤ i) && bt x (i - n)) := by
  show (x <<< ((nI n).toInt64 &&& 63)).toBitVec.getLsbD i = _
  rw [Int64.toBitVec_shiftLeft]
  have h := sh_l ⟨n, hn⟩
  rw [BitVec.shiftLeft_eq', h, BitVec.getLsbD_shiftLeft]
  simp [hi, bt]
  by_cases h2 : n ≤ i
  · simp [h2, Nat.not_lt.mpr h2]
  · simp [h2, Nat.lt_of_not_le h2]
theorem bt_su (x : Int64) {n : Nat} (hn : n < 64) (i : Nat) : bt (su x (nI n)) i = bt x (n + i) := by
  show ((x.toUInt64 >>> ((nI n).toInt64.toUInt64 &&& Int64.toUInt64 63)).toInt64).toBitVec.getLsbD i = _
  have h := sh_u ⟨n, hn⟩
  have e : ((x.toUInt64 >>> ((nI n).toInt64.toUInt64 &&& Int64.toUInt64 63)).toInt64).toBitVec = x.toBitVec >>> n := by
    apply BitVec.eq_of_toNat_eq
    show ((x.toUInt64 >>> ((nI n).toInt64.toUInt64 &&& Int64.toUInt64 63))).toBitVec.toNat = _
    rw [UInt64.toBitVec_shiftRight]
    rw [BitVec.ushiftRight_eq']
    rw [show ((nI n).toInt64.toUInt64 &&& Int64.toUInt64 63).toBitVec % 64 = BitVec.ofNat 64 n from by
      apply BitVec.eq_of_toNat_eq
      rw [BitVec.toNat_umod, BitVec.toNat_ofNat]
      have h2 : ((nI n).toInt64.toUInt64 &&& Int64.toUInt64 63).toBitVec.toNat % 64 = n := h
      have h3 : (64 : BitVec 64).toNat = 64 := rfl
      rw [h3, h2, Nat.mod_eq_of_lt (by omega)]]
    rw [BitVec.toNat_ofNat, Nat.mod_eq_of_lt (show n < 2 ^ 64 by omega)]
    rfl
  rw [e, BitVec.getLsbD_ushiftRight]
  rfl
theorem i64_eq0 {x : Int64} : x = 0 ↔ ∀ i, i < 64 → bt x i = false := by
  constructor
  · intro h i _; rw [h]; exact bt_zero i
  · intro h; exact bt_ext (fun i hi => by rw [h i hi, bt_zero])
