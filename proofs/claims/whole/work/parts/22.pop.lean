/-! LAYER 2: Long.bitCount counts the bits -/
def m55 : Nat → Nat | 0 => 0 | k + 1 => 256 * m55 k + 85
def m33 : Nat → Nat | 0 => 0 | k + 1 => 256 * m33 k + 51
def m0f : Nat → Nat | 0 => 0 | k + 1 => 256 * m0f k + 15
def F1 (k n : Nat) : Nat := n - ((n / 2) &&& m55 k)
def F2 (k n : Nat) : Nat := (n &&& m33 k) + ((n / 4) &&& m33 k)
def F3 (k n : Nat) : Nat := (n + n / 16) &&& m0f k
def p1 (b : Nat) : Nat := b - ((b / 2) &&& 85)
def p2 (b : Nat) : Nat := (p1 b &&& 51) + ((p1 b / 4) &&& 51)
def p3 (b : Nat) : Nat := (p2 b + p2 b / 16) &&& 15
theorem and_split {u u' v v' : Nat} (h : v < 256) (h' : v' < 256) : (256 * u + v) &&& (256 * u' + v') = 256 * (u &&& u') + (v &&& v') := by
  have hv : v &&& v' < 256 := Nat.lt_of_le_of_lt Nat.and_le_left h
  apply Nat.eq_of_testBit_eq
  intro i
  rw [Nat.testBit_and, show (256 : Nat) = 2 ^ 8 from rfl, Nat.testBit_two_pow_mul_add _ h, Nat.testBit_two_pow_mul_add _ h', Nat.testBit_two_pow_mul_add _ hv]
  by_cases q : i < 8
  · rw [if_pos q, if_pos q, if_pos q, Nat.testBit_and]
  · rw [if_neg q, if_neg q, if_neg q, Nat.testBit_and]
theorem t85 : ∀ t : Fin 2, ∀ w : Fin 128, (128 * t.val + w.val) &&& 85 = w.val &&& 85 := by decide
theorem t51 : ∀ t : Fin 4, ∀ w : Fin 64, (64 * t.val + w.val) &&& 51 = w.val &&& 51 := by decide
theorem p1_le (b : Nat) : (b / 2) &&& 85 ≤ b := Nat.le_trans Nat.and_le_left (Nat.div_le_self b 2)
theorem p_small : ∀ b : Fin 256, p1 b.val < 256 ∧ p2 b.val < 256 ∧ p2 b.val % 16 ≤ 4 ∧ p2 b.val / 16 ≤ 4 ∧ p3 b.val ≤ 8 := by decide +kernel
theorem F1_s (k n b : Nat) (hb : b < 256) : F1 (k + 1) (256 * n + b) = 256 * F1 k n + p1 b := by
  have e : (256 * n + b) / 2 = 256 * (n / 2) + (128 * (n % 2) + b / 2) := by omega
  have h2 := t85 ⟨n % 2, by omega⟩ ⟨b / 2, by omega⟩
  have h3 : (n / 2) &&& m55 k ≤ n := Nat.le_trans Nat.and_le_left (Nat.div_le_self n 2)
  have h4 := p1_le b
  unfold F1 p1
  rw [e, show m55 (k + 1) = 256 * m55 k + 85 from rfl, and_split (by omega) (by omega), show (128 * (n % 2) + b / 2) &&& 85 = (b / 2) &&& 85 from h2]
  omega
theorem F2_s (k n b : Nat) (hb : b < 256) : F2 (k + 1) (256 * n + b) = 256 * F2 k n + ((b &&& 51) + ((b / 4) &&& 51)) := by
  have e : (256 * n + b) / 4 = 256 * (n / 4) + (64 * (n % 4) + b / 4) := by omega
  have h2 := t51 ⟨n % 4, by omega⟩ ⟨b / 4, by omega⟩
  unfold F2
  rw [e, show m33 (k + 1) = 256 * m33 k + 51 from rfl, and_split hb (by omega), and_split (by omega) (by omega), show (64 * (n % 4) + b / 4) &&& 51 = (b / 4) &&& 51 from h2]
  omega
theorem and15 (a : Nat) : a &&& 15 = a % 16 := Nat.and_two_pow_sub_one_eq_mod a 4
theorem F3_s (k n b : Nat) (hb : b < 256) (h1 : b % 16 ≤ 4) (h2 : b / 16 ≤ 4) (h3 : n % 16 ≤ 4) : F3 (k + 1) (256 * n + b) = 256 * F3 k n + ((b + b / 16) &&& 15) := by
  have e : 256 * n + b + (256 * n + b) / 16 = 256 * (n + n / 16) + (b + b / 16 + 16 * (n % 16)) := by omega
  unfold F3
  rw [e, show m0f (k + 1) = 256 * m0f k + 15 from rfl, and_split (by omega) (by omega), and15, and15]
  omega
theorem F21_mod : ∀ (k n : Nat), F2 k (F1 k n) % 16 ≤ 4
  | 0, n => by simp [F2, m33]
  | k + 1, n => by
    have hn : n = 256 * (n / 256) + n % 256 := by omega
    have hb : n % 256 < 256 := Nat.mod_lt _ (by omega)
    have hs := p_small ⟨n % 256, hb⟩
    rw [hn, F1_s _ _ _ hb, F2_s _ _ _ hs.1]
    have h3 : (p1 (n % 256) &&& 51) + ((p1 (n % 256) / 4) &&& 51) = p2 (n % 256) := rfl
    rw [h3]
    have h4 : p2 (n % 256) % 16 ≤ 4 := hs.2.2.1
    omega
def GG (k n : Nat) : Nat := F3 k (F2 k (F1 k n))
theorem GG_s (k n b : Nat) (hb : b < 256) : GG (k + 1) (256 * n + b) = 256 * GG k n + p3 b := by
  have hs := p_small ⟨b, hb⟩
  unfold GG
  rw [F1_s _ _ _ hb, F2_s _ _ _ hs.1]
  exact F3_s k _ (p2 b) hs.2.1 hs.2.2.1 hs.2.2.2.1 (F21_mod k n)
def CC (k n : Nat) : Nat := fb_ct (fun i => n.testBit i) (8 * k)
theorem p3_ct : ∀ b : Fin 256, p3 b.val = fb_ct (fun i => b.val.testBit i) 8 := by decide +kernel
theorem CC_s (k n b : Nat) (hb : b < 256) : CC (k + 1) (256 * n + b) = CC k n + p3 b := by
  unfold CC
  rw [show 8 * (k + 1) = 8 + 8 * k by omega, fb_ct_split]
  have e1 : fb_ct (fun i => (256 * n + b).testBit i) 8 = fb_ct (fun i => b.testBit i) 8 := fb_ct_cong (fun i hi => by
    show (256 * n + b).testBit i = _
    rw [show (256 : Nat) = 2 ^ 8 from rfl, Nat.testBit_two_pow_mul_add _ hb, if_pos hi])
  have e2 : fb_ct (fun i => (256 * n + b).testBit (8 + i)) (8 * k) = fb_ct (fun i => n.testBit i) (8 * k) := fb_ct_cong (fun i hi => by
    show (256 * n + b).testBit (8 + i) = _
    rw [show (256 : Nat) = 2 ^ 8 from rfl, Nat.testBit_two_pow_mul_add _ hb, if_neg (by omega), show 8 + i - 8 = i by omega])
  have h3 : p3 b = fb_ct (fun i => b.testBit i) 8 := p3_ct ⟨b, hb⟩
  rw [e1, e2]
  omega
def fold3 (a : Nat) : Nat := ((a + a / 256) + (a + a / 256) / 65536) + ((a + a / 256) + (a + a / 256) / 65536) / 4294967296
theorem fold_a {c0 c1 c2 r1 r2 r3 : Nat} (l0 : c0 ≤ 8) (l1 : c1 ≤ 8) (l2 : c2 ≤ 8) (h1 : r1 = 256 * r2 + c1) (h2 : r2 = 256 * r3 + c2) : (256 * r1 + c0) / 256 = r1 ∧ (256 * r1 + c0 + r1) / 65536 = r2 + r3 := by
  constructor
  · omega
  · omega
theorem fold_b {c0 c1 c2 c3 c4 r1 r2 r3 r4 r5 : Nat} (l0 : c0 ≤ 8) (l1 : c1 ≤ 8) (l2 : c2 ≤ 8) (l3 : c3 ≤ 8) (l4 : c4 ≤ 8) (h1 : r1 = 256 * r2 + c1) (h2 : r2 = 256 * r3 + c2) (h3 : r3 = 256 * r4 + c3) (h4 : r4 = 256 * r5 + c4) : (256 * r1 + c0 + r1 + (r2 + r3)) / 65536 = r2 + r3 + (r4 + r5) ∧ (256 * r1 + c0 + r1 + (r2 + r3)) % 128 = (c0 + c1 + c2 + c3) % 128 := by
  constructor
  · omega
  · omega
theorem fold_c {c2 c3 c4 c5 c6 r2 r3 r4 r5 r6 r7 : Nat} (l2 : c2 ≤ 8) (l3 : c3 ≤ 8) (l4 : c4 ≤ 8) (l5 : c5 ≤ 8) (l6 : c6 ≤ 8) (h2 : r2 = 256 * r3 + c2) (h3 : r3 = 256 * r4 + c3) (h4 : r4 = 256 * r5 + c4) (h5 : r5 = 256 * r6 + c5) (h6 : r6 = 256 * r7 + c6) : (r2 + r3 + (r4 + r5)) / 65536 = r4 + r5 + (r6 + r7) := by
  omega
theorem fold_all {c0 c1 c2 c3 c4 c5 c6 c7 r1 r2 r3 r4 r5 r6 r7 : Nat} (l0 : c0 ≤ 8) (l1 : c1 ≤ 8) (l2 : c2 ≤ 8) (l3 : c3 ≤ 8) (l4 : c4 ≤ 8) (l5 : c5 ≤ 8) (l6 : c6 ≤ 8) (l7 : c7 ≤ 8) (h1 : r1 = 256 * r2 + c1) (h2 : r2 = 256 * r3 + c2) (h3 : r3 = 256 * r4 + c3) (h4 : r4 = 256 * r5 + c4) (h5 : r5 = 256 * r6 + c5) (h6 : r6 = 256 * r7 + c6) (h7 : r7 = c7) : fold3 (256 * r1 + c0) % 128 = c0 + c1 + c2 + c3 + c4 + c5 + c6 + c7 := by
  have a := fold_a l0 l1 l2 h1 h2
  have b := fold_b l0 l1 l2 l3 l4 h1 h2 h3 h4
  have c := fold_c l2 l3 l4 l5 l6 h2 h3 h4 h5 h6
  unfold fold3
  rw [a.1, a.2]
  have e : (256 * r1 + c0 + r1 + (r2 + r3)) / 4294967296 = r4 + r5 + (r6 + r7) := by
    rw [show (4294967296 : Nat) = 65536 * 65536 from rfl, ← Nat.div_div_eq_div_mul, b.1, c]
  rw [e, Nat.add_mod, b.2]
  clear a b c e h1 h2 h3
  omega
theorem pop_nat (n : Nat) : GG 8 n < 2 ^ 60 ∧ fold3 (GG 8 n) % 128 = CC 8 n := by
  have hs : ∀ b, b < 256 → p3 b ≤ 8 := fun b hb => (p_small ⟨b, hb⟩).2.2.2.2
  have st : ∀ k m, GG (k + 1) m = 256 * GG k (m / 256) + p3 (m % 256) ∧ CC (k + 1) m = CC k (m / 256) + p3 (m % 256) ∧ p3 (m % 256) ≤ 8 := fun k m => by
    have hb : m % 256 < 256 := Nat.mod_lt _ (by omega)
    have h1 := GG_s k (m / 256) (m % 256) hb
    have h2 := CC_s k (m / 256) (m % 256) hb
    rw [show 256 * (m / 256) + m % 256 = m by omega] at h1 h2
    exact ⟨h1, h2, hs _ hb⟩
  have z : ∀ m, GG 0 m = 0 ∧ CC 0 m = 0 := fun m => ⟨by simp [GG, F3, m0f], by simp [CC, fb_ct]⟩
  obtain ⟨g7, d7, l0⟩ := st 7 n
  obtain ⟨g6, d6, l1⟩ := st 6 (n / 256)
  obtain ⟨g5, d5, l2⟩ := st 5 (n / 256 / 256)
  obtain ⟨g4, d4, l3⟩ := st 4 (n / 256 / 256 / 256)
  obtain ⟨g3, d3, l4⟩ := st 3 (n / 256 / 256 / 256 / 256)
  obtain ⟨g2, d2, l5⟩ := st 2 (n / 256 / 256 / 256 / 256 / 256)
  obtain ⟨g1, d1, l6⟩ := st 1 (n / 256 / 256 / 256 / 256 / 256 / 256)
  obtain ⟨g0, d0, l7⟩ := st 0 (n / 256 / 256 / 256 / 256 / 256 / 256 / 256)
  rw [(z _).1] at g0
  rw [(z _).2] at d0
  simp only [Nat.mul_zero, Nat.zero_add] at g0 d0
  have f := fold_all l0 l1 l2 l3 l4 l5 l6 l7 g6 g5 g4 g3 g2 g1 g0
  rw [← g7] at f
  refine ⟨?_, ?_⟩
  · clear f d0 d1 d2 d3 d4 d5 d6 d7 st z hs
    have u0 : GG 1 (n / 256 / 256 / 256 / 256 / 256 / 256 / 256) < 16 := by rw [g0]; omega
    have u1 : GG 2 (n / 256 / 256 / 256 / 256 / 256 / 256) < 16 * 256 := by rw [g1]; omega
    have u2 : GG 3 (n / 256 / 256 / 256 / 256 / 256) < 16 * 65536 := by rw [g2]; omega
    have u3 : GG 4 (n / 256 / 256 / 256 / 256) < 16 * 16777216 := by rw [g3]; omega
    have u4 : GG 5 (n / 256 / 256 / 256) < 16 * 4294967296 := by rw [g4]; omega
    have u5 : GG 6 (n / 256 / 256) < 16 * 1099511627776 := by rw [g5]; omega
    have u6 : GG 7 (n / 256) < 16 * 281474976710656 := by rw [g6]; omega
    rw [g7]; omega
  · rw [f, d7, d6, d5, d4, d3, d2, d1, d0]
    clear f g0 g1 g2 g3 g4 g5 g6 g7 d0 d1 d2 d3 d4 d5 d6 d7 st z hs
    omega
theorem bn_and (x y : Int64) : bn (x &&& y) = bn x &&& bn y := by
  show (x &&& y).toBitVec.toNat = _
  rw [Int64.toBitVec_and, BitVec.toNat_and]; rfl
theorem bn_add (x y : Int64) : bn (x + y) = (bn x + bn y) % 2 ^ 64 := by
  show (x + y).toBitVec.toNat = _
  rw [Int64.toBitVec_add, BitVec.toNat_add]; rfl
theorem bn_sub {x y : Int64} (h : bn y ≤ bn x) : bn (x - y) = bn x - bn y := by
  have h1 := bn_lt x
  show (x - y).toBitVec.toNat = _
  rw [Int64.toBitVec_sub, BitVec.toNat_sub]
  show (2 ^ 64 - bn y + bn x) % 2 ^ 64 = _
  omega
theorem bn_su (x : Int64) {k : Nat} (hk : k < 64) : bn (su x (nI k)) = bn x / 2 ^ k := by
  apply Nat.eq_of_testBit_eq
  intro i
  rw [← bt_bn, bt_su x hk i, Nat.testBit_div_two_pow, bt_bn]
  congr 1; omega
theorem cnt_CC (x : Int64) : cnt x = CC 8 (bn x) := rfl
theorem to32_and (x : Int64) : x.toInt32 &&& 127 = nI (bn x % 128) := by
  have h := pk_and x.toInt32 (m := 127) 7 (by decide)
  rw [h]
  congr 1
  show x.toInt32.toBitVec.toNat % 2 ^ 7 = _
  have e : x.toInt32.toBitVec.toNat = bn x % 2 ^ 32 := by
    show (x.toBitVec.signExtend 32).toNat = _
    rw [BitVec.signExtend_eq_setWidth_of_le _ (by omega), BitVec.toNat_setWidth]; rfl
  rw [e]
  omega
theorem jl_bitCount_eq (x : Int64) : jl_bitCount x = some (nI (cnt x)) := by
  have hp := pop_nat (bn x)
  have hx := bn_lt x
  simp only [jl_bitCount, nm]
  have k1 : bn (6148914691236517205 : Int64) = m55 8 := by decide
  have k2 : bn (3689348814741910323 : Int64) = m33 8 := by decide
  have k3 : bn (1085102592571150095 : Int64) = m0f 8 := by decide
  generalize hA1 : x - (su x 1 &&& 6148914691236517205) = A1
  have e1 : bn A1 = F1 8 (bn x) := by
    have e0 : bn (su x 1 &&& 6148914691236517205) = (bn x / 2) &&& m55 8 := by
      rw [bn_and, k1, show su x 1 = su x (nI 1) from rfl, bn_su x (by omega)]
    rw [← hA1, bn_sub (by rw [e0]; exact Nat.le_trans Nat.and_le_left (Nat.div_le_self _ _)), e0]; rfl
  generalize hA2 : (A1 &&& 3689348814741910323) + (su A1 2 &&& 3689348814741910323) = A2
  have b33 : m33 8 = 3689348814741910323 := by decide
  have e2 : bn A2 = F2 8 (F1 8 (bn x)) := by
    rw [← hA2, bn_add, bn_and, bn_and, k2, show su A1 2 = su A1 (nI 2) from rfl, bn_su A1 (by omega), e1]
    have h1 : F1 8 (bn x) &&& m33 8 ≤ m33 8 := Nat.and_le_right
    have h2 : (F1 8 (bn x) / 2 ^ 2) &&& m33 8 ≤ m33 8 := Nat.and_le_right
    rw [Nat.mod_eq_of_lt (by omega)]; rfl
  generalize hA3 : (A2 + su A2 4) &&& 1085102592571150095 = A3
  have e3 : bn A3 = GG 8 (bn x) := by
    rw [← hA3, bn_and, bn_add, k3, show su A2 4 = su A2 (nI 4) from rfl, bn_su A2 (by omega), e2]
    have h1 : F2 8 (F1 8 (bn x)) ≤ 2 * m33 8 := by
      have a1 : F1 8 (bn x) &&& m33 8 ≤ m33 8 := Nat.and_le_right
      have a2 : (F1 8 (bn x) / 4) &&& m33 8 ≤ m33 8 := Nat.and_le_right
      unfold F2; omega
    rw [Nat.mod_eq_of_lt (by omega)]; rfl
  generalize hA4 : A3 + su A3 8 = A4
  have e4 : bn A4 = GG 8 (bn x) + GG 8 (bn x) / 256 := by
    rw [← hA4, bn_add, show su A3 8 = su A3 (nI 8) from rfl, bn_su A3 (by omega), e3, Nat.mod_eq_of_lt (by omega)]
  generalize hA5 : A4 + su A4 16 = A5
  have e5 : bn A5 = (GG 8 (bn x) + GG 8 (bn x) / 256) + (GG 8 (bn x) + GG 8 (bn x) / 256) / 65536 := by
    rw [← hA5, bn_add, show su A4 16 = su A4 (nI 16) from rfl, bn_su A4 (by omega), e4, Nat.mod_eq_of_lt (by omega)]
  generalize hA6 : A5 + su A5 32 = A6
  have e6 : bn A6 = fold3 (GG 8 (bn x)) := by
    rw [← hA6, bn_add, show su A5 32 = su A5 (nI 32) from rfl, bn_su A5 (by omega), e5, Nat.mod_eq_of_lt (by omega)]; rfl
  rw [to32_and, e6, hp.2, ← cnt_CC]
