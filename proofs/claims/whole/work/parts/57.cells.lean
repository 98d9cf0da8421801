/-! sets of a figure's cells, as bits by their order -/
theorem nI_or (a b : Nat) : nI a ||| nI b = nI (a ||| b) := by
  apply Int32.toBitVec_inj.1
  show BitVec.ofNat 32 a ||| BitVec.ofNat 32 b = BitVec.ofNat 32 (a ||| b)
  exact (BitVec.ofNat_or ..).symm
theorem nI_and (a b : Nat) : nI a &&& nI b = nI (a &&& b) := by
  apply Int32.toBitVec_inj.1
  show BitVec.ofNat 32 a &&& BitVec.ofNat 32 b = BitVec.ofNat 32 (a &&& b)
  exact (BitVec.ofNat_and ..).symm
theorem il_n : ∀ i : Fin 13, il 1 (nI i.val) = nI (2 ^ i.val) := by decide +kernel
theorem smod31 : ∀ i : Fin 32, ((nI i.val &&& 31).toBitVec.smod 32).toNat = i.val := by decide +kernel
theorem ir_n {s i : Nat} (hs : s < 2 ^ 31) (hi : i < 32) : (ir (nI s) (nI i)) &&& 1 = boI (s.testBit i) := by
  unfold ir
  rw [pk_shrN hs _ i (smod31 ⟨i, hi⟩), pk_andN (n := s / 2 ^ i) (by have := Nat.div_le_self s (2 ^ i); omega) (m := 1) 1 (by decide), Nat.testBit_eq_decide_div_mod_eq]
  have : s / 2 ^ i % 2 ^ 1 = 0 ∨ s / 2 ^ i % 2 ^ 1 = 1 := by omega
  rw [show (2 : Nat) ^ 1 = 2 from rfl] at *
  rcases this with e | e <;> rw [e] <;> rfl
def pc (s : Nat) : Nat := fb_ct (fun i => s.testBit i) 12
theorem ji_64 : ∀ a : Fin 64, ∀ b : Fin 64, ji_bitCount (nI (64 * a.val + b.val)) = some (nI (pc (64 * a.val + b.val))) := by decide +kernel
theorem ji_small {s : Nat} (hs : s < 4096) : ji_bitCount (nI s) = some (nI (pc s)) := by
  have := ji_64 ⟨s / 64, by omega⟩ ⟨s % 64, by omega⟩
  have e : 64 * (s / 64) + s % 64 = s := by omega
  simp only [e] at this
  exact this
theorem tb_12 {s i : Nat} (hs : s < 4096) (hi : 12 ≤ i) : s.testBit i = false := by
  apply Nat.testBit_lt_two_pow
  exact Nat.lt_of_lt_of_le hs (Nat.pow_le_pow_right (n := 2) (by omega) hi)
theorem cnt_nI {s : Nat} (hs : s < 4096) : cnt (nI s).toInt64 = pc s := by
  unfold cnt pc
  rw [fb_ct_cong (q := fun i => s.testBit i) (fun k _ => bt_nI (by omega) k)]
  exact ct_gap (by omega) (fun q h1 _ => tb_12 hs h1)
theorem m1_n : (-1 : Int32) = nI 4294967295 := by decide
/-- a set without another -/
def dff (a b : Nat) : Nat := a &&& (b ^^^ 4294967295)
theorem dff_n (a b : Nat) : nI a &&& (nI b ^^^ (-1)) = nI (dff a b) := by
  rw [m1_n, fb_xorI, nI_and]; rfl
theorem dff_bit {a : Nat} (ha : a < 4096) (b i : Nat) : (dff a b).testBit i = (a.testBit i && !b.testBit i) := by
  unfold dff
  rw [Nat.testBit_and, Nat.testBit_xor]
  by_cases q : i < 32
  · rw [show (4294967295 : Nat) = 2 ^ 32 - 1 from rfl, Nat.testBit_two_pow_sub_one, decide_eq_true q, Bool.xor_true]
  · rw [tb_12 ha (by omega), Bool.false_and, Bool.false_and]
theorem dff_le (a b : Nat) : dff a b ≤ a := Nat.and_le_left
theorem mo_has_n {s i : Nat} (hs : s < 2 ^ 31) (hi : i < 64) : mo_has (nI s).toInt64 (nI i) = some (boI (s.testBit i)) := by
  rw [mo_has_eq _ hi, bt_nI hs]
def adjb (a b : Nat) : Bool := decide ((a / 8 = b / 8 ∧ (a % 8 + 1 = b % 8 ∨ b % 8 + 1 = a % 8)) ∨ (a % 8 = b % 8 ∧ (a / 8 + 1 = b / 8 ∨ b / 8 + 1 = a / 8)))
theorem adjb_t {a b : Nat} : adjb a b = true ↔ adj a b := decide_eq_true_iff
noncomputable def bsN (f : Int64) (i : Nat) : Nat → Nat
  | 0 => 0
  | m + 1 => if adjb (ith f i) (ith f m) then bsN f i m ||| 2 ^ m else bsN f i m
theorem bsN_bit (f : Int64) (i : Nat) : ∀ m j, (bsN f i m).testBit j = (decide (j < m) && adjb (ith f i) (ith f j))
  | 0, j => by
    show (0 : Nat).testBit j = _
    rw [Nat.zero_testBit, decide_eq_false (by omega), Bool.false_and]
  | m + 1, j => by
    have ih := bsN_bit f i m j
    show (if adjb (ith f i) (ith f m) then bsN f i m ||| 2 ^ m else bsN f i m).testBit j = _
    by_cases q : j = m
    · subst q
      rw [decide_eq_false (by omega), Bool.false_and] at ih
      rw [decide_eq_true (by omega), Bool.true_and]
      cases adjb (ith f i) (ith f j) with
      | true => rw [if_pos rfl, fb_bit_set, ih, decide_eq_true rfl]; rfl
      | false => rw [if_neg (by decide), ih]
    · have e : decide (j < m + 1) = decide (j < m) := by congr 1; apply propext; omega
      rw [e, ← ih]
      split
      · rw [fb_bit_set, decide_eq_false q, Bool.or_false]
      · rfl
theorem bsN_lt (f : Int64) (i : Nat) : ∀ m, bsN f i m < 2 ^ m
  | 0 => by show (0 : Nat) < 1; omega
  | m + 1 => by
    have ih := bsN_lt f i m
    show (if adjb (ith f i) (ith f m) then bsN f i m ||| 2 ^ m else bsN f i m) < 2 ^ (m + 1)
    have e : 2 ^ (m + 1) = 2 * 2 ^ m := by rw [Nat.pow_succ]; omega
    split
    · exact Nat.or_lt_two_pow (by omega) (by omega)
    · omega
theorem pw12 {m : Nat} (h : m ≤ 12) : 2 ^ m ≤ 4096 := by
  have := Nat.pow_le_pow_right (n := 2) (by omega) h
  exact this
/-- what is beside each cell -/
def NEb (f : Int64) (n : Nat) (b : Nat → Int32) : Prop := ∀ i, i < n → b i = nI (bsN f i (cnt f))
def CAt (f : Int64) (n : Nat) (a : Nat → Int32) : Prop := ∀ i, i < n → a i = nI (ith f i)
theorem far_c {a b : Nat} (ha : a < 64) (hb : b < 64) : ((nI a - nI b = 8 ∨ nI a - nI b = -8) ∨ (nI a / 8 = nI b / 8 ∧ (nI a - nI b = 1 ∨ nI a - nI b = -1))) ↔ adjb a b = true := by
  have e : ∀ z : Int, -100 < z → z < 100 → (nI a - nI b = Int32.ofInt z ↔ (a : Int) - b = z) := by
    intro z z1 z2
    rw [nI_iI, nI_iI, ← Int32.ofInt_sub, gi_eq (by omega) (by omega)]
  have e8 := e 8 (by omega) (by omega)
  have e8' := e (-8) (by omega) (by omega)
  have e1 := e 1 (by omega) (by omega)
  have e1' := e (-1) (by omega) (by omega)
  have ed : nI a / 8 = nI b / 8 ↔ a / 8 = b / 8 := by
    rw [show (8 : Int32) = nI 8 from rfl, pk_div (by omega) (by omega) (by omega), pk_div (by omega) (by omega) (by omega), nI_eq (by omega) (by omega)]
  rw [adjb_t]
  unfold adj
  rw [show (8 : Int32) = Int32.ofInt 8 from rfl] at ed ⊢
  rw [ed, e8, show (-Int32.ofInt 8 : Int32) = Int32.ofInt (-8) from by decide, e8', show (1 : Int32) = Int32.ofInt 1 from rfl, e1, show (-Int32.ofInt 1 : Int32) = Int32.ofInt (-1) from by decide, e1']
  omega
theorem ith_ct {f : Int64} {k : Nat} (h : bt f k = true) : ith f (fb_ct (bt f) k) = k ∧ fb_ct (bt f) k < cnt f := by
  obtain ⟨i, hi, e⟩ := ith_all h
  have := ith_rank i hi
  rw [e] at this
  rw [this]
  exact ⟨e, hi⟩
theorem lc_2 {f : Int64} (hf : FIG f) {a : Nat → Int32} (ha : CAt f (cnt f) a) (b : Nat → Int32) : ∃ b', fl2 (mo_laysCells_B52 (nI (cnt f)) a) FU 0 b = some (nI (cnt f), a, b') ∧ NEb f (cnt f) b' := by
  have n12 := hf.2.2.2.1
  refine ivl2 (B := mo_laysCells_B52 (nI (cnt f)) a) (fun i x b => x = nI i ∧ NEb f i b) (fun o => ∃ b', o = some (nI (cnt f), a, b') ∧ NEb f (cnt f) b') (cnt f) ?_ ?_ FU 0 _ _ (by omega) (FU_lt (by omega)) ⟨rfl, fun i h => by omega⟩
  · rintro i hi x b K ⟨rfl, hb⟩
    rw [mo_laysCells_B52, if_neg (nI_ge hi (by omega)), ck_n (show i < 12 by omega) (by omega), nm_eq, cl_n (by omega)]
    refine ivl2 (B := mo_laysCells_B70 (nI i) (nI (cnt f)) a K) (fun j x b => x = nI j ∧ NEb f i b ∧ b i = nI (bsN f i j)) (fun o => ∃ a' b', (a' = nI (i + 1) ∧ NEb f (i + 1) b') ∧ o = K a' b') (cnt f) ?_ ?_ FU 0 _ _ (by omega) (FU_lt (by omega)) ⟨rfl, fun q hq => by rw [pk_un (by omega)]; exact hb q hq, pk_us⟩
    · rintro j hj x b k ⟨rfl, h1, h2⟩
      have i64 := bt_lt (ith_bt hi)
      have j64 := bt_lt (ith_bt hj)
      have fc := far_c i64 j64
      have c12 : ∀ {β : Type} (k : Option β), ck (nI i) 12 k = k := fun k => ck_n (show i < 12 by omega) (by omega) k
      have d12 : ∀ {β : Type} (k : Option β), ck (nI j) 12 k = k := fun k => ck_n (show j < 12 by omega) (by omega) k
      have z8 : ∀ {β : Type} (k : Option β), dzI 8 k = k := fun k => dzI_n (by decide) k
      have yes : adjb (ith f i) (ith f j) = true → ∃ a' b', (a' = nI (j + 1) ∧ NEb f i b' ∧ b' i = nI (bsN f i (j + 1))) ∧ mo_laysCells_J155 K k (nI i) (nI j) (nI (cnt f)) a b = k a' b' := by
        intro q
        rw [mo_laysCells_J155, c12, nm_eq, c12, nm_eq, cl_n (by omega), mo_laysCells_J172, nm_eq, o1, h2, il_n ⟨j, by omega⟩, nI_or]
        refine ⟨_, _, ⟨rfl, fun t ht => by rw [pk_un (by omega)]; exact h1 t ht, ?_⟩, rfl⟩
        rw [pk_us, bsN, if_pos q]
      have no : adjb (ith f i) (ith f j) = false → ∃ a' b', (a' = nI (j + 1) ∧ NEb f i b' ∧ b' i = nI (bsN f i (j + 1))) ∧ mo_laysCells_J172 K k (nI i) (nI j) (nI (cnt f)) a b = k a' b' := by
        intro q
        rw [mo_laysCells_J172, nm_eq, o1]
        exact ⟨_, _, ⟨rfl, h1, by rw [h2, bsN, q, if_neg (by decide)]⟩, rfl⟩
      rw [mo_laysCells_B70, if_neg (nI_ge hj (by omega)), c12, d12, nm_eq, c12, z8, d12, z8, cl_n (by omega), cl_n (by omega), ha i hi, ha j hj, mo_laysCells_J122, mo_laysCells_J122]
      by_cases q8 : nI (ith f i) - nI (ith f j) = 8
      · rw [if_pos q8, if_pos q8, ite_self]
        exact yes (fc.mp (Or.inl (Or.inl q8)))
      · rw [if_neg q8, if_neg q8]
        by_cases q8' : nI (ith f i) - nI (ith f j) = -8
        · rw [if_pos q8', if_pos q8', ite_self]
          exact yes (fc.mp (Or.inl (Or.inr q8')))
        · rw [if_neg q8', if_neg q8']
          by_cases qr : nI (ith f i) / 8 = nI (ith f j) / 8
          · rw [if_pos qr, if_neg (by decide)]
            by_cases q1 : nI (ith f i) - nI (ith f j) = 1
            · rw [if_pos q1]; exact yes (fc.mp (Or.inr ⟨qr, Or.inl q1⟩))
            · rw [if_neg q1]
              by_cases q1' : nI (ith f i) - nI (ith f j) = -1
              · rw [if_pos q1']; exact yes (fc.mp (Or.inr ⟨qr, Or.inr q1'⟩))
              · rw [if_neg q1']
                apply no
                cases hA : adjb (ith f i) (ith f j) with
                | false => rfl
                | true => rcases fc.mpr hA with (c | c) | ⟨_, c | c⟩ <;> contradiction
          · rw [if_neg qr, if_pos rfl]
            apply no
            cases hA : adjb (ith f i) (ith f j) with
            | false => rfl
            | true => rcases fc.mpr hA with (c | c) | ⟨c, _⟩ <;> contradiction
    · rintro x b k ⟨rfl, h1, h2⟩
      rw [mo_laysCells_B70, if_pos (nI_le (Nat.le_refl _) (by omega)), nm_eq, o1]
      refine ⟨_, _, ⟨rfl, fun q hq => ?_⟩, rfl⟩
      rcases Nat.lt_or_ge q i with z | z
      · exact h1 q z
      · have : q = i := by omega
        subst this; exact h2
  · rintro x b K ⟨rfl, hb⟩
    rw [mo_laysCells_B52, if_pos (nI_le (Nat.le_refl _) (by omega))]
    exact ⟨b, rfl, hb⟩
theorem mo_laysCells_eq {f : Int64} (hf : FIG f) (y : Int32) (a b : Nat → Int32) : ∃ a' b', mo_laysCells f y a b = some (nI (cnt f), a', b') ∧ CAt f (cnt f) a' ∧ NEb f (cnt f) b' := by
  have n12 := hf.2.2.2.1
  unfold mo_laysCells
  refine ivl3 (B := mo_laysCells_B7 f b) (fun k x c a => x = nI k ∧ c = nI (fb_ct (bt f) k) ∧ CAt f (fb_ct (bt f) k) a) (fun o => ∃ a' b', o = some (nI (cnt f), a', b') ∧ CAt f (cnt f) a' ∧ NEb f (cnt f) b') 64 ?_ ?_ FU 0 _ _ _ (by omega) (FU_lt (by omega)) ⟨rfl, rfl, fun i h => by have : i < 0 := h; omega⟩
  · rintro k hk x c a K ⟨rfl, rfl, ha⟩
    rw [mo_laysCells_B7, if_neg (show ¬ (64 : Int32) ≤ nI k from nI_ge (a := k) (b := 64) hk (by omega)), mo_has_eq f hk, bd1_some]
    cases hb : bt f k with
    | false =>
      rw [if_pos (by decide), mo_laysCells_J44, nm_eq, o1]
      have e : fb_ct (bt f) (k + 1) = fb_ct (bt f) k := by rw [fb_ct_succ, hb]; rfl
      exact ⟨_, _, _, ⟨rfl, by rw [e], by rw [e]; exact ha⟩, rfl⟩
    | true =>
      obtain ⟨i1, i2⟩ := ith_ct hb
      have e : fb_ct (bt f) (k + 1) = fb_ct (bt f) k + 1 := by rw [fb_ct_succ, hb]; rfl
      rw [if_neg (by decide), ck_n (show fb_ct (bt f) k < 12 by omega) (by omega), nm_eq, nm_eq, cl_n (by omega), nI_1, mo_laysCells_J44, nm_eq, o1]
      refine ⟨_, _, _, ⟨rfl, by rw [e], ?_⟩, rfl⟩
      rw [e]
      intro i hi
      rcases Nat.lt_or_ge i (fb_ct (bt f) k) with z | z
      · rw [pk_un (by omega)]; exact ha i z
      · have : i = fb_ct (bt f) k := by omega
        rw [this, pk_us, i1]
  · rintro x c a K ⟨rfl, rfl, ha⟩
    rw [mo_laysCells_B7, if_pos (show (64 : Int32) ≤ nI 64 from by decide)]
    have ha' : CAt f (cnt f) a := ha
    obtain ⟨b', h1, h2⟩ := lc_2 hf ha' b
    have h1' : fl2 (mo_laysCells_B52 (nI (fb_ct (bt f) 64)) a) FU 0 b = some (nI (cnt f), a, b') := h1
    exact ⟨a, b', h1', ha', h2⟩
/-! the class -/
def PCl (f : Int64) (n : Nat) (a : Nat → Int64) : Prop := ∀ i, i < n → a i = sl 1 (nI (ith f i))
theorem near_c {f : Int64} (hf : FIG f) {i j : Nat} (hi : i < cnt f) (hj : j < cnt f) : gar (sl 1 (nI (ith f i))) &&& sl 1 (nI (ith f j)) = 0 ↔ adjb (ith f i) (ith f j) = false := by
  have bi := ith_bt hi
  have bj := ith_bt hj
  have i64 := bt_lt bi
  have j64 := bt_lt bj
  have c7 : C7 (sl 1 (nI (ith f i))) := by
    intro t ht
    rw [bt_one i64] at ht
    subst ht
    exact (hf.1 _ bi).1
  have key : bt (gar (sl 1 (nI (ith f i)))) (ith f j) = true ↔ adj (ith f i) (ith f j) := by
    rw [gar_nb c7 j64 (hf.1 _ bj).1]
    unfold nb
    constructor
    · rintro ⟨t, h1, h2⟩
      rw [bt_one i64] at h2
      subst h2; exact adj_symm h1
    · intro h
      exact ⟨_, adj_symm h, (bt_one i64).mpr rfl⟩
  rw [i64_eq0]
  constructor
  · intro h
    have := h _ j64
    rw [bt_and, (bt_one j64).mpr rfl, Bool.and_true] at this
    cases hA : adjb (ith f i) (ith f j) with
    | false => rfl
    | true => rw [key.mpr (adjb_t.mp hA)] at this; cases this
  · intro h t ht
    rw [bt_and]
    by_cases q : t = ith f j
    · subst q
      rw [bf_of (fun c => by have := adjb_t.mpr (key.mp c); rw [h] at this; cases this), Bool.false_and]
    · rw [bf_of (f := sl 1 (nI (ith f j))) (fun c => q ((bt_one j64).mp c)), Bool.and_false]
theorem pi_2 {f : Int64} (hf : FIG f) {a : Nat → Int64} (ha : PCl f (cnt f) a) (b : Nat → Int32) : ∃ b', fl2 (pa_index_B57 (nI (cnt f)) a) FU 0 b = some (nI (cnt f), a, b') ∧ NEb f (cnt f) b' := by
  have n12 := hf.2.2.2.1
  refine ivl2 (B := pa_index_B57 (nI (cnt f)) a) (fun i x b => x = nI i ∧ NEb f i b) (fun o => ∃ b', o = some (nI (cnt f), a, b') ∧ NEb f (cnt f) b') (cnt f) ?_ ?_ FU 0 _ _ (by omega) (FU_lt (by omega)) ⟨rfl, fun i h => by omega⟩
  · rintro i hi x b K ⟨rfl, hb⟩
    rw [pa_index_B57, if_neg (nI_ge hi (by omega)), ck_n (show i < 12 by omega) (by omega), nm_eq, cl_n (by omega)]
    refine ivl2 (B := pa_index_B77 (nI i) (nI (cnt f)) a K) (fun j x b => x = nI j ∧ NEb f i b ∧ b i = nI (bsN f i j)) (fun o => ∃ a' b', (a' = nI (i + 1) ∧ NEb f (i + 1) b') ∧ o = K a' b') (cnt f) ?_ ?_ FU 0 _ _ (by omega) (FU_lt (by omega)) ⟨rfl, fun q hq => by rw [pk_un (by omega)]; exact hb q hq, pk_us⟩
    · rintro j hj x b k ⟨rfl, h1, h2⟩
      have c12 : ∀ {β : Type} (k : Option β), ck (nI i) 12 k = k := fun k => ck_n (show i < 12 by omega) (by omega) k
      have d12 : ∀ {β : Type} (k : Option β), ck (nI j) 12 k = k := fun k => ck_n (show j < 12 by omega) (by omega) k
      have nc := near_c hf hi hj
      rw [pa_index_B77, if_neg (nI_ge hj (by omega)), c12, gr_around_eq, bd1_some, d12, cl_n (by omega), cl_n (by omega), ha i hi, ha j hj]
      cases hA : adjb (ith f i) (ith f j) with
      | false =>
        rw [if_pos (nc.mpr hA), pa_index_J123, nm_eq, o1]
        exact ⟨_, _, ⟨rfl, h1, by rw [h2, bsN, hA, if_neg (by decide)]⟩, rfl⟩
      | true =>
        rw [if_neg (fun c => by rw [nc.mp c] at hA; cases hA), c12, nm_eq, c12, nm_eq, pa_index_J123, nm_eq, o1, h2, il_n ⟨j, by omega⟩, nI_or]
        refine ⟨_, _, ⟨rfl, fun t ht => by rw [pk_un (by omega)]; exact h1 t ht, ?_⟩, rfl⟩
        rw [pk_us, bsN, if_pos hA]
    · rintro x b k ⟨rfl, h1, h2⟩
      rw [pa_index_B77, if_pos (nI_le (Nat.le_refl _) (by omega)), nm_eq, o1]
      refine ⟨_, _, ⟨rfl, fun q hq => ?_⟩, rfl⟩
      rcases Nat.lt_or_ge q i with z | z
      · exact h1 q z
      · have : q = i := by omega
        subst this; exact h2
  · rintro x b K ⟨rfl, hb⟩
    rw [pa_index_B57, if_pos (nI_le (Nat.le_refl _) (by omega))]
    exact ⟨b, rfl, hb⟩
theorem pa_index_eq {f : Int64} (hf : FIG f) (y : Int32) (a : Nat → Int64) (b : Nat → Int32) : ∃ a' b', pa_index f y a b = some (nI (cnt f), a', b') ∧ PCl f (cnt f) a' ∧ NEb f (cnt f) b' := by
  have n12 := hf.2.2.2.1
  have mn : mnI (nI (cnt f)) 12 = nI (cnt f) := by
    unfold mnI
    rw [if_neg (show ¬ (12 : Int32) < nI (cnt f) from nI_nlt (a := 12) (b := cnt f) n12 (by omega))]
  rw [pa_index, jl_bitCount_eq, bd1_some, nm_eq, mn]
  refine ivl3 (B := pa_index_B18 (nI (cnt f)) b) (fun i r x a => r = itr f i ∧ x = nI i ∧ PCl f i a) (fun o => ∃ a' b', o = some (nI (cnt f), a', b') ∧ PCl f (cnt f) a' ∧ NEb f (cnt f) b') (cnt f) ?_ ?_ FU 0 _ _ _ (by omega) (FU_lt (by omega)) ⟨rfl, rfl, fun i h => by omega⟩
  · rintro i hi r x a K ⟨rfl, rfl, ha⟩
    rw [pa_index_B18, if_neg (nI_ge hi (by omega)), nm_eq, ck_n (show i < 12 by omega) (by omega), nm_eq, ck_n (show i < 12 by omega) (by omega), nm_eq, nm_eq, cl_n (by omega), pk_uLs, xor_low, o1, low_sl (ith_low hi)]
    refine ⟨_, _, _, ⟨rfl, rfl, fun q hq => ?_⟩, rfl⟩
    rcases Nat.lt_or_ge q i with z | z
    · rw [pk_uLn (by omega)]; exact ha q z
    · have : q = i := by omega
      subst this
      rw [pk_uLs]
  · rintro r x a K ⟨rfl, rfl, ha⟩
    rw [pa_index_B18, if_pos (nI_le (Nat.le_refl _) (by omega))]
    obtain ⟨b', h1, h2⟩ := pi_2 hf ha b
    exact ⟨a, b', h1, ha, h2⟩
