/-! LAYER 2: small words -/
def boI (b : Bool) : Int32 := if b then 1 else 0
theorem zb_0 {β : Type} (k : Option β) : zb 0 k = k := by unfold zb; rw [if_pos (Or.inl rfl)]
theorem zb_1 {β : Type} (k : Option β) : zb 1 k = k := by unfold zb; rw [if_pos (Or.inr rfl)]
theorem zb_b {β : Type} (b : Bool) (k : Option β) : zb (boI b) k = k := by cases b <;> first | exact zb_0 k | exact zb_1 k
theorem boI_0 (b : Bool) : boI b = 0 ↔ b = false := by cases b <;> decide
theorem boI_t : boI true = 1 := rfl
theorem boI_f : boI false = 0 := rfl
theorem nm_eq {α β : Type} (a : α) (k : α → Option β) : nm a k = k a := by
  have h : nm a k = k a := rfl
  exact h
theorem bd1_some {α β : Type} (a : α) (k : α → Option β) : bd1 (some a) k = k a := rfl
def inr (v lo hi : Int32) : Bool := decide (lo ≤ v) && decide (v ≤ hi)
theorem i32_nlt {a b : Int32} : ¬ a < b ↔ b ≤ a := by rw [Int32.lt_iff_toInt_lt, Int32.le_iff_toInt_le]; omega
theorem i32_nle {a b : Int32} : ¬ a ≤ b ↔ b < a := by rw [Int32.lt_iff_toInt_lt, Int32.le_iff_toInt_le]; omega
theorem cf_within_eq (v lo hi : Int32) : cf_within v lo hi = some (boI (inr v lo hi)) := by
  unfold cf_within inr
  by_cases h1 : v < lo
  · rw [if_pos h1, zb_0, decide_eq_false (i32_nle.mpr h1)]; rfl
  · rw [if_neg h1, decide_eq_true (i32_nlt.mp h1)]
    by_cases h2 : hi < v
    · rw [if_pos h2, zb_0, decide_eq_false (i32_nle.mpr h2)]; rfl
    · rw [if_neg h2, zb_1, decide_eq_true (i32_nlt.mp h2)]; rfl
theorem mo_in_eq (v lo hi : Int32) : mo_in v lo hi = some (boI (inr v lo hi)) := cf_within_eq v lo hi
theorem cf_isDrawer_eq (v : Int32) : cf_isDrawer v = some (boI (inr v 0 7)) := by
  unfold cf_isDrawer; rw [cf_within_eq, bd1_some, zb_b]
theorem mo_isDrawer_eq (v : Int32) : mo_isDrawer v = some (boI (inr v 0 7)) := by
  unfold mo_isDrawer; rw [mo_in_eq, bd1_some, zb_b]
theorem cf_isKind_eq (v : Int32) : cf_isKind v = some (boI (inr v 0 2)) := by
  unfold cf_isKind; rw [cf_within_eq, bd1_some, zb_b]
theorem mo_isKind_eq (v : Int32) : mo_isKind v = some (boI (inr v 0 2)) := by
  unfold mo_isKind; rw [mo_in_eq, bd1_some, zb_b]
theorem cf_isList_eq (v w : Int32) : cf_isList v w = some (boI (inr v 1 7 && inr w 0 2)) := by
  unfold cf_isList; rw [cf_within_eq, bd1_some, cf_isKind_eq]
  cases inr v 1 7 <;> cases inr w 0 2 <;> rfl
theorem mo_isList_eq (v w : Int32) : mo_isList v w = some (boI (inr v 1 7 && inr w 0 2)) := by
  unfold mo_isList; rw [mo_in_eq, bd1_some, mo_isKind_eq]
  cases inr v 1 7 <;> cases inr w 0 2 <;> rfl
theorem cf_isMove_eq (v w : Int32) : cf_isMove v w = some (boI (inr v (-7) 7 && inr w (-7) 7)) := by
  unfold cf_isMove; rw [cf_within_eq, bd1_some, cf_within_eq]
  cases inr v (-7) 7 <;> cases inr w (-7) 7 <;> rfl
theorem inr_nI {v : Int32} {n : Nat} (hn : n < 2 ^ 31) (h : inr v 0 (nI n) = true) : ∃ j, j ≤ n ∧ v = nI j := by
  unfold inr at h
  rw [Bool.and_eq_true, decide_eq_true_eq, decide_eq_true_eq] at h
  exact nI_of2 (M := nI n) (nI_toInt hn) (i32_nlt.mpr h.1) h.2
theorem inr_dr {v : Int32} (h : inr v 0 7 = true) : ∃ j, j < 8 ∧ v = nI j := by
  obtain ⟨j, h1, h2⟩ := inr_nI (n := 7) (by omega) h
  exact ⟨j, by omega, h2⟩
theorem inr_lo {v : Int32} {m n : Nat} (hn : n < 2 ^ 31) (hm : m < 2 ^ 31) (h : inr v (nI m) (nI n) = true) : ∃ j, m ≤ j ∧ j ≤ n ∧ v = nI j := by
  unfold inr at h
  rw [Bool.and_eq_true, decide_eq_true_eq, decide_eq_true_eq] at h
  have h0 : (0 : Int32) ≤ v := by
    have a1 := nI_pos' hm
    rw [Int32.le_iff_toInt_le] at a1 h ⊢
    omega
  obtain ⟨j, a, b⟩ := nI_of2 (M := nI n) (nI_toInt hn) (i32_nlt.mpr h0) h.2
  subst b
  exact ⟨j, (nI_leI hm (by omega)).mp h.1, a, rfl⟩
theorem ck_n {β : Type} {n N : Nat} (h : n < N) (hN : N < 2 ^ 31) (k : Option β) : ck (nI n) N k = k := by
  unfold ck; rw [if_neg (nI_in h hN)]
theorem cl_n {n : Nat} (h : n < 2 ^ 31) : (nI n).toNatClampNeg = n := nI_clamp h
/-! adjacency, what hangs together, figures -/
def adj (a b : Nat) : Prop := (a / 8 = b / 8 ∧ (a % 8 + 1 = b % 8 ∨ b % 8 + 1 = a % 8)) ∨ (a % 8 = b % 8 ∧ (a / 8 + 1 = b / 8 ∨ b / 8 + 1 = a / 8))
def Cl (S G : Nat → Prop) (i : Nat) : Prop := G i ∧ ∀ T : Nat → Prop, (∀ a, S a → G a → T a) → (∀ a b, G a → G b → adj a b → T a → T b) → T i
def CON (f : Int64) : Prop := f ≠ 0 ∧ ∀ T : Nat → Prop, (∃ a, bt f a = true ∧ T a) → (∀ a b, bt f a = true → bt f b = true → adj a b → T a → T b) → ∀ b, bt f b = true → T b
def F77 (f : Int64) : Prop := ∀ i, bt f i = true → i % 8 < 7 ∧ i < 56
def FIG (f : Int64) : Prop := F77 f ∧ (∃ x, x < 7 ∧ bt f x = true) ∧ (∃ y, y < 7 ∧ bt f (8 * y) = true) ∧ cnt f ≤ 12 ∧ CON f
def DR (g h : Nat → Int64) : Prop := ∀ i, i < 8 → g i = h i ∧ (g i = 0 ∨ FIG (g i))
def KP (tk km : Int32) (g h : Nat → Int64) : Prop := ∃ t, t ≤ 10 ∧ tk = nI t ∧ km = nI t ∧ ∀ i, i < 8 * t → g i = h i ∧ (g i = 0 ∨ FIG (g i))
def TP (fed tp : Int32) (g h : Nat → Int32) : Prop := ∃ f, f ≤ 6 ∧ fed = nI (20 * f) ∧ tp = nI (20 * f) ∧ ∀ i, i < 20 * f → g i = h i
