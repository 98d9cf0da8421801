/-! the two eliminations -/
abbrev lI (z : Int) : Int64 := Int64.ofInt z
theorem dzL_n {β : Type} {y : Int64} (h : ¬ y = 0) (k : Option β) : dzL y k = k := by unfold dzL; rw [if_neg h]
theorem lI_toInt {z : Int} (h : -9223372036854775808 ≤ z ∧ z < 9223372036854775808) : (lI z).toInt = z := by
  show (Int64.ofInt z).toInt = z
  rw [Int64.toInt_ofInt]
  exact fb_bmodL h.1 h.2
theorem lI_ne0 {z : Int} (h : 0 < z) (h2 : z < 9223372036854775808) : ¬ lI z = 0 := by
  intro e
  have := congrArg Int64.toInt e
  rw [lI_toInt (by omega)] at this
  have z0 : (0 : Int64).toInt = 0 := by decide
  omega
theorem lI_div {d q : Int} (hd : 0 < d) (hd2 : d ≤ 16777216) (hq : -16777216 ≤ q ∧ q ≤ 16777216) : lI (d * q) / lI d = lI q := by
  have b1 : d * q ≤ 16777216 * 16777216 := by
    have := Int.mul_le_mul_of_nonneg_left hq.2 (show 0 ≤ d by omega)
    have := Int.mul_le_mul_of_nonneg_right hd2 (show (0 : Int) ≤ 16777216 by omega)
    omega
  have b2 : -(16777216 * 16777216) ≤ d * q := by
    have := Int.mul_le_mul_of_nonneg_left hq.1 (show 0 ≤ d by omega)
    have := Int.mul_le_mul_of_nonneg_right hd2 (show (0 : Int) ≤ 16777216 by omega)
    omega
  apply Int64.toInt_inj.mp
  rw [Int64.toInt_div, lI_toInt (by omega), lI_toInt (by omega), lI_toInt (by omega), Int.mul_tdiv_cancel_left _ (by omega)]
  exact fb_bmodL (by omega) (by omega)
theorem i64_of {z : Int} (h : -2147483648 ≤ z ∧ z < 2147483648) : (Int32.ofInt z).toInt64 = lI z := by
  apply Int64.toInt_inj.mp
  rw [Int32.toInt_toInt64, fb_ofI h.1 h.2, lI_toInt (by omega)]
theorem i32_of (z : Int) : (lI z).toInt32 = Int32.ofInt z := Int64.toInt32_ofInt
theorem lN_lI (n : Nat) : lN n = lI (n : Int) := rfl
/-- what stands at (r, c) when the k-th elimination has come to (i, j) -/
noncomputable def Vk (n : Nat) (A : Nat → Nat → Int) (k i j r c : Nat) : Int := if k < r ∧ k < c ∧ (r < i ∨ (r = i ∧ c < j)) then Dk n A (k + 1) r c else Dk n A k r c
theorem Vk_0 {n : Nat} {A : Nat → Nat → Int} {k r c : Nat} : Vk n A k (k + 1) (k + 1) r c = Dk n A k r c := by
  unfold Vk
  rw [if_neg (by omega)]
theorem Vk_row {n : Nat} {A : Nat → Nat → Int} {k i r c : Nat} (hc : c < n) : Vk n A k i n r c = Vk n A k (i + 1) (k + 1) r c := by
  unfold Vk
  by_cases q : k < r ∧ k < c ∧ (r < i ∨ (r = i ∧ c < n))
  · rw [if_pos q, if_pos (by omega)]
  · rw [if_neg q, if_neg (by omega)]
theorem Vk_end {n : Nat} {A : Nat → Nat → Int} {k r c : Nat} (hr : r < n) (h1 : k + 1 ≤ r) (h2 : k + 1 ≤ c) : Vk n A k n (k + 1) r c = Dk n A (k + 1) r c := by
  unfold Vk
  rw [if_pos (by omega)]
theorem ixS {sd i j : Nat} (hs : sd ≤ 11) (hi : i < sd) (hj : j < sd) : i * sd + j < 121 := by
  have h1 : (i + 1) * sd ≤ sd * sd := Nat.mul_le_mul_right sd hi
  have h2 : sd * sd ≤ 11 * 11 := Nat.mul_le_mul hs hs
  rw [Nat.add_mul, Nat.one_mul] at h1
  omega
theorem ixU {sd r c i j : Nat} (hc : c < sd) (hj : j < sd) (h : r * sd + c = i * sd + j) : r = i ∧ c = j := by
  rcases Nat.lt_trichotomy r i with q | q | q
  · have := Nat.mul_le_mul_right sd (show r + 1 ≤ i from q)
    rw [Nat.add_mul, Nat.one_mul] at this
    omega
  · subst q; exact ⟨rfl, by omega⟩
  · have := Nat.mul_le_mul_right sd (show i + 1 ≤ r from q)
    rw [Nat.add_mul, Nat.one_mul] at this
    omega
theorem ixn (sd i j : Nat) : (nI i * nI sd + nI j : Int32) = nI (i * sd + j) := by rw [pk_mul, nI_add]
def MTc (sd : Nat) (V : Nat → Nat → Int) (k : Nat) (M : Nat → Int64) : Prop := ∀ r c, k ≤ r → r < sd → k ≤ c → c < sd → M (r * sd + c) = lI (V r c)
theorem elim_in {sd : Nat} {A : Nat → Nat → Int} (hs : sd ≤ 11) {k i : Nat} (hI : IVm sd A k) (hI1 : IVm sd A (k + 1)) (hki : k < i) (hi : i < sd) (K : Int32 → (Nat → Int64) → Option (Nat → Int64)) {M : Nat → Int64} (hM : MTc sd (Vk sd A k i (k + 1)) k M) : ∃ M', fl2 (pa_eliminate_B23 (nI k) (nI sd) (lI (dk sd A k)) (nI i) K) FU (nI (k + 1)) M = K (nI (i + 1)) M' ∧ MTc sd (Vk sd A k (i + 1) (k + 1)) k M' := by
  have dp := hI.pos k (Nat.le_refl _)
  have db := hI.bnd
  have hd0 : ∀ m, m ≤ k + 1 → dk sd A m ≠ 0 := fun m hm => by have := hI1.pos m hm; omega
  have p4 : (4 : Int) ^ k ≤ 16777216 := by
    have : ∀ k : Fin 12, (4 : Int) ^ k.val ≤ 16777216 := by decide
    exact this ⟨k, by omega⟩
  refine ivl2 (B := pa_eliminate_B23 (nI k) (nI sd) (lI (dk sd A k)) (nI i) K) (fun m x M => x = nI (k + 1 + m) ∧ MTc sd (Vk sd A k i (k + 1 + m)) k M) (fun o => ∃ M', o = K (nI (i + 1)) M' ∧ MTc sd (Vk sd A k (i + 1) (k + 1)) k M') (sd - (k + 1)) ?_ ?_ FU 0 _ _ (by omega) (FU_lt (by omega)) ⟨rfl, hM⟩
  · rintro m hm x M kk ⟨rfl, h⟩
    generalize ej : k + 1 + m = j at *
    have hj : j < sd := by omega
    have ej2 : k + 1 + (m + 1) = j + 1 := by omega
    rw [ej2]
    have r1 := h i j (by omega) hi (by omega) hj
    have r2 := h k k (Nat.le_refl _) (by omega) (Nat.le_refl _) (by omega)
    have r3 := h i k (by omega) hi (Nat.le_refl _) (by omega)
    have r4 := h k j (Nat.le_refl _) (by omega) (by omega) hj
    have v1 : Vk sd A k i j i j = Dk sd A k i j := by unfold Vk; rw [if_neg (by omega)]
    have v2 : Vk sd A k i j k k = Dk sd A k k k := by unfold Vk; rw [if_neg (by omega)]
    have v3 : Vk sd A k i j i k = Dk sd A k i k := by unfold Vk; rw [if_neg (by omega)]
    have v4 : Vk sd A k i j k j = Dk sd A k k j := by unfold Vk; rw [if_neg (by omega)]
    rw [v1] at r1
    rw [v2] at r2
    rw [v3] at r3
    rw [v4] at r4
    have x1 := ixS hs hi hj
    have x2 := ixS hs (show k < sd by omega) (show k < sd by omega)
    have x3 := ixS hs hi (show k < sd by omega)
    have x4 := ixS hs (show k < sd by omega) hj
    have st := Dk_step hd0 (show k < j by omega) i
    have bd := D_b hI1 (show k + 1 ≤ i by omega) hi (show k + 1 ≤ j by omega) hj (by omega)
    have ev : (lI (Dk sd A k i j) * lI (Dk sd A k k k)) - (lI (Dk sd A k i k) * lI (Dk sd A k k j)) = lI (dk sd A k * Dk sd A (k + 1) i j) := by
      show Int64.ofInt _ * Int64.ofInt _ - Int64.ofInt _ * Int64.ofInt _ = Int64.ofInt _
      rw [← Int64.ofInt_mul, ← Int64.ofInt_mul, ← Int64.ofInt_sub, st, Int.mul_comm (Dk sd A k i j), Int.mul_comm (Dk sd A k i k)]
    rw [pa_eliminate_B23, if_neg (nI_ge hj (by omega))]
    simp only [nm_eq, ixn]
    rw [ck_n x1 (by omega), ck_n x2 (by omega), ck_n x3 (by omega), ck_n x4 (by omega), dzL_n (lI_ne0 dp (by omega)), ck_n x1 (by omega), cl_n (show i * sd + j < 2 ^ 31 by omega), cl_n (show k * sd + k < 2 ^ 31 by omega), cl_n (show i * sd + k < 2 ^ 31 by omega), cl_n (show k * sd + j < 2 ^ 31 by omega), r1, r2, r3, r4, ev, lI_div dp (by omega) bd, o1]
    refine ⟨_, _, ⟨rfl, fun r c h1 h2 h3 h4 => ?_⟩, rfl⟩
    by_cases q : r = i ∧ c = j
    · obtain ⟨rfl, rfl⟩ := q
      rw [pk_uLs]
      unfold Vk
      rw [if_pos (by omega)]
    · rw [pk_uLn (fun e => q (ixU h4 hj e)), h r c h1 h2 h3 h4]
      unfold Vk
      by_cases q2 : k < r ∧ k < c ∧ (r < i ∨ (r = i ∧ c < j))
      · rw [if_pos q2, if_pos (by omega)]
      · rw [if_neg q2, if_neg (by omega)]
  · rintro x M kk ⟨rfl, h⟩
    rw [show k + 1 + (sd - (k + 1)) = sd by omega] at *
    rw [pa_eliminate_B23, if_pos (nI_le (Nat.le_refl _) (by omega)), nm_eq, o1]
    exact ⟨M, rfl, fun r c h1 h2 h3 h4 => by rw [← Vk_row h4]; exact h r c h1 h2 h3 h4⟩
theorem elim_eq {sd : Nat} {A : Nat → Nat → Int} (hs : sd ≤ 11) {k : Nat} (hI : IVm sd A k) (hI1 : IVm sd A (k + 1)) (hk : k + 1 ≤ sd) {M : Nat → Int64} (hM : MTc sd (Dk sd A k) k M) : ∃ M', pa_eliminate (nI k) (nI sd) (lI (dk sd A k)) M = some M' ∧ M' (k * sd + k) = lI (dk sd A (k + 1)) ∧ MTc sd (Dk sd A (k + 1)) (k + 1) M' := by
  have dp := hI.pos k (Nat.le_refl _)
  have db := hI.bnd
  have p4 : (4 : Int) ^ k ≤ 16777216 := by
    have : ∀ k : Fin 12, (4 : Int) ^ k.val ≤ 16777216 := by decide
    exact this ⟨k, by omega⟩
  rw [pa_eliminate, if_neg (lI_ne0 dp (by omega)), nm_eq, nI_1]
  refine ivl2 (B := pa_eliminate_B12 (nI k) (nI sd) (lI (dk sd A k))) (fun m x M => x = nI (k + 1 + m) ∧ MTc sd (Vk sd A k (k + 1 + m) (k + 1)) k M) (fun o => ∃ M', o = some M' ∧ M' (k * sd + k) = lI (dk sd A (k + 1)) ∧ MTc sd (Dk sd A (k + 1)) (k + 1) M') (sd - (k + 1)) ?_ ?_ FU 0 _ _ (by omega) (FU_lt (by omega)) ⟨rfl, fun r c h1 h2 h3 h4 => by rw [Nat.add_zero, Vk_0]; exact hM r c h1 h2 h3 h4⟩
  · rintro m hm x M K ⟨rfl, h⟩
    rw [pa_eliminate_B12, if_neg (nI_ge (show k + 1 + m < sd by omega) (by omega)), nm_eq, nI_1]
    obtain ⟨M', e1, e2⟩ := elim_in hs hI hI1 (show k < k + 1 + m by omega) (by omega) K h
    exact ⟨_, _, ⟨rfl, e2⟩, e1⟩
  · rintro x M K ⟨rfl, h⟩
    rw [show k + 1 + (sd - (k + 1)) = sd by omega] at *
    rw [pa_eliminate_B12, if_pos (nI_le (Nat.le_refl _) (by omega))]
    refine ⟨M, rfl, ?_, fun r c h1 h2 h3 h4 => ?_⟩
    · rw [h k k (Nat.le_refl _) (by omega) (Nat.le_refl _) (by omega), dk_s]
      unfold Vk
      rw [if_neg (by omega)]
    · rw [h r c (by omega) h2 (by omega) h4, Vk_end h2 h1 h3]
theorem fillM_eq {f : Int64} (hf : FIG f) {b : Nat → Int32} (hb : NEb f (cnt f) b) (M : Nat → Int64) : ∃ M', pa_fillMatrix (nI (cnt f - 1)) b M = some M' ∧ MTc (cnt f - 1) (Lp f) 0 M' := by
  have n12 := hf.2.2.2.1
  have hp := cnt_pos' hf
  have p12 := pw12 n12
  have hs : cnt f - 1 ≤ 11 := by omega
  unfold pa_fillMatrix
  refine ivl2 (B := pa_fillMatrix_B2 (nI (cnt f - 1)) b) (fun i x M => x = nI i ∧ ∀ r c, r < i → c < cnt f - 1 → M (r * (cnt f - 1) + c) = lI (Lp f r c)) (fun o => ∃ M', o = some M' ∧ MTc (cnt f - 1) (Lp f) 0 M') (cnt f - 1) ?_ ?_ FU 0 _ _ (by omega) (FU_lt (by omega)) ⟨rfl, fun r c h => by omega⟩
  · rintro i hi x M K ⟨rfl, h⟩
    have bl := bsN_lt f i (cnt f)
    rw [pa_fillMatrix_B2, if_neg (nI_ge hi (by omega))]
    refine ivl2 (B := pa_fillMatrix_B9 (nI (cnt f - 1)) (nI i) b K) (fun j x M => x = nI j ∧ (∀ r c, r < i → c < cnt f - 1 → M (r * (cnt f - 1) + c) = lI (Lp f r c)) ∧ ∀ c, c < j → M (i * (cnt f - 1) + c) = lI (if adjb (ith f i) (ith f c) then -1 else 0)) (fun o => ∃ x' M', (x' = nI (i + 1) ∧ ∀ r c, r < i + 1 → c < cnt f - 1 → M' (r * (cnt f - 1) + c) = lI (Lp f r c)) ∧ o = K x' M') (cnt f - 1) ?_ ?_ FU 0 _ _ (by omega) (FU_lt (by omega)) ⟨rfl, h, fun c h => by omega⟩
    · rintro j hj x M k ⟨rfl, h1, h2⟩
      have x1 := ixS hs hi hj
      have ew : (-(boI (adjb (ith f i) (ith f j)))).toInt64 = lI (if adjb (ith f i) (ith f j) then -1 else 0) := by
        cases adjb (ith f i) (ith f j) <;> decide
      rw [pa_fillMatrix_B9, if_neg (nI_ge hj (by omega)), ck_n (show i < 12 by omega) (by omega), cl_n (show i < 2 ^ 31 by omega), hb i (by omega), ir_n (by omega) (by omega), bsN_bit, decide_eq_true (show j < cnt f by omega), Bool.true_and, ew]
      simp only [nm_eq, ixn]
      rw [ck_n x1 (by omega), cl_n (by omega), o1]
      refine ⟨_, _, ⟨rfl, fun r c h3 h4 => ?_, fun c h3 => ?_⟩, rfl⟩
      · rw [pk_uLn (fun e => by have := ixU h4 hj e; omega)]; exact h1 r c h3 h4
      · by_cases q : c = j
        · subst q; rw [pk_uLs]
        · rw [pk_uLn (fun e => q (ixU (show c < cnt f - 1 by omega) hj e).2)]; exact h2 c (by omega)
    · rintro x M k ⟨rfl, h1, h2⟩
      have x1 := ixS hs hi hi
      have pl := dgr_4 f i
      rw [pa_fillMatrix_B9, if_pos (nI_le (Nat.le_refl _) (by omega)), ck_n (show i < 12 by omega) (by omega), cl_n (show i < 2 ^ 31 by omega), hb i (by omega), ji_small (by omega), bd1_some, dgr_pc hf, nI_l (by omega)]
      simp only [nm_eq, ixn]
      rw [ck_n x1 (by omega), cl_n (by omega), o1]
      refine ⟨_, _, ⟨rfl, fun r c h3 h4 => ?_⟩, rfl⟩
      by_cases q : r = i
      · subst q
        by_cases q2 : c = r
        · subst q2
          rw [pk_uLs, lN_lI]
          unfold Lp
          rw [if_pos rfl]
        · rw [pk_uLn (fun e => q2 (ixU h4 hi e).2), h2 c h4]
          unfold Lp
          rw [if_neg q2]
      · rw [pk_uLn (fun e => q (ixU h4 hi e).1)]; exact h1 r c (by omega) h4
  · rintro x M K ⟨rfl, h⟩
    rw [pa_fillMatrix_B2, if_pos (nI_le (Nat.le_refl _) (by omega))]
    exact ⟨M, rfl, fun r c _ h2 _ h4 => h r c h2 h4⟩
theorem pa_trees_eq {f : Int64} (hf : FIG f) {b : Nat → Int32} (hb : NEb f (cnt f) b) (M : Nat → Int64) : ∃ M', pa_trees (nI (cnt f)) b M = some (lI (dk (cnt f - 1) (Lp f) (cnt f - 1)), M') := by
  have n12 := hf.2.2.2.1
  have hp := cnt_pos' hf
  have hs : cnt f - 1 ≤ 11 := by omega
  obtain ⟨M0, m1, m2⟩ := fillM_eq hf hb M
  have iv := IV_all (IV0 hf)
  rw [pa_trees, nm_eq, nI_m1 hp, m1, bd1_some]
  generalize esd : cnt f - 1 = sd at *
  rw [show fl3 (pa_trees_B17 (nI sd) (nI (cnt f)) b) FU 1 0 M0 = fl3 (pa_trees_B17 (nI sd) (nI (cnt f)) b) FU (lI (dk sd (Lp f) 0)) (nI 0) M0 by rw [dk_0]; rfl]
  refine ivl3 (B := pa_trees_B17 (nI sd) (nI (cnt f)) b) (fun k x y M => x = lI (dk sd (Lp f) k) ∧ y = nI k ∧ MTc sd (Dk sd (Lp f) k) k M) (fun o => ∃ M', o = some (lI (dk sd (Lp f) sd), M')) (sd - 1) ?_ ?_ FU 0 _ _ _ (by omega) (FU_lt (by omega)) ⟨rfl, rfl, fun r c h1 h2 h3 h4 => by rw [D0 h4]; exact m2 r c h1 h2 h3 h4⟩
  · rintro k hk x y M K ⟨rfl, rfl, h⟩
    have i0 := iv k (by omega)
    have i1 := iv (k + 1) (by omega)
    have dp := i0.pos k (Nat.le_refl _)
    have db := i0.bnd
    have p4 : (4 : Int) ^ k ≤ 16777216 := by
      have : ∀ k : Fin 12, (4 : Int) ^ k.val ≤ 16777216 := by decide
      exact this ⟨k, by omega⟩
    obtain ⟨M', e1, e2, e3⟩ := elim_eq hs i0 i1 (by omega) h
    have x1 := ixS hs (show k < sd by omega) (show k < sd by omega)
    rw [pa_trees_B17, nI_1, if_neg (nI_ge (show k + 1 < sd by omega) (by omega)), if_neg (lI_ne0 dp (by omega)), e1, bd1_some, nm_eq, ixn, ck_n x1 (by omega), nm_eq, nm_eq, cl_n (by omega), e2, o1]
    exact ⟨_, _, _, ⟨rfl, rfl, e3⟩, rfl⟩
  · rintro x y M K ⟨rfl, rfl, h⟩
    rw [pa_trees_B17, nI_1, if_pos (nI_le (show sd ≤ sd - 1 + 1 by omega) (by omega))]
    rcases Nat.eq_zero_or_pos sd with z | z
    · subst z
      rw [if_pos (by decide)]
      exact ⟨M, by rw [dk_0]; rfl⟩
    · have x1 := ixS hs (show sd - 1 < sd by omega) (show sd - 1 < sd by omega)
      have ei : (sd - 1) * sd + (sd - 1) = sd * sd - 1 := by
        have : sd * sd = (sd - 1) * sd + sd := by
          conv => lhs; rw [show sd * sd = (sd - 1 + 1) * sd by rw [show sd - 1 + 1 = sd by omega]]
          rw [Nat.add_mul, Nat.one_mul]
        omega
      have en : (nI sd * nI sd - 1 : Int32) = nI ((sd - 1) * sd + (sd - 1)) := by
        rw [pk_mul, nI_m1 (Nat.mul_pos z z), ei]
      rw [if_neg (nI_nle z (by omega)), nm_eq, en, ck_n x1 (by omega), cl_n (by omega), h _ _ (Nat.le_refl _) (by omega) (Nat.le_refl _) (by omega)]
      refine ⟨M, ?_⟩
      have := dk_s sd (Lp f) (sd - 1)
      rw [show sd - 1 + 1 = sd by omega] at this
      rw [this]
/-! the reference -/
def MTm (sd : Nat) (V : Nat → Nat → Int) (k : Nat) (M : Nat → Int32) : Prop := ∀ r c, k ≤ r → r < sd → k ≤ c → c < sd → M (12 * r + c) = Int32.ofInt (V r c)
theorem ix12 (i j : Nat) : (12 * nI i + nI j : Int32) = nI (12 * i + j) := by rw [show (12 : Int32) = nI 12 from rfl, pk_mul, nI_add]
theorem D_m {n : Nat} {A : Nat → Nat → Int} {k i j : Nat} (h : IVm n A k) (hi : k ≤ i) (hin : i < n) (hj : k ≤ j) (hjn : j < n) (hk : k ≤ 11) : (Int32.ofInt (Dk n A k i j)).toInt64 = lI (Dk n A k i j) := by
  have := D_b h hi hin hj hjn hk
  exact i64_of (by omega)
theorem melim_in {sd : Nat} {A : Nat → Nat → Int} (hs : sd ≤ 11) {k i : Nat} (hI : IVm sd A k) (hI1 : IVm sd A (k + 1)) (hki : k < i) (hi : i < sd) (yc : Int32) (b : Nat → Int32) (K0 : Int64 → Int32 → (Nat → Int32) → Option (Int64 × (Nat → Int32))) (K : Int32 → (Nat → Int32) → Option (Int64 × (Nat → Int32))) {M : Nat → Int32} (hM : MTm sd (Vk sd A k i (k + 1)) k M) : ∃ M', fl2 (mo_trees_B110 (nI sd) (lI (dk sd A k)) (nI k) (nI i) yc b K0 K) FU (nI (k + 1)) M = K (nI (i + 1)) M' ∧ MTm sd (Vk sd A k (i + 1) (k + 1)) k M' := by
  have dp := hI.pos k (Nat.le_refl _)
  have db := hI.bnd
  have hd0 : ∀ m, m ≤ k + 1 → dk sd A m ≠ 0 := fun m hm => by have := hI1.pos m hm; omega
  have p4 : (4 : Int) ^ k ≤ 16777216 := by
    have : ∀ k : Fin 12, (4 : Int) ^ k.val ≤ 16777216 := by decide
    exact this ⟨k, by omega⟩
  refine ivl2 (B := mo_trees_B110 (nI sd) (lI (dk sd A k)) (nI k) (nI i) yc b K0 K) (fun m x M => x = nI (k + 1 + m) ∧ MTm sd (Vk sd A k i (k + 1 + m)) k M) (fun o => ∃ M', o = K (nI (i + 1)) M' ∧ MTm sd (Vk sd A k (i + 1) (k + 1)) k M') (sd - (k + 1)) ?_ ?_ FU 0 _ _ (by omega) (FU_lt (by omega)) ⟨rfl, hM⟩
  · rintro m hm x M kk ⟨rfl, h⟩
    generalize ej : k + 1 + m = j at *
    have hj : j < sd := by omega
    have ej2 : k + 1 + (m + 1) = j + 1 := by omega
    rw [ej2]
    have r1 := h i j (by omega) hi (by omega) hj
    have r2 := h k k (Nat.le_refl _) (by omega) (Nat.le_refl _) (by omega)
    have r3 := h i k (by omega) hi (Nat.le_refl _) (by omega)
    have r4 := h k j (Nat.le_refl _) (by omega) (by omega) hj
    have v1 : Vk sd A k i j i j = Dk sd A k i j := by unfold Vk; rw [if_neg (by omega)]
    have v2 : Vk sd A k i j k k = Dk sd A k k k := by unfold Vk; rw [if_neg (by omega)]
    have v3 : Vk sd A k i j i k = Dk sd A k i k := by unfold Vk; rw [if_neg (by omega)]
    have v4 : Vk sd A k i j k j = Dk sd A k k j := by unfold Vk; rw [if_neg (by omega)]
    rw [v1] at r1
    rw [v2] at r2
    rw [v3] at r3
    rw [v4] at r4
    have st := Dk_step hd0 (show k < j by omega) i
    have bd := D_b hI1 (show k + 1 ≤ i by omega) hi (show k + 1 ≤ j by omega) hj (by omega)
    have ev : (lI (Dk sd A k i j) * lI (Dk sd A k k k)) - (lI (Dk sd A k i k) * lI (Dk sd A k k j)) = lI (dk sd A k * Dk sd A (k + 1) i j) := by
      show Int64.ofInt _ * Int64.ofInt _ - Int64.ofInt _ * Int64.ofInt _ = Int64.ofInt _
      rw [← Int64.ofInt_mul, ← Int64.ofInt_mul, ← Int64.ofInt_sub, st, Int.mul_comm (Dk sd A k i j), Int.mul_comm (Dk sd A k i k)]
    rw [mo_trees_B110, if_neg (nI_ge hj (by omega))]
    simp only [nm_eq, ix12]
    rw [ck_n (show 12 * i + j < 144 by omega) (by omega), ck_n (show 12 * k + k < 144 by omega) (by omega), ck_n (show 12 * i + k < 144 by omega) (by omega), ck_n (show 12 * k + j < 144 by omega) (by omega), dzL_n (lI_ne0 dp (by omega)), ck_n (show 12 * i + j < 144 by omega) (by omega), cl_n (show 12 * i + j < 2 ^ 31 by omega), cl_n (show 12 * k + k < 2 ^ 31 by omega), cl_n (show 12 * i + k < 2 ^ 31 by omega), cl_n (show 12 * k + j < 2 ^ 31 by omega), r1, r2, r3, r4, D_m hI (by omega) hi (by omega) hj (by omega), D_m hI (Nat.le_refl _) (by omega) (Nat.le_refl _) (by omega) (by omega), D_m hI (by omega) hi (Nat.le_refl _) (by omega) (by omega), D_m hI (Nat.le_refl _) (by omega) (by omega) hj (by omega), ev, lI_div dp (by omega) bd, i32_of, o1]
    refine ⟨_, _, ⟨rfl, fun r c h1 h2 h3 h4 => ?_⟩, rfl⟩
    by_cases q : r = i ∧ c = j
    · obtain ⟨rfl, rfl⟩ := q
      rw [pk_us]
      unfold Vk
      rw [if_pos (by omega)]
    · rw [pk_un (fun e => q (by omega)), h r c h1 h2 h3 h4]
      unfold Vk
      by_cases q2 : k < r ∧ k < c ∧ (r < i ∨ (r = i ∧ c < j))
      · rw [if_pos q2, if_pos (by omega)]
      · rw [if_neg q2, if_neg (by omega)]
  · rintro x M kk ⟨rfl, h⟩
    rw [show k + 1 + (sd - (k + 1)) = sd by omega] at *
    rw [mo_trees_B110, if_pos (nI_le (Nat.le_refl _) (by omega)), nm_eq, o1]
    exact ⟨M, rfl, fun r c h1 h2 h3 h4 => by rw [← Vk_row h4]; exact h r c h1 h2 h3 h4⟩
theorem melim_eq {sd : Nat} {A : Nat → Nat → Int} (hs : sd ≤ 11) {k : Nat} (hI : IVm sd A k) (hI1 : IVm sd A (k + 1)) (hk : k + 1 ≤ sd) (yc : Int32) (b : Nat → Int32) (K0 : Int64 → Int32 → (Nat → Int32) → Option (Int64 × (Nat → Int32))) {M : Nat → Int32} (hM : MTm sd (Dk sd A k) k M) : ∃ M', fl2 (mo_trees_B98 (nI sd) (lI (dk sd A k)) (nI k) yc b K0) FU (nI (k + 1)) M = K0 (lI (dk sd A (k + 1))) (nI (k + 1)) M' ∧ MTm sd (Dk sd A (k + 1)) (k + 1) M' := by
  refine ivl2 (B := mo_trees_B98 (nI sd) (lI (dk sd A k)) (nI k) yc b K0) (fun m x M => x = nI (k + 1 + m) ∧ MTm sd (Vk sd A k (k + 1 + m) (k + 1)) k M) (fun o => ∃ M', o = K0 (lI (dk sd A (k + 1))) (nI (k + 1)) M' ∧ MTm sd (Dk sd A (k + 1)) (k + 1) M') (sd - (k + 1)) ?_ ?_ FU 0 _ _ (by omega) (FU_lt (by omega)) ⟨rfl, fun r c h1 h2 h3 h4 => by rw [Nat.add_zero, Vk_0]; exact hM r c h1 h2 h3 h4⟩
  · rintro m hm x M K ⟨rfl, h⟩
    rw [mo_trees_B98, if_neg (nI_ge (show k + 1 + m < sd by omega) (by omega)), nm_eq, nI_1]
    obtain ⟨M', e1, e2⟩ := melim_in hs hI hI1 (show k < k + 1 + m by omega) (by omega) yc b K0 K h
    exact ⟨_, _, ⟨rfl, e2⟩, e1⟩
  · rintro x M K ⟨rfl, h⟩
    rw [show k + 1 + (sd - (k + 1)) = sd by omega] at *
    have vk : Vk sd A k sd (k + 1) k k = Dk sd A k k k := by unfold Vk; rw [if_neg (by omega)]
    rw [mo_trees_B98, if_pos (nI_le (Nat.le_refl _) (by omega)), nm_eq, ix12, ck_n (show 12 * k + k < 144 by omega) (by omega), nm_eq, nm_eq, cl_n (by omega), h k k (Nat.le_refl _) (by omega) (Nat.le_refl _) (by omega), vk, D_m hI (Nat.le_refl _) (by omega) (Nat.le_refl _) (by omega) (by omega), ← dk_s, o1]
    exact ⟨M, rfl, fun r c h1 h2 h3 h4 => by rw [h r c (by omega) h2 (by omega) h4, Vk_end h2 h1 h3]⟩
theorem mo_trees_eq {f : Int64} (hf : FIG f) {b : Nat → Int32} (hb : NEb f (cnt f) b) (M : Nat → Int32) : ∃ M', mo_trees (nI (cnt f)) b M = some (lI (dk (cnt f - 1) (Lp f) (cnt f - 1)), M') := by
  have n12 := hf.2.2.2.1
  have hp := cnt_pos' hf
  have p12 := pw12 n12
  have hs : cnt f - 1 ≤ 11 := by omega
  have iv := IV_all (IV0 hf)
  rw [mo_trees, nm_eq, nI_m1 hp]
  generalize esd : cnt f - 1 = sd at *
  refine ivl2 (B := mo_trees_B9 (nI sd) (nI (cnt f)) b) (fun i x M => x = nI i ∧ ∀ r c, r < i → c < sd → M (12 * r + c) = Int32.ofInt (Lp f r c)) (fun o => ∃ M', o = some (lI (dk sd (Lp f) sd), M')) sd ?_ ?_ FU 0 _ _ (by omega) (FU_lt (by omega)) ⟨rfl, fun r c h => by omega⟩
  · rintro i hi x M K ⟨rfl, h⟩
    have bl := bsN_lt f i (cnt f)
    have pl := dgr_4 f i
    rw [mo_trees_B9, if_neg (nI_ge hi (by omega))]
    refine ivl2 (B := mo_trees_B16 (nI sd) (nI i) (nI (cnt f)) b K) (fun j x M => x = nI j ∧ (∀ r c, r < i → c < sd → M (12 * r + c) = Int32.ofInt (Lp f r c)) ∧ ∀ c, c < j → M (12 * i + c) = Int32.ofInt (Lp f i c)) (fun o => ∃ x' M', (x' = nI (i + 1) ∧ ∀ r c, r < i + 1 → c < sd → M' (12 * r + c) = Int32.ofInt (Lp f r c)) ∧ o = K x' M') sd ?_ ?_ FU 0 _ _ (by omega) (FU_lt (by omega)) ⟨rfl, h, fun c h => by omega⟩
    · rintro j hj x M k ⟨rfl, h1, h2⟩
      have fin : ∀ v, v = Int32.ofInt (Lp f i j) → ∃ x' M', (x' = nI (j + 1) ∧ (∀ r c, r < i → c < sd → M' (12 * r + c) = Int32.ofInt (Lp f r c)) ∧ ∀ c, c < j + 1 → M' (12 * i + c) = Int32.ofInt (Lp f i c)) ∧ mo_trees_J68 K k (nI (cnt f)) b (nI sd) (nI i) (nI j) M (12 * nI i + nI j) v = k x' M' := by
        rintro v rfl
        rw [mo_trees_J68, ix12, ck_n (show 12 * i + j < 144 by omega) (by omega), nm_eq, nm_eq, cl_n (by omega), o1]
        refine ⟨_, _, ⟨rfl, fun r c h3 h4 => ?_, fun c h3 => ?_⟩, rfl⟩
        · rw [pk_un (by omega)]; exact h1 r c h3 h4
        · by_cases q : c = j
          · subst q; rw [pk_us]
          · rw [pk_un (by omega)]; exact h2 c (by omega)
      have c12 : ∀ {β : Type} (k : Option β), ck (nI i) 12 k = k := fun k => ck_n (show i < 12 by omega) (by omega) k
      rw [mo_trees_B16, if_neg (nI_ge hj (by omega)), cl_n (show i < 2 ^ 31 by omega), hb i (by omega)]
      by_cases q : i = j
      · subst q
        rw [if_pos rfl, c12, mo_bits_eq, cnt_nI (by omega), bd1_some, dgr_pc hf]
        apply fin
        unfold Lp
        rw [if_pos rfl, nI_iI]
      · rw [if_neg (fun c => q ((nI_eq (by omega) (by omega)).mp c)), c12, mo_has_n (by omega) (by omega), bd1_some, bsN_bit, decide_eq_true (show j < cnt f by omega), Bool.true_and]
        have el : Lp f i j = if adjb (ith f i) (ith f j) then -1 else 0 := by unfold Lp; rw [if_neg (fun e => q e.symm)]
        cases hA : adjb (ith f i) (ith f j) with
        | false =>
          rw [if_pos (by decide)]
          apply fin
          rw [el, hA]; rfl
        | true =>
          rw [if_neg (by decide)]
          apply fin
          rw [el, hA]; decide
    · rintro x M k ⟨rfl, h1, h2⟩
      rw [mo_trees_B16, if_pos (nI_le (Nat.le_refl _) (by omega)), nm_eq, o1]
      refine ⟨_, _, ⟨rfl, fun r c h3 h4 => ?_⟩, rfl⟩
      by_cases q : r = i
      · subst q; exact h2 c h4
      · exact h1 r c (by omega) h4
  · rintro x M K ⟨rfl, h⟩
    rw [mo_trees_B9, if_pos (nI_le (Nat.le_refl _) (by omega))]
    rw [show fl3 (mo_trees_B86 (nI sd) (nI (cnt f)) b) FU 1 0 M = fl3 (mo_trees_B86 (nI sd) (nI (cnt f)) b) FU (lI (dk sd (Lp f) 0)) (nI 0) M by rw [dk_0]; rfl]
    refine ivl3 (B := mo_trees_B86 (nI sd) (nI (cnt f)) b) (fun k x y M => x = lI (dk sd (Lp f) k) ∧ y = nI k ∧ MTm sd (Dk sd (Lp f) k) k M) (fun o => ∃ M', o = some (lI (dk sd (Lp f) sd), M')) sd ?_ ?_ FU 0 _ _ _ (by omega) (FU_lt (by omega)) ⟨rfl, rfl, fun r c h1 h2 h3 h4 => by rw [D0 h4]; exact h r c h2 h4⟩
    · rintro k hk x y M K ⟨rfl, rfl, h⟩
      rw [mo_trees_B86, if_neg (nI_ge hk (by omega)), nm_eq, nI_1]
      obtain ⟨M', e1, e2⟩ := melim_eq hs (iv k (by omega)) (iv (k + 1) (by omega)) (by omega) (nI (cnt f)) b K h
      exact ⟨_, _, _, ⟨rfl, rfl, e2⟩, e1⟩
    · rintro x y M K ⟨rfl, rfl, h⟩
      rw [mo_trees_B86, if_pos (nI_le (Nat.le_refl _) (by omega))]
      exact ⟨M, rfl⟩
/-! part -/
theorem bd6_some {α β γ δ ε ζ θ : Type} (a : α) (b : β) (c : γ) (d : δ) (e : ε) (f : ζ) (k : α → β → γ → δ → ε → ζ → Option θ) : bd6 (some (a, b, c, d, e, f)) k = k a b c d e f := rfl
theorem opc_part (v w : Int32) {g h : Nat → Int64} (hd : DR g h) (ps : Int32) (pcs : Nat → Int64) (pn tb : Nat → Int32) (mx : Nat → Int64) (yc : Int32) (ca bi ap : Nat → Int32) (wy : Nat → Int64) : ∃ r ps' pcs' pn' tb' mx' yc' ca' bi' ap' wy', cf_part v w g ps pcs pn tb mx = some (r, ps', pcs', pn', tb', mx') ∧ mo_part v w yc h ca bi ap wy = some (r, yc', ca', bi', ap', wy') := by
  cases hv : inr v 0 7 with
  | false =>
    simp only [cf_part, mo_part, cf_isDrawer_eq, mo_isDrawer_eq, hv, bd1_some, bf0, if_true]
    exact ⟨-1, _, _, _, _, _, _, _, _, _, _, rfl, rfl⟩
  | true =>
    cases hw : inr w 0 7 with
    | false =>
      simp only [cf_part, mo_part, cf_isDrawer_eq, mo_isDrawer_eq, cf_within_eq, mo_in_eq, hv, hw, bd1_some, bf0, bt0, if_true, if_false]
      exact ⟨-1, _, _, _, _, _, _, _, _, _, _, rfl, rfl⟩
    | true =>
      obtain ⟨j, hj, rfl⟩ := inr_dr hv
      obtain ⟨t, ht, rfl⟩ := inr_nI (n := 7) (by omega) hw
      have e := (hd j hj).1
      simp only [cf_part, mo_part, cf_isDrawer_eq, mo_isDrawer_eq, cf_within_eq, mo_in_eq, hv, hw, bd1_some, bt0, if_false, ck_n hj (show 8 < 2 ^ 31 by omega), cl_n (show j < 2 ^ 31 by omega), e]
      by_cases h0 : h j = 0
      · rw [if_pos h0, if_pos h0]; exact ⟨-2, _, _, _, _, _, _, _, _, _, _, rfl, rfl⟩
      · rw [if_neg h0, if_neg h0]
        have hf := DRf hd hj h0
        obtain ⟨a1, b1, p1, p2, p3⟩ := pa_index_eq hf ps pcs pn
        obtain ⟨a2, b2, m1, m2, m3⟩ := mo_laysCells_eq hf yc ca bi
        rw [pa_of, p1, bd3_some, m1, bd3_some]
        have ne : ∀ m : Nat, m ≤ 7 → t ≠ m → ¬ nI t = nI m := fun m hm hne c => hne ((nI_eq (by omega) (by omega)).mp c)
        have n0 : (0 : Int32) = nI 0 := rfl
        have n1 : (1 : Int32) = nI 1 := rfl
        have n2 : (2 : Int32) = nI 2 := rfl
        have n3 : (3 : Int32) = nI 3 := rfl
        have n4 : (4 : Int32) = nI 4 := rfl
        have n5 : (5 : Int32) = nI 5 := rfl
        have n6 : (6 : Int32) = nI 6 := rfl
        by_cases t0 : t = 0
        · subst t0
          obtain ⟨x1, c1⟩ := pa_orders_eq hf p3 tb
          obtain ⟨x2, c2⟩ := mo_orders_eq hf m3 wy
          rw [if_pos n0.symm, if_pos n0.symm, c1, bd2_some, bd6_some, c2, bd2_some]
          exact ⟨_, _, _, _, _, _, _, _, _, _, _, rfl, rfl⟩
        · rw [if_neg (show ¬ nI t = (0 : Int32) from ne 0 (by omega) t0), if_neg (show ¬ nI t = (0 : Int32) from ne 0 (by omega) t0)]
          by_cases t1 : t = 1
          · subst t1
            obtain ⟨x1, c1⟩ := pairings_eq hf p3 tb
            obtain ⟨x2, c2⟩ := mo_paired_eq hf m3 wy
            rw [if_pos n1.symm, if_pos n1.symm, c1, bd2_some, bd6_some, c2, bd2_some]
            exact ⟨_, _, _, _, _, _, _, _, _, _, _, rfl, rfl⟩
          · rw [if_neg (show ¬ nI t = (1 : Int32) from ne 1 (by omega) t1), if_neg (show ¬ nI t = (1 : Int32) from ne 1 (by omega) t1)]
            by_cases t2 : t = 2
            · subst t2
              have c1 := halvings_eq hf (k := 0) (by omega) p2
              have c2 := halved_eq hf (k := 0) (by omega) m2
              have c1' : pa_halvings (h j) 0 (nI (cnt (h j))) a1 = _ := c1
              rw [if_pos n2.symm, if_pos n2.symm, c1', bd1_some, bd6_some, mo_part_J98, show nI 2 - 2 = nI 0 from by decide, c2, bd1_some]
              exact ⟨_, _, _, _, _, _, _, _, _, _, _, rfl, rfl⟩
            · rw [if_neg (show ¬ nI t = (2 : Int32) from ne 2 (by omega) t2), if_neg (show ¬ nI t = (2 : Int32) from ne 2 (by omega) t2)]
              by_cases t3 : t = 3
              · subst t3
                have c1 := halvings_eq hf (k := 1) (by omega) p2
                have c2 := halved_eq hf (k := 1) (by omega) m2
                have c1' : pa_halvings (h j) 1 (nI (cnt (h j))) a1 = _ := c1
                rw [if_pos n3.symm, if_pos n3.symm, c1', bd1_some, bd6_some, mo_part_J98, show nI 3 - 2 = nI 1 from by decide, c2, bd1_some]
                exact ⟨_, _, _, _, _, _, _, _, _, _, _, rfl, rfl⟩
              · rw [if_neg (show ¬ nI t = (3 : Int32) from ne 3 (by omega) t3), if_neg (show ¬ nI t = (3 : Int32) from ne 3 (by omega) t3)]
                by_cases t4 : t = 4
                · subst t4
                  have c1 := halvings_eq hf (k := 2) (by omega) p2
                  have c2 := halved_eq hf (k := 2) (by omega) m2
                  have c1' : pa_halvings (h j) 2 (nI (cnt (h j))) a1 = _ := c1
                  rw [if_pos n4.symm, if_pos n4.symm, c1', bd1_some, bd6_some, mo_part_J98, show nI 4 - 2 = nI 2 from by decide, c2, bd1_some]
                  exact ⟨_, _, _, _, _, _, _, _, _, _, _, rfl, rfl⟩
                · rw [if_neg (show ¬ nI t = (4 : Int32) from ne 4 (by omega) t4), if_neg (show ¬ nI t = (4 : Int32) from ne 4 (by omega) t4)]
                  by_cases t5 : t = 5
                  · subst t5
                    rw [if_pos n5.symm, if_pos n5.symm, longest_eq hf p2, bd1_some, bd6_some, across_eq hf m3, bd1_some]
                    exact ⟨_, _, _, _, _, _, _, _, _, _, _, rfl, rfl⟩
                  · rw [if_neg (show ¬ nI t = (5 : Int32) from ne 5 (by omega) t5), if_neg (show ¬ nI t = (5 : Int32) from ne 5 (by omega) t5)]
                    by_cases t6 : t = 6
                    · subst t6
                      obtain ⟨x1, c1⟩ := pa_trees_eq hf p3 mx
                      obtain ⟨x2, c2⟩ := mo_trees_eq hf m3 ap
                      rw [if_pos n6.symm, if_pos n6.symm, c1, bd2_some, bd6_some, c2, bd2_some]
                      exact ⟨_, _, _, _, _, _, _, _, _, _, _, rfl, rfl⟩
                    · rw [if_neg (show ¬ nI t = (6 : Int32) from ne 6 (by omega) t6), if_neg (show ¬ nI t = (6 : Int32) from ne 6 (by omega) t6)]
                      obtain ⟨r, c1, c2⟩ := unlike_eq hf m2
                      rw [jl_bitCount_eq, bd1_some, jl_bitCount_eq, bd1_some, bd6_some, c1, bd1_some, c2]
                      exact ⟨_, _, _, _, _, _, _, _, _, _, _, rfl, rfl⟩
