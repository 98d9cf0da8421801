/-! even and odd cells -/
theorem ct_cells (f : Int64) (p : Nat → Bool) : ∀ m, m ≤ 64 → fb_ct (fun k => bt f k && p k) m = fb_ct (fun i => p (ith f i)) (fb_ct (bt f) m)
  | 0, _ => rfl
  | m + 1, h => by
    have ih := ct_cells f p m (by omega)
    rw [fb_ct_succ, fb_ct_succ, ih]
    cases hb : bt f m with
    | false => rfl
    | true =>
      show _ + (if (true && p m) = true then 1 else 0) = fb_ct (fun i => p (ith f i)) (fb_ct (bt f) m + 1)
      rw [fb_ct_succ, (ith_ct hb).1, Bool.true_and]
def evB (k : Nat) : Bool := decide ((k % 8 + k / 8) % 2 = 0)
theorem k_ev {i : Nat} (h : i < 64) : bt (-6172840429334713771) i = evB i := by
  have : ∀ i : Fin 64, bt (-6172840429334713771) i.val = evB i.val := by decide +kernel
  exact this ⟨i, h⟩
theorem k_od {i : Nat} (h : i < 64) : bt 6172840429334713770 i = !evB i := by
  have : ∀ i : Fin 64, bt 6172840429334713770 i.val = !evB i.val := by decide +kernel
  exact this ⟨i, h⟩
noncomputable def evN (f : Int64) (m : Nat) : Nat := fb_ct (fun i => evB (ith f i)) m
theorem ct_not (p : Nat → Bool) : ∀ n, fb_ct (fun i => !p i) n + fb_ct p n = n
  | 0 => rfl
  | n + 1 => by
    have := ct_not p n
    rw [fb_ct_succ, fb_ct_succ]
    cases p n <;> simp <;> omega
theorem ev_cnt (f : Int64) : cnt (f &&& (-6172840429334713771)) = evN f (cnt f) := by
  have := ct_cells f evB 64 (Nat.le_refl _)
  have e : fb_ct (fun k => bt f k && evB k) 64 = evN f (cnt f) := this
  rw [← e]
  exact fb_ct_cong (fun k hk => by rw [bt_and, k_ev hk])
theorem od_cnt (f : Int64) : cnt (f &&& 6172840429334713770) + evN f (cnt f) = cnt f := by
  have := ct_cells f (fun k => !evB k) 64 (Nat.le_refl _)
  have e : fb_ct (fun k => bt f k && !evB k) 64 = fb_ct (fun i => !evB (ith f i)) (cnt f) := this
  have e2 : cnt (f &&& 6172840429334713770) = fb_ct (fun i => !evB (ith f i)) (cnt f) := by
    rw [← e]
    exact fb_ct_cong (fun k hk => by rw [bt_and, k_od hk])
  rw [e2]
  exact ct_not (fun i => evB (ith f i)) (cnt f)
theorem unlike_eq {f : Int64} (hf : FIG f) {a : Nat → Int32} (ha : CAt f (cnt f) a) : ∃ r, mo_unlike (nI (cnt f)) a = some r ∧ (abI (nI (cnt (f &&& (-6172840429334713771))) - nI (cnt (f &&& 6172840429334713770)))).toInt64 = r := by
  have n12 := hf.2.2.2.1
  have od := od_cnt f
  have el : evN f (cnt f) ≤ cnt f := fb_ct_le _ _
  refine ⟨(abI (Int32.ofInt (2 * (evN f (cnt f) : Int) - cnt f))).toInt64, ?_, ?_⟩
  · unfold mo_unlike
    rw [show fl2 (mo_unlike_B4 (nI (cnt f)) a) FU 0 0 = fl2 (mo_unlike_B4 (nI (cnt f)) a) FU (Int32.ofInt (2 * (evN f 0 : Int) - ((0 : Nat) : Int))) (nI 0) from rfl]
    refine crs2 (B := mo_unlike_B4 (nI (cnt f)) a) (fun i => Int32.ofInt (2 * (evN f i : Int) - (i : Int))) nI (cnt f) (fun i hi K => ?_) (fun K => ?_) FU (FU_lt (by omega))
    · have i64 := bt_lt (ith_bt hi)
      have es : evN f (i + 1) = evN f i + (if evB (ith f i) then 1 else 0) := fb_ct_succ _ _
      have c12 : ∀ {β : Type} (k : Option β), ck (nI i) 12 k = k := fun k => ck_n (show i < 12 by omega) (by omega) k
      rw [mo_unlike_B4, if_neg (nI_ge hi (by omega)), c12, dzI_n (by decide), c12, dzI_n (by decide), dzI_n (by decide), cl_n (by omega), ha i hi, show (8 : Int32) = nI 8 from rfl, remI_n (by omega) (by omega) (by omega), pk_div (by omega) (by omega) (by omega), nI_add, show (2 : Int32) = nI 2 from rfl, remI_n (by omega) (by omega) (by omega), mo_unlike_J42, mo_unlike_J42, nm_eq, nm_eq, nm_eq, nm_eq, o1]
      show _ = K (Int32.ofInt (2 * (evN f (i + 1) : Int) - ((i + 1 : Nat) : Int))) (nI (i + 1))
      by_cases q : (ith f i % 8 + ith f i / 8) % 2 = 0
      · have eb : evB (ith f i) = true := decide_eq_true q
        rw [eb, if_pos rfl] at es
        rw [if_pos (by rw [q]; rfl), es, show (1 : Int32) = Int32.ofInt 1 from rfl, ← Int32.ofInt_add]
        congr 2; omega
      · have eb : evB (ith f i) = false := decide_eq_false q
        rw [eb, if_neg (by decide)] at es
        rw [if_neg (show ¬ nI ((ith f i % 8 + ith f i / 8) % 2) = 0 from nI_ne0 (by omega) (by omega)), es, show (-1 : Int32) = Int32.ofInt (-1) from by decide, ← Int32.ofInt_add]
        congr 2; omega
    · rw [mo_unlike_B4, if_pos (nI_le (Nat.le_refl _) (by omega))]
      unfold abI
      by_cases q : 0 ≤ Int32.ofInt (2 * (evN f (cnt f) : Int) - (cnt f : Int))
      · rw [if_pos q, if_pos q]
      · rw [if_neg q, if_neg q]
        congr 2
  · rw [ev_cnt, nI_iI, nI_iI, ← Int32.ofInt_sub, show ((evN f (cnt f) : Nat) : Int) - ((cnt (f &&& 6172840429334713770) : Nat) : Int) = 2 * (evN f (cnt f) : Int) - cnt f by omega]
/-! orders: how many ways to lay a set cell after cell -/
def adS (f : Int64) (n s j : Nat) : Prop := ∃ i, i < n ∧ s.testBit i = true ∧ adjb (ith f i) (ith f j) = true
noncomputable def adB (f : Int64) (n s j : Nat) : Bool := @decide (adS f n s j) (Classical.propDecidable _)
theorem adB_t {f : Int64} {n s j : Nat} : adB f n s j = true ↔ adS f n s j := by unfold adB; exact @decide_eq_true_iff _ (Classical.propDecidable _)
/-- a set without its j-th cell -/
def wo1 (t j : Nat) : Nat := dff t (2 ^ j)
theorem wo1_bit {t : Nat} (ht : t < 4096) (j i : Nat) : (wo1 t j).testBit i = (t.testBit i && !decide (i = j)) := by
  unfold wo1
  rw [dff_bit ht, Nat.testBit_two_pow]
  congr 2
  exact decide_eq_decide.mpr ⟨Eq.symm, Eq.symm⟩
theorem wo1_lt {t j : Nat} (ht : t < 4096) (h : t.testBit j = true) : wo1 t j < t := by
  rcases Nat.lt_or_ge (wo1 t j) t with q | q
  · exact q
  · have e : wo1 t j = t := Nat.le_antisymm (dff_le _ _) q
    have := wo1_bit ht j j
    rw [e, h, decide_eq_true rfl] at this
    cases this
theorem wo1_or {s j : Nat} (hs : s < 4096) (hj : j < 12) (h : s.testBit j = false) : wo1 (s ||| 2 ^ j) j = s := by
  have l : s ||| 2 ^ j < 4096 := Nat.or_lt_two_pow (n := 12) hs (Nat.pow_lt_pow_right (by omega) hj)
  apply Nat.eq_of_testBit_eq
  intro i
  rw [wo1_bit l, fb_bit_set]
  by_cases q : i = j
  · subst q; rw [h, decide_eq_true rfl]; rfl
  · rw [decide_eq_false q, Bool.or_false, Bool.not_false, Bool.and_true]
theorem or_wo1 {t j : Nat} (ht : t < 4096) (h : t.testBit j = true) : wo1 t j ||| 2 ^ j = t := by
  apply Nat.eq_of_testBit_eq
  intro i
  rw [fb_bit_set, wo1_bit ht]
  by_cases q : i = j
  · subst q; rw [h, decide_eq_true rfl]; rfl
  · rw [decide_eq_false q, Bool.not_false, Bool.and_true, Bool.or_false]
noncomputable def oTm (f : Int64) (T : Nat → Nat) (t j : Nat) : Nat := if t.testBit j = true ∧ 0 < wo1 t j ∧ adB f (cnt f) (wo1 t j) j = true then T (wo1 t j) else 0
noncomputable def oT (f : Int64) : Nat → Nat → Nat
  | 0 => fun _ => 0
  | m + 1 => fun t => if t = m then (if pc m = 1 then 1 else 0) + fb_sm (oTm f (oT f m) m) (cnt f) else oT f m t
noncomputable def oW (f : Int64) (t : Nat) : Nat := oT f (t + 1) t
theorem oT_W (f : Int64) {t : Nat} : ∀ m, t < m → oT f m t = oW f t
  | 0, h => by omega
  | m + 1, h => by
    by_cases q : t = m
    · subst q; rfl
    · show (if t = m then _ else oT f m t) = _
      rw [if_neg q]; exact oT_W f m (by omega)
theorem oW_eq {f : Int64} {t : Nat} (ht : t < 4096) : oW f t = (if pc t = 1 then 1 else 0) + fb_sm (oTm f (oW f) t) (cnt f) := by
  show (if t = t then (if pc t = 1 then 1 else 0) + fb_sm (oTm f (oT f t) t) (cnt f) else oT f t t) = _
  rw [if_pos rfl]
  congr 1
  refine fb_sm_cong (fun j _ => ?_)
  unfold oTm
  by_cases q : t.testBit j = true ∧ 0 < wo1 t j ∧ adB f (cnt f) (wo1 t j) j = true
  · rw [if_pos q, if_pos q, oT_W f t (wo1_lt ht q.1)]
  · rw [if_neg q, if_neg q]
def fct : Nat → Nat
  | 0 => 1
  | n + 1 => (n + 1) * fct n
theorem fct_mono : ∀ {a b : Nat}, a ≤ b → fct a ≤ fct b
  | a, 0, h => by have : a = 0 := by omega
                  subst this; exact Nat.le_refl _
  | a, b + 1, h => by
    rcases Nat.lt_or_ge a (b + 1) with q | q
    · have := fct_mono (a := a) (b := b) (by omega)
      show _ ≤ (b + 1) * fct b
      exact Nat.le_trans this (Nat.le_mul_of_pos_left _ (by omega))
    · have : a = b + 1 := by omega
      subst this; exact Nat.le_refl _
theorem pc_wo1 {t j : Nat} (ht : t < 4096) (hj : j < 12) (h : t.testBit j = true) : pc (wo1 t j) + 1 = pc t := by
  unfold pc
  have e := fb_ct_upd (fun i => t.testBit i) false (i := j) (n := 12) hj
  have e2 : fb_ct (fun i => (wo1 t j).testBit i) 12 = fb_ct (fun k => if k = j then false else t.testBit k) 12 := fb_ct_cong (fun i _ => by
    rw [wo1_bit ht]
    by_cases q : i = j
    · rw [if_pos q, decide_eq_true q]; simp
    · rw [if_neg q, decide_eq_false q]; simp)
  rw [e2]
  have h' : (fun i => t.testBit i) j = true := h
  rw [if_pos h', if_neg (by decide), Nat.add_zero] at e
  exact e
theorem sm_pick {p : Nat → Bool} {g : Nat → Nat} {B n : Nat} (h : ∀ j, j < n → g j ≤ if p j then B else 0) : fb_sm g n ≤ fb_ct p n * B := by
  induction n with
  | zero => show 0 ≤ _; omega
  | succ n ih =>
    have := ih (fun j hj => h j (by omega))
    have hn := h n (by omega)
    rw [fb_sm_succ, fb_ct_succ, Nat.add_mul]
    cases hp : p n with
    | true => rw [hp, if_pos rfl] at hn; rw [if_pos rfl, Nat.one_mul]; omega
    | false => rw [hp, if_neg (by decide)] at hn; rw [if_neg (by decide), Nat.zero_mul]; omega
theorem pc_n {n t : Nat} (hn : n ≤ 12) : fb_ct (fun i => t.testBit i) n ≤ pc t := ct_le hn
theorem oW_le {f : Int64} (hf : FIG f) : ∀ m t, t < m → t < 4096 → oW f t ≤ fct (pc t)
  | 0, t, h, _ => by omega
  | m + 1, t, h, ht => by
    have n12 := hf.2.2.2.1
    rw [oW_eq ht]
    rcases Nat.eq_zero_or_pos (pc t) with z | z
    · have : fb_sm (oTm f (oW f) t) (cnt f) = 0 := by
        have := sm_pick (p := fun i => t.testBit i) (g := oTm f (oW f) t) (B := 0) (n := cnt f) (fun j hj => by
          unfold oTm
          split
          · rename_i q
            have : (fun i => t.testBit i) j = true := q.1
            have : 0 < pc t := fb_ct_pos.mpr ⟨j, by omega, q.1⟩
            omega
          · exact Nat.zero_le _)
        rw [Nat.mul_zero] at this
        omega
      rw [this, z, if_neg (by decide)]
      exact Nat.zero_le _
    · have b := sm_pick (p := fun i => t.testBit i && decide (0 < wo1 t i)) (g := oTm f (oW f) t) (B := fct (pc t - 1)) (n := cnt f) (fun j hj => by
        unfold oTm
        by_cases q : t.testBit j = true ∧ 0 < wo1 t j ∧ adB f (cnt f) (wo1 t j) j = true
        · rw [if_pos q, if_pos (by rw [q.1, decide_eq_true q.2.1]; rfl)]
          have l := wo1_lt ht q.1
          have := oW_le hf m (wo1 t j) (by omega) (by omega)
          have pw := pc_wo1 ht (show j < 12 by omega) q.1
          rw [show pc t - 1 = pc (wo1 t j) by omega]
          exact this
        · rw [if_neg q]; exact Nat.zero_le _)
      rcases Nat.lt_or_ge 1 (pc t) with y | y
      · have c : fb_ct (fun i => t.testBit i && decide (0 < wo1 t i)) (cnt f) ≤ pc t := Nat.le_trans (fb_ct_sub (fun k _ hk => by rw [Bool.and_eq_true] at hk; exact hk.1)) (pc_n n12)
        rw [if_neg (by omega), Nat.zero_add]
        have e : fct (pc t) = pc t * fct (pc t - 1) := by
          obtain ⟨q, hq⟩ : ∃ q, pc t = q + 1 := ⟨pc t - 1, by omega⟩
          rw [hq]; rfl
        rw [e]
        exact Nat.le_trans b (Nat.mul_le_mul_right _ c)
      · have c : fb_ct (fun i => t.testBit i && decide (0 < wo1 t i)) (cnt f) = 0 := fb_ct_zero.mpr (fun j hj => by
          cases hb : t.testBit j with
          | false => rfl
          | true =>
            have pw := pc_wo1 ht (show j < 12 by omega) hb
            have p0 : pc (wo1 t j) = 0 := by omega
            have : ¬ 0 < wo1 t j := by
              intro h0
              have l := wo1_lt ht hb
              obtain ⟨i, hi⟩ := Nat.exists_testBit_of_ne_zero (show wo1 t j ≠ 0 by omega)
              have i12 : i < 12 := by
                rcases Nat.lt_or_ge i 12 with z | z
                · exact z
                · rw [tb_12 (by omega) z] at hi; cases hi
              have : 0 < pc (wo1 t j) := fb_ct_pos.mpr ⟨i, i12, hi⟩
              omega
            rw [decide_eq_false this]; rfl)
        rw [c, Nat.zero_mul] at b
        have : pc t = 1 := by omega
        rw [if_pos this, this]
        show 1 + _ ≤ 1 * 1
        omega
theorem oW_b {f : Int64} (hf : FIG f) {t : Nat} (ht : t < 4096) : oW f t < 2 ^ 31 := by
  have := oW_le hf (t + 1) t (by omega) ht
  have p := fct_mono (pc_le t)
  have : fct 12 = 479001600 := by decide
  omega
