/-! the matrix of a figure stays in bounds -/
theorem si_np {f : Nat → Int} : ∀ {n : Nat}, (∀ k, k < n → f k ≤ 0) → fb_si f n ≤ 0
  | 0, _ => Int.le_refl _
  | n + 1, h => by
    have := si_np (n := n) (f := f) (fun k hk => h k (by omega))
    have := h n (by omega)
    rw [fb_si_succ]; omega
theorem si_le1 {f : Nat → Int} {n i : Nat} (hi : i < n) (h : ∀ k, k < n → k ≠ i → f k ≤ 0) : fb_si f n ≤ f i := by
  have e := fb_si_upd f 0 (i := i) (n := n) hi
  have := si_np (n := n) (f := fun k => if k = i then 0 else f k) (fun k hk => by
    by_cases q : k = i
    · show (if k = i then (0 : Int) else f k) ≤ 0
      rw [if_pos q]; omega
    · show (if k = i then (0 : Int) else f k) ≤ 0
      rw [if_neg q]; exact h k hk q)
  omega
theorem si_le2 {f : Nat → Int} {n i j : Nat} (hi : i < n) (hj : j < n) (hij : j ≠ i) (h : ∀ k, k < n → k ≠ i → f k ≤ 0) : fb_si f n ≤ f i + f j := by
  have e := fb_si_upd f 0 (i := i) (n := n) hi
  have := si_le1 (n := n) (i := j) (f := fun k => if k = i then 0 else f k) hj (fun k hk _ => by
    by_cases q : k = i
    · show (if k = i then (0 : Int) else f k) ≤ 0
      rw [if_pos q]; omega
    · show (if k = i then (0 : Int) else f k) ≤ 0
      rw [if_neg q]; exact h k hk q)
  rw [if_neg hij] at this
  omega
theorem m_nn {d x : Int} (hd : 0 < d) (h : 0 ≤ d * x) : 0 ≤ x := by
  rcases (show x < 0 ∨ 0 ≤ x by omega) with q | q
  · have := Int.mul_neg_of_pos_of_neg hd q
    omega
  · exact q
theorem m_np {d x : Int} (hd : 0 < d) (h : d * x ≤ 0) : x ≤ 0 := by
  rcases (show 0 < x ∨ x ≤ 0 by omega) with q | q
  · have := Int.mul_pos hd q
    omega
  · exact q
theorem m_p {d x : Int} (hd : 0 < d) (h : 0 < d * x) : 0 < x := by
  rcases (show 0 < x ∨ x ≤ 0 by omega) with q | q
  · exact q
  · have := Int.mul_nonpos_of_nonneg_of_nonpos (show 0 ≤ d by omega) q
    omega
theorem m_n {d x : Int} (hd : 0 < d) (h : d * x < 0) : x < 0 := by
  rcases (show x < 0 ∨ 0 ≤ x by omega) with q | q
  · exact q
  · have := Int.mul_nonneg (show 0 ≤ d by omega) q
    omega
theorem nn_np {a b : Int} (ha : a ≤ 0) (hb : b ≤ 0) : 0 ≤ a * b := by
  have := Int.mul_nonneg (show 0 ≤ -a by omega) (show 0 ≤ -b by omega)
  rw [Int.neg_mul_neg] at this
  exact this
theorem p_nn {a b : Int} (ha : a < 0) (hb : b < 0) : 0 < a * b := by
  have := Int.mul_pos (show 0 < -a by omega) (show 0 < -b by omega)
  rw [Int.neg_mul_neg] at this
  exact this
noncomputable def Ex (n : Nat) (A : Nat → Nat → Int) (k i : Nat) : Int := fb_si (fun j => if k ≤ j then Dk n A k i j else 0) n
def CUT (n : Nat) (A : Nat → Nat → Int) (k : Nat) : Prop := ∀ T : Nat → Prop, (∃ i, k ≤ i ∧ i < n ∧ T i) → ∃ i, k ≤ i ∧ i < n ∧ T i ∧ (0 < Ex n A k i ∨ ∃ j, k ≤ j ∧ j < n ∧ ¬ T j ∧ Dk n A k i j < 0)
def IVm (n : Nat) (A : Nat → Nat → Int) (k : Nat) : Prop :=
  (∀ m, m ≤ k → 0 < dk n A m) ∧ dk n A k ≤ 4 ^ k ∧ (∀ i j, k ≤ i → i < n → k ≤ j → j < n → Dk n A k i j = Dk n A k j i) ∧ (∀ i j, k ≤ i → i < n → k ≤ j → j < n → i ≠ j → Dk n A k i j ≤ 0) ∧ (∀ i, k ≤ i → i < n → 0 ≤ Ex n A k i) ∧ (∀ i, k ≤ i → i < n → Dk n A k i i ≤ 4 * dk n A k) ∧ CUT n A k
theorem IVm.pos {n : Nat} {A : Nat → Nat → Int} {k : Nat} (h : IVm n A k) : ∀ m, m ≤ k → 0 < dk n A m := h.1
theorem IVm.bnd {n : Nat} {A : Nat → Nat → Int} {k : Nat} (h : IVm n A k) : dk n A k ≤ 4 ^ k := h.2.1
theorem IVm.sym {n : Nat} {A : Nat → Nat → Int} {k : Nat} (h : IVm n A k) : ∀ i j, k ≤ i → i < n → k ≤ j → j < n → Dk n A k i j = Dk n A k j i := h.2.2.1
theorem IVm.off {n : Nat} {A : Nat → Nat → Int} {k : Nat} (h : IVm n A k) : ∀ i j, k ≤ i → i < n → k ≤ j → j < n → i ≠ j → Dk n A k i j ≤ 0 := h.2.2.2.1
theorem IVm.exc {n : Nat} {A : Nat → Nat → Int} {k : Nat} (h : IVm n A k) : ∀ i, k ≤ i → i < n → 0 ≤ Ex n A k i := h.2.2.2.2.1
theorem IVm.dia {n : Nat} {A : Nat → Nat → Int} {k : Nat} (h : IVm n A k) : ∀ i, k ≤ i → i < n → Dk n A k i i ≤ 4 * dk n A k := h.2.2.2.2.2.1
theorem IVm.cut {n : Nat} {A : Nat → Nat → Int} {k : Nat} (h : IVm n A k) : CUT n A k := h.2.2.2.2.2.2
theorem Ex_le {n : Nat} {A : Nat → Nat → Int} {k i : Nat} (h : IVm n A k) (hi : k ≤ i) (hn : i < n) : Ex n A k i ≤ Dk n A k i i := by
  have := si_le1 (n := n) (i := i) (f := fun j => if k ≤ j then Dk n A k i j else 0) hn (fun j hj ne => by
    show (if k ≤ j then Dk n A k i j else 0) ≤ 0
    split
    · exact h.off i j hi hn (by assumption) hj (fun e => ne e.symm)
    · omega)
  rw [if_pos hi] at this
  exact this
theorem Ex_le2 {n : Nat} {A : Nat → Nat → Int} {k i j : Nat} (h : IVm n A k) (hi : k ≤ i) (hn : i < n) (hj : k ≤ j) (hjn : j < n) (hne : j ≠ i) : Ex n A k i ≤ Dk n A k i i + Dk n A k i j := by
  have := si_le2 (n := n) (i := i) (j := j) (f := fun j => if k ≤ j then Dk n A k i j else 0) hn hjn hne (fun j hj ne => by
    show (if k ≤ j then Dk n A k i j else 0) ≤ 0
    split
    · exact h.off i j hi hn (by assumption) hj (fun e => ne e.symm)
    · omega)
  rw [if_pos hi, if_pos hj] at this
  exact this
theorem piv {n : Nat} {A : Nat → Nat → Int} {k : Nat} (h : IVm n A k) (hk : k < n) : 0 < Dk n A k k k := by
  obtain ⟨i, i1, i2, i3, i4⟩ := h.cut (fun i => i = k) ⟨k, Nat.le_refl _, hk, rfl⟩
  subst i3
  have e1 := Ex_le h i1 i2
  have e0 := h.exc i i1 i2
  rcases i4 with q | ⟨j, j1, j2, j3, j4⟩
  · omega
  · have := Ex_le2 h i1 i2 j1 j2 j3
    omega
theorem Ex_drop {n : Nat} {A : Nat → Nat → Int} {k i : Nat} (hk : k < n) : fb_si (fun j => if k + 1 ≤ j then Dk n A k i j else 0) n = Ex n A k i - Dk n A k i k := by
  have e := fb_si_upd (fun j => if k ≤ j then Dk n A k i j else 0) 0 (i := k) (n := n) hk
  rw [if_pos (Nat.le_refl k)] at e
  have : fb_si (fun j => if k + 1 ≤ j then Dk n A k i j else 0) n = fb_si (fun j => if j = k then 0 else (if k ≤ j then Dk n A k i j else 0)) n := si_cong (fun j _ => by
    by_cases q : j = k
    · rw [if_pos q, if_neg (by omega)]
    · rw [if_neg q]
      by_cases q2 : k ≤ j
      · rw [if_pos q2, if_pos (by omega)]
      · rw [if_neg q2, if_neg (by omega)])
  rw [this, e]
  show Ex n A k i - Dk n A k i k + 0 = _
  omega
theorem IV_step {n : Nat} {A : Nat → Nat → Int} {k : Nat} (h : IVm n A k) (hk : k < n) : IVm n A (k + 1) := by
  have pk := piv h hk
  have d0 := h.pos k (Nat.le_refl _)
  have hd : ∀ m, m ≤ k + 1 → 0 < dk n A m := by
    intro m hm
    rcases Nat.lt_or_ge m (k + 1) with q | q
    · exact h.pos m (by omega)
    · have : m = k + 1 := by omega
      subst this
      rw [dk_s]; exact pk
  have hd0 : ∀ m, m ≤ k + 1 → dk n A m ≠ 0 := fun m hm => by have := hd m hm; omega
  have st : ∀ i c, k < c → dk n A k * Dk n A (k + 1) i c = Dk n A k k k * Dk n A k i c - Dk n A k k c * Dk n A k i k := fun i c hc => Dk_step hd0 hc i
  have offk : ∀ i, k + 1 ≤ i → i < n → Dk n A k i k ≤ 0 ∧ Dk n A k k i ≤ 0 := fun i h1 h2 => ⟨h.off i k (by omega) h2 (Nat.le_refl _) hk (by omega), h.off k i (Nat.le_refl _) hk (by omega) h2 (by omega)⟩
  have exs : ∀ i, dk n A k * Ex n A (k + 1) i = Dk n A k k k * Ex n A k i - Dk n A k i k * Ex n A k k := by
    intro i
    have a1 := Ex_drop (A := A) (i := i) hk
    have a2 := Ex_drop (A := A) (i := k) hk
    have : dk n A k * Ex n A (k + 1) i = Dk n A k k k * fb_si (fun j => if k + 1 ≤ j then Dk n A k i j else 0) n - Dk n A k i k * fb_si (fun j => if k + 1 ≤ j then Dk n A k k j else 0) n := by
      unfold Ex
      rw [← fb_si_mul, ← fb_si_mul, ← fb_si_mul, ← fb_si_sub]
      refine si_cong (fun j hj => ?_)
      by_cases q : k + 1 ≤ j
      · rw [if_pos q, if_pos q, if_pos q, st i j (by omega), Int.mul_comm (Dk n A k k j)]
      · rw [if_neg q, if_neg q, if_neg q]; simp
    rw [this, a1, a2, Int.mul_sub, Int.mul_sub, Int.mul_comm (Dk n A k k k) (Dk n A k i k)]
    omega
  have exn : ∀ i, k + 1 ≤ i → i < n → (0 < Ex n A k i ∨ (Dk n A k i k < 0 ∧ 0 < Ex n A k k)) → 0 < Ex n A (k + 1) i := by
    intro i h1 h2 h3
    have o := offk i h1 h2
    have e1 := h.exc i (by omega) h2
    have e2 := h.exc k (Nat.le_refl _) hk
    refine m_p d0 ?_
    rw [exs i]
    have t1 : 0 ≤ Dk n A k k k * Ex n A k i := Int.mul_nonneg (by omega) e1
    have t2 : Dk n A k i k * Ex n A k k ≤ 0 := Int.mul_nonpos_of_nonpos_of_nonneg o.1 e2
    rcases h3 with q | ⟨q1, q2⟩
    · have := Int.mul_pos pk q; omega
    · have := Int.mul_neg_of_neg_of_pos q1 q2; omega
  have dn : ∀ i j, k + 1 ≤ i → i < n → k + 1 ≤ j → j < n → i ≠ j → (Dk n A k i j < 0 ∨ (Dk n A k i k < 0 ∧ Dk n A k k j < 0)) → Dk n A (k + 1) i j < 0 := by
    intro i j h1 h2 h3 h4 ne h5
    have o1 := offk i h1 h2
    have o2 := offk j h3 h4
    have o3 := h.off i j (by omega) h2 (by omega) h4 ne
    refine m_n d0 ?_
    rw [st i j (by omega)]
    have t1 : Dk n A k k k * Dk n A k i j ≤ 0 := Int.mul_nonpos_of_nonneg_of_nonpos (by omega) o3
    have t2 : 0 ≤ Dk n A k k j * Dk n A k i k := nn_np o2.2 o1.1
    rcases h5 with q | ⟨q1, q2⟩
    · have := Int.mul_neg_of_pos_of_neg pk q; omega
    · have := p_nn q2 q1; omega
  refine ⟨hd, ?_, ?_, ?_, ?_, ?_, ?_⟩
  · rw [dk_s]
    have := h.dia k (Nat.le_refl _) hk
    have := h.bnd
    rw [show (4 : Int) ^ (k + 1) = 4 * 4 ^ k from by rw [Int.pow_succ]; omega]
    omega
  · intro i j h1 h2 h3 h4
    have e : dk n A k * Dk n A (k + 1) i j = dk n A k * Dk n A (k + 1) j i := by
      rw [st i j (by omega), st j i (by omega), h.sym i j (by omega) h2 (by omega) h4, h.sym k j (Nat.le_refl _) hk (by omega) h4, h.sym i k (by omega) h2 (Nat.le_refl _) hk, Int.mul_comm (Dk n A k j k)]
    exact Int.eq_of_mul_eq_mul_left (by omega) e
  · intro i j h1 h2 h3 h4 ne
    have o1 := offk i h1 h2
    have o2 := offk j h3 h4
    have o3 := h.off i j (by omega) h2 (by omega) h4 ne
    refine m_np d0 ?_
    rw [st i j (by omega)]
    have t1 : Dk n A k k k * Dk n A k i j ≤ 0 := Int.mul_nonpos_of_nonneg_of_nonpos (by omega) o3
    have t2 : 0 ≤ Dk n A k k j * Dk n A k i k := nn_np o2.2 o1.1
    omega
  · intro i h1 h2
    have o := offk i h1 h2
    have e1 := h.exc i (by omega) h2
    have e2 := h.exc k (Nat.le_refl _) hk
    refine m_nn d0 ?_
    rw [exs i]
    have t1 : 0 ≤ Dk n A k k k * Ex n A k i := Int.mul_nonneg (by omega) e1
    have t2 : Dk n A k i k * Ex n A k k ≤ 0 := Int.mul_nonpos_of_nonpos_of_nonneg o.1 e2
    omega
  · intro i h1 h2
    have o := offk i h1 h2
    have dd := h.dia i (by omega) h2
    have t2 : 0 ≤ Dk n A k k i * Dk n A k i k := nn_np o.2 o.1
    have t1 : Dk n A k k k * Dk n A k i i ≤ Dk n A k k k * (4 * dk n A k) := Int.mul_le_mul_of_nonneg_left dd (by omega)
    have e := st i i (by omega)
    rw [dk_s]
    refine Int.le_of_mul_le_mul_left (a := dk n A k) ?_ d0
    rw [e]
    have : Dk n A k k k * (4 * dk n A k) = dk n A k * (4 * Dk n A k k k) := by
      rw [Int.mul_left_comm, Int.mul_comm (Dk n A k k k), Int.mul_left_comm]
    omega
  · intro T ⟨i0, a1, a2, a3⟩
    obtain ⟨i, b1, b2, b3, b4⟩ := h.cut (fun i => T i ∧ k + 1 ≤ i) ⟨i0, by omega, a2, a3, a1⟩
    rcases b4 with q | ⟨j, j1, j2, j3, j4⟩
    · exact ⟨i, b3.2, b2, b3.1, Or.inl (exn i b3.2 b2 (Or.inl q))⟩
    · by_cases qj : k + 1 ≤ j
      · have nT : ¬ T j := fun t => j3 ⟨t, qj⟩
        exact ⟨i, b3.2, b2, b3.1, Or.inr ⟨j, qj, j2, nT, dn i j b3.2 b2 qj j2 (fun e => nT (e ▸ b3.1)) (Or.inl j4)⟩⟩
      · have ejk : j = k := by omega
        subst ejk
        obtain ⟨i', c1, c2, c3, c4⟩ := h.cut (fun i => (T i ∧ j + 1 ≤ i) ∨ i = j) ⟨j, Nat.le_refl _, j2, Or.inr rfl⟩
        rcases c3 with c3 | c3
        · rcases c4 with q | ⟨m, m1, m2, m3, m4⟩
          · exact ⟨i', c3.2, c2, c3.1, Or.inl (exn i' c3.2 c2 (Or.inl q))⟩
          · have mj : m ≠ j := fun e => m3 (Or.inr e)
            have mk : j + 1 ≤ m := by omega
            have nT : ¬ T m := fun t => m3 (Or.inl ⟨t, mk⟩)
            exact ⟨i', c3.2, c2, c3.1, Or.inr ⟨m, mk, m2, nT, dn i' m c3.2 c2 mk m2 (fun e => nT (e ▸ c3.1)) (Or.inl m4)⟩⟩
        · subst c3
          rcases c4 with q | ⟨m, m1, m2, m3, m4⟩
          · exact ⟨i, b3.2, b2, b3.1, Or.inl (exn i b3.2 b2 (Or.inr ⟨j4, q⟩))⟩
          · have mj : m ≠ i' := fun e => m3 (Or.inr e)
            have mk : i' + 1 ≤ m := by omega
            have nT : ¬ T m := fun t => m3 (Or.inl ⟨t, mk⟩)
            exact ⟨i, b3.2, b2, b3.1, Or.inr ⟨m, mk, m2, nT, dn i m b3.2 b2 mk m2 (fun e => nT (e ▸ b3.1)) (Or.inr ⟨j4, m4⟩)⟩⟩
theorem IV_all {n : Nat} {A : Nat → Nat → Int} (h : IVm n A 0) : ∀ k, k ≤ n → IVm n A k
  | 0, _ => h
  | k + 1, hk => IV_step (IV_all h k (by omega)) (by omega)
theorem D_b {n : Nat} {A : Nat → Nat → Int} {k i j : Nat} (h : IVm n A k) (hi : k ≤ i) (hin : i < n) (hj : k ≤ j) (hjn : j < n) (hk : k ≤ 11) : -16777216 ≤ Dk n A k i j ∧ Dk n A k i j ≤ 16777216 := by
  have p : (4 : Int) ^ k ≤ 4194304 := by
    have : ∀ k : Fin 12, (4 : Int) ^ k.val ≤ 4194304 := by decide
    exact this ⟨k, by omega⟩
  have b := h.bnd
  have d := h.dia i hi hin
  have e0 := h.exc i hi hin
  by_cases q : j = i
  · subst q
    have := Ex_le h hi hin
    omega
  · have := Ex_le2 h hi hin hj hjn q
    have := h.off i j hi hin hj hjn (fun e => q e.symm)
    omega
/-! the figure's own matrix -/
noncomputable def dgr (f : Int64) (i : Nat) : Nat := fb_ct (fun j => adjb (ith f i) (ith f j)) (cnt f)
noncomputable def Lp (f : Int64) (i j : Nat) : Int := if j = i then (dgr f i : Int) else if adjb (ith f i) (ith f j) then -1 else 0
theorem dgr_pc {f : Int64} (hf : FIG f) (i : Nat) : pc (bsN f i (cnt f)) = dgr f i := by
  have n12 := hf.2.2.2.1
  unfold pc dgr
  rw [ct_gap (a := cnt f) n12 (fun q h1 _ => by rw [bsN_bit, decide_eq_false (by omega), Bool.false_and])]
  exact fb_ct_cong (fun j hj => by rw [bsN_bit, decide_eq_true hj, Bool.true_and])
theorem ct_or_le (p q : Nat → Bool) : ∀ n, fb_ct (fun k => p k || q k) n ≤ fb_ct p n + fb_ct q n
  | 0 => Nat.le_refl _
  | n + 1 => by
    have := ct_or_le p q n
    rw [fb_ct_succ, fb_ct_succ, fb_ct_succ]
    cases p n <;> cases q n <;> simp <;> omega
theorem ct_val {f : Int64} (v : Nat) : ∀ n, n ≤ cnt f → fb_ct (fun j => decide (ith f j = v)) n ≤ 1
  | 0, _ => Nat.zero_le _
  | n + 1, h => by
    have ih := ct_val (f := f) v n (by omega)
    rw [fb_ct_succ]
    by_cases q : ith f n = v
    · have : fb_ct (fun j => decide (ith f j = v)) n = 0 := fb_ct_zero.mpr (fun j hj => decide_eq_false (fun e => by
        have := ith_inj (show j < cnt f by omega) (show n < cnt f by omega) (e.trans q.symm)
        omega))
      rw [this, decide_eq_true q]; decide
    · rw [decide_eq_false q, if_neg (by decide)]; omega
theorem dgr_4 (f : Int64) (i : Nat) : dgr f i ≤ 4 := by
  have s : dgr f i ≤ fb_ct (fun j => (decide (ith f j = ith f i + 1) || decide (ith f j = ith f i - 1)) || (decide (ith f j = ith f i + 8) || decide (ith f j = ith f i - 8))) (cnt f) := by
    refine fb_ct_sub (fun j _ hj => ?_)
    have := adjb_t.mp hj
    unfold adj at this
    rw [Bool.or_eq_true, Bool.or_eq_true, Bool.or_eq_true, decide_eq_true_eq, decide_eq_true_eq, decide_eq_true_eq, decide_eq_true_eq]
    omega
  have a := ct_or_le (fun j => decide (ith f j = ith f i + 1) || decide (ith f j = ith f i - 1)) (fun j => decide (ith f j = ith f i + 8) || decide (ith f j = ith f i - 8)) (cnt f)
  have b := ct_or_le (fun j => decide (ith f j = ith f i + 1)) (fun j => decide (ith f j = ith f i - 1)) (cnt f)
  have c := ct_or_le (fun j => decide (ith f j = ith f i + 8)) (fun j => decide (ith f j = ith f i - 8)) (cnt f)
  have v1 := ct_val (f := f) (ith f i + 1) (cnt f) (Nat.le_refl _)
  have v2 := ct_val (f := f) (ith f i - 1) (cnt f) (Nat.le_refl _)
  have v3 := ct_val (f := f) (ith f i + 8) (cnt f) (Nat.le_refl _)
  have v4 := ct_val (f := f) (ith f i - 8) (cnt f) (Nat.le_refl _)
  omega
theorem si_ct (p : Nat → Bool) : ∀ n, fb_si (fun j => if p j then -1 else 0) n = -(fb_ct p n : Int)
  | 0 => rfl
  | n + 1 => by
    rw [fb_si_succ, fb_ct_succ, si_ct p n]
    cases p n <;> simp <;> omega
theorem Ex0 {f : Int64} (hf : FIG f) {i : Nat} (hi : i < cnt f - 1) : Ex (cnt f - 1) (Lp f) 0 i = if adjb (ith f i) (ith f (cnt f - 1)) then 1 else 0 := by
  unfold Ex
  have e := fb_si_upd (fun j => if adjb (ith f i) (ith f j) then (-1 : Int) else 0) (dgr f i : Int) (i := i) (n := cnt f - 1) hi
  have e1 : fb_si (fun j => if 0 ≤ j then Dk (cnt f - 1) (Lp f) 0 i j else 0) (cnt f - 1) = fb_si (fun k => if k = i then (dgr f i : Int) else if adjb (ith f i) (ith f k) then (-1 : Int) else 0) (cnt f - 1) := si_cong (fun j hj => by
    rw [if_pos (Nat.zero_le _), D0 hj]; rfl)
  rw [e1, e, si_ct, adjb_irr, if_neg (by decide)]
  have : dgr f i = fb_ct (fun j => adjb (ith f i) (ith f j)) (cnt f - 1) + (if adjb (ith f i) (ith f (cnt f - 1)) then 1 else 0) := by
    unfold dgr
    have p := cnt_pos' hf
    conv => lhs; rw [show cnt f = cnt f - 1 + 1 by omega]
    rw [fb_ct_succ]
  rw [this]
  split <;> simp <;> omega
theorem IV0 {f : Int64} (hf : FIG f) : IVm (cnt f - 1) (Lp f) 0 := by
  have d0 : dk (cnt f - 1) (Lp f) 0 = 1 := dk_0 _ _
  refine ⟨?_, ?_, ?_, ?_, ?_, ?_, ?_⟩
  · intro m hm
    have : m = 0 := by omega
    subst this
    rw [d0]; decide
  · rw [d0]; decide
  · intro i j _ hi _ hj
    rw [D0 hj, D0 hi]
    unfold Lp
    by_cases q : j = i
    · subst q; rfl
    · rw [if_neg q, if_neg (show ¬ i = j from fun e => q e.symm), adjb_symm]
  · intro i j _ hi _ hj ne
    rw [D0 hj]
    unfold Lp
    rw [if_neg (fun e => ne e.symm)]
    split <;> decide
  · intro i _ hi
    rw [Ex0 hf hi]
    split <;> decide
  · intro i _ hi
    rw [D0 hi, d0]
    unfold Lp
    rw [if_pos rfl]
    have := dgr_4 f i
    omega
  · intro T ⟨i0, _, h1, h2⟩
    refine Classical.byContradiction (fun no => ?_)
    have cl : ∀ i, i < cnt f - 1 → T i → adjb (ith f i) (ith f (cnt f - 1)) = false ∧ ∀ j, j < cnt f - 1 → adjb (ith f i) (ith f j) = true → T j := by
      intro i hi hT
      constructor
      · cases hA : adjb (ith f i) (ith f (cnt f - 1)) with
        | false => rfl
        | true =>
          refine absurd ⟨i, Nat.zero_le _, hi, hT, Or.inl ?_⟩ no
          rw [Ex0 hf hi, hA]; decide
      · intro j hj hA
        refine Classical.byContradiction (fun nT => no ⟨i, Nat.zero_le _, hi, hT, Or.inr ⟨j, Nat.zero_le _, hj, nT, ?_⟩⟩)
        rw [D0 hj]
        unfold Lp
        rw [if_neg (fun e => nT (by rw [e]; exact hT)), hA]; decide
    have p := cnt_pos' hf
    have := hf.2.2.2.2.2 (fun x => ∃ i, i < cnt f - 1 ∧ T i ∧ ith f i = x) ⟨ith f i0, ith_bt (by omega), i0, h1, h2, rfl⟩ (fun a b _ hb hab ⟨i, i1, i2, i3⟩ => by
      subst i3
      obtain ⟨j, j1, rfl⟩ := ith_all hb
      have hA := adjb_t.mpr hab
      rcases Nat.lt_or_ge j (cnt f - 1) with q | q
      · exact ⟨j, q, (cl i i1 i2).2 j q hA, rfl⟩
      · have : j = cnt f - 1 := by omega
        rw [this, (cl i i1 i2).1] at hA
        cases hA) (ith f (cnt f - 1)) (ith_bt (by omega))
    obtain ⟨i, i1, _, i3⟩ := this
    have := ith_inj (show i < cnt f by omega) (show cnt f - 1 < cnt f by omega) i3
    omega
