/-! minors by wedges of rows: dividing out is exact -/
theorem si_comm (g : Nat → Nat → Int) (m : Nat) : ∀ n, fb_si (fun c => fb_si (fun e => g c e) m) n = fb_si (fun e => fb_si (fun c => g c e) n) m
  | 0 => by
    have : ∀ m, fb_si (fun e => fb_si (fun c => g c e) 0) m = 0 := by
      intro m
      induction m with
      | zero => rfl
      | succ m ih => rw [fb_si_succ, ih]; rfl
    rw [this]; rfl
  | n + 1 => by
    rw [fb_si_succ, si_comm g m n, ← fb_si_add]
    rfl
theorem si_cong {f g : Nat → Int} : ∀ {n : Nat}, (∀ k, k < n → f k = g k) → fb_si f n = fb_si g n
  | 0, _ => rfl
  | n + 1, h => by rw [fb_si_succ, fb_si_succ, si_cong (fun k hk => h k (by omega)), h n (by omega)]
theorem si_neg (f : Nat → Int) : ∀ n, fb_si (fun k => -f k) n = -fb_si f n
  | 0 => rfl
  | n + 1 => by rw [fb_si_succ, fb_si_succ, si_neg f n]; omega
theorem si_zero : ∀ n, fb_si (fun _ => 0) n = 0
  | 0 => rfl
  | n + 1 => by rw [fb_si_succ, si_zero n]; rfl
theorem si_if (p : Prop) [Decidable p] (f : Nat → Int) (n : Nat) : (if p then fb_si f n else 0) = fb_si (fun e => if p then f e else 0) n := by
  by_cases q : p
  · rw [if_pos q]; exact si_cong (fun k _ => by rw [if_pos q])
  · rw [if_neg q]
    rw [si_cong (f := fun e => if p then f e else 0) (g := fun _ => 0) (fun k _ => by rw [if_neg q]), si_zero]
def dlt (S : Nat → Bool) (c : Nat) : Nat → Bool := fun e => S e && !decide (e = c)
theorem dlt_comm (S : Nat → Bool) (c e : Nat) : dlt (dlt S c) e = dlt (dlt S e) c := by
  funext x
  unfold dlt
  cases S x <;> cases decide (x = c) <;> cases decide (x = e) <;> rfl
def sgC (n c : Nat) (S : Nat → Bool) : Nat := fb_ct (fun e => decide (c < e) && S e) n
def sgn (n c : Nat) (S : Nat → Bool) : Int := if sgC n c S % 2 = 0 then 1 else -1
theorem sgC_low {n c e : Nat} {S : Nat → Bool} (h : c < e) : sgC n e (dlt S c) = sgC n e S := by
  refine fb_ct_cong (fun x _ => ?_)
  unfold dlt
  by_cases q : e < x
  · rw [decide_eq_true q, decide_eq_false (show ¬ x = c by omega), Bool.not_false, Bool.and_true]
  · rw [decide_eq_false q, Bool.false_and, Bool.false_and]
theorem sgC_high {n c e : Nat} {S : Nat → Bool} (h : c < e) (he : e < n) (hS : S e = true) : sgC n c (dlt S e) + 1 = sgC n c S := by
  have e1 := fb_ct_upd (fun x => decide (c < x) && S x) false (i := e) (n := n) he
  have h' : (decide (c < e) && S e) = true := by rw [decide_eq_true h, hS]; rfl
  have e2 : sgC n c (dlt S e) = fb_ct (fun k => if k = e then false else (decide (c < k) && S k)) n := fb_ct_cong (fun x _ => by
    unfold dlt
    by_cases q : x = e
    · rw [if_pos q, decide_eq_true q]; simp
    · rw [if_neg q, decide_eq_false q]; simp)
  rw [e2]
  simp only [h', if_true] at e1
  rw [if_neg (by decide), Nat.add_zero] at e1
  exact e1
theorem sgn_flip {n c e : Nat} {S : Nat → Bool} (h : c < e) (he : e < n) (hS : S e = true) : sgn n c (dlt S e) = - sgn n c S := by
  have := sgC_high (n := n) h he hS
  unfold sgn
  by_cases q : sgC n c S % 2 = 0
  · rw [if_pos q, if_neg (by omega)]
  · rw [if_neg q, if_pos (by omega)]; rfl
theorem sgn_same {n c e : Nat} {S : Nat → Bool} (h : c < e) : sgn n e (dlt S c) = sgn n e S := by
  unfold sgn; rw [sgC_low h]
theorem sgn_two {n c e : Nat} {S : Nat → Bool} (hne : c ≠ e) (hc : c < n) (he : e < n) (hSc : S c = true) (hSe : S e = true) : sgn n c S * sgn n e (dlt S c) = -(sgn n e S * sgn n c (dlt S e)) := by
  rcases Nat.lt_or_ge c e with q | q
  · rw [sgn_same q, sgn_flip q he hSe, Int.mul_neg, Int.neg_neg, Int.mul_comm]
  · have q' : e < c := by omega
    rw [sgn_same q', sgn_flip q' hc hSc, Int.mul_neg, Int.mul_comm]
def wdg (n : Nat) (W : (Nat → Bool) → Int) (a : Nat → Int) : (Nat → Bool) → Int := fun S => fb_si (fun c => if S c then sgn n c S * a c * W (dlt S c) else 0) n
theorem wdg_zero (n : Nat) (a : Nat → Int) (S : Nat → Bool) : wdg n (fun _ => 0) a S = 0 := by
  unfold wdg
  rw [si_cong (g := fun _ => 0) (fun c _ => by rw [Int.mul_zero, ite_self]), si_zero]
theorem wdg_two (n : Nat) (W : (Nat → Bool) → Int) (a b : Nat → Int) (S : Nat → Bool) : wdg n (wdg n W a) b S = fb_si (fun c => fb_si (fun e => if S c = true ∧ S e = true ∧ e ≠ c then (sgn n c S * sgn n e (dlt S c)) * (b c * a e * W (dlt (dlt S c) e)) else 0) n) n := by
  unfold wdg
  refine si_cong (fun c hc => ?_)
  rw [← fb_si_mul, si_if]
  refine si_cong (fun e he => ?_)
  by_cases q : S c = true
  · rw [if_pos q]
    by_cases q2 : dlt S c e = true
    · have q3 : S e = true ∧ e ≠ c := by
        unfold dlt at q2
        rw [Bool.and_eq_true, Bool.not_eq_true', decide_eq_false_iff_not] at q2
        exact q2
      rw [if_pos q2, if_pos ⟨q, q3⟩]
      simp only [Int.mul_assoc, Int.mul_left_comm]
    · rw [if_neg q2, Int.mul_zero, if_neg]
      rintro ⟨_, c2, c3⟩
      apply q2
      unfold dlt
      rw [c2, decide_eq_false c3]; rfl
  · rw [if_neg q, if_neg (fun c => q c.1)]
theorem wdg_anti (n : Nat) (W : (Nat → Bool) → Int) (a b : Nat → Int) (S : Nat → Bool) : wdg n (wdg n W a) b S = - wdg n (wdg n W b) a S := by
  rw [wdg_two, wdg_two, si_comm (fun c e => if S c = true ∧ S e = true ∧ e ≠ c then (sgn n c S * sgn n e (dlt S c)) * (a c * b e * W (dlt (dlt S c) e)) else 0) n n, ← si_neg]
  refine si_cong (fun c hc => ?_)
  rw [← si_neg]
  refine si_cong (fun e he => ?_)
  by_cases q : S c = true ∧ S e = true ∧ e ≠ c
  · rw [if_pos q, if_pos ⟨q.2.1, q.1, fun h => q.2.2 h.symm⟩, sgn_two (fun h => q.2.2 h.symm) hc he q.1 q.2.1, dlt_comm S e c, Int.neg_mul, show b c * a e = a e * b c from Int.mul_comm _ _]
  · rw [if_neg q, if_neg (fun c => q ⟨c.2.1, c.1, fun h => c.2.2 h.symm⟩)]; rfl
noncomputable def Wk (n : Nat) (A : Nat → Nat → Int) : Nat → (Nat → Bool) → Int
  | 0 => fun S => if fb_ct S n = 0 then 1 else 0
  | k + 1 => wdg n (Wk n A k) (A k)
theorem Wk_old (n : Nat) (A : Nat → Nat → Int) : ∀ k i, i < k → wdg n (Wk n A k) (A i) = fun _ => 0
  | 0, i, h => by omega
  | k + 1, i, h => by
    funext S
    show wdg n (wdg n (Wk n A k) (A k)) (A i) S = 0
    rcases Nat.lt_or_ge i k with q | q
    · rw [wdg_anti, Wk_old n A k i q, wdg_zero]; rfl
    · have : i = k := by omega
      subst this
      have := wdg_anti n (Wk n A i) (A i) (A i) S
      omega
def sgm2 (k c : Nat) : Nat → Bool := fun e => decide (e < k) || decide (e = c)
noncomputable def Xk (n : Nat) (A : Nat → Nat → Int) (k c e : Nat) : Int := if sgm2 k c e = true then sgn n e (sgm2 k c) * Wk n A k (dlt (sgm2 k c) e) else 0
noncomputable def Dk (n : Nat) (A : Nat → Nat → Int) (k i c : Nat) : Int := fb_si (fun e => Xk n A k c e * A i e) n
noncomputable def dk (n : Nat) (A : Nat → Nat → Int) (k : Nat) : Int := Wk n A k (fun e => decide (e < k))
theorem Dk_w (n : Nat) (A : Nat → Nat → Int) (k i c : Nat) : Dk n A k i c = wdg n (Wk n A k) (A i) (sgm2 k c) := by
  unfold Dk wdg
  refine si_cong (fun e _ => ?_)
  unfold Xk
  by_cases q : sgm2 k c e = true
  · rw [if_pos q, if_pos q, Int.mul_assoc, Int.mul_assoc, Int.mul_comm (Wk n A k _)]
  · rw [if_neg q, if_neg q, Int.zero_mul]
theorem Dk_old {n : Nat} {A : Nat → Nat → Int} {k i : Nat} (h : i < k) (c : Nat) : Dk n A k i c = 0 := by
  rw [Dk_w, Wk_old n A k i h]
theorem dk_s (n : Nat) (A : Nat → Nat → Int) (k : Nat) : dk n A (k + 1) = Dk n A k k k := by
  rw [Dk_w]
  have : (fun e => decide (e < k + 1)) = sgm2 k k := by
    funext e
    unfold sgm2
    apply bool_iff
    rw [decide_eq_true_eq, Bool.or_eq_true, decide_eq_true_eq, decide_eq_true_eq]
    omega
  unfold dk
  rw [this]; rfl
theorem dk_0 (n : Nat) (A : Nat → Nat → Int) : dk n A 0 = 1 := by
  unfold dk
  show (if fb_ct (fun e => decide (e < 0)) n = 0 then (1 : Int) else 0) = 1
  rw [if_pos (fb_ct_zero.mpr (fun e _ => decide_eq_false (by omega)))]
theorem sgn_top {n k c : Nat} (h : k ≤ c) : sgn n c (sgm2 k c) = 1 := by
  unfold sgn
  rw [if_pos]
  have : sgC n c (sgm2 k c) = 0 := fb_ct_zero.mpr (fun e _ => by
    unfold sgm2
    by_cases q : c < e
    · rw [decide_eq_false (show ¬ e < k by omega), decide_eq_false (show ¬ e = c by omega)]; simp
    · rw [decide_eq_false q]; rfl)
  rw [this]
theorem Xk_c {n : Nat} {A : Nat → Nat → Int} {k c : Nat} (h : k ≤ c) : Xk n A k c c = dk n A k := by
  unfold Xk
  rw [if_pos (by unfold sgm2; rw [decide_eq_true (show c = c from rfl), Bool.or_true]), sgn_top h, Int.one_mul]
  unfold dk
  congr 1
  funext e
  unfold dlt sgm2
  by_cases q : e = c
  · rw [decide_eq_true q, decide_eq_false (show ¬ e < k by omega)]; rfl
  · rw [decide_eq_false q, Bool.or_false, Bool.not_false, Bool.and_true]
theorem Xk_o {n : Nat} {A : Nat → Nat → Int} {k c e : Nat} (h : k ≤ e) (hc : e ≠ c) : Xk n A k c e = 0 := by
  unfold Xk
  rw [if_neg]
  unfold sgm2
  rw [decide_eq_false (show ¬ e < k by omega), decide_eq_false hc]
  decide
theorem D0 {n : Nat} {A : Nat → Nat → Int} {i c : Nat} (hc : c < n) : Dk n A 0 i c = A i c := by
  unfold Dk
  have e := fb_si_upd (fun _ => 0) (A i c) (i := c) (n := n) hc
  rw [si_zero] at e
  rw [si_cong (g := fun k => if k = c then A i c else 0) (fun e _ => ?_), e]
  · omega
  · by_cases q : e = c
    · subst q
      rw [if_pos rfl, Xk_c (Nat.zero_le _), dk_0, Int.one_mul]
    · rw [if_neg q, Xk_o (Nat.zero_le _) q, Int.zero_mul]
/-- no combination of the first columns is nothing -/
theorem NS {n : Nat} {A : Nat → Nat → Int} : ∀ k, (∀ m, m ≤ k → dk n A m ≠ 0) → ∀ T : Nat → Int, (∀ e, k ≤ e → T e = 0) → (∀ i, i < k → fb_si (fun e => T e * A i e) n = 0) → ∀ e, T e = 0
  | 0, _, T, h1, _ => fun e => h1 e (Nat.zero_le _)
  | k + 1, hd, T, h1, h2 => by
    have key : ∀ e, dk n A k * T e - T k * Xk n A k k e = 0 := by
      refine NS k (fun m hm => hd m (by omega)) (fun e => dk n A k * T e - T k * Xk n A k k e) (fun e he => ?_) (fun i hi => ?_)
      · by_cases q : e = k
        · subst q
          rw [Xk_c (Nat.le_refl _), Int.mul_comm]; omega
        · rw [h1 e (by omega), Xk_o (by omega) q]; simp
      · have e1 : fb_si (fun e => (dk n A k * T e - T k * Xk n A k k e) * A i e) n = dk n A k * fb_si (fun e => T e * A i e) n - T k * Dk n A k i k := by
          unfold Dk
          rw [← fb_si_mul, ← fb_si_mul, ← fb_si_sub]
          exact si_cong (fun e _ => by rw [Int.sub_mul, Int.mul_assoc, Int.mul_assoc])
        rw [e1, h2 i (by omega), Dk_old hi]; simp
    have e2 : fb_si (fun e => (dk n A k * T e - T k * Xk n A k k e) * A k e) n = dk n A k * fb_si (fun e => T e * A k e) n - T k * Dk n A k k k := by
      unfold Dk
      rw [← fb_si_mul, ← fb_si_mul, ← fb_si_sub]
      exact si_cong (fun e _ => by rw [Int.sub_mul, Int.mul_assoc, Int.mul_assoc])
    rw [si_cong (g := fun _ => 0) (fun e _ => by rw [key e, Int.zero_mul]), si_zero, h2 k (by omega), ← dk_s] at e2
    have tk : T k = 0 := by
      have : T k * dk n A (k + 1) = 0 := by rw [Int.mul_zero] at e2; omega
      rcases Int.mul_eq_zero.mp this with z | z
      · exact z
      · exact absurd z (hd (k + 1) (Nat.le_refl _))
    intro e
    have := key e
    rw [tk, Int.zero_mul, Int.sub_zero] at this
    rcases Int.mul_eq_zero.mp this with z | z
    · exact absurd z (hd k (by omega))
    · exact z
/-- the step from minors to minors -/
theorem Dk_step {n : Nat} {A : Nat → Nat → Int} {k c : Nat} (hd : ∀ m, m ≤ k + 1 → dk n A m ≠ 0) (hc : k < c) (i : Nat) : dk n A k * Dk n A (k + 1) i c = Dk n A k k k * Dk n A k i c - Dk n A k k c * Dk n A k i k := by
  have comb : ∀ i, fb_si (fun e => (dk n A (k + 1) * Xk n A k c e - Dk n A k k c * Xk n A k k e - dk n A k * Xk n A (k + 1) c e) * A i e) n = dk n A (k + 1) * Dk n A k i c - Dk n A k k c * Dk n A k i k - dk n A k * Dk n A (k + 1) i c := by
    intro i
    show _ = dk n A (k + 1) * fb_si (fun e => Xk n A k c e * A i e) n - Dk n A k k c * fb_si (fun e => Xk n A k k e * A i e) n - dk n A k * fb_si (fun e => Xk n A (k + 1) c e * A i e) n
    rw [← fb_si_mul, ← fb_si_mul, ← fb_si_mul, ← fb_si_sub, ← fb_si_sub]
    exact si_cong (fun e _ => by rw [Int.sub_mul, Int.sub_mul, Int.mul_assoc, Int.mul_assoc, Int.mul_assoc])
  have z := NS (k + 1) hd (fun e => dk n A (k + 1) * Xk n A k c e - Dk n A k k c * Xk n A k k e - dk n A k * Xk n A (k + 1) c e) (fun e he => by
    by_cases q : e = c
    · subst q
      rw [Xk_c (by omega), Xk_c he, Xk_o (show k ≤ e by omega) (by omega), Int.mul_comm (dk n A (k + 1))]; simp
    · rw [Xk_o (by omega) q, Xk_o he q, Xk_o (show k ≤ e by omega) (by omega)]; simp) (fun i hi => by
    rw [comb, Dk_old (k := k + 1) hi]
    rcases Nat.lt_or_ge i k with q | q
    · rw [Dk_old q, Dk_old q]; simp
    · have : i = k := by omega
      subst this
      rw [dk_s, Int.mul_comm (Dk n A i i c)]; simp)
  have := comb i
  rw [si_cong (g := fun _ => 0) (fun e _ => by rw [z e, Int.zero_mul]), si_zero, dk_s] at this
  omega
