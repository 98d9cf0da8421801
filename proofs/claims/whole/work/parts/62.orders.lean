theorem single64 : ∀ a : Fin 64, ∀ b : Fin 64, 0 < 64 * a.val + b.val → (((64 * a.val + b.val) &&& (64 * a.val + b.val - 1)) = 0 ↔ pc (64 * a.val + b.val) = 1) := by decide +kernel
theorem single_n {s : Nat} (h0 : 0 < s) (hs : s < 4096) : nI s &&& (nI s - 1) = 0 ↔ pc s = 1 := by
  rw [nI_m1 h0, nI_and]
  have := single64 ⟨s / 64, by omega⟩ ⟨s % 64, by omega⟩
  have e : 64 * (s / 64) + s % 64 = s := by omega
  simp only [e] at this
  have al : s &&& (s - 1) ≤ s := Nat.and_le_left
  rw [← this h0, show (0 : Int32) = nI 0 from nI_0.symm, nI_eq (by omega) (by omega)]
theorem adjb_symm (a b : Nat) : adjb a b = adjb b a := bool_iff (by rw [adjb_t, adjb_t]; exact ⟨adj_symm, adj_symm⟩)
theorem wo1_n (s i : Nat) (hi : i < 12) : nI s &&& ((il 1 (nI i)) ^^^ (-1)) = nI (wo1 s i) := by
  rw [il_n ⟨i, by omega⟩, dff_n]; rfl
theorem besA_ad {f : Int64} (hf : FIG f) {s i : Nat} (hi : i < cnt f) (h : s.testBit i = false) : (besA f s).testBit i = adB f (cnt f) s i := by
  apply bool_iff
  rw [besA_bit hf, adB_t]
  exact ⟨fun ⟨_, _, c⟩ => c, fun c => ⟨hi, h, c⟩⟩
/-! the reference's table -/
def WO (f : Int64) (s : Nat) (w : Nat → Int64) : Prop := ∀ t, 0 < t → t ≤ s → w t = lN (oW f t)
theorem mo_orders_eq {f : Int64} (hf : FIG f) {b : Nat → Int32} (hb : NEb f (cnt f) b) (w : Nat → Int64) : ∃ w', mo_orders (nI (cnt f)) b w = some (lN (oW f (2 ^ cnt f - 1)), w') := by
  have n12 := hf.2.2.2.1
  have p12 := pw12 n12
  have hp := cnt_pos' hf
  have ph := pw_half hp
  have p1 : 0 < 2 ^ (cnt f - 1) := Nat.pow_pos (by omega)
  rw [mo_orders, nm_eq, il_n ⟨cnt f, by omega⟩, show nI (2 ^ cnt f) - 1 = nI (2 ^ cnt f - 1) from nI_m1 (by omega)]
  refine ivl2 (B := mo_orders_B11 (nI (2 ^ cnt f - 1)) (nI (cnt f)) b) (fun s x w => x = nI (s + 1) ∧ WO f s w) (fun o => ∃ w', o = some (lN (oW f (2 ^ cnt f - 1)), w')) (2 ^ cnt f - 1) ?_ ?_ FU 0 _ _ (by omega) (FU_lt (by omega)) ⟨rfl, fun t h1 h2 => by omega⟩
  · rintro s hs x w K ⟨rfl, hw⟩
    have s12 : s + 1 < 4096 := by omega
    have c4 : ∀ {β : Type} (k : Option β), ck (nI (s + 1)) 4096 k = k := fun k => ck_n s12 (by omega) k
    have sg := single_n (s := s + 1) (by omega) s12
    rw [mo_orders_B11, if_neg (nI_nlt (by omega) (by omega)), c4, nm_eq, cl_n (by omega)]
    by_cases q1 : pc (s + 1) = 1
    · rw [if_pos (sg.mpr q1), c4, nm_eq, mo_orders_J38]
      have e : oW f (s + 1) = 1 := by
        rw [oW_eq s12, if_pos q1]
        have : fb_sm (oTm f (oW f) (s + 1)) (cnt f) = 0 := by
          rw [fb_sm_cong (f := oTm f (oW f) (s + 1)) (g := fun _ => 0) (fun j hj => ?_), fb_sm_const, Nat.mul_zero]
          unfold oTm
          rw [if_neg]
          rintro ⟨h1, h2, _⟩
          have pw := pc_wo1 s12 (show j < 12 by omega) h1
          have p0 : pc (wo1 (s + 1) j) = 0 := by omega
          have l := wo1_lt s12 h1
          obtain ⟨i, hi⟩ := Nat.exists_testBit_of_ne_zero (show wo1 (s + 1) j ≠ 0 by omega)
          have i12 : i < 12 := by
            rcases Nat.lt_or_ge i 12 with z | z
            · exact z
            · rw [tb_12 (by omega) z] at hi; cases hi
          have : 0 < pc (wo1 (s + 1) j) := fb_ct_pos.mpr ⟨i, i12, hi⟩
          omega
        rw [this]
      refine ivl2 (B := mo_orders_B40 (nI (2 ^ cnt f - 1)) (nI (s + 1)) (nI (cnt f)) b K) (fun _ a b => b = vp_updL (vp_updL w (s + 1) 0) (s + 1) 1) (fun o => ∃ a' b', (a' = nI (s + 1 + 1) ∧ WO f (s + 1) b') ∧ o = K a' b') 0 (fun i hi => by omega) ?_ FU 0 _ _ (by omega) (FU_lt (by omega)) rfl
      rintro a b' k rfl
      rw [mo_orders_B40, if_pos (sg.mpr q1), ite_self, mo_orders_J114, nm_eq, o1]
      refine ⟨_, _, ⟨rfl, fun t h1 h2 => ?_⟩, rfl⟩
      by_cases qt : t = s + 1
      · rw [qt, pk_uLs, e]; rfl
      · rw [pk_uLn qt, pk_uLn qt]; exact hw t h1 (by omega)
    · rw [if_neg (fun c => q1 (sg.mp c)), mo_orders_J38]
      refine ivl2 (B := mo_orders_B40 (nI (2 ^ cnt f - 1)) (nI (s + 1)) (nI (cnt f)) b K) (fun i a w => a = nI i ∧ WO f s w ∧ w (s + 1) = lN (fb_sm (oTm f (oW f) (s + 1)) i)) (fun o => ∃ a' b', (a' = nI (s + 1 + 1) ∧ WO f (s + 1) b') ∧ o = K a' b') (cnt f) ?_ ?_ FU 0 _ _ (by omega) (FU_lt (by omega)) ⟨rfl, fun t h1 h2 => by rw [pk_uLn (by omega)]; exact hw t h1 h2, pk_uLs⟩
      · rintro i hi a w k ⟨rfl, h1, h2⟩
        have es : fb_sm (oTm f (oW f) (s + 1)) (i + 1) = fb_sm (oTm f (oW f) (s + 1)) i + oTm f (oW f) (s + 1) i := fb_sm_succ _ _
        rw [mo_orders_B40, if_neg (nI_ge hi (by omega)), if_neg (fun c => q1 (sg.mp c)), nm_eq, wo1_n _ _ (by omega), mo_has_n (by omega) (by omega), bd1_some]
        have skip : oTm f (oW f) (s + 1) i = 0 → ∃ a' b', (a' = nI (i + 1) ∧ WO f s b' ∧ b' (s + 1) = lN (fb_sm (oTm f (oW f) (s + 1)) (i + 1))) ∧ mo_orders_J108 K k (nI (cnt f)) b (nI (2 ^ cnt f - 1)) (nI (s + 1)) (nI i) w = k a' b' := by
          intro z
          rw [mo_orders_J108, nm_eq, o1]
          exact ⟨_, _, ⟨rfl, h1, by rw [h2, es, z]; rfl⟩, rfl⟩
        cases ht : (s + 1).testBit i with
        | false =>
          rw [if_pos (by decide)]
          apply skip
          unfold oTm
          rw [if_neg (fun c => by rw [ht] at c; cases c.1)]
        | true =>
          have l := wo1_lt s12 ht
          have pw := pc_wo1 s12 (show i < 12 by omega) ht
          have w0 : 0 < wo1 (s + 1) i := by
            rcases Nat.eq_zero_or_pos (wo1 (s + 1) i) with z | z
            · rw [z] at pw
              have : pc 0 = 0 := fb_ct_zero.mpr (fun i _ => Nat.zero_testBit i)
              omega
            · exact z
          have wi : (wo1 (s + 1) i).testBit i = false := by rw [wo1_bit s12, decide_eq_true rfl]; simp
          have bl := besA_lt hf (wo1 (s + 1) i)
          rw [if_neg (by decide), besideAll_eq hf hb (by omega), bd1_some, ir_n (by omega) (by omega), besA_ad hf hi wi]
          cases hA : adB f (cnt f) (wo1 (s + 1) i) i with
          | false =>
            rw [if_neg (by decide)]
            apply skip
            unfold oTm
            rw [if_neg (fun c => by rw [hA] at c; cases c.2.2)]
          | true =>
            rw [if_pos (by decide), c4, ck_n (show wo1 (s + 1) i < 4096 by omega) (by omega), nm_eq, c4, nm_eq, cl_n (by omega), cl_n (by omega), mo_orders_J108, nm_eq, o1, h2, h1 _ w0 (by omega), lN_add]
            refine ⟨_, _, ⟨rfl, fun t t1 t2 => by rw [pk_uLn (by omega)]; exact h1 t t1 t2, ?_⟩, rfl⟩
            rw [pk_uLs, es]
            unfold oTm
            rw [if_pos ⟨ht, w0, hA⟩]
      · rintro a w k ⟨rfl, h1, h2⟩
        rw [mo_orders_B40, if_pos (nI_le (Nat.le_refl _) (by omega)), mo_orders_J114, nm_eq, o1]
        refine ⟨_, _, ⟨rfl, fun t t1 t2 => ?_⟩, rfl⟩
        by_cases qt : t = s + 1
        · rw [qt, h2, oW_eq s12, if_neg q1, Nat.zero_add]
        · exact h1 t t1 (by omega)
  · rintro x w K ⟨rfl, hw⟩
    rw [mo_orders_B11, if_pos (nI_lt (by omega) (by omega)), ck_n (show 2 ^ cnt f - 1 < 4096 by omega) (by omega), cl_n (by omega), hw _ (by omega) (Nat.le_refl _)]
    exact ⟨_, rfl⟩
/-! the class's table -/
noncomputable def oTc (f : Int64) (s i t j : Nat) : Nat := if t.testBit j = true ∧ 0 < wo1 t j ∧ (wo1 t j < s ∨ (wo1 t j = s ∧ j < i)) ∧ adB f (cnt f) (wo1 t j) j = true then oW f (wo1 t j) else 0
noncomputable def oF (f : Int64) (s i t : Nat) : Nat := (if pc t = 1 then 1 else 0) + fb_sm (oTc f s i t) (cnt f)
def TC (f : Int64) (s i : Nat) (a : Nat → Int32) : Prop := ∀ t, t < 2 ^ cnt f → a t = nI (oF f s i t)
theorem oF_end {f : Int64} (s t : Nat) : oF f s (cnt f) t = oF f (s + 1) 0 t := by
  unfold oF
  congr 1
  refine fb_sm_cong (fun j hj => ?_)
  unfold oTc
  by_cases q : t.testBit j = true ∧ 0 < wo1 t j ∧ (wo1 t j < s ∨ (wo1 t j = s ∧ j < cnt f)) ∧ adB f (cnt f) (wo1 t j) j = true
  · rw [if_pos q, if_pos ⟨q.1, q.2.1, by omega, q.2.2.2⟩]
  · rw [if_neg q, if_neg (fun c => q ⟨c.1, c.2.1, by omega, c.2.2.2⟩)]
theorem oF_self {f : Int64} {s t : Nat} (ht : t < 4096) (h : t ≤ s) (i : Nat) : oF f s i t = oW f t := by
  rw [oW_eq ht]
  unfold oF
  congr 1
  refine fb_sm_cong (fun j hj => ?_)
  unfold oTc oTm
  by_cases q : t.testBit j = true ∧ 0 < wo1 t j ∧ adB f (cnt f) (wo1 t j) j = true
  · have l := wo1_lt ht q.1
    rw [if_pos q, if_pos ⟨q.1, q.2.1, by omega, q.2.2⟩]
  · rw [if_neg q, if_neg (fun c => q ⟨c.1, c.2.1, c.2.2.2⟩)]
theorem oF_same {f : Int64} {s i t : Nat} (h : ¬ (t.testBit i = true ∧ wo1 t i = s ∧ adB f (cnt f) s i = true) ∨ oW f s = 0) : oF f s (i + 1) t = oF f s i t := by
  unfold oF
  congr 1
  refine fb_sm_cong (fun j hj => ?_)
  unfold oTc
  by_cases q : t.testBit j = true ∧ 0 < wo1 t j ∧ (wo1 t j < s ∨ (wo1 t j = s ∧ j < i)) ∧ adB f (cnt f) (wo1 t j) j = true
  · rw [if_pos ⟨q.1, q.2.1, by omega, q.2.2.2⟩, if_pos q]
  · rw [if_neg q]
    by_cases q2 : t.testBit j = true ∧ 0 < wo1 t j ∧ (wo1 t j < s ∨ (wo1 t j = s ∧ j < i + 1)) ∧ adB f (cnt f) (wo1 t j) j = true
    · rw [if_pos q2]
      have e : wo1 t j = s ∧ j = i := by
        rcases q2.2.2.1 with z | z
        · exact absurd ⟨q2.1, q2.2.1, Or.inl z, q2.2.2.2⟩ q
        · rcases Nat.lt_or_ge j i with y | y
          · exact absurd ⟨q2.1, q2.2.1, Or.inr ⟨z.1, y⟩, q2.2.2.2⟩ q
          · exact ⟨z.1, by omega⟩
      rcases h with h | h
      · obtain ⟨e1, e2⟩ := e
        subst e2
        exact absurd ⟨q2.1, e1, by rw [← e1]; exact q2.2.2.2⟩ h
      · rw [e.1, h]
    · rw [if_neg q2]
theorem oF_add {f : Int64} {s i t : Nat} (hi : i < cnt f) (h0 : 0 < s) (h : t.testBit i = true ∧ wo1 t i = s ∧ adB f (cnt f) s i = true) : oF f s (i + 1) t = oF f s i t + oW f s := by
  unfold oF
  have e := fb_sm_upd (oTc f s i t) (oW f s) hi
  have z : oTc f s i t i = 0 := by
    unfold oTc
    rw [if_neg]
    rintro ⟨_, _, c, _⟩
    omega
  rw [z, Nat.add_zero] at e
  have e2 : fb_sm (oTc f s (i + 1) t) (cnt f) = fb_sm (fun k => if k = i then oW f s else oTc f s i t k) (cnt f) := fb_sm_cong (fun j hj => by
    by_cases q : j = i
    · subst q
      rw [if_pos rfl]
      unfold oTc
      rw [if_pos ⟨h.1, by omega, by omega, by rw [h.2.1]; exact h.2.2⟩, h.2.1]
    · rw [if_neg q]
      unfold oTc
      by_cases q2 : t.testBit j = true ∧ 0 < wo1 t j ∧ (wo1 t j < s ∨ (wo1 t j = s ∧ j < i)) ∧ adB f (cnt f) (wo1 t j) j = true
      · rw [if_pos q2, if_pos ⟨q2.1, q2.2.1, by omega, q2.2.2.2⟩]
      · rw [if_neg q2, if_neg (fun c => q2 ⟨c.1, c.2.1, by omega, c.2.2.2⟩)])
  rw [e2, e]
  omega
theorem near_ad {f : Int64} {s i : Nat} (hf : FIG f) (hs : s < 2 ^ cnt f) : nI (bsN f i (cnt f)) &&& nI s = 0 ↔ adB f (cnt f) s i = false := by
  have p12 := pw12 hf.2.2.2.1
  have bl := bsN_lt f i (cnt f)
  have al : bsN f i (cnt f) &&& s ≤ bsN f i (cnt f) := Nat.and_le_left
  rw [nI_and, show (0 : Int32) = nI 0 from nI_0.symm, nI_eq (by omega) (by omega)]
  constructor
  · intro h
    cases hA : adB f (cnt f) s i with
    | false => rfl
    | true =>
      obtain ⟨j, j1, j2, j3⟩ := adB_t.mp hA
      have := congrArg (fun z => Nat.testBit z j) h
      simp only [Nat.testBit_and, bsN_bit, decide_eq_true j1, j2, Nat.zero_testBit, Bool.and_true, Bool.true_and] at this
      rw [adjb_symm, j3] at this
      cases this
  · intro h
    apply Nat.eq_of_testBit_eq
    intro j
    rw [Nat.testBit_and, bsN_bit, Nat.zero_testBit]
    by_cases q : j < cnt f
    · cases hj : s.testBit j with
      | false => rw [Bool.and_false]
      | true =>
        cases hA : adjb (ith f i) (ith f j) with
        | false => rw [Bool.and_false, Bool.false_and]
        | true =>
          have : adB f (cnt f) s i = true := adB_t.mpr ⟨j, q, hj, by rw [adjb_symm]; exact hA⟩
          rw [h] at this; cases this
    · rw [decide_eq_false q, Bool.false_and, Bool.false_and]
theorem pa_orders_eq {f : Int64} (hf : FIG f) {b : Nat → Int32} (hb : NEb f (cnt f) b) (a : Nat → Int32) : ∃ a', pa_orders (nI (cnt f)) b a = some (lN (oW f (2 ^ cnt f - 1)), a') := by
  have n12 := hf.2.2.2.1
  have p12 := pw12 n12
  have hp := cnt_pos' hf
  have ph := pw_half hp
  have p1 : 0 < 2 ^ (cnt f - 1) := Nat.pow_pos (by omega)
  rw [pa_orders, nm_eq, il_n ⟨cnt f, by omega⟩]
  refine ivl2 (B := pa_orders_B9 (nI (2 ^ cnt f)) (nI (cnt f)) b) (fun s x a => x = nI s ∧ ∀ t, t < s → a t = nI (if pc t = 1 then 1 else 0)) (fun o => ∃ a', o = some (lN (oW f (2 ^ cnt f - 1)), a')) (2 ^ cnt f) ?_ ?_ FU 0 _ _ (by omega) (FU_lt (by omega)) ⟨rfl, fun t h => by omega⟩
  · rintro s hs x a K ⟨rfl, h⟩
    have pl := pc_le s
    have c4 : ∀ {β : Type} (k : Option β), ck (nI s) 4096 k = k := fun k => ck_n (show s < 4096 by omega) (by omega) k
    rw [pa_orders_B9, if_neg (nI_ge hs (by omega)), ji_small (by omega), bd1_some, pa_orders_J32, pa_orders_J32, c4, c4, nm_eq, nm_eq, nm_eq, nm_eq, cl_n (by omega), o1]
    by_cases q : pc s = 1
    · rw [if_pos (by rw [q]; rfl)]
      refine ⟨_, _, ⟨rfl, fun t ht => ?_⟩, rfl⟩
      by_cases qt : t = s
      · rw [qt, pk_us, if_pos q]; rfl
      · rw [pk_un qt]; exact h t (by omega)
    · rw [if_neg (show ¬ nI (pc s) = (1 : Int32) from fun c => q ((nI_eq (a := pc s) (b := 1) (by omega) (by omega)).mp c))]
      refine ⟨_, _, ⟨rfl, fun t ht => ?_⟩, rfl⟩
      by_cases qt : t = s
      · rw [qt, pk_us, if_neg q]; rfl
      · rw [pk_un qt]; exact h t (by omega)
  · rintro x a K ⟨rfl, h⟩
    rw [pa_orders_B9, if_pos (nI_le (Nat.le_refl _) (by omega))]
    have start : TC f 1 0 a := by
      intro t ht
      rw [h t ht]
      unfold oF
      have : fb_sm (oTc f 1 0 t) (cnt f) = 0 := by
        rw [fb_sm_cong (f := oTc f 1 0 t) (g := fun _ => 0) (fun j hj => ?_), fb_sm_const, Nat.mul_zero]
        unfold oTc
        rw [if_neg]
        rintro ⟨_, c1, c2, _⟩
        omega
      rw [this, Nat.add_zero]
    refine ivl2 (B := pa_orders_B41 (nI (2 ^ cnt f)) (nI (cnt f)) b) (fun s x a => x = nI (s + 1) ∧ TC f (s + 1) 0 a) (fun o => ∃ a', o = some (lN (oW f (2 ^ cnt f - 1)), a')) (2 ^ cnt f - 1) ?_ ?_ FU 0 _ _ (by omega) (FU_lt (by omega)) ⟨rfl, start⟩
    · rintro s hs x a K ⟨rfl, h⟩
      have s12 : s + 1 < 4096 := by omega
      have wb := oW_b hf s12
      have c4 : ∀ {β : Type} (k : Option β), ck (nI (s + 1)) 4096 k = k := fun k => ck_n s12 (by omega) k
      rw [pa_orders_B41, if_neg (nI_ge (show s + 1 < 2 ^ cnt f by omega) (by omega))]
      by_cases w0 : oW f (s + 1) = 0
      · have same : ∀ i, TC f (s + 1) i a := by
          intro i
          induction i with
          | zero => exact h
          | succ i ih => intro t ht; rw [oF_same (Or.inr w0)]; exact ih t ht
        refine ivl2 (B := pa_orders_B48 (nI (2 ^ cnt f)) (nI (s + 1)) (nI (cnt f)) b K) (fun _ _ y => y = a) (fun o => ∃ a' b', (a' = nI (s + 1 + 1) ∧ TC f (s + 1 + 1) 0 b') ∧ o = K a' b') 0 (fun i hi => by omega) ?_ FU 0 _ _ (by omega) (FU_lt (by omega)) rfl
        rintro x y k rfl
        rw [pa_orders_B48, c4, cl_n (by omega), h _ (by omega), oF_self s12 (Nat.le_refl _), w0, if_pos nI_0, ite_self, pa_orders_J111, nm_eq, o1]
        exact ⟨_, _, ⟨rfl, fun t ht => by rw [← oF_end]; exact same (cnt f) t ht⟩, rfl⟩
      · refine ivl2 (B := pa_orders_B48 (nI (2 ^ cnt f)) (nI (s + 1)) (nI (cnt f)) b K) (fun i x y => x = nI i ∧ TC f (s + 1) i y) (fun o => ∃ a' b', (a' = nI (s + 1 + 1) ∧ TC f (s + 1 + 1) 0 b') ∧ o = K a' b') (cnt f) ?_ ?_ FU 0 _ _ (by omega) (FU_lt (by omega)) ⟨rfl, h⟩
        · rintro i hi x y k ⟨rfl, hy⟩
          have es : y (s + 1) = nI (oW f (s + 1)) := by rw [hy _ (by omega), oF_self s12 (Nat.le_refl _)]
          have gl : (s + 1) ||| 2 ^ i < 2 ^ cnt f := Nat.or_lt_two_pow (by omega) (Nat.pow_lt_pow_right (by omega) hi)
          rw [pa_orders_B48, if_neg (nI_ge hi (by omega)), c4, cl_n (show s + 1 < 2 ^ 31 by omega), es, if_neg (nI_ne0 (Nat.pos_of_ne_zero w0) wb), nm_eq, il_n ⟨i, by omega⟩, nI_or]
          have skip : (∀ t, ¬ (t.testBit i = true ∧ wo1 t i = s + 1 ∧ adB f (cnt f) (s + 1) i = true) ∨ ¬ t < 2 ^ cnt f) → ∃ a' b', (a' = nI (i + 1) ∧ TC f (s + 1) (i + 1) b') ∧ pa_orders_J105 K k (nI (cnt f)) b (nI (2 ^ cnt f)) (nI (s + 1)) (nI i) y = k a' b' := by
            intro z
            rw [pa_orders_J105, nm_eq, o1]
            refine ⟨_, _, ⟨rfl, fun t ht => ?_⟩, rfl⟩
            rcases z t with z | z
            · rw [oF_same (Or.inl z)]; exact hy t ht
            · exact absurd ht z
          cases ht : (s + 1).testBit i with
          | true =>
            have : (s + 1) ||| 2 ^ i = s + 1 := by
              apply Nat.eq_of_testBit_eq
              intro m
              rw [fb_bit_set]
              by_cases q : m = i
              · subst q; rw [ht]; rfl
              · rw [decide_eq_false q, Bool.or_false]
            rw [this, if_pos rfl]
            apply skip
            intro t
            by_cases tl : t < 2 ^ cnt f
            · left
              rintro ⟨t1, t2, _⟩
              have := wo1_bit (show t < 4096 by omega) i i
              rw [t2, ht, decide_eq_true rfl] at this
              simp at this
            · exact Or.inr tl
          | false =>
            have ne : ¬ nI ((s + 1) ||| 2 ^ i) = nI (s + 1) := by
              intro c
              have := (nI_eq (by omega) (by omega)).mp c
              have h2 := fb_bit_set (s + 1) i i
              rw [this, ht, decide_eq_true rfl] at h2
              cases h2
            rw [if_neg ne, ck_n (show i < 12 by omega) (by omega), cl_n (show i < 2 ^ 31 by omega), hb i hi]
            cases hA : adB f (cnt f) (s + 1) i with
            | false =>
              rw [if_pos ((near_ad hf (by omega)).mpr hA)]
              apply skip
              intro t
              left
              rintro ⟨_, _, c⟩
              rw [hA] at c; cases c
            | true =>
              rw [if_neg (fun c => by have := (near_ad hf (by omega)).mp c; rw [hA] at this; cases this), ck_n (show (s + 1) ||| 2 ^ i < 4096 by omega) (by omega), c4, nm_eq, ck_n (show (s + 1) ||| 2 ^ i < 4096 by omega) (by omega), nm_eq, cl_n (show (s + 1) ||| 2 ^ i < 2 ^ 31 by omega), pa_orders_J105, nm_eq, o1, hy _ gl, nI_add]
              refine ⟨_, _, ⟨rfl, fun t tl => ?_⟩, rfl⟩
              by_cases qt : t = (s + 1) ||| 2 ^ i
              · have tb : t.testBit i = true ∧ wo1 t i = s + 1 ∧ adB f (cnt f) (s + 1) i = true := by
                  refine ⟨?_, ?_, hA⟩
                  · rw [qt, fb_bit_set, decide_eq_true rfl, Bool.or_true]
                  · rw [qt]; exact wo1_or s12 (by omega) ht
                rw [oF_add hi (by omega) tb, qt, pk_us]
              · rw [pk_un qt, oF_same (Or.inl (fun c => qt ?_))]
                · exact hy t tl
                · rw [← c.2.1]; exact (or_wo1 (by omega) c.1).symm
        · rintro x y k ⟨rfl, hy⟩
          rw [pa_orders_B48, if_pos (nI_le (Nat.le_refl _) (by omega)), pa_orders_J111, nm_eq, o1]
          exact ⟨_, _, ⟨rfl, fun t ht => by rw [← oF_end]; exact hy t ht⟩, rfl⟩
    · rintro x a K ⟨rfl, h⟩
      have e : nI (2 ^ cnt f) - 1 = nI (2 ^ cnt f - 1) := nI_m1 (by omega)
      rw [pa_orders_B41, if_pos (nI_le (show 2 ^ cnt f ≤ 2 ^ cnt f - 1 + 1 by omega) (by omega)), nm_eq, e, ck_n (show 2 ^ cnt f - 1 < 4096 by omega) (by omega), cl_n (by omega), h _ (by omega), oF_self (by omega) (by omega), nI_l (oW_b hf (by omega))]
      exact ⟨_, rfl⟩
