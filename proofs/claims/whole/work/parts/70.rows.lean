/-! the least of a kind, by places -/
theorem mn_Lf {a b : Nat} (ha : a < 1067) (hb : b < 1067) (hg : gn a = gn b) : mnL (Lf a) (Lf b) = Lf (min a b) := by
  unfold mnL
  by_cases q : b < a
  · rw [if_pos ((Lf_lt hb ha hg.symm).mpr q), Nat.min_eq_right (by omega)]
  · rw [if_neg (fun c => q ((Lf_lt hb ha hg.symm).mp c)), Nat.min_eq_left (by omega)]
theorem mn_gn {a b m : Nat} (ha : gn a = m) (hb : gn b = m) : gn (min a b) = m := by
  rcases Nat.le_total a b with q | q
  · rw [Nat.min_eq_left q]; exact ha
  · rw [Nat.min_eq_right q]; exact hb
def o1N (i : Nat) : Nat := min (min (min i (tQ i)) (tQ (tQ i))) (tQ (tQ (tQ i)))
def o2N (i : Nat) : Nat := min (min (min (min (o1N i) (tM i)) (tQ (tM i))) (tQ (tQ (tM i)))) (tQ (tQ (tQ (tM i))))
def oN (k i : Nat) : Nat := if k = 0 then i else if k = 1 then o1N i else o2N i
def lB (k i : Nat) : Bool := if k = 0 then true else if k = 1 then l1B i else l2B i
theorem orb {i : Nat} (hi : i < 1067) : (tQ i < 1067 ∧ tQ (tQ i) < 1067 ∧ tQ (tQ (tQ i)) < 1067) ∧ (gn (tQ i) = gn i ∧ gn (tQ (tQ i)) = gn i ∧ gn (tQ (tQ (tQ i))) = gn i) := by
  have a := (gN_eq hi).1
  have b := (gN_eq a.2).1
  have c := (gN_eq b.2).1
  exact ⟨⟨a.2, b.2, c.2⟩, ⟨a.1, b.1.trans a.1, c.1.trans (b.1.trans a.1)⟩⟩
theorem min_lt {a b n : Nat} (ha : a < n) : min a b < n := by omega
theorem o1_ok {i : Nat} (hi : i < 1067) : ln1 (Lf i) = Lf (o1N i) ∧ o1N i < 1067 ∧ gn (o1N i) = gn i := by
  obtain ⟨⟨l1, l2, l3⟩, ⟨g1, g2, g3⟩⟩ := orb hi
  have m1 : gn (min i (tQ i)) = gn i := mn_gn rfl g1
  have m2 : gn (min (min i (tQ i)) (tQ (tQ i))) = gn i := mn_gn m1 g2
  have m3 : gn (o1N i) = gn i := mn_gn m2 g3
  refine ⟨?_, by unfold o1N; omega, m3⟩
  unfold ln1
  rw [Lf_q hi, Lf_q l1, Lf_q l2, mn_Lf hi l1 g1.symm, mn_Lf (min_lt hi) l2 (m1.trans g2.symm), mn_Lf (min_lt (min_lt hi)) l3 (m2.trans g3.symm)]
  rfl
theorem o2_ok {i : Nat} (hi : i < 1067) : ln2 (Lf i) = Lf (o2N i) ∧ o2N i < 1067 ∧ gn (o2N i) = gn i := by
  obtain ⟨e1, b1, c1⟩ := o1_ok hi
  have mm := (gN_eq hi).2
  obtain ⟨⟨l1, l2, l3⟩, ⟨g1, g2, g3⟩⟩ := orb mm.2
  rw [mm.1] at g1 g2 g3
  have m1 : gn (min (o1N i) (tM i)) = gn i := mn_gn c1 mm.1
  have m2 : gn (min (min (o1N i) (tM i)) (tQ (tM i))) = gn i := mn_gn m1 g1
  have m3 : gn (min (min (min (o1N i) (tM i)) (tQ (tM i))) (tQ (tQ (tM i)))) = gn i := mn_gn m2 g2
  have m4 : gn (o2N i) = gn i := mn_gn m3 g3
  refine ⟨?_, by unfold o2N; omega, m4⟩
  unfold ln2
  rw [e1, Lf_m hi, Lf_q mm.2, Lf_q l1, Lf_q l2, mn_Lf b1 mm.2 (c1.trans mm.1.symm), mn_Lf (min_lt b1) l1 (m1.trans g1.symm), mn_Lf (min_lt (min_lt b1)) l2 (m2.trans g2.symm), mn_Lf (min_lt (min_lt (min_lt b1))) l3 (m3.trans g3.symm)]
  rfl
theorem own_Lf {i k : Nat} (hi : i < 1067) : own (Lf i) k = Lf (oN k i) ∧ oN k i < 1067 ∧ gn (oN k i) = gn i := by
  unfold own oN
  by_cases q : k = 0
  · rw [if_pos q, if_pos q]; exact ⟨rfl, hi, rfl⟩
  · rw [if_neg q, if_neg q]
    by_cases q1 : k = 1
    · rw [if_pos q1, if_pos q1]; exact o1_ok hi
    · rw [if_neg q1, if_neg q1]; exact o2_ok hi
theorem o1_l {i : Nat} : o1N i = i ↔ l1B i = true := by
  unfold o1N l1B
  rw [Bool.and_eq_true, Bool.and_eq_true, ble_t, ble_t, ble_t]
  omega
theorem o2_l {i : Nat} : o2N i = i ↔ l2B i = true := by
  unfold o2N l2B
  rw [Bool.and_eq_true, ← o1_l, Bool.and_eq_true, Bool.and_eq_true, Bool.and_eq_true, ble_t, ble_t, ble_t, ble_t]
  have : o1N i ≤ i := by unfold o1N; omega
  omega
theorem oN_l {k i : Nat} : oN k i = i ↔ lB k i = true := by
  unfold oN lB
  by_cases q : k = 0
  · rw [if_pos q, if_pos q]; simp
  · rw [if_neg q, if_neg q]
    by_cases q1 : k = 1
    · rw [if_pos q1, if_pos q1]; exact o1_l
    · rw [if_neg q1, if_neg q1]; exact o2_l
theorem own_lB {k i : Nat} (hi : i < 1067) : own (Lf i) k = Lf i ↔ lB k i = true := by
  obtain ⟨a, b, _⟩ := own_Lf (k := k) hi
  rw [a, ← oN_l]
  exact ⟨fun h => Lf_inj b hi h, fun h => by rw [h]⟩
def chO (i : Nat) : Bool := l1B (o1N i) && l2B (o2N i)
theorem chO_ok : ∀ a : Fin 34, ∀ b : Fin 32, 32 * a.val + b.val < 1067 → chO (32 * a.val + b.val) = true := by decide +kernel
theorem lB_oN {k i : Nat} (hi : i < 1067) : lB k (oN k i) = true := by
  have := chO_ok ⟨i / 32, by omega⟩ ⟨i % 32, by omega⟩
  have e : 32 * (i / 32) + i % 32 = i := by omega
  simp only [e] at this
  have h := this hi
  unfold chO at h
  rw [Bool.and_eq_true] at h
  unfold lB oN
  by_cases q : k = 0
  · rw [if_pos q]
  · rw [if_neg q, if_neg q]
    by_cases q1 : k = 1
    · rw [if_pos q1, if_pos q1]; exact h.1
    · rw [if_neg q1, if_neg q1]; exact h.2
theorem l2_l1 {i : Nat} (h : l2B i = true) : l1B i = true := by
  unfold l2B at h
  rw [Bool.and_eq_true] at h
  exact h.1
/-- how many of a kind stand before a place -/
def rk (k i : Nat) : Nat := fb_ct (lB k) i
def eK (k n : Nat) : Nat := rk k (eN n)
theorem rk0 (i : Nat) : rk 0 i = i := fb_ct_all.mpr (fun _ _ => rfl)
theorem rk_s (k i : Nat) : rk k (i + 1) = rk k i + (if lB k i then 1 else 0) := fb_ct_succ _ _
theorem rk_le {k a b : Nat} (h : a ≤ b) : rk k a ≤ rk k b := ct_le h
theorem rk_b {k i : Nat} (hi : i ≤ 1067) : rk k i ≤ 1067 := Nat.le_trans (fb_ct_le _ _) hi
theorem eK1 (n : Nat) : eK 1 n = fb_ct l1B (eN n) := rfl
theorem rk1_b {i : Nat} (hi : i ≤ 1067) : rk 1 i ≤ 285 := by
  have := rk_le (k := 1) hi
  have e : rk 1 1067 = 285 := ct_l1.2.2.2.2.2.2
  omega
theorem rk2_b {i : Nat} (hi : i ≤ 1067) : rk 2 i ≤ 164 := by
  have := rk_le (k := 2) hi
  have e : rk 2 1067 = 164 := ct_l2.2.2.2.2.2.2
  omega
/-! is it the least -/
theorem il_go {f : Int64} (hf : FIG f) {k T : Nat} (hT : gr_turnsOf (nI k) = some (nI T)) (hT8 : T ≤ 8) : ∀ (n t : Nat) (now : Int64), 1 ≤ t → t ≤ T → T - t < n → now = tnd f (t - 1) → (∀ s, s < t → f ≤ tnd f s) → fl2 (gr_isLeast_B5 f (nI k)) n now (nI t) = some (boI (@decide (∀ s, s < T → f ≤ tnd f s) (Classical.propDecidable _))) := by
  intro n
  induction n with
  | zero => intro t now _ _ h; omega
  | succ n ih =>
    intro t now h1 h2 hn hnow hl
    show gr_isLeast_B5 f (nI k) (fl2 (gr_isLeast_B5 f (nI k)) n) now (nI t) = _
    rw [gr_isLeast_B5, hT, bd1_some, zb_1]
    rcases Nat.lt_or_ge t T with q | q
    · rw [if_neg (nI_ge q (by omega))]
      have fin : gr_isLeast_J31 (fl2 (gr_isLeast_B5 f (nI k)) n) f (nI k) (nI t) (tnd f t) = some (boI (@decide (∀ s, s < T → f ≤ tnd f s) (Classical.propDecidable _))) := by
        rw [gr_isLeast_J31, nm_eq, o1, zb_0]
        by_cases c : f ≤ tnd f t
        · rw [if_pos c]
          refine ih (t + 1) _ (by omega) (by omega) (by omega) rfl (fun s hs => ?_)
          rcases Nat.lt_or_ge s t with z | z
          · exact hl s z
          · have : s = t := by omega
            subst this; exact c
        · rw [if_neg c, @decide_eq_false _ (Classical.propDecidable _) (fun h => c (h t q))]; rfl
      by_cases q4 : t = 4
      · subst q4
        rw [if_pos (show nI 4 = (4 : Int32) from rfl), (mf_spec hf).1, bd1_some, ← tnd_4 f]
        exact fin
      · rw [if_neg (show ¬ nI t = (4 : Int32) from fun c => q4 ((nI_eq (a := t) (b := 4) (by omega) (by omega)).mp c)), hnow, (qf_spec (tnd_F hf _)).1, bd1_some, tnd_s f (by omega) (by omega), show t - 1 + 1 = t by omega]
        exact fin
    · have : t = T := by omega
      subst this
      rw [if_pos (nI_le (Nat.le_refl _) (by omega)), @decide_eq_true _ (Classical.propDecidable _) hl]; rfl
theorem mnL_self_iff {a b : Int64} : mnL a b = a ↔ a ≤ b := by
  unfold mnL
  by_cases q : b < a
  · rw [if_pos q]
    constructor
    · intro e; rw [e] at q; exact absurd q (l_irr _)
    · intro h; exact absurd q (l_nlt.mpr h)
  · rw [if_neg q]
    exact ⟨fun _ => l_nlt.mp q, fun _ => rfl⟩
theorem mnL_le1 (a b : Int64) : mnL a b ≤ a := by
  unfold mnL
  by_cases q : b < a
  · rw [if_pos q]; rw [Int64.le_iff_toInt_le]; rw [Int64.lt_iff_toInt_lt] at q; omega
  · rw [if_neg q]; rw [Int64.le_iff_toInt_le]; omega
theorem mnL_le2 (a b : Int64) : mnL a b ≤ b := by
  unfold mnL
  by_cases q : b < a
  · rw [if_pos q]; rw [Int64.le_iff_toInt_le]; omega
  · rw [if_neg q]; exact l_nlt.mp q
theorem le_tr {a b c : Int64} (h1 : a ≤ b) (h2 : b ≤ c) : a ≤ c := by rw [Int64.le_iff_toInt_le] at *; omega
theorem le_an {a b : Int64} (h1 : a ≤ b) (h2 : b ≤ a) : a = b := by
  apply Int64.toInt_inj.mp
  rw [Int64.le_iff_toInt_le] at *
  omega
theorem le_mn {a b c : Int64} (h1 : c ≤ a) (h2 : c ≤ b) : c ≤ mnL a b := mnL_P (P := fun z => c ≤ z) h1 h2
theorem ln1_iff {f : Int64} : ln1 f = f ↔ ∀ s, s < 4 → f ≤ tnd f s := by
  constructor
  · intro h s hs
    have a1 : ln1 f ≤ mnL (mnL f (qf f)) (qf (qf f)) := mnL_le1 _ _
    have a2 := mnL_le1 (mnL f (qf f)) (qf (qf f))
    match s, hs with
    | 0, _ => show f ≤ f; rw [Int64.le_iff_toInt_le]; omega
    | 1, _ => show f ≤ qf f; rw [← h]; exact le_tr (le_tr a1 a2) (by have := mnL_le2 f (qf f); rw [h]; rw [h] at *; exact this)
    | 2, _ => show f ≤ qf (qf f); have := mnL_le2 (mnL f (qf f)) (qf (qf f)); rw [h] at a1; exact le_tr a1 this
    | 3, _ => show f ≤ qf (qf (qf f)); have := mnL_le2 (mnL (mnL f (qf f)) (qf (qf f))) (qf (qf (qf f))); have t : ln1 f ≤ qf (qf (qf f)) := this; rw [h] at t; exact t
    | n + 4, h => omega
  · intro h
    have h0 := h 0 (by omega)
    have h1 : f ≤ qf f := h 1 (by omega)
    have h2 : f ≤ qf (qf f) := h 2 (by omega)
    have h3 : f ≤ qf (qf (qf f)) := h 3 (by omega)
    unfold ln1
    rw [mnL_self_iff.mpr h1, mnL_self_iff.mpr h2, mnL_self_iff.mpr h3]
theorem ln2_iff {f : Int64} : ln2 f = f ↔ ∀ s, s < 8 → f ≤ tnd f s := by
  constructor
  · intro h
    have c1 := mnL_le1 (ln1 f) (mf f)
    have c2 := mnL_le1 (mnL (ln1 f) (mf f)) (qf (mf f))
    have c3 := mnL_le1 (mnL (mnL (ln1 f) (mf f)) (qf (mf f))) (qf (qf (mf f)))
    have c4 : ln2 f ≤ mnL (mnL (mnL (ln1 f) (mf f)) (qf (mf f))) (qf (qf (mf f))) := mnL_le1 _ _
    have d1 := mnL_le2 (ln1 f) (mf f)
    have d2 := mnL_le2 (mnL (ln1 f) (mf f)) (qf (mf f))
    have d3 := mnL_le2 (mnL (mnL (ln1 f) (mf f)) (qf (mf f))) (qf (qf (mf f)))
    have d4 : ln2 f ≤ qf (qf (qf (mf f))) := mnL_le2 _ _
    rw [h] at c4 d4
    have l1 : f ≤ ln1 f := le_tr c4 (le_tr c3 (le_tr c2 c1))
    have l1' : ln1 f ≤ f := by
      unfold ln1
      exact le_tr (mnL_le1 _ _) (le_tr (mnL_le1 _ _) (mnL_le1 _ _))
    have e1 := ln1_iff.mp (le_an l1' l1)
    intro s hs
    match s, hs with
    | 0, _ => exact e1 0 (by omega)
    | 1, _ => exact e1 1 (by omega)
    | 2, _ => exact e1 2 (by omega)
    | 3, _ => exact e1 3 (by omega)
    | 4, _ => exact le_tr c4 (le_tr c3 (le_tr c2 d1))
    | 5, _ => exact le_tr c4 (le_tr c3 d2)
    | 6, _ => exact le_tr c4 d3
    | 7, _ => exact d4
    | n + 8, h => omega
  · intro h
    have e1 := ln1_iff.mpr (fun s hs => h s (by omega))
    have h4 : f ≤ mf f := h 4 (by omega)
    have h5 : f ≤ qf (mf f) := h 5 (by omega)
    have h6 : f ≤ qf (qf (mf f)) := h 6 (by omega)
    have h7 : f ≤ qf (qf (qf (mf f))) := h 7 (by omega)
    unfold ln2
    rw [e1, mnL_self_iff.mpr h4, mnL_self_iff.mpr h5, mnL_self_iff.mpr h6, mnL_self_iff.mpr h7]
theorem isLeast_Lf {i : Nat} (hi : i < 1067) : gr_isLeast (Lf i) 1 = some (boI (l1B i)) ∧ gr_isLeast (Lf i) 2 = some (boI (l2B i)) := by
  have hf := Lf_FIG hi
  have r0 : ∀ s, s < 1 → Lf i ≤ tnd (Lf i) s := by
    intro s hs
    have : s = 0 := by omega
    subst this
    show Lf i ≤ Lf i
    rw [Int64.le_iff_toInt_le]; omega
  constructor
  · have := il_go hf trn_1 (by omega) FU 1 (Lf i) (by omega) (by omega) (FU_lt (by omega)) rfl r0
    have e : gr_isLeast (Lf i) 1 = fl2 (gr_isLeast_B5 (Lf i) (nI 1)) FU (Lf i) (nI 1) := rfl
    rw [e, this]
    congr 2
    apply bool_iff
    rw [@decide_eq_true_iff _ (Classical.propDecidable _), ← ln1_iff, (o1_ok hi).1, ← o1_l]
    exact ⟨fun h => Lf_inj (o1_ok hi).2.1 hi h, fun h => by rw [h]⟩
  · have := il_go hf trn_2 (by omega) FU 1 (Lf i) (by omega) (by omega) (FU_lt (by omega)) rfl r0
    have e : gr_isLeast (Lf i) 2 = fl2 (gr_isLeast_B5 (Lf i) (nI 2)) FU (Lf i) (nI 1) := rfl
    rw [e, this]
    congr 2
    apply bool_iff
    rw [@decide_eq_true_iff _ (Classical.propDecidable _), ← ln2_iff, (o2_ok hi).1, ← o2_l]
    exact ⟨fun h => Lf_inj (o2_ok hi).2.1 hi h, fun h => by rw [h]⟩
/-! rows, and what is in them -/
def RWs (a e : Nat) (A : Nat → Int64) (P : Int64 → Prop) : Prop := SLt A a e ∧ a ≤ e ∧ ∀ y, Mm A a e y ↔ P y
def inG (n : Nat) (y : Int64) : Prop := ∃ j, eN n ≤ j ∧ j < eN (n + 1) ∧ y = Lf j
theorem RWs_len {a e n : Nat} {A : Nat → Int64} {P : Int64 → Prop} (h : RWs a e A P) (hP : ∀ y, P y → inG n y) : e - a ≤ eN (n + 1) - eN n := by
  have mem : ∀ t, t < e - a → inG n (A (a + t)) := fun t ht => hP _ ((h.2.2 _).mp ⟨a + t, by omega, by omega, rfl⟩)
  have hj : ∀ t, ∃ j, t < e - a → (eN n ≤ j ∧ j < eN (n + 1) ∧ A (a + t) = Lf j) := by
    intro t
    by_cases q : t < e - a
    · obtain ⟨j, hj⟩ := mem t q
      exact ⟨j, fun _ => hj⟩
    · exact ⟨0, fun c => absurd c q⟩
  refine fb_holes (eN (n + 1) - eN n) (e - a) (fun t => Classical.choose (hj t) - eN n) (fun t ht => ?_) (fun s t hst ht he => ?_)
  · have := Classical.choose_spec (hj t) ht
    show Classical.choose (hj t) - eN n < _
    omega
  · have h1 := Classical.choose_spec (hj s) (by omega)
    have h2 := Classical.choose_spec (hj t) ht
    have he' : Classical.choose (hj s) - eN n = Classical.choose (hj t) - eN n := he
    have e3 : Classical.choose (hj s) = Classical.choose (hj t) := by omega
    have : A (a + s) = A (a + t) := by rw [h1.2.2, h2.2.2, e3]
    have := SLt_inj h.1 (by omega) (by omega) (by omega) (by omega) this
    omega
theorem Lf_SLt {n : Nat} (hn : n < 7) : SLt Lf (eN n) (eN (n + 1)) := by
  intro i j h1 h2 h3
  have b := eN_b (n := n + 1) (by omega)
  have g1 := gn_of hn h1 (show i < eN (n + 1) by omega)
  have g2 := gn_of hn (show eN n ≤ j by omega) h3
  exact (Lf_lt (by omega) (by omega) (g1.trans g2.symm)).mpr h2
theorem RWs_full {a e n : Nat} {A : Nat → Int64} {P : Int64 → Prop} (hn : n < 7) (h : RWs a e A P) (hP : ∀ y, P y ↔ inG n y) : e - a = eN (n + 1) - eN n ∧ ∀ t, t < eN (n + 1) - eN n → A (a + t) = Lf (eN n + t) := by
  have s := eN_s hn
  have := SLt_uniq h.1 (Lf_SLt hn) h.2.1 (by omega) (fun y => by
    rw [h.2.2 y, hP y]
    constructor
    · rintro ⟨j, a, b, c⟩; exact ⟨j, a, b, c.symm⟩
    · rintro ⟨j, a, b, c⟩; exact ⟨j, a, b, c.symm⟩)
  exact ⟨this.1, fun t ht => this.2 t (by omega)⟩
theorem RWs_room {a e n : Nat} {A : Nat → Int64} {P : Int64 → Prop} {x : Int64} (h : RWs a e A P) (hP : ∀ y, P y → inG n y) (hx : inG n x) (hm : ¬ Mm A a e x) : e - a < eN (n + 1) - eN n := by
  -- put x in
  have len := RWs_len h hP
  rcases Nat.lt_or_ge (e - a) (eN (n + 1) - eN n) with q | q
  · exact q
  · exfalso
    obtain ⟨j, j1, j2, j3⟩ := hx
    have mem : ∀ t, t < e - a → inG n (A (a + t)) := fun t ht => hP _ ((h.2.2 _).mp ⟨a + t, by omega, by omega, rfl⟩)
    have hj : ∀ t, ∃ j, t < e - a → (eN n ≤ j ∧ j < eN (n + 1) ∧ A (a + t) = Lf j) := by
      intro t
      by_cases q : t < e - a
      · obtain ⟨j, hj⟩ := mem t q
        exact ⟨j, fun _ => hj⟩
      · exact ⟨0, fun c => absurd c q⟩
    obtain ⟨t, t1, t2⟩ := fb_onto (n := e - a) (f := fun t => Classical.choose (hj t) - eN n) (fun t ht => by
      have := Classical.choose_spec (hj t) ht
      show Classical.choose (hj t) - eN n < _
      omega) (fun s t hst ht he => by
      have h1 := Classical.choose_spec (hj s) (by omega)
      have h2 := Classical.choose_spec (hj t) ht
      have he' : Classical.choose (hj s) - eN n = Classical.choose (hj t) - eN n := he
      have e3 : Classical.choose (hj s) = Classical.choose (hj t) := by omega
      have : A (a + s) = A (a + t) := by rw [h1.2.2, h2.2.2, e3]
      have := SLt_inj h.1 (by omega) (by omega) (by omega) (by omega) this
      omega) (y := j - eN n) (by omega)
    have sp := Classical.choose_spec (hj t) t1
    have t2' : Classical.choose (hj t) - eN n = j - eN n := t2
    have e4 : Classical.choose (hj t) = j := by omega
    rw [e4] at sp
    exact hm ⟨a + t, by omega, by omega, by rw [sp.2.2, j3]⟩
