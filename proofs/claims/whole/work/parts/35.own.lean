/-! LAYER 2: four quarters, the own one of a kind, turns -/
noncomputable def qf (f : Int64) : Int64 := (gr_quarter f).getD 0
noncomputable def mf (f : Int64) : Int64 := (gr_mirrored f).getD 0
theorem qf_spec {f : Int64} (hf : FIG f) : gr_quarter f = some (qf f) ∧ mo_quarter f = some (qf f) ∧ FIG (qf f) ∧ cnt (qf f) = cnt f ∧ STL (flp (trp f)) (qf f) := by
  obtain ⟨R, h1, h2, h3, h4, h5⟩ := quarter_eq hf
  have e : qf f = R := by unfold qf; rw [h1]; rfl
  rw [e]; exact ⟨h1, h2, h3, h4, h5⟩
theorem mf_spec {f : Int64} (hf : FIG f) : gr_mirrored f = some (mf f) ∧ mo_mirrored f = some (mf f) ∧ FIG (mf f) ∧ cnt (mf f) = cnt f ∧ STL (flp f) (mf f) := by
  obtain ⟨R, h1, h2, h3, h4, h5⟩ := mirrored_eq hf
  have e : mf f = R := by unfold mf; rw [h1]; rfl
  rw [e]; exact ⟨h1, h2, h3, h4, h5⟩
theorem qf_F {f : Int64} (hf : FIG f) : FIG (qf f) := (qf_spec hf).2.2.1
theorem mf_F {f : Int64} (hf : FIG f) : FIG (mf f) := (mf_spec hf).2.2.1
def pt (f : Int64) (X Y : Int) : Prop := ∃ j : Nat, bt f j = true ∧ ((j % 8 : Nat) : Int) = X ∧ ((j / 8 : Nat) : Int) = Y
theorem qf_pt {f : Int64} (hf : FIG f) : ∃ u v : Int, ∀ X Y, pt (qf f) X Y ↔ pt f (Y + u) (v - X) := by
  obtain ⟨r, c, _, _, hc8, hb, hR⟩ := STL_img (qf_spec hf).2.2.2.2
  have h77 := hf.1
  refine ⟨r, 7 - c, fun X Y => ⟨?_, ?_⟩⟩
  · rintro ⟨i, hi, rfl, rfl⟩
    obtain ⟨j, hj, rfl⟩ := (hR i).mp hi
    have a1 := hb j hj
    obtain ⟨z, hz, rfl⟩ := (quarter_img j).mp hj
    have := h77 z hz
    exact ⟨z, hz, by omega, by omega⟩
  · rintro ⟨z, hz, h1, h2⟩
    have := h77 z hz
    have hj : bt (flp (trp f)) (8 * (z % 8) + (7 - z / 8)) = true := (quarter_img _).mpr ⟨z, hz, rfl⟩
    have a1 := hb _ hj
    exact ⟨_, (hR _).mpr ⟨_, hj, rfl⟩, by omega, by omega⟩
theorem FIG_tr {f g : Int64} (hf : FIG f) (hg : FIG g) {a b : Int} (h : ∀ X Y, pt g X Y ↔ pt f (X + a) (Y + b)) : g = f := by
  obtain ⟨_, ⟨fx, _, hfx⟩, ⟨fy, _, hfy⟩, _, _⟩ := hf
  obtain ⟨_, ⟨gx, _, hgx⟩, ⟨gy, _, hgy⟩, _, _⟩ := hg
  have a1 : 0 ≤ a := by
    obtain ⟨j, _, h1, _⟩ := (h (((8 * gy) % 8 : Nat) : Int) (((8 * gy) / 8 : Nat) : Int)).mp ⟨8 * gy, hgy, rfl, rfl⟩
    omega
  have a2 : a ≤ 0 := by
    obtain ⟨j, _, h1, _⟩ := (h ((((8 * fy) % 8 : Nat) : Int) - a) ((((8 * fy) / 8 : Nat) : Int) - b)).mpr ⟨8 * fy, hfy, by omega, by omega⟩
    omega
  have b1 : 0 ≤ b := by
    obtain ⟨j, _, _, h1⟩ := (h ((gx % 8 : Nat) : Int) ((gx / 8 : Nat) : Int)).mp ⟨gx, hgx, rfl, rfl⟩
    omega
  have b2 : b ≤ 0 := by
    obtain ⟨j, _, _, h1⟩ := (h (((fx % 8 : Nat) : Int) - a) (((fx / 8 : Nat) : Int) - b)).mpr ⟨fx, hfx, by omega, by omega⟩
    omega
  have ha : a = 0 := by omega
  have hb : b = 0 := by omega
  subst ha; subst hb
  have key : ∀ i, bt g i = true ↔ bt f i = true := by
    intro i
    constructor
    · intro hi
      obtain ⟨j, hj, h1, h2⟩ := (h ((i % 8 : Nat) : Int) ((i / 8 : Nat) : Int)).mp ⟨i, hi, rfl, rfl⟩
      rw [show i = j by omega]; exact hj
    · intro hi
      obtain ⟨j, hj, h1, h2⟩ := (h ((i % 8 : Nat) : Int) ((i / 8 : Nat) : Int)).mpr ⟨i, hi, by omega, by omega⟩
      rw [show i = j by omega]; exact hj
  apply bt_ext
  intro i _
  cases hb : bt f i with
  | true => exact (key i).mpr hb
  | false =>
    cases hg : bt g i with
    | false => rfl
    | true => rw [(key i).mp hg] at hb; cases hb
theorem qf4 {f : Int64} (hf : FIG f) : qf (qf (qf (qf f))) = f := by
  have f1 := qf_F hf
  have f2 := qf_F f1
  have f3 := qf_F f2
  have f4 := qf_F f3
  obtain ⟨u1, v1, h1⟩ := qf_pt hf
  obtain ⟨u2, v2, h2⟩ := qf_pt f1
  obtain ⟨u3, v3, h3⟩ := qf_pt f2
  obtain ⟨u4, v4, h4⟩ := qf_pt f3
  refine FIG_tr hf f4 (a := v2 - v4 - u3 + u1) (b := v1 - v3 + u4 - u2) (fun X Y => ?_)
  rw [h4, h3, h2, h1]
  have e1 : v2 - (v4 - X + u3) + u1 = X + (v2 - v4 - u3 + u1) := by omega
  have e2 : v1 - (v3 - (Y + u4) + u2) = Y + (v1 - v3 + u4 - u2) := by omega
  rw [e1, e2]
noncomputable def T0 (f : Int64) : Nat → Int64 := fun t => match t with
  | 0 => f
  | 1 => qf f
  | 2 => qf (qf f)
  | _ => qf (qf (qf f))
theorem T0_F {f : Int64} (hf : FIG f) (t : Nat) : FIG (T0 f t) := by
  unfold T0
  split
  · exact hf
  · exact qf_F hf
  · exact qf_F (qf_F hf)
  · exact qf_F (qf_F (qf_F hf))
theorem T0_cnt {f : Int64} (hf : FIG f) (t : Nat) : cnt (T0 f t) = cnt f := by
  have c1 := (qf_spec hf).2.2.2.1
  have c2 := (qf_spec (qf_F hf)).2.2.2.1
  have c3 := (qf_spec (qf_F (qf_F hf))).2.2.2.1
  unfold T0
  split
  · rfl
  · exact c1
  · exact c2.trans c1
  · exact c3.trans (c2.trans c1)
/-- turn t of a figure -/
noncomputable def tnd (f : Int64) (t : Nat) : Int64 := if t < 4 then T0 f t else T0 (mf f) (t - 4)
theorem tnd_F {f : Int64} (hf : FIG f) (t : Nat) : FIG (tnd f t) := by
  unfold tnd
  split
  · exact T0_F hf t
  · exact T0_F (mf_F hf) _
noncomputable def ln1 (f : Int64) : Int64 := mnL (mnL (mnL f (qf f)) (qf (qf f))) (qf (qf (qf f)))
noncomputable def ln2 (f : Int64) : Int64 := mnL (mnL (mnL (mnL (ln1 f) (mf f)) (qf (mf f))) (qf (qf (mf f)))) (qf (qf (qf (mf f))))
noncomputable def own (f : Int64) (k : Nat) : Int64 := if k = 0 then f else if k = 1 then ln1 f else ln2 f
theorem own_0 (f : Int64) : own f 0 = f := by unfold own; rw [if_pos rfl]
theorem own_1 (f : Int64) : own f 1 = ln1 f := by unfold own; rw [if_neg (by decide), if_pos rfl]
theorem own_2 (f : Int64) : own f 2 = ln2 f := by unfold own; rw [if_neg (by decide), if_neg (by decide)]
theorem trn_0 : gr_turnsOf (nI 0) = some (nI 1) := by unfold gr_turnsOf; rw [if_pos (by decide)]; rfl
theorem trn_1 : gr_turnsOf (nI 1) = some (nI 4) := by unfold gr_turnsOf; rw [if_neg (by decide), if_pos (by decide)]; rfl
theorem trn_2 : gr_turnsOf (nI 2) = some (nI 8) := by unfold gr_turnsOf; rw [if_neg (by decide), if_neg (by decide)]; rfl
theorem mnL_or (a b : Int64) : mnL a b = a ∨ mnL a b = b := by unfold mnL; split <;> simp
theorem mnL_P {P : Int64 → Prop} {a b : Int64} (ha : P a) (hb : P b) : P (mnL a b) := by
  rcases mnL_or a b with h | h <;> rw [h] <;> assumption
theorem own_P {f : Int64} (hf : FIG f) (k : Nat) : FIG (own f k) ∧ cnt (own f k) = cnt f := by
  have hm := mf_spec hf
  have q : ∀ {g : Int64}, (FIG g ∧ cnt g = cnt f) → (FIG (qf g) ∧ cnt (qf g) = cnt f) := fun h => ⟨qf_F h.1, (qf_spec h.1).2.2.2.1.trans h.2⟩
  have p0 : FIG f ∧ cnt f = cnt f := ⟨hf, rfl⟩
  have m0 : FIG (mf f) ∧ cnt (mf f) = cnt f := ⟨hm.2.2.1, hm.2.2.2.1⟩
  have l1 : FIG (ln1 f) ∧ cnt (ln1 f) = cnt f := mnL_P (P := fun g => FIG g ∧ cnt g = cnt f) (mnL_P (P := fun g => FIG g ∧ cnt g = cnt f) (mnL_P (P := fun g => FIG g ∧ cnt g = cnt f) p0 (q p0)) (q (q p0))) (q (q (q p0)))
  unfold own
  split
  · exact p0
  · split
    · exact l1
    · exact mnL_P (P := fun g => FIG g ∧ cnt g = cnt f) (mnL_P (P := fun g => FIG g ∧ cnt g = cnt f) (mnL_P (P := fun g => FIG g ∧ cnt g = cnt f) (mnL_P (P := fun g => FIG g ∧ cnt g = cnt f) l1 m0) (q m0)) (q (q m0))) (q (q (q m0)))
theorem i64_nle {a b : Int64} : ¬ a ≤ b ↔ b < a := by rw [Int64.lt_iff_toInt_lt, Int64.le_iff_toInt_le]; omega
theorem mnL_le {a b : Int64} (h : a ≤ b) : mnL a b = a := by unfold mnL; rw [if_neg (fun q => i64_nle.mpr q h)]
theorem mnL_lt {a b : Int64} (h : ¬ a ≤ b) : mnL a b = b := by unfold mnL; rw [if_pos (i64_nle.mp h)]
theorem lc_step (f : Int64) {k t T : Nat} {l now : Int64} (hT : gr_turnsOf (nI k) = some (nI T)) (hT8 : T ≤ 8) (ht : t < T) (h4 : t ≠ 4) (hn : FIG now) (n : Nat) : fl3 (gr_least_B8 f (nI k)) (n + 1) l now (nI t) = fl3 (gr_least_B8 f (nI k)) n (mnL l (qf now)) (qf now) (nI (t + 1)) := by
  show gr_least_B8 f (nI k) (fl3 (gr_least_B8 f (nI k)) n) l now (nI t) = _
  rw [gr_least_B8, hT, bd1_some, if_neg (nI_ge ht (by omega)), if_neg (show ¬ nI t = 4 from fun e => h4 ((nI_eq (by omega) (by omega)).mp (show nI t = nI 4 from e))), (qf_spec hn).1, bd1_some]
  unfold gr_least_J35
  rw [nm_eq, nm_eq, show Int32.ofInt 1 = nI 1 by decide, nI_add]
theorem lc_4 {f : Int64} {k T : Nat} {l now : Int64} (hT : gr_turnsOf (nI k) = some (nI T)) (hT8 : T ≤ 8) (ht : 4 < T) (hf : FIG f) (n : Nat) : fl3 (gr_least_B8 f (nI k)) (n + 1) l now (nI 4) = fl3 (gr_least_B8 f (nI k)) n (mnL l (mf f)) (mf f) (nI 5) := by
  show gr_least_B8 f (nI k) (fl3 (gr_least_B8 f (nI k)) n) l now (nI 4) = _
  rw [gr_least_B8, hT, bd1_some, if_neg (nI_ge ht (by omega)), if_pos (show nI 4 = 4 from rfl), (mf_spec hf).1, bd1_some]
  unfold gr_least_J35
  rw [nm_eq, nm_eq, show Int32.ofInt 1 = nI 1 by decide, nI_add]
theorem lc_end (f : Int64) {k T : Nat} {l now : Int64} (hT : gr_turnsOf (nI k) = some (nI T)) (hT8 : T ≤ 8) (n : Nat) : fl3 (gr_least_B8 f (nI k)) (n + 1) l now (nI T) = some l := by
  show gr_least_B8 f (nI k) (fl3 (gr_least_B8 f (nI k)) n) l now (nI T) = _
  rw [gr_least_B8, hT, bd1_some, if_pos (nI_le (Nat.le_refl _) (by omega))]
theorem gr_least_eq {f : Int64} (hf : FIG f) {k : Nat} (hk : k ≤ 2) : gr_least f (nI k) = some (own f k) := by
  unfold gr_least
  rw [show (1 : Int32) = nI 1 from rfl]
  obtain ⟨m, hm⟩ := FU_s 9 (by omega)
  rw [hm]
  have f1 := qf_F hf
  have f2 := qf_F f1
  have g0 := mf_F hf
  have g1 := qf_F g0
  have g2 := qf_F g1
  rcases (show k = 0 ∨ k = 1 ∨ k = 2 by omega) with rfl | rfl | rfl
  · rw [own_0]
    exact lc_end f trn_0 (by omega) (m + 8)
  · have s1 := lc_step f (l := f) trn_1 (by omega) (show 1 < 4 by omega) (by omega) hf (m + 8)
    have s2 := lc_step f (l := mnL f (qf f)) trn_1 (by omega) (show 2 < 4 by omega) (by omega) f1 (m + 7)
    have s3 := lc_step f (l := mnL (mnL f (qf f)) (qf (qf f))) trn_1 (by omega) (show 3 < 4 by omega) (by omega) f2 (m + 6)
    have s4 := lc_end f (l := ln1 f) (now := qf (qf (qf f))) trn_1 (by omega) (m + 5)
    rw [own_1]
    exact s1.trans (s2.trans (s3.trans s4))
  · have s1 := lc_step f (l := f) trn_2 (by omega) (show 1 < 8 by omega) (by omega) hf (m + 8)
    have s2 := lc_step f (l := mnL f (qf f)) trn_2 (by omega) (show 2 < 8 by omega) (by omega) f1 (m + 7)
    have s3 := lc_step f (l := mnL (mnL f (qf f)) (qf (qf f))) trn_2 (by omega) (show 3 < 8 by omega) (by omega) f2 (m + 6)
    have s4 := lc_4 (l := ln1 f) (now := qf (qf (qf f))) trn_2 (by omega) (by omega) hf (m + 5)
    have s5 := lc_step f (l := mnL (ln1 f) (mf f)) trn_2 (by omega) (show 5 < 8 by omega) (by omega) g0 (m + 4)
    have s6 := lc_step f (l := mnL (mnL (ln1 f) (mf f)) (qf (mf f))) trn_2 (by omega) (show 6 < 8 by omega) (by omega) g1 (m + 3)
    have s7 := lc_step f (l := mnL (mnL (mnL (ln1 f) (mf f)) (qf (mf f))) (qf (qf (mf f)))) trn_2 (by omega) (show 7 < 8 by omega) (by omega) g2 (m + 2)
    have s8 := lc_end f (l := ln2 f) (now := qf (qf (qf (mf f)))) trn_2 (by omega) (m + 1)
    rw [own_2]
    exact s1.trans (s2.trans (s3.trans (s4.trans (s5.trans (s6.trans (s7.trans s8))))))
theorem oj {k : Int64 → Int64 → Int32 → Option Int64} {v2 : Int32} {l g : Int64} {t : Nat} (hg : FIG g) : mo_ownOf_J43 k v2 l g (nI t) = k (mnL l g) (qf g) (nI (t + 1)) := by
  have e : ∀ z, mo_ownOf_J56 k v2 g (nI t) z = k z (qf g) (nI (t + 1)) := by
    intro z
    unfold mo_ownOf_J56
    rw [(qf_spec hg).2.1, bd1_some, nm_eq, show Int32.ofInt 1 = nI 1 by decide, nI_add]
  unfold mo_ownOf_J43
  rw [e, e]
  by_cases h : l ≤ g
  · rw [if_pos h, mnL_le h]
  · rw [if_neg h, mnL_lt h]
theorem om_step {k t T : Nat} {l g : Int64} (hT : (k = 1 ∧ T = 4) ∨ (k = 2 ∧ T = 8)) (ht : t < T) (h4 : t ≠ 4) (hg : FIG g) (n : Nat) : fl3 (mo_ownOf_B14 (nI k)) (n + 1) l g (nI t) = fl3 (mo_ownOf_B14 (nI k)) n (mnL l g) (qf g) (nI (t + 1)) := by
  show mo_ownOf_B14 (nI k) (fl3 (mo_ownOf_B14 (nI k)) n) l g (nI t) = _
  have n4 : ¬ nI t = 4 := fun e => h4 ((nI_eq (by omega) (by omega)).mp (show nI t = nI 4 from e))
  rcases hT with ⟨rfl, rfl⟩ | ⟨rfl, rfl⟩
  · rw [mo_ownOf_B14, if_pos (show nI 1 = 1 from rfl)]
    unfold mo_ownOf_J27
    rw [if_neg (show ¬ (4 : Int32) ≤ nI t from nI_ge (a := t) (b := 4) ht (by omega)), if_neg n4, oj hg]
  · rw [mo_ownOf_B14, if_neg (show ¬ nI 2 = 1 by decide)]
    unfold mo_ownOf_J27
    rw [if_neg (show ¬ (8 : Int32) ≤ nI t from nI_ge (a := t) (b := 8) ht (by omega)), if_neg n4, oj hg]
theorem om_4 {l g : Int64} (hg : FIG g) (n : Nat) : fl3 (mo_ownOf_B14 (nI 2)) (n + 1) l g (nI 4) = fl3 (mo_ownOf_B14 (nI 2)) n (mnL l (mf g)) (qf (mf g)) (nI 5) := by
  show mo_ownOf_B14 (nI 2) (fl3 (mo_ownOf_B14 (nI 2)) n) l g (nI 4) = _
  rw [mo_ownOf_B14, if_neg (show ¬ nI 2 = 1 by decide)]
  unfold mo_ownOf_J27
  rw [if_neg (show ¬ (8 : Int32) ≤ nI 4 by decide), if_pos (show nI 4 = 4 from rfl), (mf_spec hg).2.1, bd1_some, oj (mf_F hg)]
theorem om_end {k T : Nat} {l g : Int64} (hT : (k = 1 ∧ T = 4) ∨ (k = 2 ∧ T = 8)) (n : Nat) : fl3 (mo_ownOf_B14 (nI k)) (n + 1) l g (nI T) = some l := by
  show mo_ownOf_B14 (nI k) (fl3 (mo_ownOf_B14 (nI k)) n) l g (nI T) = _
  rcases hT with ⟨rfl, rfl⟩ | ⟨rfl, rfl⟩
  · rw [mo_ownOf_B14, if_pos (show nI 1 = 1 from rfl)]
    unfold mo_ownOf_J27
    rw [if_pos (show (4 : Int32) ≤ nI 4 by decide)]
  · rw [mo_ownOf_B14, if_neg (show ¬ nI 2 = 1 by decide)]
    unfold mo_ownOf_J27
    rw [if_pos (show (8 : Int32) ≤ nI 8 by decide)]
theorem mnL_self (a : Int64) : mnL a a = a := by unfold mnL; split <;> rfl
theorem mo_ownOf_eq {f : Int64} (hf : FIG f) {k : Nat} (hk : k ≤ 2) : mo_ownOf f (nI k) = some (own f k) := by
  have f1 := qf_F hf
  have f2 := qf_F f1
  have f3 := qf_F f2
  have g0 := mf_F hf
  have g1 := qf_F g0
  have g2 := qf_F g1
  have g3 := qf_F g2
  unfold mo_ownOf
  rcases (show k = 0 ∨ k = 1 ∨ k = 2 by omega) with rfl | rfl | rfl
  · rw [if_pos (show nI 0 = 0 from rfl), own_0]
  · rw [if_neg (show ¬ nI 1 = 0 by decide), show (0 : Int32) = nI 0 from nI_0.symm]
    obtain ⟨m, hm⟩ := FU_s 9 (by omega)
    rw [hm, own_1]
    have hT : ((1 : Nat) = 1 ∧ (4 : Nat) = 4) ∨ ((1 : Nat) = 2 ∧ (4 : Nat) = 8) := Or.inl ⟨rfl, rfl⟩
    have s0 := om_step (l := f) hT (show 0 < 4 by omega) (by omega) hf (m + 8)
    rw [mnL_self] at s0
    have s1 := om_step (l := f) hT (show 1 < 4 by omega) (by omega) f1 (m + 7)
    have s2 := om_step (l := mnL f (qf f)) hT (show 2 < 4 by omega) (by omega) f2 (m + 6)
    have s3 := om_step (l := mnL (mnL f (qf f)) (qf (qf f))) hT (show 3 < 4 by omega) (by omega) f3 (m + 5)
    have s4 := om_end (l := ln1 f) (g := qf (qf (qf (qf f)))) hT (m + 4)
    exact s0.trans (s1.trans (s2.trans (s3.trans s4)))
  · rw [if_neg (show ¬ nI 2 = 0 by decide), show (0 : Int32) = nI 0 from nI_0.symm]
    obtain ⟨m, hm⟩ := FU_s 9 (by omega)
    rw [hm, own_2]
    have hT : ((2 : Nat) = 1 ∧ (8 : Nat) = 4) ∨ ((2 : Nat) = 2 ∧ (8 : Nat) = 8) := Or.inr ⟨rfl, rfl⟩
    have s0 := om_step (l := f) hT (show 0 < 8 by omega) (by omega) hf (m + 8)
    rw [mnL_self] at s0
    have s1 := om_step (l := f) hT (show 1 < 8 by omega) (by omega) f1 (m + 7)
    have s2 := om_step (l := mnL f (qf f)) hT (show 2 < 8 by omega) (by omega) f2 (m + 6)
    have s3 := om_step (l := mnL (mnL f (qf f)) (qf (qf f))) hT (show 3 < 8 by omega) (by omega) f3 (m + 5)
    rw [qf4 hf] at s3
    have s4 := om_4 (l := ln1 f) hf (m + 4)
    have s5 := om_step (l := mnL (ln1 f) (mf f)) hT (show 5 < 8 by omega) (by omega) g1 (m + 3)
    have s6 := om_step (l := mnL (mnL (ln1 f) (mf f)) (qf (mf f))) hT (show 6 < 8 by omega) (by omega) g2 (m + 2)
    have s7 := om_step (l := mnL (mnL (mnL (ln1 f) (mf f)) (qf (mf f))) (qf (qf (mf f)))) hT (show 7 < 8 by omega) (by omega) g3 (m + 1)
    have s8 := om_end (l := ln2 f) (g := qf (qf (qf (qf (mf f))))) hT m
    exact s0.trans (s1.trans (s2.trans (s3.trans (s4.trans (s5.trans (s6.trans (s7.trans s8)))))))
