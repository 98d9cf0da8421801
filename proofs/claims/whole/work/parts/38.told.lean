/-! LAYER 2: cut cells, same, points, beside, whole rows -/
/-- a figure without its i-th cell -/
noncomputable def wo (f : Int64) (i : Nat) : Int64 := f ^^^ (itr f i &&& -(itr f i))
theorem wo_bt {f : Int64} {i : Nat} (h : i < cnt f) (j : Nat) : bt (wo f i) j = true ↔ bt f j = true ∧ j ≠ ith f i := by
  unfold wo
  have hl := lowest_bits (ith_low h)
  rw [bt_xor]
  by_cases q : j = ith f i
  · rw [(hl j).mpr q, q, ith_bt h]; simp
  · cases hb : bt (itr f i &&& -(itr f i)) j with
    | true => exact absurd ((hl j).mp hb) q
    | false => simp [q]
theorem wo_and {f : Int64} {i : Nat} (h : i < cnt f) : f &&& ((itr f i &&& -(itr f i)) ^^^ (-1)) = wo f i := by
  apply bt_ext
  intro j hj
  unfold wo
  have hl := lowest_bits (ith_low h)
  rw [bt_and, bt_xor, bt_xor, bt_m1 hj]
  by_cases q : j = ith f i
  · rw [(hl j).mpr q, q, ith_bt h]; rfl
  · cases hb : bt (itr f i &&& -(itr f i)) j with
    | true => exact absurd ((hl j).mp hb) q
    | false => simp
theorem wo_sub {f : Int64} {i : Nat} (h : i < cnt f) : sub (wo f i) f := fun j hj => ((wo_bt h j).mp hj).1
theorem wo_cnt {f : Int64} {i : Nat} (h : i < cnt f) : cnt (wo f i) + 1 = cnt f := by
  have e : cnt (wo f i) = fb_ct (fun j => if j = ith f i then false else bt f j) 64 := fb_ct_cong (fun j _ => by
    by_cases q : j = ith f i
    · rw [if_pos q]
      cases hb : bt (wo f i) j with
      | false => rfl
      | true => exact absurd q ((wo_bt h j).mp hb).2
    · rw [if_neg q]
      cases hb : bt (wo f i) j with
      | true => exact ((wo_bt h j).mp hb).1.symm
      | false =>
        cases hc : bt f j with
        | false => rfl
        | true => rw [(wo_bt h j).mpr ⟨hc, q⟩] at hb; cases hb)
  have := fb_ct_upd (bt f) false (i := ith f i) (n := 64) (bt_lt (ith_bt h))
  rw [ith_bt h] at this
  rw [e]
  show _ = fb_ct (bt f) 64
  simpa using this
noncomputable def conB (f : Int64) : Bool := @decide (CON f) (Classical.propDecidable _)
theorem conB_t {f : Int64} : conB f = true ↔ CON f := by unfold conB; exact @decide_eq_true_iff (CON f) (Classical.propDecidable _)
theorem conB_f {f : Int64} : conB f = false ↔ ¬ CON f := by
  rw [← conB_t]; cases conB f <;> simp
theorem gr_hangs_b {f : Int64} (h : C7 f) : gr_hangs f = some (boI (conB f)) := by
  cases hc : conB f with
  | true => rw [(gr_hangs_eq h).1 (conB_t.mp hc)]; rfl
  | false => rw [(gr_hangs_eq h).2 (conB_f.mp hc)]; rfl
theorem mo_hangs_b (f : Int64) : mo_hangs f = some (boI (conB f)) := by
  cases hc : conB f with
  | true => rw [(mo_hangs_eq f).1 (conB_t.mp hc)]; rfl
  | false => rw [(mo_hangs_eq f).2 (conB_f.mp hc)]; rfl
noncomputable def cuts (f : Int64) (i : Nat) : Nat := fb_ct (fun m => !conB (wo f m)) i
theorem tr_cutCells_eq {f : Int64} (hf : C7 f) (h2 : 1 < cnt f) : tr_cutCells f = some (nI (cuts f (cnt f))) := by
  have h64 := cnt_le f
  unfold tr_cutCells
  rw [jl_bitCount_eq, bd1_some, show (0 : Int32) = nI 0 from nI_0.symm]
  refine crs3 (B := tr_cutCells_B13 f (nI (cnt f))) (itr f) (fun i => nI (cuts f i)) nI (cnt f) (fun i hi k => ?_) (fun k => ?_) FU (FU_lt (by omega))
  · rw [tr_cutCells_B13, if_neg (nI_ge hi (by omega)), if_neg (show ¬ nI (cnt f) ≤ (1 : Int32) from nI_ge (a := 1) h2 (by omega)), nm_eq, nm_eq, xor_low]
    show bd1 (gr_hangs (wo f i)) _ = _
    rw [gr_hangs_b (hf.sub (wo_sub hi)), bd1_some]
    have e : cuts f (i + 1) = cuts f i + (if (!conB (wo f i)) = true then 1 else 0) := fb_ct_succ _ _
    unfold tr_cutCells_J48
    cases hc : conB (wo f i) with
    | true =>
      rw [hc] at e
      rw [if_neg (by decide), nm_eq, o1]
      show k _ (nI (cuts f i)) _ = k _ (nI (cuts f (i + 1))) _
      rw [e]; rfl
    | false =>
      rw [hc] at e
      rw [if_pos (by decide), nm_eq, nm_eq, o1, o1]
      show k _ (nI (cuts f i + 1)) _ = k _ (nI (cuts f (i + 1))) _
      rw [e]; rfl
  · rw [tr_cutCells_B13, if_pos (nI_le (Nat.le_refl _) (by omega))]
theorem mo_cutCells_eq {f : Int64} (h2 : 1 < cnt f) : mo_cutCells f = some (nI (cuts f (cnt f))) := by
  have h64 := cnt_le f
  unfold mo_cutCells
  rw [show (0 : Int32) = nI 0 from nI_0.symm]
  refine crs2 (B := mo_cutCells_B4 f) (fun i => nI (cuts f i)) (itr f) (cnt f) (fun i hi k => ?_) (fun k => ?_) FU (FU_lt (by omega))
  · rw [mo_cutCells_B4, if_neg (itr_ne hi), nm_eq, wo_and hi, if_neg (fun e => by have := wo_cnt hi; rw [e, cnt_zero] at this; omega), mo_hangs_b, bd1_some]
    have e : cuts f (i + 1) = cuts f i + (if (!conB (wo f i)) = true then 1 else 0) := fb_ct_succ _ _
    unfold mo_cutCells_J42 mo_cutCells_J43
    cases hc : conB (wo f i) with
    | true =>
      rw [hc] at e
      rw [if_neg (by decide), nm_eq, nm_eq, show (0 : Int32) = nI 0 from nI_0.symm, nI_add]
      show k (nI (cuts f i)) _ = k (nI (cuts f (i + 1))) _
      rw [e]; rfl
    | false =>
      rw [hc] at e
      rw [if_pos (by decide), nm_eq, nm_eq, nI_1]
      show k (nI (cuts f i + 1)) _ = k (nI (cuts f (i + 1))) _
      rw [e]; rfl
  · rw [mo_cutCells_B4, itr_end, if_pos rfl]
theorem cut_one {f : Int64} (h1 : cnt f = 1) : tr_cutCells f = some 0 ∧ mo_cutCells f = some 0 := by
  constructor
  · unfold tr_cutCells
    rw [jl_bitCount_eq, bd1_some, h1]
    obtain ⟨m, hm⟩ := FU_s 1 (by omega)
    rw [hm]
    show tr_cutCells_B13 f (nI 1) (fl3 (tr_cutCells_B13 f (nI 1)) m) f 0 0 = _
    rw [tr_cutCells_B13, if_neg (by decide), if_pos (by decide)]
  · unfold mo_cutCells
    have hi : 0 < cnt f := by omega
    refine crs2 (B := mo_cutCells_B4 f) (fun _ => (0 : Int32)) (itr f) 1 (fun i hi2 k => ?_) (fun k => ?_) FU (FU_lt (by omega))
    · have e0 : i = 0 := by omega
      subst e0
      rw [mo_cutCells_B4, if_neg (itr_ne hi), nm_eq, wo_and hi, if_pos (cnt_0 (by have := wo_cnt hi; omega))]
      unfold mo_cutCells_J42 mo_cutCells_J43
      rw [nm_eq, nm_eq]; rfl
    · have := itr_end f
      rw [h1] at this
      rw [mo_cutCells_B4, this, if_pos rfl]
theorem cutCells_ok {f : Int64} (hf : FIG f) : ∃ n, n ≤ 12 ∧ tr_cutCells f = some (nI n) ∧ mo_cutCells f = some (nI n) := by
  have hp := cnt_pos hf.ne
  rcases Nat.lt_or_ge 1 (cnt f) with q | q
  · exact ⟨cuts f (cnt f), Nat.le_trans (fb_ct_le _ _) hf.2.2.2.1, tr_cutCells_eq hf.1.c7 q, mo_cutCells_eq q⟩
  · exact ⟨0, by omega, (cut_one (by omega)).1, (cut_one (by omega)).2⟩
/-! same -/
noncomputable def smC (f : Int64) (i : Nat) : Nat := fb_ct (fun t => decide (tnd f t = f)) i
theorem smC_s (f : Int64) (i : Nat) : smC f (i + 1) = smC f i + (if tnd f i = f then 1 else 0) := by
  show fb_ct _ (i + 1) = _
  rw [fb_ct_succ]
  by_cases h : tnd f i = f <;> simp [h, smC]
theorem mo_sameOf_eq {f : Int64} (hf : FIG f) : mo_sameOf f = some (nI (smC f 8)) := by
  unfold mo_sameOf
  rw [show (0 : Int32) = nI 0 from nI_0.symm]
  refine crs2 (B := mo_sameOf_B4 f) (fun i => nI (smC f i)) nI 8 (fun i hi k => ?_) (fun k => ?_) FU (FU_lt (by omega))
  · rw [mo_sameOf_B4, if_neg (show ¬ (8 : Int32) ≤ nI i from nI_ge (a := i) (b := 8) hi (by omega)), mo_turned_eq hf hi, bd1_some]
    unfold mo_sameOf_J26
    show _ = k (nI (smC f (i + 1))) _
    rw [smC_s]
    by_cases h : tnd f i = f
    · rw [if_pos h, if_pos h, nm_eq, nm_eq, o1, nI_1]
    · rw [if_neg h, if_neg h, nm_eq, nm_eq, o1, show (0 : Int32) = nI 0 from nI_0.symm, nI_add]
  · rw [mo_sameOf_B4, if_pos (show (8 : Int32) ≤ nI 8 from nI_le (a := 8) (b := 8) (by omega) (by omega))]
theorem tnd_s (f : Int64) {t : Nat} (h : t < 7) (h3 : t ≠ 3) : qf (tnd f t) = tnd f (t + 1) := by
  rcases (show t = 0 ∨ t = 1 ∨ t = 2 ∨ t = 4 ∨ t = 5 ∨ t = 6 by omega) with rfl | rfl | rfl | rfl | rfl | rfl <;> rfl
theorem tr_same_eq {f : Int64} (hf : FIG f) : tr_same f = some (nI (smC f 8)) := by
  unfold tr_same
  have e1 : smC f 1 = 1 := by rw [smC_s, if_pos (show tnd f 0 = f from rfl)]; rfl
  rw [show fl3 (tr_same_B7 f) FU 1 f 1 = fl3 (tr_same_B7 f) FU (nI (smC f (0 + 1))) (tnd f 0) (nI (0 + 1)) by rw [Nat.zero_add, e1]; rfl]
  refine crs3 (B := tr_same_B7 f) (fun i => nI (smC f (i + 1))) (tnd f) (fun i => nI (i + 1)) 7 (fun i hi k => ?_) (fun k => ?_) FU (FU_lt (by omega))
  · rw [tr_same_B7, if_neg (show ¬ (8 : Int32) ≤ nI (i + 1) from nI_ge (a := i + 1) (b := 8) (by omega) (by omega))]
    have hJ : tr_same_J31 k f (nI (smC f (i + 1))) (nI (i + 1)) (tnd f (i + 1)) = k (nI (smC f (i + 1 + 1))) (tnd f (i + 1)) (nI (i + 1 + 1)) := by
      unfold tr_same_J31 tr_same_J41
      rw [smC_s f (i + 1)]
      by_cases h : tnd f (i + 1) = f
      · rw [if_pos h, if_pos h, nm_eq, nm_eq, o1, o1]
      · rw [if_neg h, if_neg h, nm_eq, o1]; rfl
    by_cases q : i = 3
    · subst q
      rw [if_pos (show nI (3 + 1) = 4 from rfl), (mf_spec hf).1, bd1_some]
      exact hJ
    · rw [if_neg (show ¬ nI (i + 1) = 4 from fun e => by have := (nI_eq (by omega) (by omega)).mp (show nI (i + 1) = nI 4 from e); omega), (qf_spec (tnd_F hf i)).1, bd1_some, tnd_s f (by omega) q]
      exact hJ
  · show tr_same_B7 f k (nI (smC f (7 + 1))) (tnd f 7) (nI (7 + 1)) = _
    rw [tr_same_B7, if_pos (show (8 : Int32) ≤ nI 8 from nI_le (a := 8) (b := 8) (by omega) (by omega))]
/-! points -/
def hB (f : Int64) (x y : Int) : Bool := decide (0 ≤ x ∧ x < 8 ∧ 0 ≤ y ∧ y < 8) && bt f (8 * y.toNat + x.toNat)
theorem iO (z : Int) : Int32.ofInt z - 1 = Int32.ofInt (z - 1) := by rw [Int32.ofInt_sub]; rfl
theorem iP (z : Int) : Int32.ofInt z + 1 = Int32.ofInt (z + 1) := by rw [Int32.ofInt_add]; rfl
theorem nI_iI (n : Nat) : nI n = Int32.ofInt (n : Int) := rfl
theorem hasB_i (f : Int64) {x y : Int} (hx : -100 < x ∧ x < 100) (hy : -100 < y ∧ y < 100) : hasB f (Int32.ofInt x) (Int32.ofInt y) = hB f x y := by
  have ex : (Int32.ofInt x).toInt = x := fb_ofI (by omega) (by omega)
  have ey : (Int32.ofInt y).toInt = y := fb_ofI (by omega) (by omega)
  have c : ∀ {z : Int}, (Int32.ofInt z).toInt = z → inr (Int32.ofInt z) 0 7 = decide (0 ≤ z ∧ z < 8) := by
    intro z hz
    unfold inr
    rw [← Bool.decide_and]
    congr 1
    rw [Int32.le_iff_toInt_le, Int32.le_iff_toInt_le, hz, show (0 : Int32).toInt = 0 from rfl, show (7 : Int32).toInt = 7 from rfl]
    apply propext
    omega
  unfold hasB hB
  rw [c ex, c ey]
  by_cases q : 0 ≤ x ∧ x < 8 ∧ 0 ≤ y ∧ y < 8
  · have e1 : (Int32.ofInt x).toNatClampNeg = x.toNat := by unfold Int32.toNatClampNeg; rw [ex]
    have e2 : (Int32.ofInt y).toNatClampNeg = y.toNat := by unfold Int32.toNatClampNeg; rw [ey]
    rw [decide_eq_true (show 0 ≤ x ∧ x < 8 from ⟨q.1, q.2.1⟩), decide_eq_true (show 0 ≤ y ∧ y < 8 from q.2.2), decide_eq_true q, e1, e2]; rfl
  · rw [decide_eq_false q]
    by_cases q1 : 0 ≤ x ∧ x < 8
    · rw [decide_eq_false (show ¬ (0 ≤ y ∧ y < 8) from fun h => q ⟨q1.1, q1.2, h⟩)]; simp
    · rw [decide_eq_false q1]; rfl
theorem mo_isCell_i (f : Int64) {x y : Int} (hx : -100 < x ∧ x < 100) (hy : -100 < y ∧ y < 100) : mo_isCell f (Int32.ofInt x) (Int32.ofInt y) = some (boI (hB f x y)) := by
  rw [mo_isCell_eq, hasB_i f hx hy]
theorem gr_has_i (f : Int64) {x y : Int} (hx : -100 < x ∧ x < 100) (hy : -100 < y ∧ y < 100) : gr_has f (Int32.ofInt x) (Int32.ofInt y) = some (boI (hB f x y)) := by
  rw [gr_has_eq, hasB_i f hx hy]
def ptv (a b c d : Bool) (w : Nat) : Nat :=
  let m := a.toNat + b.toNat + c.toNat + d.toNat
  let s := decide (m = 2) && (a == d)
  if w = 0 then (if m = 1 then 1 else if s then 2 else 0) else if w = 1 then (if m = 3 then 1 else 0) else if w = 2 then (if s then 1 else 0) else (if m = 4 then 1 else 0)
def ptf (f : Int64) (w : Nat) (x y : Nat) : Nat := ptv (hB f ((x : Int) - 1) ((y : Int) - 1)) (hB f x ((y : Int) - 1)) (hB f ((x : Int) - 1) y) (hB f x y) w
theorem mo_pt_step (f : Int64) {w : Nat} (hw : w ≤ 3) {x y : Nat} (hx : x < 8) (hy : y < 8) (s : Nat) (k5 k : Int32 → Int32 → Option Int32) : mo_pointsOf_B15 f (nI w) (nI y) k5 k (nI s) (nI x) = k (nI (s + ptf f w x y)) (nI (x + 1)) := by
  rw [mo_pointsOf_B15, if_neg (show ¬ (8 : Int32) ≤ nI x from nI_ge (a := x) (b := 8) hx (by omega))]
  have c1 := mo_isCell_i f (x := (x : Int) - 1) (y := (y : Int) - 1) (by omega) (by omega)
  have c2 := mo_isCell_i f (x := (x : Int)) (y := (y : Int) - 1) (by omega) (by omega)
  have c3 := mo_isCell_i f (x := (x : Int) - 1) (y := (y : Int)) (by omega) (by omega)
  have c4 := mo_isCell_i f (x := (x : Int)) (y := (y : Int)) (by omega) (by omega)
  rw [← iO, ← iO] at c1
  rw [← iO] at c2 c3
  rw [nI_iI x, nI_iI y, c1, bd1_some, c2, bd1_some, c3, bd1_some, c4, bd1_some, ← nI_iI, ← nI_iI]
  have hJ : ∀ m : Nat, mo_pointsOf_J211 k5 k f (nI w) (nI y) (nI x) (nI s) (nI m) = k (nI (s + m)) (nI (x + 1)) := by
    intro m
    unfold mo_pointsOf_J211
    rw [nm_eq, nm_eq, nI_add, o1]
  have j0 := hJ 0
  have j1 := hJ 1
  have j2 := hJ 2
  rw [show nI 0 = 0 from nI_0] at j0
  rw [show nI 1 = 1 from rfl] at j1
  rw [show nI 2 = 2 from rfl] at j2
  unfold ptf
  generalize hB f ((x : Int) - 1) ((y : Int) - 1) = a
  generalize hB f (x : Int) ((y : Int) - 1) = b
  generalize hB f ((x : Int) - 1) (y : Int) = c
  generalize hB f (x : Int) (y : Int) = d
  rcases (show w = 0 ∨ w = 1 ∨ w = 2 ∨ w = 3 by omega) with rfl | rfl | rfl | rfl <;> cases a <;> cases b <;> cases c <;> cases d <;> first | exact j0 | exact j1 | exact j2
def ptR (f : Int64) (w y : Nat) : Nat := fb_sm (fun x => ptf f w x y) 8
def ptS (f : Int64) (w n : Nat) : Nat := fb_sm (fun y => ptR f w y) n
theorem mo_pointsOf_eq (f : Int64) {w : Nat} (hw : w ≤ 3) : mo_pointsOf f (nI w) = some (nI (ptS f w 8)) := by
  unfold mo_pointsOf
  rw [show (0 : Int32) = nI 0 from nI_0.symm]
  refine crs2 (B := mo_pointsOf_B5 f (nI w)) (fun i => nI (ptS f w i)) nI 8 (fun y hy k => ?_) (fun k => ?_) FU (FU_lt (by omega))
  · rw [mo_pointsOf_B5, if_neg (show ¬ (8 : Int32) ≤ nI y from nI_ge (a := y) (b := 8) hy (by omega)), show (0 : Int32) = nI 0 from nI_0.symm]
    refine crs2 (B := mo_pointsOf_B15 f (nI w) (nI y) k) (fun x => nI (ptS f w y + fb_sm (fun x => ptf f w x y) x)) nI 8 (fun x hx k2 => ?_) (fun k2 => ?_) FU (FU_lt (by omega))
    · show mo_pointsOf_B15 f (nI w) (nI y) k k2 (nI (ptS f w y + fb_sm (fun x => ptf f w x y) x)) (nI x) = k2 (nI (ptS f w y + fb_sm (fun x => ptf f w x y) (x + 1))) (nI (x + 1))
      rw [mo_pt_step f hw hx hy, fb_sm_succ, Nat.add_assoc]
    · show mo_pointsOf_B15 f (nI w) (nI y) k k2 (nI (ptS f w y + fb_sm (fun x => ptf f w x y) 8)) (nI 8) = _
      rw [mo_pointsOf_B15, if_pos (show (8 : Int32) ≤ nI 8 from nI_le (a := 8) (b := 8) (by omega) (by omega)), nm_eq, o1]; rfl
  · rw [mo_pointsOf_B5, if_pos (show (8 : Int32) ≤ nI 8 from nI_le (a := 8) (b := 8) (by omega) (by omega))]
