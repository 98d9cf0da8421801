/-! cuttings -/
def opP (W : Nat → Nat) (h st sz : Nat) : Prop := ∀ i, i < sz → W (st + h + i) = (W (st + sz - 1 - i) + 2) % 4
noncomputable def opB (W : Nat → Nat) (h st sz : Nat) : Bool := @decide (opP W h st sz) (Classical.propDecidable _)
theorem opB_t {W : Nat → Nat} {h st sz : Nat} : opB W h st sz = true ↔ opP W h st sz := by unfold opB; exact @decide_eq_true_iff _ (Classical.propDecidable _)
theorem opB_f {W : Nat → Nat} {h st sz : Nat} : opB W h st sz = false ↔ ¬ opP W h st sz := by
  rw [← opB_t]; cases opB W h st sz <;> simp
/-- letters of a line of length 2 h -/
def LTR (W : Nat → Nat) (h : Nat) : Prop := (∀ i, W i < 4) ∧ (∀ i, W (i + 2 * h) = W i) ∧ 1 ≤ h ∧ h ≤ 13
theorem x24 : ∀ l : Fin 4, nI l.val ^^^ 2 = nI ((l.val + 2) % 4) := by decide +kernel
theorem r24 : ∀ l : Fin 4, remI (nI l.val + 2) 4 = nI ((l.val + 2) % 4) := by decide +kernel
theorem hlf_n {h : Nat} (hh : h ≤ 13) : nI (2 * h) / 2 = nI h := by
  rw [show (2 : Int32) = nI 2 from rfl, pk_div (by omega) (by omega) (by omega), show 2 * h / 2 = h by omega]
theorem isOpposed_eq {W : Nat → Nat} {h : Nat} (hW : LTR W h) {le : Nat → Int32} (hle : ∀ i, i < 4 * h → le i = nI (W i)) {st sz : Nat} (hb : st + sz ≤ 2 * h) : ol_isOpposed (nI st) (nI sz) (nI (2 * h)) le = some (boI (opB W h st sz)) := by
  obtain ⟨w4, _, h1, h13⟩ := hW
  have stp : ∀ i, i < sz → ∀ k : Int32 → Option Int32, ol_isOpposed_B26 (nI st) (nI sz) (nI (st + h)) (nI (2 * h)) le k (nI i) = if W (st + h + i) = (W (st + sz - 1 - i) + 2) % 4 then k (nI (i + 1)) else some 0 := fun i hi k => by
    rw [ol_isOpposed_B26, if_neg (nI_ge hi (by omega)), nI_add, nm_eq, ck_n (show st + h + i < 52 by omega) (by omega), nI_add, nI_m1 (by omega), pk_sub (show i ≤ st + sz - 1 by omega), nm_eq, ck_n (show st + sz - 1 - i < 52 by omega) (by omega), cl_n (show st + h + i < 2 ^ 31 by omega), cl_n (show st + sz - 1 - i < 2 ^ 31 by omega), hle _ (show st + h + i < 4 * h by omega), hle _ (show st + sz - 1 - i < 4 * h by omega), x24 ⟨W (st + sz - 1 - i), w4 _⟩, nm_eq, o1, zb_0]
    have a := w4 (st + h + i)
    have b : (W (st + sz - 1 - i) + 2) % 4 < 4 := Nat.mod_lt _ (by omega)
    by_cases q : W (st + h + i) = (W (st + sz - 1 - i) + 2) % 4
    · rw [if_pos q, if_pos (by rw [q])]
    · rw [if_neg q, if_neg (fun e => q ((nI_eq (by omega) (by omega)).mp e))]
  rw [ol_isOpposed, dzI_n (by decide), hlf_n h13, nI_add, nm_eq, if_neg (nI_pos (by omega)), nI_add, if_pos (show nI (st + h + sz) ≤ (52 : Int32) from nI_le (a := st + h + sz) (b := 52) (by omega) (by omega))]
  by_cases op : opP W h st sz
  · rw [opB_t.mpr op]
    refine crs1 (B := ol_isOpposed_B26 (nI st) (nI sz) (nI (st + h)) (nI (2 * h)) le) (fun t => nI t) sz (fun i hi k => ?_) (fun k => ?_) FU (FU_lt (by omega))
    · rw [stp i hi, if_pos (op i hi)]
    · rw [ol_isOpposed_B26, if_pos (nI_le (Nat.le_refl _) (by omega)), zb_1]; rfl
  · rw [opB_f.mpr op]
    have ex : ∃ i, i < sz ∧ ¬ W (st + h + i) = (W (st + sz - 1 - i) + 2) % 4 := by
      by_cases q : ∃ i, i < sz ∧ ¬ W (st + h + i) = (W (st + sz - 1 - i) + 2) % 4
      · exact q
      · exact absurd (fun i hi => Classical.byContradiction (fun e => q ⟨i, hi, e⟩)) op
    obtain ⟨N, n1, n2, n3⟩ := fb_first ex
    refine crs1 (B := ol_isOpposed_B26 (nI st) (nI sz) (nI (st + h)) (nI (2 * h)) le) (fun t => nI t) N (fun i hi k => ?_) (fun k => ?_) FU (FU_lt (by omega))
    · rw [stp i (by omega), if_pos (Decidable.byContradiction (n3 i hi))]
    · rw [stp N n1, if_neg n2]; rfl
theorem W_mod {W : Nat → Nat} {h : Nat} (hW : LTR W h) : ∀ (m a : Nat), W (a + 2 * h * m) = W a
  | 0, a => by rw [Nat.mul_zero, Nat.add_zero]
  | m + 1, a => by
    rw [show a + 2 * h * (m + 1) = a + 2 * h * m + 2 * h by rw [Nat.mul_succ]; omega, hW.2.1, W_mod hW m a]
theorem letterAt_eq {W : Nat → Nat} {h : Nat} (hW : LTR W h) {le : Nat → Int32} (hle : ∀ i, i < 2 * h → le i = nI (W i)) {a : Nat} (ha : a < 1000) : mo_letterAt (nI a) (nI (2 * h)) le = some (nI (W a)) := by
  obtain ⟨w4, w5, h1, h13⟩ := hW
  have nz : ¬ nI (2 * h) = 0 := fun e => by
    have := (nI_eq (by omega) (by omega)).mp (show nI (2 * h) = nI 0 from e)
    omega
  have ml : a % (2 * h) < 2 * h := Nat.mod_lt _ (by omega)
  rw [mo_letterAt, dzI_n nz, remI_n (by omega) (by omega) (by omega), nm_eq, ck_n (show a % (2 * h) < 60 by omega) (by omega), cl_n (by omega), hle _ ml]
  have e : a = a % (2 * h) + 2 * h * (a / (2 * h)) := (Nat.mod_add_div a (2 * h)).symm
  have := W_mod ⟨w4, w5, h1, h13⟩ (a / (2 * h)) (a % (2 * h))
  rw [← e] at this
  rw [this]
theorem opP_iff {W : Nat → Nat} {h : Nat} (hW : LTR W h) {st sz : Nat} : opP W h st sz ↔ ∀ k, k < sz → W (st + k) = (W (st + h + sz - 1 - k) + 2) % 4 := by
  have w4 := hW.1
  constructor
  · intro o k hk
    have := o (sz - 1 - k) (by omega)
    rw [show st + h + (sz - 1 - k) = st + h + sz - 1 - k by omega, show st + sz - 1 - (sz - 1 - k) = st + k by omega] at this
    have := w4 (st + k)
    omega
  · intro o i hi
    have := o (sz - 1 - i) (by omega)
    rw [show st + h + sz - 1 - (sz - 1 - i) = st + h + i by omega, show st + (sz - 1 - i) = st + sz - 1 - i by omega] at this
    have := w4 (st + h + i)
    omega
theorem comesAgain_eq {W : Nat → Nat} {h : Nat} (hW : LTR W h) {le : Nat → Int32} (hle : ∀ i, i < 2 * h → le i = nI (W i)) {st sz : Nat} (hb : st + sz ≤ 2 * h) : mo_comesAgain (nI st) (nI (st + h)) (nI sz) (nI (2 * h)) le = some (boI (opB W h st sz)) := by
  have iff := opP_iff hW (st := st) (sz := sz)
  have lt := @letterAt_eq W h hW le hle
  obtain ⟨w4, _, h1, h13⟩ := hW
  have stp : ∀ i, i < sz → ∀ k : Int32 → Option Int32, mo_comesAgain_B3 (nI st) (nI (st + h)) (nI sz) (nI (2 * h)) le k (nI i) = if W (st + i) = (W (st + h + sz - 1 - i) + 2) % 4 then k (nI (i + 1)) else some 0 := fun i hi k => by
    rw [mo_comesAgain_B3, if_neg (nI_ge hi (by omega)), nI_add, lt (by omega), bd1_some, nI_add, nI_m1 (by omega), pk_sub (show i ≤ st + h + sz - 1 by omega), lt (by omega), bd1_some, dzI_n (by decide), r24 ⟨W (st + h + sz - 1 - i), w4 _⟩, nm_eq, o1, zb_0]
    have a := w4 (st + i)
    have b : (W (st + h + sz - 1 - i) + 2) % 4 < 4 := Nat.mod_lt _ (by omega)
    by_cases q : W (st + i) = (W (st + h + sz - 1 - i) + 2) % 4
    · rw [if_pos q, if_pos (by rw [q])]
    · rw [if_neg q, if_neg (fun e => q ((nI_eq (by omega) (by omega)).mp e))]
  rw [mo_comesAgain]
  by_cases op : opP W h st sz
  · rw [opB_t.mpr op]
    refine crs1 (B := mo_comesAgain_B3 (nI st) (nI (st + h)) (nI sz) (nI (2 * h)) le) (fun t => nI t) sz (fun i hi k => ?_) (fun k => ?_) FU (FU_lt (by omega))
    · rw [stp i hi, if_pos (iff.mp op i hi)]
    · rw [mo_comesAgain_B3, if_pos (nI_le (Nat.le_refl _) (by omega)), zb_1]; rfl
  · rw [opB_f.mpr op]
    have ex : ∃ i, i < sz ∧ ¬ W (st + i) = (W (st + h + sz - 1 - i) + 2) % 4 := by
      by_cases q : ∃ i, i < sz ∧ ¬ W (st + i) = (W (st + h + sz - 1 - i) + 2) % 4
      · exact q
      · exact absurd (iff.mpr (fun i hi => Classical.byContradiction (fun e => q ⟨i, hi, e⟩))) op
    obtain ⟨N, n1, n2, n3⟩ := fb_first ex
    refine crs1 (B := mo_comesAgain_B3 (nI st) (nI (st + h)) (nI sz) (nI (2 * h)) le) (fun t => nI t) N (fun i hi k => ?_) (fun k => ?_) FU (FU_lt (by omega))
    · rw [stp i (by omega), if_pos (Decidable.byContradiction (n3 i hi))]
    · rw [stp N n1, if_neg n2]; rfl
/-! all cuttings in their order: 196 place + 14 A + B -/
def ctP (W : Nat → Nat) (h s a b : Nat) : Prop := s < h ∧ 1 ≤ a ∧ 1 ≤ b ∧ a + b ≤ h ∧ opP W h s a ∧ opP W h (s + a) b ∧ opP W h (s + a + b) (h - a - b)
noncomputable def ctB (W : Nat → Nat) (h q : Nat) : Bool := @decide (ctP W h (q / 196) (q / 14 % 14) (q % 14)) (Classical.propDecidable _)
theorem ctB_t {W : Nat → Nat} {h q : Nat} : ctB W h q = true ↔ ctP W h (q / 196) (q / 14 % 14) (q % 14) := by unfold ctB; exact @decide_eq_true_iff _ (Classical.propDecidable _)
theorem ctB_f {W : Nat → Nat} {h q : Nat} (n : ¬ ctP W h (q / 196) (q / 14 % 14) (q % 14)) : ctB W h q = false := by
  cases z : ctB W h q with
  | false => rfl
  | true => exact absurd (ctB_t.mp z) n
noncomputable def fcB (W : Nat → Nat) (h q : Nat) : Bool := ctB W h q && decide (h - q / 14 % 14 - q % 14 = 0)
def CI (W : Nat → Nat) (h q : Nat) (cu ba pl la lb lc : Int32) : Prop := cu = nI (fb_ct (ctB W h) q) ∧ ba = nI (fb_ct (fcB W h) q) ∧ ∀ q0, q0 < q → ctB W h q0 = true → (∀ q', q' < q0 → ctB W h q' = false) → pl = nI (q0 / 196) ∧ la = nI (q0 / 14 % 14) ∧ lb = nI (q0 % 14) ∧ lc = nI (h - q0 / 14 % 14 - q0 % 14)
theorem CI_0 (W : Nat → Nat) (h : Nat) (pl la lb lc : Int32) : CI W h 0 0 0 pl la lb lc := ⟨rfl, rfl, fun q0 h => by omega⟩
theorem CI_skip {W : Nat → Nat} {h q q2 : Nat} {cu ba pl la lb lc : Int32} (hc : CI W h q cu ba pl la lb lc) (hq : q ≤ q2) (hn : ∀ q', q ≤ q' → q' < q2 → ctB W h q' = false) : CI W h q2 cu ba pl la lb lc := by
  obtain ⟨a, b, c⟩ := hc
  refine ⟨by rw [a, ct_gap hq hn], by rw [b, ct_gap hq (fun q' h1 h2 => by unfold fcB; rw [hn q' h1 h2]; rfl)], fun q0 h1 h2 h3 => ?_⟩
  rcases Nat.lt_or_ge q0 q with z | z
  · exact c q0 z h2 h3
  · rw [hn q0 z h1] at h2; simp at h2
theorem CI_hit {W : Nat → Nat} {h q : Nat} {cu ba pl la lb lc : Int32} (hc : CI W h q cu ba pl la lb lc) (hq : q < 100000) (h13 : h ≤ 13) (hh : ctB W h q = true) : CI W h (q + 1) (cu + 1) (if nI (h - q / 14 % 14 - q % 14) = 0 then ba + 1 else ba) (if cu = 0 then nI (q / 196) else pl) (if cu = 0 then nI (q / 14 % 14) else la) (if cu = 0 then nI (q % 14) else lb) (if cu = 0 then nI (h - q / 14 % 14 - q % 14) else lc) := by
  obtain ⟨rfl, rfl, c⟩ := hc
  have l1 := fb_ct_le (ctB W h) q
  have cz : nI (fb_ct (ctB W h) q) = 0 ↔ fb_ct (ctB W h) q = 0 := by
    constructor
    · intro e; exact (nI_eq (by omega) (by omega)).mp (show nI (fb_ct (ctB W h) q) = nI 0 from e)
    · intro e; rw [e]; rfl
  have hz : h - q / 14 % 14 - q % 14 < 14 := by omega
  refine ⟨?_, ?_, fun q0 h1 h2 h3 => ?_⟩
  · rw [nI_1, fb_ct_succ, hh, if_pos rfl]
  · have fs : fcB W h q = decide (h - q / 14 % 14 - q % 14 = 0) := by unfold fcB; rw [hh, Bool.true_and]
    rw [fb_ct_succ, fs]
    by_cases z : h - q / 14 % 14 - q % 14 = 0
    · rw [z, if_pos (show nI 0 = 0 from rfl), nI_1, if_pos (by decide)]
    · have nz : ¬ nI (h - q / 14 % 14 - q % 14) = 0 := fun e => z ((nI_eq (by omega) (by omega)).mp (show nI (h - q / 14 % 14 - q % 14) = nI 0 from e))
      rw [if_neg nz, decide_eq_false z]; rfl
  · by_cases z : q0 = q
    · subst z
      have e0 : fb_ct (ctB W h) q0 = 0 := fb_ct_zero.mpr h3
      rw [if_pos (cz.mpr e0), if_pos (cz.mpr e0), if_pos (cz.mpr e0), if_pos (cz.mpr e0)]
      exact ⟨rfl, rfl, rfl, rfl⟩
    · have e0 : ¬ fb_ct (ctB W h) q = 0 := fun e => by
        have := fb_ct_zero.mp e q0 (by omega)
        rw [h2] at this; simp at this
      have e1 : ¬ nI (fb_ct (ctB W h) q) = 0 := fun e => e0 (cz.mp e)
      rw [if_neg e1, if_neg e1, if_neg e1, if_neg e1]
      exact c q0 (by omega) h2 h3
