/-! all moves of the second figure -/
theorem crs7 {α β γ δ ε ζ η ρ : Type} {B : (α → β → γ → δ → ε → ζ → η → Option ρ) → α → β → γ → δ → ε → ζ → η → Option ρ} {r : Option ρ} (s1 : Nat → α) (s2 : Nat → β) (s3 : Nat → γ) (s4 : Nat → δ) (s5 : Nat → ε) (s6 : Nat → ζ) (s7 : Nat → η) (N : Nat) (hs : ∀ i, i < N → ∀ k, B k (s1 i) (s2 i) (s3 i) (s4 i) (s5 i) (s6 i) (s7 i) = k (s1 (i + 1)) (s2 (i + 1)) (s3 (i + 1)) (s4 (i + 1)) (s5 (i + 1)) (s6 (i + 1)) (s7 (i + 1))) (he : ∀ k, B k (s1 N) (s2 N) (s3 N) (s4 N) (s5 N) (s6 N) (s7 N) = r) (n : Nat) (hn : N < n) : fl7 B n (s1 0) (s2 0) (s3 0) (s4 0) (s5 0) (s6 0) (s7 0) = r := by
  have key : ∀ (m i : Nat), i ≤ N → N - i < m → fl7 B m (s1 i) (s2 i) (s3 i) (s4 i) (s5 i) (s6 i) (s7 i) = r := by
    intro m
    induction m with
    | zero => intro i _ h; omega
    | succ m ih =>
      intro i hi hm
      show B (fl7 B m) (s1 i) (s2 i) (s3 i) (s4 i) (s5 i) (s6 i) (s7 i) = r
      rcases Nat.lt_or_ge i N with q | q
      · rw [hs i q]; exact ih (i + 1) q (by omega)
      · have e : i = N := by omega
        subst e; exact he _
  exact key n 0 (Nat.zero_le _) (by omega)
theorem bd7_some {α β γ δ ε ζ η θ : Type} (a : α) (b : β) (c : γ) (d : δ) (e : ε) (f : ζ) (g : η) (k : α → β → γ → δ → ε → ζ → η → Option θ) : bd7 (some (a, b, c, d, e, f, g)) k = k a b c d e f g := rfl
def pu (p : Nat) : Int := ((p % 15 : Nat) : Int) - 7
def pv (p : Nat) : Int := ((p / 15 : Nat) : Int) - 7
def spn (a b u : Int) : Int := max a (u + b) - min 0 u
noncomputable def bxA (f g : Int64) (p : Nat) : Int := spn (wdt f) (wdt g) (pu p) * spn (hgt f) (hgt g) (pv p)
def tO (f g : Int64) (p : Nat) : Nat := ov f g (pu p) (pv p)
def tH (f g : Int64) (p : Nat) : Nat := shd f g (pu p) (pv p)
def cMo (f g : Int64) : Nat → Nat × Int × Int
  | 0 => (0, 0, 0)
  | p + 1 => if tO f g p = 0 ∧ (cMo f g p).1 < tH f g p then (tH f g p, pu p, pv p) else cMo f g p
def mMo (f g : Int64) : Nat → Int × Int × Int
  | 0 => (-1, 0, 0)
  | p + 1 => if tO f g p = 0 ∧ (mMo f g p).1 < (tH f g p : Int) then ((tH f g p : Int), pu p, pv p) else mMo f g p
noncomputable def cAr (f g : Int64) : Nat → Int
  | 0 => 0
  | p + 1 => if tO f g p = 0 then (if cAr f g p = 0 then bxA f g p else if cAr f g p ≤ bxA f g p then cAr f g p else bxA f g p) else cAr f g p
noncomputable def mAr (f g : Int64) : Nat → Int
  | 0 => 10000
  | p + 1 => if tO f g p = 0 then (if mAr f g p ≤ bxA f g p then mAr f g p else bxA f g p) else mAr f g p
def nOv (f g : Int64) (p : Nat) : Nat := fb_ct (fun q => decide (¬ tO f g q = 0)) p
def nTo (f g : Int64) (p : Nat) : Nat := fb_ct (fun q => decide (tO f g q = 0 ∧ 0 < tH f g q)) p
theorem nOv_s (f g : Int64) (p : Nat) : nOv f g (p + 1) = nOv f g p + (if tO f g p = 0 then 0 else 1) := by
  unfold nOv; rw [fb_ct_succ]
  by_cases q : tO f g p = 0 <;> simp [q]
theorem nTo_s (f g : Int64) (p : Nat) : nTo f g (p + 1) = nTo f g p + (if tO f g p = 0 ∧ 0 < tH f g p then 1 else 0) := by
  unfold nTo; rw [fb_ct_succ]
  by_cases q : tO f g p = 0 ∧ 0 < tH f g p <;> simp [q]
theorem tH_le (f g : Int64) (p : Nat) : tH f g p ≤ 256 := by
  have a := ov_le f g (pu p + 1) (pv p)
  have b := ov_le f g (pu p - 1) (pv p)
  have c := ov_le f g (pu p) (pv p + 1)
  have d := ov_le f g (pu p) (pv p - 1)
  unfold tH; rw [shd_eq]; omega
theorem cMo_le (f g : Int64) : ∀ p, (cMo f g p).1 ≤ 256
  | 0 => by show 0 ≤ 256; omega
  | p + 1 => by
    show (if tO f g p = 0 ∧ (cMo f g p).1 < tH f g p then (tH f g p, pu p, pv p) else cMo f g p).1 ≤ 256
    split
    · exact tH_le f g p
    · exact cMo_le f g p
theorem mMo_le (f g : Int64) : ∀ p, -1 ≤ (mMo f g p).1 ∧ (mMo f g p).1 ≤ 256
  | 0 => by show -1 ≤ (-1 : Int) ∧ (-1 : Int) ≤ 256; omega
  | p + 1 => by
    show -1 ≤ (if tO f g p = 0 ∧ (mMo f g p).1 < (tH f g p : Int) then ((tH f g p : Int), pu p, pv p) else mMo f g p).1 ∧ (if tO f g p = 0 ∧ (mMo f g p).1 < (tH f g p : Int) then ((tH f g p : Int), pu p, pv p) else mMo f g p).1 ≤ 256
    have := tH_le f g p
    split
    · show -1 ≤ (tH f g p : Int) ∧ (tH f g p : Int) ≤ 256; omega
    · exact mMo_le f g p
theorem spn_b {a b u : Int} (ha : 0 < a ∧ a ≤ 7) (hb : 0 < b ∧ b ≤ 7) (hu : -7 ≤ u ∧ u ≤ 7) : 0 < spn a b u ∧ spn a b u ≤ 14 := by
  unfold spn; omega
theorem bxA_b {f g : Int64} (hf : FIG f) (hg : FIG g) {p : Nat} (hp : p < 225) : 0 < bxA f g p ∧ bxA f g p ≤ 196 := by
  have wf := wdt_b hf
  have wg := wdt_b hg
  have a := spn_b (a := wdt f) (b := wdt g) (u := pu p) (by omega) (by omega) (by unfold pu; omega)
  have b := spn_b (a := hgt f) (b := hgt g) (u := pv p) (by omega) (by omega) (by unfold pv; omega)
  unfold bxA
  refine ⟨Int.mul_pos a.1 b.1, ?_⟩
  have := Int.mul_le_mul a.2 b.2 (by omega) (by omega)
  omega
theorem cAr_b {f g : Int64} (hf : FIG f) (hg : FIG g) : ∀ p, p ≤ 225 → 0 ≤ cAr f g p ∧ cAr f g p ≤ 196
  | 0, _ => by show 0 ≤ (0 : Int) ∧ (0 : Int) ≤ 196; omega
  | p + 1, h => by
    have ih := cAr_b hf hg p (by omega)
    have b := bxA_b hf hg (p := p) (by omega)
    show 0 ≤ (if tO f g p = 0 then (if cAr f g p = 0 then bxA f g p else if cAr f g p ≤ bxA f g p then cAr f g p else bxA f g p) else cAr f g p) ∧ (if tO f g p = 0 then (if cAr f g p = 0 then bxA f g p else if cAr f g p ≤ bxA f g p then cAr f g p else bxA f g p) else cAr f g p) ≤ 196
    split
    · split
      · omega
      · split <;> omega
    · omega
theorem mAr_b {f g : Int64} (hf : FIG f) (hg : FIG g) : ∀ p, p ≤ 225 → 0 < mAr f g p ∧ mAr f g p ≤ 10000
  | 0, _ => by show 0 < (10000 : Int) ∧ (10000 : Int) ≤ 10000; omega
  | p + 1, h => by
    have ih := mAr_b hf hg p (by omega)
    have b := bxA_b hf hg (p := p) (by omega)
    show 0 < (if tO f g p = 0 then (if mAr f g p ≤ bxA f g p then mAr f g p else bxA f g p) else mAr f g p) ∧ (if tO f g p = 0 then (if mAr f g p ≤ bxA f g p then mAr f g p else bxA f g p) else mAr f g p) ≤ 10000
    split
    · split <;> omega
    · omega
/-- class and reference side by side -/
theorem tch_rel {f g : Int64} (hf : FIG f) (hg : FIG g) : ∀ p, p ≤ 225 → (((0 < nTo f g p ∧ 0 < (cMo f g p).1 ∧ (mMo f g p).1 = ((cMo f g p).1 : Int) ∧ (mMo f g p).2 = (cMo f g p).2)) ∨ (nTo f g p = 0 ∧ (cMo f g p).1 = 0 ∧ (mMo f g p).1 ≤ 0)) ∧ ((cAr f g p = mAr f g p ∧ 0 < cAr f g p) ∨ (nTo f g p = 0 ∧ cAr f g p = 0 ∧ mAr f g p = 10000))
  | 0, _ => ⟨Or.inr ⟨rfl, rfl, by show (-1 : Int) ≤ 0; omega⟩, Or.inr ⟨rfl, rfl, rfl⟩⟩
  | p + 1, h => by
    obtain ⟨h1, h2⟩ := tch_rel hf hg p (by omega)
    have b := bxA_b hf hg (p := p) (by omega)
    have ec : cMo f g (p + 1) = if tO f g p = 0 ∧ (cMo f g p).1 < tH f g p then (tH f g p, pu p, pv p) else cMo f g p := rfl
    have em : mMo f g (p + 1) = if tO f g p = 0 ∧ (mMo f g p).1 < (tH f g p : Int) then ((tH f g p : Int), pu p, pv p) else mMo f g p := rfl
    have ea : cAr f g (p + 1) = if tO f g p = 0 then (if cAr f g p = 0 then bxA f g p else if cAr f g p ≤ bxA f g p then cAr f g p else bxA f g p) else cAr f g p := rfl
    have eb : mAr f g (p + 1) = if tO f g p = 0 then (if mAr f g p ≤ bxA f g p then mAr f g p else bxA f g p) else mAr f g p := rfl
    rw [nTo_s]
    by_cases q : tO f g p = 0
    · constructor
      · rcases Nat.eq_zero_or_pos (tH f g p) with z | z
        · rw [if_neg (by omega), Nat.add_zero]
          rcases h1 with ⟨a1, a2, a3, a4⟩ | ⟨a1, a2, a3⟩
          · rw [ec, em, if_neg (by omega), if_neg (by omega)]
            exact Or.inl ⟨a1, a2, a3, a4⟩
          · right
            refine ⟨a1, ?_, ?_⟩
            · rw [ec, if_neg (by omega)]; exact a2
            · rw [em]
              split
              · show (tH f g p : Int) ≤ 0; omega
              · exact a3
        · rw [if_pos ⟨q, z⟩]
          left
          rcases h1 with ⟨a1, a2, a3, a4⟩ | ⟨a1, a2, a3⟩
          · rw [ec, em]
            by_cases q2 : (cMo f g p).1 < tH f g p
            · rw [if_pos ⟨q, q2⟩, if_pos ⟨q, by omega⟩]
              exact ⟨by omega, z, rfl, rfl⟩
            · rw [if_neg (by omega), if_neg (by omega)]
              exact ⟨by omega, a2, a3, a4⟩
          · rw [ec, em, if_pos ⟨q, by omega⟩, if_pos ⟨q, by omega⟩]
            exact ⟨by omega, z, rfl, rfl⟩
      · left
        rw [ea, eb, if_pos q, if_pos q]
        rcases h2 with ⟨a1, a2⟩ | ⟨a1, a2, a3⟩
        · rw [if_neg (by omega), a1]
          refine ⟨rfl, ?_⟩
          split <;> omega
        · rw [if_pos a2, if_neg (by omega)]
          exact ⟨rfl, b.1⟩
    · rw [if_neg (by omega), Nat.add_zero, ec, em, ea, eb, if_neg (by omega), if_neg (by omega), if_neg q, if_neg q]
      exact ⟨h1, h2⟩
/-- beside each other they touch -/
theorem tch_some {f g : Int64} (hf : FIG f) (hg : FIG g) : 0 < nTo f g 225 := by
  have wf := wdt_b hf
  have wg := wdt_b hg
  obtain ⟨y0, hy0⟩ := (FIG_w hf (x := wdt f - 1) (by omega)).mpr (by omega)
  obtain ⟨y1, hy1, hb1⟩ := hg.2.2.1
  have l0 := bt_wh hf hy0
  have l1 := bt_wh hg hb1
  have hp : ∃ p, p < 225 ∧ pu p = wdt f ∧ pv p = (y0 : Int) - y1 := by
    refine ⟨(15 * ((y0 : Int) - y1 + 7) + (wdt f + 7)).toNat, ?_, ?_, ?_⟩
    · omega
    · unfold pu; omega
    · unfold pv; omega
  obtain ⟨p, p1, p2, p3⟩ := hp
  refine fb_ct_pos.mpr ⟨p, p1, decide_eq_true ⟨?_, ?_⟩⟩
  · unfold tO
    rw [p2, p3]
    refine fb_ct_zero.mpr (fun k hk => ?_)
    unfold ovp
    cases hb : hB f (((k % 8 : Nat) : Int) + wdt f) (((k / 8 : Nat) : Int) + ((y0 : Int) - y1)) with
    | false => rw [Bool.and_false]
    | true => have := hB_wh hf hb; omega
  · unfold tH
    rw [p2, p3, shd_eq]
    have : 0 < ov f g ((wdt f : Int) - 1) ((y0 : Int) - y1) := by
      refine fb_ct_pos.mpr ⟨8 * y1, by omega, ?_⟩
      unfold ovp
      rw [hb1, Bool.true_and, show (8 * y1) % 8 = 0 by omega, show (8 * y1) / 8 = y1 by omega, show ((0 : Nat) : Int) + ((wdt f : Int) - 1) = ((wdt f - 1 : Nat) : Int) by omega, show (y1 : Int) + ((y0 : Int) - y1) = (y0 : Int) by omega, hB_n f (by omega) (by omega)]
      exact hy0
    omega
/-! the class -/
def OVs (f g : Int64) (a : Nat → Int32) (n : Nat) : Prop := ∀ i, i < n → a i = nI (ov f g (((i % 17 : Nat) : Int) - 8) (((i / 17 : Nat) : Int) - 8))
theorem ovAt_eq {f g : Int64} {a : Nat → Int32} (h : OVs f g a 289) {u v : Int} (hu : -8 ≤ u ∧ u ≤ 8) (hv : -8 ≤ v ∧ v ≤ 8) : me_overlapAt (Int32.ofInt u) (Int32.ofInt v) a = some (nI (ov f g u v)) := by
  obtain ⟨n, hn⟩ : ∃ n : Nat, (n : Int) = 17 * (v + 8) + (u + 8) := ⟨(17 * (v + 8) + (u + 8)).toNat, by omega⟩
  have e : ((((Int32.ofInt v + 8) * 17) + Int32.ofInt u) + 8 : Int32) = nI n := by
    rw [show (8 : Int32) = Int32.ofInt 8 from rfl, show (17 : Int32) = Int32.ofInt 17 from rfl, ← Int32.ofInt_add, ← Int32.ofInt_mul, ← Int32.ofInt_add, ← Int32.ofInt_add, nI_iI]
    congr 1; omega
  have n289 : n < 289 := by omega
  have i1 : inr (nI n) 0 (289 - 1) = true := by
    unfold inr
    rw [Bool.and_eq_true, decide_eq_true_eq, decide_eq_true_eq]
    exact ⟨nI_pos' (by omega), nI_le (a := n) (b := 288) (by omega) (by omega)⟩
  rw [me_overlapAt, nm_eq, e, cf_within_eq, bd1_some, i1, if_neg (by decide), ck_n n289 (by omega), cl_n (by omega), h n n289]
  rw [show ((n % 17 : Nat) : Int) - 8 = u by omega, show ((n / 17 : Nat) : Int) - 8 = v by omega]
theorem note_eq {f g : Int64} {a : Nat → Int32} (h : OVs f g a 289) {u v : Int} (hu : -7 ≤ u ∧ u ≤ 7) (hv : -7 ≤ v ∧ v ≤ 7) {t m : Nat} (hm : m ≤ 256) (hs : shd f g u v ≤ 256) (mU mV : Int32) : me_noteShared (Int32.ofInt u) (Int32.ofInt v) (nI t) (nI m) mU mV a = some (nI (t + (if 0 < shd f g u v then 1 else 0)), if m < shd f g u v then (nI (shd f g u v), Int32.ofInt u, Int32.ofInt v) else (nI m, mU, mV)) := by
  have e : ov f g (u - 1) v + ov f g (u + 1) v + ov f g u (v - 1) + ov f g u (v + 1) = shd f g u v := by rw [shd_eq]; omega
  have key : ∀ t', me_noteShared_J50 a (Int32.ofInt u) (Int32.ofInt v) (nI (shd f g u v)) t' (nI m) mU mV = some (t', if m < shd f g u v then (nI (shd f g u v), Int32.ofInt u, Int32.ofInt v) else (nI m, mU, mV)) := by
    intro t'
    rw [me_noteShared_J50]
    by_cases q : m < shd f g u v
    · rw [if_neg (nI_ge q (by omega)), if_pos q]
    · rw [if_pos (nI_le (by omega) (by omega)), if_neg q]
  rw [me_noteShared, iO, iO, iP, iP, ovAt_eq h (by omega) (by omega), bd1_some, ovAt_eq h (by omega) (by omega), bd1_some, ovAt_eq h (by omega) (by omega), bd1_some, ovAt_eq h (by omega) (by omega), bd1_some, nm_eq, nI_add, nI_add, nI_add, e, nm_eq, key, key, nI_1]
  by_cases q : 0 < shd f g u v
  · rw [if_neg (nI_nle q (by omega)), if_pos q]
  · rw [if_pos ((nI_le0 (by omega)).mpr (by omega)), if_neg q]; rfl
theorem mnI_i {b : Int} (hb : -1000 < b ∧ b < 1000) : mnI 0 (Int32.ofInt b) = Int32.ofInt (min 0 b) := by
  unfold mnI
  by_cases q : b < 0
  · rw [if_pos ((iI_lt0 hb).mpr q), Int.min_eq_right (by omega)]
  · rw [if_neg (fun h => q ((iI_lt0 hb).mp h)), Int.min_eq_left (by omega)]; rfl
theorem me_around_eq {a b : Nat} (ha : a ≤ 7) (hb : b ≤ 7) {u : Int} (hu : -7 ≤ u ∧ u ≤ 7) : me_around (nI a) (nI b) (Int32.ofInt u) = some (Int32.ofInt (spn a b u)) := by
  rw [me_around, nI_iI, nI_iI, ← Int32.ofInt_add, mxI_i (by omega) (by omega), mnI_i (by omega), ← Int32.ofInt_sub]; rfl
theorem mo_spans_eq {a b : Nat} (ha : a ≤ 7) (hb : b ≤ 7) {u : Int} (hu : -7 ≤ u ∧ u ≤ 7) : mo_spans (nI a) (nI b) (Int32.ofInt u) = some (Int32.ofInt (spn a b u)) := by
  have key : ∀ t : Int, mo_spans_J9 (nI a) (nI b) (Int32.ofInt u) (Int32.ofInt t) = some (Int32.ofInt (max (a : Int) (u + b) - t)) := by
    intro t
    rw [mo_spans_J9, nm_eq, nI_iI, nI_iI, ← Int32.ofInt_add, ← Int32.ofInt_sub, ← Int32.ofInt_sub]
    by_cases q : u + b ≤ a
    · rw [if_pos ((iI_le (by omega) (by omega)).mpr q), Int.max_eq_left q]
    · rw [if_neg (fun h => q ((iI_le (by omega) (by omega)).mp h)), Int.max_eq_right (by omega)]
  unfold spn
  rw [mo_spans]
  by_cases q : u < 0
  · rw [if_neg (fun h => by have := (iI_le (a := 0) (b := u) (by omega) (by omega)).mp h; omega), key u, Int.min_eq_right (by omega)]
  · rw [if_pos (show (0 : Int32) ≤ Int32.ofInt u from (iI_le (a := 0) (b := u) (by omega) (by omega)).mpr (by omega)), show (0 : Int32) = Int32.ofInt 0 from rfl, key 0, Int.min_eq_left (by omega)]
theorem i7 (i : Nat) : Int32.ofInt ((i : Int) - 7) + Int32.ofInt 1 = Int32.ofInt (((i + 1 : Nat) : Int) - 7) := by
  rw [← Int32.ofInt_add]; congr 1; omega
theorem m15 (j i : Nat) (hi : i < 15) : pu (15 * j + i) = (i : Int) - 7 ∧ pv (15 * j + i) = (j : Int) - 7 := by
  unfold pu pv; omega
theorem pairD {α β γ : Type} (p : Prop) [Decidable p] (x y : α × β × γ) : (if p then x else y) = ((if p then x.1 else y.1), (if p then x.2.1 else y.2.1), (if p then x.2.2 else y.2.2)) := by split <;> rfl
theorem cm_step {f g : Int64} (hf : FIG f) (hg : FIG g) {a : Nat → Int32} (h : OVs f g a 289) {j i : Nat} (hj : j < 15) (hi : i < 15) (K k : Int32 → Int32 → Int32 → Int32 → Int32 → Int32 → Int32 → Option (Int32 × Int32 × Int32 × Int32 × Int32 × Int32 × (Nat → Int32))) : me_measure_B92 f g (Int32.ofInt ((j : Int) - 7)) a K k (Int32.ofInt ((i : Int) - 7)) (nI (nOv f g (15 * j + i))) (nI (nTo f g (15 * j + i))) (nI (cMo f g (15 * j + i)).1) (Int32.ofInt (cMo f g (15 * j + i)).2.1) (Int32.ofInt (cMo f g (15 * j + i)).2.2) (Int32.ofInt (cAr f g (15 * j + i))) = k (Int32.ofInt (((i + 1 : Nat) : Int) - 7)) (nI (nOv f g (15 * j + i + 1))) (nI (nTo f g (15 * j + i + 1))) (nI (cMo f g (15 * j + i + 1)).1) (Int32.ofInt (cMo f g (15 * j + i + 1)).2.1) (Int32.ofInt (cMo f g (15 * j + i + 1)).2.2) (Int32.ofInt (cAr f g (15 * j + i + 1))) := by
  have m := m15 j i hi
  have wf := wdt_b hf
  have wg := wdt_b hg
  have cb := cAr_b hf hg (15 * j + i) (by omega)
  have bb := bxA_b hf hg (p := 15 * j + i) (by omega)
  have hH := tH_le f g (15 * j + i)
  have hM := cMo_le f g (15 * j + i)
  have eO : ov f g ((i : Int) - 7) ((j : Int) - 7) = tO f g (15 * j + i) := by unfold tO; rw [m.1, m.2]
  have eH : shd f g ((i : Int) - 7) ((j : Int) - 7) = tH f g (15 * j + i) := by unfold tH; rw [m.1, m.2]
  have eX : spn (wdt f) (wdt g) ((i : Int) - 7) * spn (hgt f) (hgt g) ((j : Int) - 7) = bxA f g (15 * j + i) := by unfold bxA; rw [m.1, m.2]
  have oL := ov_le f g ((i : Int) - 7) ((j : Int) - 7)
  have ec : cMo f g (15 * j + i + 1) = if tO f g (15 * j + i) = 0 ∧ (cMo f g (15 * j + i)).1 < tH f g (15 * j + i) then (tH f g (15 * j + i), pu (15 * j + i), pv (15 * j + i)) else cMo f g (15 * j + i) := rfl
  have ea : cAr f g (15 * j + i + 1) = if tO f g (15 * j + i) = 0 then (if cAr f g (15 * j + i) = 0 then bxA f g (15 * j + i) else if cAr f g (15 * j + i) ≤ bxA f g (15 * j + i) then cAr f g (15 * j + i) else bxA f g (15 * j + i)) else cAr f g (15 * j + i) := rfl
  rw [me_measure_B92, if_neg (fun hh => by have := (iI_lt (a := 7) (b := (i : Int) - 7) (by omega) (by omega)).mp hh; omega), ovAt_eq h (by omega) (by omega), bd1_some, nOv_s, nTo_s, eO]
  by_cases q : tO f g (15 * j + i) = 0
  · have nt : me_noteShared (Int32.ofInt ((i : Int) - 7)) (Int32.ofInt ((j : Int) - 7)) (nI (nTo f g (15 * j + i))) (nI (cMo f g (15 * j + i)).1) (Int32.ofInt (cMo f g (15 * j + i)).2.1) (Int32.ofInt (cMo f g (15 * j + i)).2.2) a = some (nI (nTo f g (15 * j + i) + (if tO f g (15 * j + i) = 0 ∧ 0 < tH f g (15 * j + i) then 1 else 0)), nI (cMo f g (15 * j + i + 1)).1, Int32.ofInt (cMo f g (15 * j + i + 1)).2.1, Int32.ofInt (cMo f g (15 * j + i + 1)).2.2) := by
      rw [note_eq h (by omega) (by omega) hM (by omega), eH, ec]
      by_cases q2 : 0 < tH f g (15 * j + i)
      · by_cases q3 : (cMo f g (15 * j + i)).1 < tH f g (15 * j + i)
        · simp only [q, q2, q3, true_and, if_true, m.1, m.2]
        · simp only [q, q2, q3, true_and, if_true, if_false]
      · have q3 : ¬ (cMo f g (15 * j + i)).1 < tH f g (15 * j + i) := by omega
        simp only [q, q2, q3, true_and, if_false]
    have e3 : me_noteBox (Int32.ofInt (bxA f g (15 * j + i))) (Int32.ofInt (cAr f g (15 * j + i))) = some (Int32.ofInt (cAr f g (15 * j + i + 1))) := by
      rw [me_noteBox, ea, if_pos q]
      by_cases q0 : cAr f g (15 * j + i) = 0
      · rw [if_pos q0, q0, if_pos (show Int32.ofInt 0 = 0 from rfl)]
      · rw [if_neg (show ¬ Int32.ofInt (cAr f g (15 * j + i)) = 0 from fun hh => q0 ((gi_eq (a := cAr f g (15 * j + i)) (b := 0) (by omega) (by omega)).mp hh)), if_neg q0]
        by_cases q1 : cAr f g (15 * j + i) ≤ bxA f g (15 * j + i)
        · rw [if_pos ((iI_le (by omega) (by omega)).mpr q1), if_pos q1]
        · rw [if_neg (fun hh => q1 ((iI_le (by omega) (by omega)).mp hh)), if_neg q1]
    rw [if_pos ((nI_le0 (by omega)).mpr q), nt, bd4_some, gr_width_eq, bd1_some, gr_width_eq, bd1_some, me_around_eq (by omega) (by omega) (by omega), bd1_some, gr_height_eq, bd1_some, gr_height_eq, bd1_some, me_around_eq (by omega) (by omega) (by omega), bd1_some, ← Int32.ofInt_mul, eX, e3, bd1_some, me_measure_J162, nm_eq, i7, if_pos q]
    rfl
  · rw [if_neg (fun c => q ((nI_le0 (by omega)).mp c)), nm_eq, nI_1, me_measure_J162, nm_eq, i7, if_neg q, if_neg (fun c => q c.1), ec, ea, if_neg (fun c => q c.1), if_neg q]
    rfl
theorem cm_loops {f g : Int64} (hf : FIG f) (hg : FIG g) {a : Nat → Int32} (h : OVs f g a 289) : fl7 (me_measure_B81 f g a) FU (-7) 0 0 0 0 0 0 = some (nI (nOv f g 225), nI (nTo f g 225), nI (cMo f g 225).1, Int32.ofInt (cMo f g 225).2.1, Int32.ofInt (cMo f g 225).2.2, Int32.ofInt (cAr f g 225), a) := by
  refine crs7 (B := me_measure_B81 f g a) (fun j => Int32.ofInt ((j : Int) - 7)) (fun j => nI (nOv f g (15 * j))) (fun j => nI (nTo f g (15 * j))) (fun j => nI (cMo f g (15 * j)).1) (fun j => Int32.ofInt (cMo f g (15 * j)).2.1) (fun j => Int32.ofInt (cMo f g (15 * j)).2.2) (fun j => Int32.ofInt (cAr f g (15 * j))) 15 (fun j hj K => ?_) (fun K => ?_) FU (FU_lt (by omega))
  · rw [me_measure_B81, if_neg (fun hh => by have := (iI_lt (a := 7) (b := (j : Int) - 7) (by omega) (by omega)).mp hh; omega)]
    refine crs7 (B := me_measure_B92 f g (Int32.ofInt ((j : Int) - 7)) a K) (fun i => Int32.ofInt ((i : Int) - 7)) (fun i => nI (nOv f g (15 * j + i))) (fun i => nI (nTo f g (15 * j + i))) (fun i => nI (cMo f g (15 * j + i)).1) (fun i => Int32.ofInt (cMo f g (15 * j + i)).2.1) (fun i => Int32.ofInt (cMo f g (15 * j + i)).2.2) (fun i => Int32.ofInt (cAr f g (15 * j + i))) 15 (fun i hi k => cm_step hf hg h hj hi K k) (fun k => ?_) FU (FU_lt (by omega))
    rw [me_measure_B92, if_pos (show (7 : Int32) < Int32.ofInt (((15 : Nat) : Int) - 7) from by decide), nm_eq, i7]
    rfl
  · rw [me_measure_B81, if_pos (show (7 : Int32) < Int32.ofInt (((15 : Nat) : Int) - 7) from by decide)]
theorem me_measure_eq {f g : Int64} (hf : FIG f) (hg : FIG g) (x1 x2 x3 x4 x5 x6 : Int32) (a : Nat → Int32) : ∃ a', me_measure f g x1 x2 x3 x4 x5 x6 a = some (nI (nOv f g 225), nI (nTo f g 225), nI (cMo f g 225).1, Int32.ofInt (cMo f g 225).2.1, Int32.ofInt (cMo f g 225).2.2, Int32.ofInt (cAr f g 225), a') := by
  unfold me_measure
  refine ivl2 (B := me_measure_B3 f g x1 x2 x3 x4 x5 x6) (fun i b c => b = nI i ∧ OVs f g c i) (fun o => ∃ a', o = some (nI (nOv f g 225), nI (nTo f g 225), nI (cMo f g 225).1, Int32.ofInt (cMo f g 225).2.1, Int32.ofInt (cMo f g 225).2.2, Int32.ofInt (cAr f g 225), a')) 289 ?_ ?_ FU 0 _ _ (by omega) (FU_lt (by omega)) ⟨rfl, fun i h => by omega⟩
  · rintro i hi b c k ⟨rfl, hc⟩
    have e1 : remI (nI i) 17 - 8 = Int32.ofInt (((i % 17 : Nat) : Int) - 8) := by
      rw [show (17 : Int32) = nI 17 from rfl, remI_n (by omega) (by omega) (by omega), nI_iI, show (8 : Int32) = Int32.ofInt 8 from rfl, ← Int32.ofInt_sub]
    have e2 : nI i / 17 - 8 = Int32.ofInt (((i / 17 : Nat) : Int) - 8) := by
      rw [show (17 : Int32) = nI 17 from rfl, pk_div (by omega) (by omega) (by omega), nI_iI, show (8 : Int32) = Int32.ofInt 8 from rfl, ← Int32.ofInt_sub]
    rw [me_measure_B3, if_neg (show ¬ (289 : Int32) ≤ nI i from nI_ge (a := i) (b := 289) hi (by omega)), dzI_n (by decide), dzI_n (by decide), e1, e2, me_overlap_eq (by omega) (by omega), bd1_some, ck_n hi (by omega), nm_eq, nm_eq, cl_n (by omega), o1]
    refine ⟨_, _, ⟨rfl, fun p hp => ?_⟩, rfl⟩
    rcases Nat.lt_or_ge p i with q | q
    · rw [pk_un (by omega)]; exact hc p q
    · have : p = i := by omega
      subst this
      rw [pk_us]
  · rintro b c k ⟨rfl, hc⟩
    rw [me_measure_B3, if_pos (show (289 : Int32) ≤ nI 289 from by decide)]
    exact ⟨c, cm_loops hf hg hc⟩
/-! the reference -/
theorem mt_step {f g : Int64} (hf : FIG f) (hg : FIG g) (w : Int32) (D : Nat → Int64) {j i : Nat} (hj : j < 15) (hi : i < 15) (K k : Int32 → Int32 → Int32 → Int32 → Int32 → Int32 → Int32 → Option Int32) : mo_touch_B101 w f g (Int32.ofInt ((j : Int) - 7)) D K k (nI (nOv f g (15 * j + i))) (nI (nTo f g (15 * j + i))) (Int32.ofInt (mMo f g (15 * j + i)).1) (Int32.ofInt (mMo f g (15 * j + i)).2.1) (Int32.ofInt (mMo f g (15 * j + i)).2.2) (Int32.ofInt (mAr f g (15 * j + i))) (Int32.ofInt ((i : Int) - 7)) = k (nI (nOv f g (15 * j + i + 1))) (nI (nTo f g (15 * j + i + 1))) (Int32.ofInt (mMo f g (15 * j + i + 1)).1) (Int32.ofInt (mMo f g (15 * j + i + 1)).2.1) (Int32.ofInt (mMo f g (15 * j + i + 1)).2.2) (Int32.ofInt (mAr f g (15 * j + i + 1))) (Int32.ofInt (((i + 1 : Nat) : Int) - 7)) := by
  have m := m15 j i hi
  have wf := wdt_b hf
  have wg := wdt_b hg
  have cb := mAr_b hf hg (15 * j + i) (by omega)
  have bb := bxA_b hf hg (p := 15 * j + i) (by omega)
  have hH := tH_le f g (15 * j + i)
  have hM := mMo_le f g (15 * j + i)
  have eO : ov f g ((i : Int) - 7) ((j : Int) - 7) = tO f g (15 * j + i) := by unfold tO; rw [m.1, m.2]
  have eH : shd f g ((i : Int) - 7) ((j : Int) - 7) = tH f g (15 * j + i) := by unfold tH; rw [m.1, m.2]
  have eX : spn (wdt f) (wdt g) ((i : Int) - 7) * spn (hgt f) (hgt g) ((j : Int) - 7) = bxA f g (15 * j + i) := by unfold bxA; rw [m.1, m.2]
  have em : mMo f g (15 * j + i + 1) = if tO f g (15 * j + i) = 0 ∧ (mMo f g (15 * j + i)).1 < (tH f g (15 * j + i) : Int) then ((tH f g (15 * j + i) : Int), pu (15 * j + i), pv (15 * j + i)) else mMo f g (15 * j + i) := rfl
  have ea : mAr f g (15 * j + i + 1) = if tO f g (15 * j + i) = 0 then (if mAr f g (15 * j + i) ≤ bxA f g (15 * j + i) then mAr f g (15 * j + i) else bxA f g (15 * j + i)) else mAr f g (15 * j + i) := rfl
  rw [mo_touch_B101, if_neg (fun hh => by have := (iI_le (a := 8) (b := (i : Int) - 7) (by omega) (by omega)).mp hh; omega), mo_shared_eq (by omega) (by omega), bd1_some, nOv_s, nTo_s, eO, eH]
  by_cases q : tO f g (15 * j + i) = 0
  · rw [if_pos q, if_pos (nI_pos' (by omega))]
    have j169 : ∀ (a b : Int32) (c d e : Int32), mo_touch_J169 K k D w f g a b c d e (Int32.ofInt (mAr f g (15 * j + i))) (Int32.ofInt ((j : Int) - 7)) (Int32.ofInt ((i : Int) - 7)) = k a b c d e (Int32.ofInt (mAr f g (15 * j + i + 1))) (Int32.ofInt (((i + 1 : Nat) : Int) - 7)) := by
      intro a b c d e
      rw [mo_touch_J169, mo_wide_eq hf, bd1_some, mo_wide_eq hg, bd1_some, mo_spans_eq (by omega) (by omega) (by omega), bd1_some, mo_high_eq hf, bd1_some, mo_high_eq hg, bd1_some, mo_spans_eq (by omega) (by omega) (by omega), bd1_some, nm_eq, ← Int32.ofInt_mul, eX, mo_touch_J216, mo_touch_J216, mo_touch_J218, mo_touch_J218, nm_eq, nm_eq, i7, ea, if_pos q]
      by_cases q1 : mAr f g (15 * j + i) ≤ bxA f g (15 * j + i)
      · rw [if_pos ((gi_le (by omega) (by omega)).mpr q1), if_pos q1]
      · rw [if_neg (fun hh => q1 ((gi_le (by omega) (by omega)).mp hh)), if_neg q1]
    have j147 : ∀ (t : Int32), mo_touch_J147 K k D w f g (nI (nOv f g (15 * j + i))) (Int32.ofInt (mMo f g (15 * j + i)).1) (Int32.ofInt (mMo f g (15 * j + i)).2.1) (Int32.ofInt (mMo f g (15 * j + i)).2.2) (Int32.ofInt (mAr f g (15 * j + i))) (Int32.ofInt ((j : Int) - 7)) (Int32.ofInt ((i : Int) - 7)) (nI (tH f g (15 * j + i))) (nI (nTo f g (15 * j + i))) t = k (nI (nOv f g (15 * j + i))) (nI (nTo f g (15 * j + i)) + t) (Int32.ofInt (mMo f g (15 * j + i + 1)).1) (Int32.ofInt (mMo f g (15 * j + i + 1)).2.1) (Int32.ofInt (mMo f g (15 * j + i + 1)).2.2) (Int32.ofInt (mAr f g (15 * j + i + 1))) (Int32.ofInt (((i + 1 : Nat) : Int) - 7)) := by
      intro t
      rw [mo_touch_J147, nm_eq, j169, j169, em]
      by_cases q3 : (mMo f g (15 * j + i)).1 < (tH f g (15 * j + i) : Int)
      · rw [if_neg (fun hh => by have := (iI_le (a := (tH f g (15 * j + i) : Int)) (b := (mMo f g (15 * j + i)).1) (by omega) (by omega)).mp hh; omega), if_pos ⟨q, q3⟩, m.1, m.2]
        rfl
      · rw [if_pos (show nI (tH f g (15 * j + i)) ≤ Int32.ofInt (mMo f g (15 * j + i)).1 from (iI_le (a := (tH f g (15 * j + i) : Int)) (b := (mMo f g (15 * j + i)).1) (by omega) (by omega)).mpr (by omega)), if_neg (fun c => q3 c.2)]
    rw [j147, j147, if_pos q]
    by_cases q2 : 0 < tH f g (15 * j + i)
    · rw [if_neg (nI_nle q2 (by omega)), if_pos ⟨q, q2⟩, nI_1]
      rfl
    · rw [if_pos ((nI_le0 (by omega)).mpr (by omega)), if_neg (fun c => q2 c.2), show (0 : Int32) = nI 0 from nI_0.symm, nI_add]
      rfl
  · rw [if_neg q, if_neg (by decide), nm_eq, nI_1, mo_touch_J218, nm_eq, i7, if_neg q, if_neg (fun c => q c.1), em, ea, if_neg (fun c => q c.1), if_neg q]
    rfl
theorem mt_loops {f g : Int64} (hf : FIG f) (hg : FIG g) {w : Nat} (hw : w ≤ 5) (D : Nat → Int64) : fl7 (mo_touch_B90 (nI w) f g D) FU 0 0 (-1) 0 0 10000 (-7) = me_measured (nI w) (nI (nOv f g 225)) (nI (nTo f g 225)) (nI (cMo f g 225).1) (Int32.ofInt (cMo f g 225).2.1) (Int32.ofInt (cMo f g 225).2.2) (Int32.ofInt (cAr f g 225)) := by
  refine crs7 (B := mo_touch_B90 (nI w) f g D) (fun j => nI (nOv f g (15 * j))) (fun j => nI (nTo f g (15 * j))) (fun j => Int32.ofInt (mMo f g (15 * j)).1) (fun j => Int32.ofInt (mMo f g (15 * j)).2.1) (fun j => Int32.ofInt (mMo f g (15 * j)).2.2) (fun j => Int32.ofInt (mAr f g (15 * j))) (fun j => Int32.ofInt ((j : Int) - 7)) 15 (fun j hj K => ?_) (fun K => ?_) FU (FU_lt (by omega))
  · rw [mo_touch_B90, if_neg (fun hh => by have := (iI_le (a := 8) (b := (j : Int) - 7) (by omega) (by omega)).mp hh; omega)]
    refine crs7 (B := mo_touch_B101 (nI w) f g (Int32.ofInt ((j : Int) - 7)) D K) (fun i => nI (nOv f g (15 * j + i))) (fun i => nI (nTo f g (15 * j + i))) (fun i => Int32.ofInt (mMo f g (15 * j + i)).1) (fun i => Int32.ofInt (mMo f g (15 * j + i)).2.1) (fun i => Int32.ofInt (mMo f g (15 * j + i)).2.2) (fun i => Int32.ofInt (mAr f g (15 * j + i))) (fun i => Int32.ofInt ((i : Int) - 7)) 15 (fun i hi k => mt_step hf hg (nI w) D hj hi K k) (fun k => ?_) FU (FU_lt (by omega))
    rw [mo_touch_B101, if_pos (show (8 : Int32) ≤ Int32.ofInt (((15 : Nat) : Int) - 7) from by decide), nm_eq, i7]
    rfl
  · rw [mo_touch_B90, if_pos (show (8 : Int32) ≤ Int32.ofInt (((15 : Nat) : Int) - 7) from by decide), me_measured]
    have t := tch_some hf hg
    obtain ⟨h1, h2⟩ := tch_rel hf hg 225 (by omega)
    have a1 : (mMo f g (15 * 15)).1 = ((cMo f g 225).1 : Int) ∧ (mMo f g (15 * 15)).2 = (cMo f g 225).2 := by
      rcases h1 with ⟨_, _, a, b⟩ | ⟨a, _⟩
      · exact ⟨a, b⟩
      · omega
    have a2 : mAr f g (15 * 15) = cAr f g 225 := by
      rcases h2 with ⟨a, _⟩ | ⟨a, _⟩
      · exact a.symm
      · omega
    show (if nI w = 0 then some (nI (nOv f g 225)) else if nI w = 1 then some (nI (nTo f g 225)) else if nI w = 2 then some (Int32.ofInt (mMo f g (15 * 15)).1) else if nI w = 3 then some (Int32.ofInt (mMo f g (15 * 15)).2.1 + 10) else if nI w = 4 then some (Int32.ofInt (mMo f g (15 * 15)).2.2 + 10) else some (Int32.ofInt (mAr f g (15 * 15)))) = _
    rw [a1.1, a1.2, a2]
    rfl
theorem opc_touch (v w x : Int32) {g h : Nat → Int64} (hd : DR g h) (x1 x2 x3 x4 x5 x6 : Int32) (a : Nat → Int32) : ∃ r y1 y2 y3 y4 y5 y6 a', cf_touch v w x g x1 x2 x3 x4 x5 x6 a = some (r, y1, y2, y3, y4, y5, y6, a') ∧ mo_touch v w x h = some r := by
  cases hv : inr v 0 7 with
  | false =>
    simp only [cf_touch, mo_touch, cf_isDrawer_eq, mo_isDrawer_eq, hv, bd1_some, bf0, if_true]
    exact ⟨-1, _, _, _, _, _, _, _, rfl, rfl⟩
  | true =>
    cases hw : inr w 0 7 with
    | false =>
      simp only [cf_touch, mo_touch, cf_isDrawer_eq, mo_isDrawer_eq, hv, hw, bd1_some, bf0, bt0, if_true, if_false]
      exact ⟨-1, _, _, _, _, _, _, _, rfl, rfl⟩
    | true =>
      cases hx : inr x 0 5 with
      | false =>
        simp only [cf_touch, mo_touch, cf_isDrawer_eq, mo_isDrawer_eq, cf_within_eq, mo_in_eq, hv, hw, hx, bd1_some, bf0, bt0, if_true, if_false]
        exact ⟨-1, _, _, _, _, _, _, _, rfl, rfl⟩
      | true =>
        obtain ⟨j, hj, rfl⟩ := inr_dr hv
        obtain ⟨i, hi, rfl⟩ := inr_dr hw
        obtain ⟨t, ht, rfl⟩ := inr_nI (n := 5) (by omega) hx
        have e := (hd j hj).1
        have e2 := (hd i hi).1
        simp only [cf_touch, mo_touch, cf_isDrawer_eq, mo_isDrawer_eq, cf_within_eq, mo_in_eq, hv, hw, hx, bd1_some, bt0, if_false, ck_n hj (show 8 < 2 ^ 31 by omega), cl_n (show j < 2 ^ 31 by omega), ck_n hi (show 8 < 2 ^ 31 by omega), cl_n (show i < 2 ^ 31 by omega), e, e2, nm_eq]
        by_cases h0 : h j = 0
        · rw [if_pos h0, if_pos h0]; exact ⟨-2, _, _, _, _, _, _, _, rfl, rfl⟩
        · rw [if_neg h0, if_neg h0]
          by_cases h1 : h i = 0
          · rw [if_pos h1, if_pos h1]; exact ⟨-2, _, _, _, _, _, _, _, rfl, rfl⟩
          · rw [if_neg h1, if_neg h1]
            have fj := DRf hd hj h0
            have fi := DRf hd hi h1
            obtain ⟨a', c1⟩ := me_measure_eq fj fi x1 x2 x3 x4 x5 x6 a
            rw [c1, bd7_some, mt_loops fj fi ht]
            have : ∃ r, me_measured (nI t) (nI (nOv (h j) (h i) 225)) (nI (nTo (h j) (h i) 225)) (nI (cMo (h j) (h i) 225).1) (Int32.ofInt (cMo (h j) (h i) 225).2.1) (Int32.ofInt (cMo (h j) (h i) 225).2.2) (Int32.ofInt (cAr (h j) (h i) 225)) = some r := by
              unfold me_measured
              repeat' split
              all_goals exact ⟨_, rfl⟩
            obtain ⟨r, hr⟩ := this
            rw [hr, bd1_some]
            exact ⟨r, _, _, _, _, _, _, _, rfl, rfl⟩
