/-! halves -/
noncomputable def alk (f : Int64) (k s : Nat) : Bool := conB (brd f s) && (conB (f ^^^ brd f s) && decide (own (stt (brd f s)) k = own (stt (f ^^^ brd f s)) k))
noncomputable def hvB (f : Int64) (k i : Nat) : Bool := decide (2 * pc (2 * i + 1) = cnt f) && alk f k (2 * i + 1)
noncomputable def hvC (f : Int64) (k m : Nat) : Nat := fb_ct (hvB f k) m
theorem xor_sub {f b : Int64} (h : sub b f) : sub (f ^^^ b) f := by
  intro i hi
  rw [bt_xor] at hi
  cases hf : bt f i with
  | true => rfl
  | false =>
    cases hb : bt b i with
    | true => have := h i hb; rw [hf] at this; cases this
    | false => rw [hf, hb] at hi; cases hi
theorem alike_eq {f : Int64} (hf : FIG f) {k : Nat} (hk : k ≤ 2) (s : Nat) : pa_areAlike f (brd f s) (nI k) = some (boI (alk f k s)) := by
  have s1 := brd_sub f s
  have s2 := xor_sub s1
  rw [pa_areAlike, nm_eq, gr_hangs_b (hf.1.c7.sub s1), bd1_some, gr_hangs_b (hf.1.c7.sub s2), bd1_some, zb_0, zb_1]
  unfold alk
  cases h1 : conB (brd f s) with
  | false => rw [if_pos (by decide)]; rfl
  | true =>
    rw [if_neg (by decide)]
    cases h2 : conB (f ^^^ brd f s) with
    | false => rw [if_pos (by decide)]; rfl
    | true =>
      have p1 := stt_spec hf s1 (conB_t.mp h1)
      have p2 := stt_spec hf s2 (conB_t.mp h2)
      rw [if_neg (by decide), p1.1, bd1_some, gr_least_eq p1.2.2.1 hk, bd1_some, p2.1, bd1_some, gr_least_eq p2.2.2.1 hk, bd1_some]
      by_cases q : own (stt (brd f s)) k = own (stt (f ^^^ brd f s)) k
      · rw [if_pos q, decide_eq_true q]; rfl
      · rw [if_neg q, decide_eq_false q]; rfl
theorem o2 (i : Nat) : nI (2 * i + 1) + Int32.ofInt 2 = nI (2 * (i + 1) + 1) := by
  rw [show Int32.ofInt 2 = nI 2 from rfl, nI_add, show 2 * i + 1 + 2 = 2 * (i + 1) + 1 by omega]
theorem two_n (p : Nat) : (2 * nI p : Int32) = nI (2 * p) := by rw [show (2 : Int32) = nI 2 from rfl, pk_mul]
theorem n_two (p : Nat) : (nI p * 2 : Int32) = nI (2 * p) := by rw [show (2 : Int32) = nI 2 from rfl, pk_mul, Nat.mul_comm]
theorem cnt_pos' {f : Int64} (hf : FIG f) : 0 < cnt f := cnt_pos hf.ne
theorem pw_half {n : Nat} (h : 0 < n) : 2 ^ n = 2 * 2 ^ (n - 1) := by
  obtain ⟨m, rfl⟩ : ∃ m, n = m + 1 := ⟨n - 1, by omega⟩
  rw [Nat.pow_succ, Nat.add_sub_cancel]; omega
theorem halvings_eq {f : Int64} (hf : FIG f) {k : Nat} (hk : k ≤ 2) {a : Nat → Int64} (ha : PCl f (cnt f) a) : pa_halvings f (nI k) (nI (cnt f)) a = some (nI (hvC f k (2 ^ (cnt f - 1)))).toInt64 := by
  have n12 := hf.2.2.2.1
  have p12 := pw12 n12
  have ph := pw_half (cnt_pos' hf)
  unfold pa_halvings
  refine crs2 (B := pa_halvings_B6 f (nI k) (nI (cnt f)) a) (fun i => nI (hvC f k i)) (fun i => nI (2 * i + 1)) (2 ^ (cnt f - 1)) (fun i hi K => ?_) (fun K => ?_) FU (FU_lt (by omega))
  · have es : hvC f k (i + 1) = hvC f k i + (if hvB f k i then 1 else 0) := fb_ct_succ _ _
    have pl := pc_le (2 * i + 1)
    rw [pa_halvings_B6, il_n ⟨cnt f, by omega⟩, if_neg (nI_ge (show 2 * i + 1 < 2 ^ cnt f by omega) (by omega)), ji_small (by omega), bd1_some, two_n]
    simp only [pa_halvings_J48, nm_eq, o1, o2]
    rw [es]
    unfold hvB
    by_cases q : 2 * pc (2 * i + 1) = cnt f
    · rw [if_pos (by rw [q]), boardOf_eq hf ha (by omega), bd1_some, alike_eq hf hk, bd1_some, decide_eq_true q, Bool.true_and]
      cases alk f k (2 * i + 1) with
      | false => rw [if_pos (by decide)]; rfl
      | true => rw [if_neg (by decide)]; rfl
    · rw [if_neg (fun c => q ((nI_eq (by omega) (by omega)).mp c)), decide_eq_false q]; rfl
  · rw [pa_halvings_B6, il_n ⟨cnt f, by omega⟩, if_pos (nI_le (show 2 ^ cnt f ≤ 2 * 2 ^ (cnt f - 1) + 1 by omega) (by omega))]
theorem brd_other {f : Int64} {s : Nat} (hf : FIG f) : brd f (dff (2 ^ cnt f - 1) s) = f ^^^ brd f s := by
  have n12 := hf.2.2.2.1
  have p12 := pw12 n12
  apply bt_ext
  intro j _
  apply bool_iff
  have hb : ∀ i, i < cnt f → ((dff (2 ^ cnt f - 1) s).testBit i = true ↔ ¬ s.testBit i = true) := by
    intro i hi
    rw [dff_bit (by omega), Nat.testBit_two_pow_sub_one, decide_eq_true hi, Bool.true_and]
    cases s.testBit i <;> simp
  rw [brd_bt, bt_xor]
  constructor
  · rintro ⟨i, a, b, rfl⟩
    rw [ith_bt a, bf_of (fun c => by
      obtain ⟨i2, a2, b2, c2⟩ := brd_bt.mp c
      have := ith_inj a2 a c2
      subst this
      exact (hb i2 a).mp b b2)]
    rfl
  · intro h
    cases hfj : bt f j with
    | false =>
      rw [hfj, bf_of (fun c => by have := brd_sub f s j c; rw [hfj] at this; cases this)] at h
      cases h
    | true =>
      obtain ⟨i, a, rfl⟩ := ith_all hfj
      refine ⟨i, a, (hb i a).mpr (fun c => ?_), rfl⟩
      rw [hfj, brd_bt.mpr ⟨i, a, c, rfl⟩] at h
      cases h
theorem full_pc {n : Nat} (h : n ≤ 12) : pc (2 ^ n - 1) = n := by
  have : ∀ n : Fin 13, pc (2 ^ n.val - 1) = n.val := by decide +kernel
  exact this ⟨n, by omega⟩
theorem halved_eq {f : Int64} (hf : FIG f) {k : Nat} (hk : k ≤ 2) {a : Nat → Int32} (ha : CAt f (cnt f) a) : mo_halved (nI k) (nI (cnt f)) a = some (nI (hvC f k (2 ^ (cnt f - 1)))).toInt64 := by
  have n12 := hf.2.2.2.1
  have p12 := pw12 n12
  have hp := cnt_pos' hf
  have ph := pw_half hp
  have p1 : 0 < 2 ^ (cnt f - 1) := Nat.pow_pos (by omega)
  rw [mo_halved, dzI_n (by decide), show (2 : Int32) = nI 2 from rfl, remI_n (by omega) (by omega) (by omega)]
  by_cases q : cnt f % 2 = 1
  · rw [if_pos (by rw [q]; rfl)]
    have : hvC f k (2 ^ (cnt f - 1)) = 0 := fb_ct_zero.mpr (fun i _ => by
      unfold hvB
      rw [decide_eq_false (by omega), Bool.false_and])
    rw [this]; rfl
  · rw [if_neg (show ¬ nI (cnt f % 2) = (1 : Int32) from fun c => q ((nI_eq (a := cnt f % 2) (b := 1) (by omega) (by omega)).mp c)), nm_eq, il_n ⟨cnt f, by omega⟩, show nI (2 ^ cnt f) - 1 = nI (2 ^ cnt f - 1) from nI_m1 (by omega)]
    have last : hvC f k (2 ^ (cnt f - 1)) = hvC f k (2 ^ (cnt f - 1) - 1) := by
      have e : 2 ^ (cnt f - 1) = 2 ^ (cnt f - 1) - 1 + 1 := by omega
      have es : hvC f k (2 ^ (cnt f - 1) - 1 + 1) = hvC f k (2 ^ (cnt f - 1) - 1) + (if hvB f k (2 ^ (cnt f - 1) - 1) then 1 else 0) := fb_ct_succ _ _
      have z : hvB f k (2 ^ (cnt f - 1) - 1) = false := by
        unfold hvB
        rw [show 2 * (2 ^ (cnt f - 1) - 1) + 1 = 2 ^ cnt f - 1 by omega, full_pc n12, decide_eq_false (by omega), Bool.false_and]
      rw [z] at es
      conv => lhs; rw [e]
      rw [es]; rfl
    rw [last]
    refine crs2 (B := mo_halved_B26 (nI k) (nI (2 ^ cnt f - 1)) (nI (cnt f)) a) (fun i => nI (hvC f k i)) (fun i => nI (2 * i + 1)) (2 ^ (cnt f - 1) - 1) (fun i hi K => ?_) (fun K => ?_) FU (FU_lt (by omega))
    · have es : hvC f k (i + 1) = hvC f k i + (if hvB f k i then 1 else 0) := fb_ct_succ _ _
      have pl := pc_le (2 * i + 1)
      have dl := dff_le (2 ^ cnt f - 1) (2 * i + 1)
      have o2' : nI (2 * i + 1) + 2 = nI (2 * (i + 1) + 1) := o2 i
      rw [mo_halved_B26, if_neg (nI_ge (show 2 * i + 1 < 2 ^ cnt f - 1 by omega) (by omega)), mo_bits_eq, cnt_nI (by omega), bd1_some, n_two]
      simp only [mo_halved_J112, nm_eq, nI_1, o2']
      rw [es]
      unfold hvB
      by_cases q2 : 2 * pc (2 * i + 1) = cnt f
      · rw [if_pos (by rw [q2]), figureOf_eq hf ha (by omega), bd1_some, dff_n, figureOf_eq hf ha (by omega), bd1_some, brd_other hf, mo_hangs_b, bd1_some, mo_hangs_b, bd1_some, decide_eq_true q2, Bool.true_and]
        unfold alk
        cases h1 : conB (brd f (2 * i + 1)) with
        | false => rw [if_pos (by decide)]; rfl
        | true =>
          rw [if_neg (by decide)]
          cases h2 : conB (f ^^^ brd f (2 * i + 1)) with
          | false => rw [if_pos (by decide)]; rfl
          | true =>
            have p1 := stt_spec hf (brd_sub f (2 * i + 1)) (conB_t.mp h1)
            have p2 := stt_spec hf (xor_sub (brd_sub f (2 * i + 1))) (conB_t.mp h2)
            rw [if_neg (by decide), p1.2.1, bd1_some, mo_ownOf_eq p1.2.2.1 hk, bd1_some, p2.2.1, bd1_some, mo_ownOf_eq p2.2.2.1 hk, bd1_some]
            by_cases q3 : own (stt (brd f (2 * i + 1))) k = own (stt (f ^^^ brd f (2 * i + 1))) k
            · rw [if_pos q3, decide_eq_true q3]; rfl
            · rw [if_neg q3, decide_eq_false q3]; rfl
      · rw [if_neg (fun c => q2 ((nI_eq (by omega) (by omega)).mp c)), decide_eq_false q2]; rfl
    · rw [mo_halved_B26, if_pos (nI_le (show 2 ^ cnt f - 1 ≤ 2 * (2 ^ (cnt f - 1) - 1) + 1 by omega) (by omega))]
/-! the longest way across -/
noncomputable def orN (f : Int64) (s : Nat) : Nat → Nat
  | 0 => 0
  | m + 1 => orN f s m ||| (if s.testBit m then bsN f m (cnt f) else 0)
theorem orN_bit (f : Int64) (s : Nat) : ∀ m j, (orN f s m).testBit j = true ↔ j < cnt f ∧ ∃ i, i < m ∧ s.testBit i = true ∧ adjb (ith f i) (ith f j) = true
  | 0, j => by
    show (0 : Nat).testBit j = true ↔ _
    rw [Nat.zero_testBit]
    exact ⟨(fun h => by cases h), (fun ⟨_, i, h, _⟩ => by omega)⟩
  | m + 1, j => by
    have ih := orN_bit f s m j
    show (orN f s m ||| (if s.testBit m then bsN f m (cnt f) else 0)).testBit j = true ↔ _
    rw [Nat.testBit_or, Bool.or_eq_true, ih]
    constructor
    · rintro (⟨a, i, b, c⟩ | h)
      · exact ⟨a, i, by omega, c⟩
      · cases hs : s.testBit m with
        | true =>
          rw [hs, if_pos rfl, bsN_bit, Bool.and_eq_true, decide_eq_true_eq] at h
          exact ⟨h.1, m, by omega, hs, h.2⟩
        | false => rw [hs, if_neg (by decide), Nat.zero_testBit] at h; cases h
    · rintro ⟨a, i, b, c, d⟩
      rcases Nat.lt_or_ge i m with q | q
      · exact Or.inl ⟨a, i, q, c, d⟩
      · have : i = m := by omega
        subst this
        right
        rw [c, if_pos rfl, bsN_bit, decide_eq_true a, Bool.true_and]; exact d
theorem orN_lt {f : Int64} (hf : FIG f) (s : Nat) : ∀ m, orN f s m < 4096
  | 0 => by show 0 < 4096; omega
  | m + 1 => by
    have := pw12 hf.2.2.2.1
    refine Nat.or_lt_two_pow (n := 12) (orN_lt hf s m) ?_
    split
    · exact Nat.lt_of_lt_of_le (bsN_lt f m (cnt f)) this
    · decide
noncomputable def besA (f : Int64) (s : Nat) : Nat := dff (orN f s (cnt f)) s
theorem besA_bit {f : Int64} (hf : FIG f) (s j : Nat) : (besA f s).testBit j = true ↔ j < cnt f ∧ s.testBit j = false ∧ ∃ i, i < cnt f ∧ s.testBit i = true ∧ adjb (ith f i) (ith f j) = true := by
  unfold besA
  rw [dff_bit (orN_lt hf s _), Bool.and_eq_true, orN_bit, Bool.not_eq_true']
  constructor
  · rintro ⟨⟨a, b⟩, c⟩; exact ⟨a, c, b⟩
  · rintro ⟨a, c, b⟩; exact ⟨⟨a, b⟩, c⟩
theorem besA_lt {f : Int64} (hf : FIG f) (s : Nat) : besA f s < 4096 := Nat.lt_of_le_of_lt (dff_le _ _) (orN_lt hf s _)
theorem besideAll_eq {f : Int64} (hf : FIG f) {b : Nat → Int32} (hb : NEb f (cnt f) b) {s : Nat} (hs : s < 4096) : mo_besideAll (nI s) (nI (cnt f)) b = some (nI (besA f s)) := by
  have n12 := hf.2.2.2.1
  unfold mo_besideAll
  rw [show fl2 (mo_besideAll_B4 (nI s) (nI (cnt f)) b) FU 0 0 = fl2 (mo_besideAll_B4 (nI s) (nI (cnt f)) b) FU (nI (orN f s 0)) (nI 0) from rfl]
  refine crs2 (B := mo_besideAll_B4 (nI s) (nI (cnt f)) b) (fun i => nI (orN f s i)) nI (cnt f) (fun i hi k => ?_) (fun k => ?_) FU (FU_lt (by omega))
  · rw [mo_besideAll_B4, if_neg (nI_ge hi (by omega)), mo_has_n (by omega) (by omega), bd1_some]
    show _ = k (nI (orN f s i ||| (if s.testBit i then bsN f i (cnt f) else 0))) (nI (i + 1))
    cases s.testBit i with
    | false =>
      rw [if_pos (by decide), mo_besideAll_J32, nm_eq, nm_eq, o1, if_neg (by decide), show (0 : Int32) = nI 0 from nI_0.symm, nI_or]
    | true =>
      rw [if_neg (by decide), ck_n (show i < 12 by omega) (by omega), cl_n (by omega), hb i hi, mo_besideAll_J32, nm_eq, nm_eq, o1, nI_or, if_pos rfl]
  · rw [mo_besideAll_B4, if_pos (nI_le (Nat.le_refl _) (by omega)), dff_n]; rfl
theorem brd_step {f : Int64} (hf : FIG f) (s : Nat) : brd f s ||| (gar (brd f s) &&& f) = brd f (s ||| besA f s) := by
  have st := stp_c hf.1.c7 (brd_sub f s)
  apply bt_ext
  intro j _
  apply bool_iff
  rw [st j]
  constructor
  · rintro (h | ⟨h1, h2⟩)
    · obtain ⟨i, a, b, c⟩ := brd_bt.mp h
      exact brd_bt.mpr ⟨i, a, by rw [Nat.testBit_or, b, Bool.true_or], c⟩
    · obtain ⟨i, a, rfl⟩ := ith_all h1
      refine brd_bt.mpr ⟨i, a, ?_, rfl⟩
      rw [Nat.testBit_or, Bool.or_eq_true]
      cases hs : s.testBit i with
      | true => exact Or.inl rfl
      | false =>
        right
        obtain ⟨z, hz, hzb⟩ := h2
        obtain ⟨i2, a2, b2, rfl⟩ := brd_bt.mp hzb
        exact (besA_bit hf s i).mpr ⟨a, hs, i2, a2, b2, adjb_t.mpr (adj_symm hz)⟩
  · intro h
    obtain ⟨i, a, b, rfl⟩ := brd_bt.mp h
    rw [Nat.testBit_or, Bool.or_eq_true] at b
    rcases b with b | b
    · exact Or.inl (brd_bt.mpr ⟨i, a, b, rfl⟩)
    · obtain ⟨_, _, i2, a2, b2, c2⟩ := (besA_bit hf s i).mp b
      exact Or.inr ⟨ith_bt a, _, adj_symm (adjb_t.mp c2), brd_bt.mpr ⟨i2, a2, b2, rfl⟩⟩
theorem besA_0 {f : Int64} (hf : FIG f) {s i0 : Nat} (hi : i0 < cnt f) (h0 : s.testBit i0 = true) : besA f s = 0 ↔ brd f s = f := by
  constructor
  · intro h
    apply bt_ext
    intro j _
    apply bool_iff
    refine ⟨brd_sub f s j, fun hj => ?_⟩
    exact hf.2.2.2.2.2 (fun x => bt (brd f s) x = true) ⟨_, ith_bt hi, brd_bt.mpr ⟨i0, hi, h0, rfl⟩⟩ (fun a b _ hb hab hT => by
      obtain ⟨i, i1, i2, rfl⟩ := brd_bt.mp hT
      obtain ⟨m, m1, rfl⟩ := ith_all hb
      refine brd_bt.mpr ⟨m, m1, ?_, rfl⟩
      cases hs : s.testBit m with
      | true => rfl
      | false =>
        have := (besA_bit hf s m).mpr ⟨m1, hs, i, i1, i2, adjb_t.mpr hab⟩
        rw [h, Nat.zero_testBit] at this; cases this) j hj
  · intro h
    apply Nat.eq_of_testBit_eq
    intro j
    rw [Nat.zero_testBit]
    cases hb : (besA f s).testBit j with
    | false => rfl
    | true =>
      obtain ⟨a, b, _⟩ := (besA_bit hf s j).mp hb
      have : bt (brd f s) (ith f j) = true := by rw [h]; exact ith_bt a
      obtain ⟨i, i1, i2, i3⟩ := brd_bt.mp this
      have := ith_inj i1 a i3
      subst this
      rw [b] at i2; cases i2
/-- how far it comes from a cell, step by step -/
noncomputable def ws (f : Int64) (i : Nat) : Nat → Nat
  | 0 => 2 ^ i
  | k + 1 => ws f i k ||| besA f (ws f i k)
theorem ws_i (f : Int64) (i : Nat) : ∀ k, (ws f i k).testBit i = true
  | 0 => by show (2 ^ i).testBit i = true; exact Nat.testBit_two_pow_self
  | k + 1 => by
    show (ws f i k ||| besA f (ws f i k)).testBit i = true
    rw [Nat.testBit_or, ws_i f i k, Bool.true_or]
theorem ws_lt {f : Int64} (hf : FIG f) {i : Nat} (hi : i < cnt f) : ∀ k, ws f i k < 4096
  | 0 => by
    have := pw12 (m := i + 1) (by have := hf.2.2.2.1; omega)
    show 2 ^ i < 4096
    rw [Nat.pow_succ] at this
    omega
  | k + 1 => Nat.or_lt_two_pow (n := 12) (ws_lt hf hi k) (besA_lt hf _)
theorem ws_cnt {f : Int64} (hf : FIG f) {i : Nat} (hi : i < cnt f) : ∀ k, (∀ m, m < k → besA f (ws f i m) ≠ 0) → k + 1 ≤ cnt (brd f (ws f i k))
  | 0, _ => by
    have := cnt_pos (ne0_hB (hB_bt (brd_bt.mpr ⟨i, hi, ws_i f i 0, rfl⟩)))
    omega
  | k + 1, h => by
    have ih := ws_cnt hf hi k (fun m hm => h m (by omega))
    have hne := h k (by omega)
    have e := brd_step hf (ws f i k)
    have e' : brd f (ws f i (k + 1)) = brd f (ws f i k) ||| (gar (brd f (ws f i k)) &&& f) := e.symm
    have lt : cnt (brd f (ws f i k)) < cnt (brd f (ws f i (k + 1))) := by
      refine cnt_lt (fun j hj => by rw [e', bt_or, hj, Bool.true_or]) (fun q => ?_)
      -- a new cell
      have : ∃ j, (besA f (ws f i k)).testBit j = true := by
        refine Classical.byContradiction (fun no => hne ?_)
        apply Nat.eq_of_testBit_eq
        intro j
        rw [Nat.zero_testBit]
        cases hb : (besA f (ws f i k)).testBit j with
        | false => rfl
        | true => exact absurd ⟨j, hb⟩ no
      obtain ⟨j, hj⟩ := this
      have hj2 := (besA_bit hf _ j).mp hj
      have : bt (brd f (ws f i (k + 1))) (ith f j) = true := brd_bt.mpr ⟨j, hj2.1, by
        show (ws f i k ||| besA f (ws f i k)).testBit j = true
        rw [Nat.testBit_or, hj, Bool.or_true], rfl⟩
      rw [← q] at this
      obtain ⟨i1, a1, a2, a3⟩ := brd_bt.mp this
      have := ith_inj a1 hj2.1 a3
      subst this
      rw [hj2.2.1] at a2; cases a2
    omega
theorem ws_end {f : Int64} (hf : FIG f) {i : Nat} (hi : i < cnt f) : ∃ d, d < cnt f ∧ besA f (ws f i d) = 0 ∧ ∀ k, k < d → ¬ besA f (ws f i k) = 0 := by
  refine fb_first (p := fun d => besA f (ws f i d) = 0) ?_
  refine Classical.byContradiction (fun no => ?_)
  have := ws_cnt hf hi (cnt f) (fun m hm h0 => no ⟨m, hm, h0⟩)
  have := cnt_mono (brd_sub f (ws f i (cnt f)))
  omega
noncomputable def wd (f : Int64) (i : Nat) : Nat := if h : ∃ d, d < cnt f ∧ besA f (ws f i d) = 0 ∧ ∀ k, k < d → ¬ besA f (ws f i k) = 0 then Classical.choose h else 0
theorem wd_spec {f : Int64} (hf : FIG f) {i : Nat} (hi : i < cnt f) : wd f i < cnt f ∧ besA f (ws f i (wd f i)) = 0 ∧ ∀ k, k < wd f i → ¬ besA f (ws f i k) = 0 := by
  unfold wd
  rw [dif_pos (ws_end hf hi)]
  exact Classical.choose_spec (ws_end hf hi)
noncomputable def wmx (f : Int64) : Nat → Nat
  | 0 => 0
  | i + 1 => max (wmx f i) (wd f i)
theorem wmx_le {f : Int64} (hf : FIG f) : ∀ i, i ≤ cnt f → wmx f i ≤ 12
  | 0, _ => by show 0 ≤ 12; omega
  | i + 1, h => by
    have := wmx_le hf i (by omega)
    have := (wd_spec hf (i := i) (by omega)).1
    have := hf.2.2.2.1
    show max (wmx f i) (wd f i) ≤ 12
    omega
theorem mx_n {a b : Nat} (ha : a < 2 ^ 31) (hb : b < 2 ^ 31) : mxI (nI a) (nI b) = nI (max a b) := by
  unfold mxI
  by_cases q : a < b
  · rw [if_pos (nI_lt q hb), Nat.max_eq_right (by omega)]
  · rw [if_neg (nI_nlt (by omega) ha), Nat.max_eq_left (by omega)]
theorem longest_eq {f : Int64} (hf : FIG f) {a : Nat → Int64} (ha : PCl f (cnt f) a) : pa_longestWay f (nI (cnt f)) a = some (nI (wmx f (cnt f))).toInt64 := by
  have n12 := hf.2.2.2.1
  unfold pa_longestWay
  refine crs2 (B := pa_longestWay_B5 f (nI (cnt f)) a) (fun i => nI (wmx f i)) nI (cnt f) (fun i hi K => ?_) (fun K => ?_) FU (FU_lt (by omega))
  · obtain ⟨d1, d2, d3⟩ := wd_spec hf hi
    have wl := wmx_le hf i (by omega)
    have e0 : sl 1 (nI (ith f i)) = brd f (ws f i 0) := by
      have i64 := bt_lt (ith_bt hi)
      apply bt_ext
      intro j _
      apply bool_iff
      rw [bt_one i64, brd_bt]
      constructor
      · rintro rfl; exact ⟨i, hi, ws_i f i 0, rfl⟩
      · rintro ⟨i2, a2, b2, rfl⟩
        have : i2 = i := by
          have b3 : (2 ^ i).testBit i2 = true := b2
          rw [Nat.testBit_two_pow] at b3
          exact (of_decide_eq_true b3).symm
        rw [this]
    rw [pa_longestWay_B5, if_neg (nI_ge hi (by omega)), ck_n (show i < 12 by omega) (by omega), cl_n (by omega), nm_eq, ha i hi, e0]
    rw [show fl3 (pa_longestWay_B26 f (nI i) (nI (cnt f)) a K) FU (nI (wmx f i)) (brd f (ws f i 0)) 0 = fl3 (pa_longestWay_B26 f (nI i) (nI (cnt f)) a K) FU (nI (max (wmx f i) 0)) (brd f (ws f i 0)) (nI 0) by rw [Nat.max_zero]; rfl]
    refine crs3 (B := pa_longestWay_B26 f (nI i) (nI (cnt f)) a K) (fun k => nI (max (wmx f i) k)) (fun k => brd f (ws f i k)) nI (wd f i) (fun k hk k3 => ?_) (fun k3 => ?_) FU (FU_lt (by omega))
    · rw [pa_longestWay_B26, if_neg (nI_ge (by omega) (by omega)), if_neg (fun c => d3 k hk ((besA_0 hf hi (ws_i f i k)).mpr c)), gr_around_eq, bd1_some, nm_eq, nm_eq, nm_eq, brd_step hf, nI_1, o1, mx_n (by omega) (by omega)]
      show k3 (nI (max (max (wmx f i) k) (k + 1))) _ _ = k3 (nI (max (wmx f i) (k + 1))) _ _
      rw [show max (max (wmx f i) k) (k + 1) = max (wmx f i) (k + 1) by omega]
      rfl
    · rw [pa_longestWay_B26, if_pos ((besA_0 hf hi (ws_i f i _)).mp d2), ite_self, pa_longestWay_J69, nm_eq, o1]
      rfl
  · rw [pa_longestWay_B5, if_pos (nI_le (Nat.le_refl _) (by omega))]
theorem across_eq {f : Int64} (hf : FIG f) {b : Nat → Int32} (hb : NEb f (cnt f) b) : mo_across (nI (cnt f)) b = some (nI (wmx f (cnt f))).toInt64 := by
  have n12 := hf.2.2.2.1
  unfold mo_across
  refine crs2 (B := mo_across_B4 (nI (cnt f)) b) (fun i => nI (wmx f i)) nI (cnt f) (fun i hi K => ?_) (fun K => ?_) FU (FU_lt (by omega))
  · obtain ⟨d1, d2, d3⟩ := wd_spec hf hi
    have wl := wmx_le hf i (by omega)
    rw [mo_across_B4, if_neg (nI_ge hi (by omega)), nm_eq, il_n ⟨i, by omega⟩]
    refine crs2 (B := mo_across_B19 (nI (wmx f i)) (nI i) (nI (cnt f)) b K) (fun k => nI (ws f i k)) nI (wd f i) (fun k hk k3 => ?_) (fun k3 => ?_) FU (FU_lt (by omega))
    · have bl := besA_lt hf (ws f i k)
      rw [mo_across_B19, besideAll_eq hf hb (ws_lt hf hi k), bd1_some, if_neg (nI_ne0 (Nat.pos_of_ne_zero (d3 k hk)) (by omega)), bd1_some, nm_eq, nm_eq, nI_or, nI_1]
      rfl
    · rw [mo_across_B19, besideAll_eq hf hb (ws_lt hf hi _), bd1_some, d2, if_pos nI_0, mo_across_J56, mo_across_J56, nm_eq, o1]
      show (if nI (wd f i) ≤ nI (wmx f i) then K (nI (wmx f i)) (nI (i + 1)) else K (nI (wd f i)) (nI (i + 1))) = K (nI (max (wmx f i) (wd f i))) (nI (i + 1))
      by_cases q : wd f i ≤ wmx f i
      · rw [if_pos (nI_le q (by omega)), Nat.max_eq_left q]
      · rw [if_neg (nI_ge (by omega) (by omega)), Nat.max_eq_right (by omega)]
  · rw [mo_across_B4, if_pos (nI_le (Nat.le_refl _) (by omega))]
