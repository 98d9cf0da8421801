/-! every figure of at most seven cells is in the list -/
theorem more_cell {f g : Int64} (hf : CON f) (hs : sub g f) (hg : CON g) (hne : g ≠ f) : ∃ a b, bt g a = true ∧ bt f b = true ∧ bt g b = false ∧ adj a b := by
  refine Classical.byContradiction (fun no => hne ?_)
  obtain ⟨k, hk⟩ := low_ex hg.1
  have all := hf.2 (fun x => bt g x = true) ⟨k, hs k hk.2.1, hk.2.1⟩ (fun a b _ hb hab hT => by
    cases h : bt g b with
    | true => rfl
    | false => exact absurd ⟨a, b, hT, hb, h, hab⟩ no)
  exact bt_ext (fun i _ => bool_iff ⟨hs i, all i⟩)
theorem CON_more {g : Int64} (hg : CON g) {a b : Nat} (ha : bt g a = true) (hb : b < 64) (hab : adj a b) : CON (g ||| sl 1 (nI b)) := by
  have new : ∀ i, bt (g ||| sl 1 (nI b)) i = true ↔ bt g i = true ∨ i = b := by
    intro i
    rw [bt_or, Bool.or_eq_true, bt_one hb]
  refine ⟨ne0_hB (hB_bt ((new b).mpr (Or.inr rfl))), fun T ⟨x, hx, hT⟩ hst y hy => ?_⟩
  have all : ∀ y, bt g y = true → T y := by
    refine hg.2 T ?_ (fun p q hp hq hpq hTp => hst p q ((new p).mpr (Or.inl hp)) ((new q).mpr (Or.inl hq)) hpq hTp)
    rcases (new x).mp hx with q | q
    · exact ⟨x, q, hT⟩
    · subst q
      exact ⟨a, ha, hst x a hx ((new a).mpr (Or.inl ha)) (adj_symm hab) hT⟩
  rcases (new y).mp hy with q | q
  · exact all y q
  · subst q
    exact hst a y ((new a).mpr (Or.inl ha)) hy hab (all a ha)
theorem sub_con {f : Int64} (hf : CON f) : ∀ m, 0 < m → m ≤ cnt f → ∃ g, sub g f ∧ CON g ∧ cnt g = m
  | 0, h, _ => by omega
  | 1, _, _ => by
    obtain ⟨k, hk⟩ := low_ex hf.1
    have b1 : ∀ i, bt (sl 1 (nI k)) i = true ↔ i = k := fun i => bt_one hk.1
    refine ⟨sl 1 (nI k), fun i hi => by rw [(b1 i).mp hi]; exact hk.2.1, ⟨ne0_hB (hB_bt ((b1 k).mpr rfl)), fun T ⟨a, ha, hT⟩ _ b hb => by rw [(b1 b).mp hb, ← (b1 a).mp ha]; exact hT⟩, ?_⟩
    have := or_cnt (b := 0) hk.1 (bt_zero k)
    rw [show (0 : Int64) ||| sl 1 (nI k) = sl 1 (nI k) from bt_ext (fun i _ => by rw [bt_or, bt_zero, Bool.false_or]), cnt_zero] at this
    exact this
  | m + 2, _, h => by
    obtain ⟨g, g1, g2, g3⟩ := sub_con hf (m + 1) (by omega) (by omega)
    obtain ⟨a, b, h1, h2, h3, h4⟩ := more_cell hf g1 g2 (fun e => by rw [e] at g3; omega)
    have b64 := bt_lt h2
    refine ⟨g ||| sl 1 (nI b), fun i hi => ?_, CON_more g2 h1 b64 h4, by rw [or_cnt b64 h3, g3]⟩
    rw [bt_or, Bool.or_eq_true, bt_one b64] at hi
    rcases hi with q | q
    · exact g1 i q
    · subst q; exact h2
/-- a figure of two cells or more is another one with one cell more -/
theorem fig_par {f : Int64} (hf : FIG f) (h2 : 2 ≤ cnt f) : ∃ g q, FIG g ∧ cnt g + 1 = cnt f ∧ q < 81 ∧ PLq g q = true ∧ wtq g q = f := by
  obtain ⟨g0, s1, s2, s3⟩ := sub_con hf.2.2.2.2 (cnt f - 1) (by omega) (by omega)
  obtain ⟨a, b, h3, h4, h5, h6⟩ := more_cell hf.2.2.2.2 s1 s2 (fun e => by rw [e] at s3; omega)
  have b64 := bt_lt h4
  have ef : g0 ||| sl 1 (nI b) = f := by
    have su : sub (g0 ||| sl 1 (nI b)) f := by
      intro i hi
      rw [bt_or, Bool.or_eq_true, bt_one b64] at hi
      rcases hi with q | q
      · exact s1 i q
      · subst q; exact h4
    have c := or_cnt b64 h5
    refine Classical.byContradiction (fun ne => ?_)
    have := cnt_lt su ne
    omega
  have sp := stt_spec hf s1 s2
  obtain ⟨α, β, ht⟩ := STL_tr sp.2.2.2.2
  have gF := sp.2.2.1
  have fB : ∀ X Y, hB f X Y = (hB g0 X Y || decide (X = ((b % 8 : Nat) : Int) ∧ Y = ((b / 8 : Nat) : Int))) := by
    intro X Y
    rw [← ef, hB_or, hB_one b64]
  have b77 := hf.1 b h4
  have wb := wdt_b gF
  -- the places of the rest within seven by seven
  obtain ⟨y1, c1⟩ := (FIG_w gF (x := wdt (stt g0) - 1) (by omega)).mpr (by omega)
  obtain ⟨x2, hx2, c2⟩ := (FIG_h gF (y := hgt (stt g0) - 1) (by omega)).mpr (by omega)
  obtain ⟨x3, _, c3⟩ := gF.2.1
  obtain ⟨y4, _, c4⟩ := gF.2.2.1
  have in77 : ∀ X Y, hB (stt g0) X Y = true → 0 ≤ X + α ∧ X + α < 7 ∧ 0 ≤ Y + β ∧ Y + β < 7 := by
    intro X Y q
    rw [ht] at q
    refine Classical.byContradiction (fun no => ?_)
    rw [hB_77 (F77_sub hf.1 s1) no] at q
    cases q
  have d1 := in77 _ _ (hB_bt c1)
  have d2 := in77 _ _ (hB_bt c2)
  have d3 := in77 _ _ (hB_bt c3)
  have d4 := in77 _ _ (hB_bt c4)
  have l1 := bt_lt c1
  have l2 := bt_lt c2
  have hx : ((b % 8 : Nat) : Int) - α < 7 ∧ ((b / 8 : Nat) : Int) - β < 7 := by omega
  have gg : ∀ X Y, hB g0 X Y = hB (stt g0) (X - α) (Y - β) := by
    intro X Y; rw [ht]; congr 1 <;> omega
  have hBS : BS (stt g0) (((b % 8 : Nat) : Int) - α) (((b / 8 : Nat) : Int) - β) = true := by
    unfold BS
    have n0 : hB (stt g0) (((b % 8 : Nat) : Int) - α) (((b / 8 : Nat) : Int) - β) = false := by
      rw [← gg, hB_b g0 b64]; exact h5
    rw [n0]
    have ha := hB_bt h3
    rw [gg] at ha
    have ad := (adj_I a b).mp h6
    unfold adjI at ad
    rw [Bool.not_false, Bool.true_and, Bool.or_eq_true, Bool.or_eq_true, Bool.or_eq_true]
    rcases ad with ⟨e, z | z⟩ | ⟨e, z | z⟩
    · left; left; right
      rw [show ((b % 8 : Nat) : Int) - α - 1 = ((a % 8 : Nat) : Int) - α by omega, show ((b / 8 : Nat) : Int) - β = ((a / 8 : Nat) : Int) - β by omega]; exact ha
    · left; left; left
      rw [show ((b % 8 : Nat) : Int) - α + 1 = ((a % 8 : Nat) : Int) - α by omega, show ((b / 8 : Nat) : Int) - β = ((a / 8 : Nat) : Int) - β by omega]; exact ha
    · right
      rw [show ((b % 8 : Nat) : Int) - α = ((a % 8 : Nat) : Int) - α by omega, show ((b / 8 : Nat) : Int) - β - 1 = ((a / 8 : Nat) : Int) - β by omega]; exact ha
    · left; right
      rw [show ((b % 8 : Nat) : Int) - α = ((a % 8 : Nat) : Int) - α by omega, show ((b / 8 : Nat) : Int) - β + 1 = ((a / 8 : Nat) : Int) - β by omega]; exact ha
  have r := BS_r gF.1 hBS
  have hW : Wn (stt g0) (((b % 8 : Nat) : Int) - α) (((b / 8 : Nat) : Int) - β) = true := by
    unfold Wn
    rw [decide_eq_true_eq]
    constructor
    · split <;> omega
    · split <;> omega
  have c12 : cnt (stt g0) < 12 := by have := hf.2.2.2.1; omega
  have wF := wth_FIG gF c12 hBS hW
  refine ⟨stt g0, 9 * (((b / 8 : Nat) : Int) - β + 1).toNat + (((b % 8 : Nat) : Int) - α + 1).toNat, gF, by omega, by omega, ?_, ?_⟩
  · unfold PLq
    rw [show (((9 * (((b / 8 : Nat) : Int) - β + 1).toNat + (((b % 8 : Nat) : Int) - α + 1).toNat) % 9 : Nat) : Int) - 1 = ((b % 8 : Nat) : Int) - α by omega, show (((9 * (((b / 8 : Nat) : Int) - β + 1).toNat + (((b % 8 : Nat) : Int) - α + 1).toNat) / 9 : Nat) : Int) - 1 = ((b / 8 : Nat) : Int) - β by omega, hBS, hW]; rfl
  · unfold wtq
    rw [show (((9 * (((b / 8 : Nat) : Int) - β + 1).toNat + (((b % 8 : Nat) : Int) - α + 1).toNat) % 9 : Nat) : Int) - 1 = ((b % 8 : Nat) : Int) - α by omega, show (((9 * (((b / 8 : Nat) : Int) - β + 1).toNat + (((b % 8 : Nat) : Int) - α + 1).toNat) / 9 : Nat) : Int) - 1 = ((b / 8 : Nat) : Int) - β by omega]
    refine FIG_tr hf wF.1 (a := α - zB (decide (((b % 8 : Nat) : Int) - α < 0))) (b := β - zB (decide (((b / 8 : Nat) : Int) - β < 0))) (fun X Y => ?_)
    rw [pt_hB, pt_hB, wth_hB gF.1 ⟨r.1, by omega⟩ ⟨r.2.2.1, by omega⟩, fB, ht]
    rw [show X - zB (decide (((b % 8 : Nat) : Int) - α < 0)) + α = X + (α - zB (decide (((b % 8 : Nat) : Int) - α < 0))) by omega, show Y - zB (decide (((b / 8 : Nat) : Int) - β < 0)) + β = Y + (β - zB (decide (((b / 8 : Nat) : Int) - β < 0))) by omega, Bool.or_eq_true, Bool.or_eq_true, decide_eq_true_eq, decide_eq_true_eq]
    have : (X = ((b % 8 : Nat) : Int) - α + zB (decide (((b % 8 : Nat) : Int) - α < 0)) ∧ Y = ((b / 8 : Nat) : Int) - β + zB (decide (((b / 8 : Nat) : Int) - β < 0))) ↔ (X + (α - zB (decide (((b % 8 : Nat) : Int) - α < 0))) = ((b % 8 : Nat) : Int) ∧ Y + (β - zB (decide (((b / 8 : Nat) : Int) - β < 0))) = ((b / 8 : Nat) : Int)) := by omega
    rw [this]
theorem one_cell {f : Int64} (hf : FIG f) (h1 : cnt f = 1) : f = 1 := by
  obtain ⟨x, hx, a⟩ := hf.2.1
  obtain ⟨y, hy, b⟩ := hf.2.2.1
  obtain ⟨i, i1, i2⟩ := ith_all a
  obtain ⟨j, j1, j2⟩ := ith_all b
  have : i = j := by omega
  subst this
  have x0 : x = 0 := by omega
  apply bt_ext
  intro k _
  apply bool_iff
  rw [bt_1]
  constructor
  · intro h
    obtain ⟨m, m1, m2⟩ := ith_all h
    have : m = i := by omega
    subst this
    omega
  · rintro rfl
    rw [← x0]; exact a
theorem Lf_all : ∀ n f, FIG f → cnt f = n → n ≤ 7 → ∃ i, eN (n - 1) ≤ i ∧ i < eN n ∧ Lf i = f
  | 0, f, hf, h, _ => by have := cnt_pos' hf; omega
  | 1, f, hf, h, _ => by
    refine ⟨0, by decide, by decide, ?_⟩
    rw [one_cell hf h]
    unfold Lf; decide +kernel
  | n + 2, f, hf, h, h7 => by
    obtain ⟨g, q, g1, g2, g3, g4, g5⟩ := fig_par hf (by omega)
    obtain ⟨i, i1, i2, i3⟩ := Lf_all (n + 1) g g1 (by omega) (by omega)
    have ib := eN_b (n := n + 1) (by omega)
    have i307 : i < 307 := by
      have : ∀ n : Fin 6, eN (n.val + 1) ≤ 307 := by decide
      have this2 : eN (n + 1) ≤ 307 := this ⟨n, by omega⟩
      have h2 : i < eN (n + 1) := i2
      omega
    have gi : gn i = n + 1 := gn_of (m := n) (by omega) i1 i2
    subst i3
    obtain ⟨j, j1, j2, j3⟩ := Lf_grow i307 g3 g4
    rw [gi] at j1 j2
    exact ⟨j, j1, j2, by rw [← j3]; exact g5⟩
/-! turned figures by their places -/
theorem img_all {f g : Int64} (τ ρ : Nat → Nat) (h64 : ∀ s, bt f s = true → τ s < 64) (h1 : ∀ s, bt f s = true → bt g (τ s) = true) (h2 : ∀ s, bt f s = true → ρ (τ s) = s) (hc : cnt g = cnt f) : ∀ j, bt g j = true ↔ ∃ s, bt f s = true ∧ j = τ s := by
  obtain ⟨S, s1, s2⟩ := ex_bits (fun j => @decide (∃ s, bt f s = true ∧ j = τ s) (Classical.propDecidable _)) 64
  have hI : ∀ j, bt (Int64.ofNat S) j = true ↔ ∃ s, bt f s = true ∧ j = τ s := by
    intro j
    rw [bt_ofNat S s1]
    by_cases q : j < 64
    · rw [s2 j q]; exact @decide_eq_true_iff _ (Classical.propDecidable _)
    · constructor
      · intro h
        rw [Nat.testBit_lt_two_pow (Nat.lt_of_lt_of_le s1 (Nat.pow_le_pow_right (n := 2) (by omega) (show 64 ≤ j by omega)))] at h
        cases h
      · rintro ⟨s, a, rfl⟩
        exact absurd (h64 s a) q
  have su : sub (Int64.ofNat S) g := fun j hj => by
    obtain ⟨s, a, rfl⟩ := (hI j).mp hj
    exact h1 s a
  have cl : cnt f ≤ cnt (Int64.ofNat S) := cnt_img ρ (fun i hi => ⟨τ i, (hI _).mpr ⟨i, hi, rfl⟩, (h2 i hi).symm⟩)
  have e : Int64.ofNat S = g := Classical.byContradiction (fun ne => by have := cnt_lt su ne; omega)
  intro j
  rw [← e]; exact hI j
theorem gN_eq {i : Nat} (hi : i < 1067) : (gn (tQ i) = gn i ∧ tQ i < 1067) ∧ (gn (tM i) = gn i ∧ tM i < 1067) := by
  have := chG_ok ⟨i / 32, by omega⟩ ⟨i % 32, by omega⟩
  have e : 32 * (i / 32) + i % 32 = i := by omega
  simp only [e] at this
  have h := this hi
  unfold chG at h
  rw [Bool.and_eq_true, Bool.and_eq_true, Bool.and_eq_true, Nat.beq_eq, Nat.beq_eq, ble_t, ble_t] at h
  have inj : ∀ a b, a < 1067 → b < 1067 → gLo a = gLo b → gn a = gn b := by
    intro a b ha hb hab
    rw [(g_eq ha).1, (g_eq hb).1] at hab
    have ga := gn_b ha
    have gb := gn_b hb
    have : ∀ m n : Fin 8, eN m.val = eN n.val → m.val = n.val := by decide
    exact this ⟨gn a, by omega⟩ ⟨gn b, by omega⟩ hab
  have q1 : tQ i < 1067 := h.1.2
  have q2 : tM i < 1067 := h.2.2
  exact ⟨⟨inj _ _ q1 hi h.1.1, q1⟩, ⟨inj _ _ q2 hi h.2.1, q2⟩⟩
theorem tb_Lf {i s : Nat} : tbN (Lt i) s = bt (Lf i) s := by
  rw [tbN_eq]; exact (bt_ofN (Lt_lt i) s).symm
theorem Lf_q {i : Nat} (hi : i < 1067) : qf (Lf i) = Lf (tQ i) := by
  have hf := Lf_FIG hi
  have gq := (gN_eq hi).1
  have hg := Lf_FIG gq.2
  have hc : cnt (Lf (tQ i)) = cnt (Lf i) := by rw [Lf_cnt gq.2, Lf_cnt hi, gq.1]
  have hh : ∀ s, bt (Lf i) s = true → s / 8 ≤ hgN (Lt i) - 1 := by
    intro s hs
    rw [← tb_Lf, tbN_eq] at hs
    have p := Nat.ge_two_pow_of_testBit hs
    have n0 : Lt i ≠ 0 := fun e => by rw [e, Nat.zero_testBit] at hs; cases hs
    have := (Nat.le_log2 n0).mpr p
    unfold hgN
    have := Nat.div_le_div_right (c := 8) this
    omega
  have h6 : hgN (Lt i) - 1 ≤ 6 := by
    unfold hgN
    have n0 : Lt i ≠ 0 := fun e => hf.ne (by unfold Lf; rw [e]; rfl)
    have := (Nat.log2_lt n0).mpr (Lt_lt i)
    omega
  have key : ∀ s, bt (Lf i) s = true → bt (Lf (tQ i)) (8 * (s % 8) + (hgN (Lt i) - 1 - s / 8)) = true := by
    intro s hs
    have s77 := hf.1 s hs
    have := chQ_ok ⟨i / 32, by omega⟩ ⟨i % 32, by omega⟩ ⟨s, s77.2⟩
    have e : 32 * (i / 32) + i % 32 = i := by omega
    simp only [e] at this
    have h := this hi
    unfold chQ at h
    rw [tb_Lf, hs, Bool.not_true, Bool.false_or, tb_Lf] at h
    exact h
  have all := img_all (f := Lf i) (g := Lf (tQ i)) (fun s => 8 * (s % 8) + (hgN (Lt i) - 1 - s / 8)) (fun j => 8 * (hgN (Lt i) - 1 - j % 8) + j / 8) (fun s hs => by have := hf.1 s hs; omega) key (fun s hs => by
    have a := hf.1 s hs
    have b := hh s hs
    show 8 * (hgN (Lt i) - 1 - (8 * (s % 8) + (hgN (Lt i) - 1 - s / 8)) % 8) + (8 * (s % 8) + (hgN (Lt i) - 1 - s / 8)) / 8 = s
    generalize hgN (Lt i) - 1 = H at b h6
    rw [show (8 * (s % 8) + (H - s / 8)) % 8 = H - s / 8 by omega, show (8 * (s % 8) + (H - s / 8)) / 8 = s % 8 by omega]
    omega) hc
  obtain ⟨u, v, hp⟩ := qf_pt hf
  refine FIG_tr hg (qf_F hf) (a := ((hgN (Lt i) - 1 : Nat) : Int) - v) (b := u) (fun X Y => ?_)
  rw [hp]
  constructor
  · rintro ⟨s, hs, e1, e2⟩
    have a := hf.1 s hs
    have b := hh s hs
    exact ⟨8 * (s % 8) + (hgN (Lt i) - 1 - s / 8), (all _).mpr ⟨s, hs, rfl⟩, by omega, by omega⟩
  · rintro ⟨j, hj, e1, e2⟩
    obtain ⟨s, hs, rfl⟩ := (all j).mp hj
    have a := hf.1 s hs
    have b := hh s hs
    exact ⟨s, hs, by omega, by omega⟩
theorem co_bit {N x s : Nat} (hx : x < 7) (hs : s < 56) (h : N.testBit s = true) (e : s % 8 = x) : coN N x = false := by
  cases hc : coN N x with
  | false => rfl
  | true =>
    unfold coN at hc
    rw [Nat.beq_eq] at hc
    have := congrArg (fun z => Nat.testBit z s) hc
    simp only [Nat.testBit_and, Nat.zero_testBit] at this
    rw [h, Bool.true_and] at this
    have t : ∀ x : Fin 7, ∀ s : Fin 56, s.val % 8 = x.val → Nat.testBit (282578800148737 <<< x.val) s.val = true := by decide +kernel
    rw [t ⟨x, hx⟩ ⟨s, hs⟩ e] at this
    cases this
theorem wg_bit {N s : Nat} (hs : s < 56) (h7 : s % 8 < 7) (h : N.testBit s = true) : s % 8 ≤ wgN N - 1 ∧ wgN N ≤ 7 := by
  have c : coN N (s % 8) = false := co_bit h7 hs h rfl
  unfold wgN
  generalize s % 8 = x at c h7
  match x, h7 with
  | 0, _ => cases coN N 6 <;> cases coN N 5 <;> cases coN N 4 <;> cases coN N 3 <;> cases coN N 2 <;> cases coN N 1 <;> decide
  | 1, _ => rw [c]; cases coN N 6 <;> cases coN N 5 <;> cases coN N 4 <;> cases coN N 3 <;> cases coN N 2 <;> decide
  | 2, _ => rw [c]; cases coN N 6 <;> cases coN N 5 <;> cases coN N 4 <;> cases coN N 3 <;> cases coN N 1 <;> decide
  | 3, _ => rw [c]; cases coN N 6 <;> cases coN N 5 <;> cases coN N 4 <;> cases coN N 2 <;> cases coN N 1 <;> decide
  | 4, _ => rw [c]; cases coN N 6 <;> cases coN N 5 <;> cases coN N 3 <;> cases coN N 2 <;> cases coN N 1 <;> decide
  | 5, _ => rw [c]; cases coN N 6 <;> cases coN N 4 <;> cases coN N 3 <;> cases coN N 2 <;> cases coN N 1 <;> decide
  | 6, _ => rw [c]; cases coN N 5 <;> cases coN N 4 <;> cases coN N 3 <;> cases coN N 2 <;> cases coN N 1 <;> decide
  | n + 7, h => omega
theorem Lf_m {i : Nat} (hi : i < 1067) : mf (Lf i) = Lf (tM i) := by
  have hf := Lf_FIG hi
  have gq := (gN_eq hi).2
  have hg := Lf_FIG gq.2
  have hc : cnt (Lf (tM i)) = cnt (Lf i) := by rw [Lf_cnt gq.2, Lf_cnt hi, gq.1]
  have hh : ∀ s, bt (Lf i) s = true → s % 8 ≤ wgN (Lt i) - 1 ∧ wgN (Lt i) ≤ 7 := by
    intro s hs
    have a := hf.1 s hs
    rw [← tb_Lf, tbN_eq] at hs
    exact wg_bit a.2 a.1 hs
  have key : ∀ s, bt (Lf i) s = true → bt (Lf (tM i)) (8 * (s / 8) + (wgN (Lt i) - 1 - s % 8)) = true := by
    intro s hs
    have s77 := hf.1 s hs
    have := chM_ok ⟨i / 32, by omega⟩ ⟨i % 32, by omega⟩ ⟨s, s77.2⟩
    have e : 32 * (i / 32) + i % 32 = i := by omega
    simp only [e] at this
    have h := this hi
    unfold chM at h
    rw [tb_Lf, hs, Bool.not_true, Bool.false_or, tb_Lf] at h
    exact h
  have all := img_all (f := Lf i) (g := Lf (tM i)) (fun s => 8 * (s / 8) + (wgN (Lt i) - 1 - s % 8)) (fun j => 8 * (j / 8) + (wgN (Lt i) - 1 - j % 8)) (fun s hs => by have := hf.1 s hs; have := hh s hs; omega) key (fun s hs => by
    have a := hf.1 s hs
    have b := hh s hs
    show 8 * ((8 * (s / 8) + (wgN (Lt i) - 1 - s % 8)) / 8) + (wgN (Lt i) - 1 - (8 * (s / 8) + (wgN (Lt i) - 1 - s % 8)) % 8) = s
    have b1 := b.1
    have b2 : wgN (Lt i) - 1 ≤ 6 := by omega
    generalize wgN (Lt i) - 1 = H at b1 b2
    rw [show (8 * (s / 8) + (H - s % 8)) % 8 = H - s % 8 by omega, show (8 * (s / 8) + (H - s % 8)) / 8 = s / 8 by omega]
    omega) hc
  obtain ⟨u, v, hp⟩ := mf_pt hf
  refine FIG_tr hg (mf_F hf) (a := ((wgN (Lt i) - 1 : Nat) : Int) - u) (b := v) (fun X Y => ?_)
  rw [hp]
  constructor
  · rintro ⟨s, hs, e1, e2⟩
    have a := hf.1 s hs
    have b := hh s hs
    exact ⟨8 * (s / 8) + (wgN (Lt i) - 1 - s % 8), (all _).mpr ⟨s, hs, rfl⟩, by omega, by omega⟩
  · rintro ⟨j, hj, e1, e2⟩
    obtain ⟨s, hs, rfl⟩ := (all j).mp hj
    have a := hf.1 s hs
    have b := hh s hs
    exact ⟨s, hs, by omega, by omega⟩
