/-! parts of figures, moved and turned -/
theorem STL_tr {b R : Int64} (h : STL b R) : ∃ α β : Int, ∀ X Y, hB R X Y = hB b (X + α) (Y + β) := by
  obtain ⟨r, c', _, _, hc8, hall, hR⟩ := STL_img h
  refine ⟨c', r, fun X Y => ?_⟩
  apply bool_iff
  rw [hB_t, hB_t]
  constructor
  · rintro ⟨x1, y1, a1, a2, rfl, rfl, a3⟩
    obtain ⟨j, j1, j2⟩ := (hR _).mp a3
    have j3 := hall j j1
    have j4 := bt_lt j1
    exact ⟨j % 8, j / 8, by omega, by omega, by omega, by omega, by rw [show 8 * (j / 8) + j % 8 = j by omega]; exact j1⟩
  · rintro ⟨x1, y1, a1, a2, a4, a5, a3⟩
    have j3 := hall _ a3
    exact ⟨x1 - c', y1 - r, by omega, by omega, by omega, by omega, (hR _).mpr ⟨_, a3, by omega⟩⟩
theorem CON_tr {f g : Int64} {a b : Int} (h : ∀ X Y, hB g X Y = hB f (X + a) (Y + b)) (hf : CON f) : CON g := by
  rw [CON_i] at hf ⊢
  constructor
  · obtain ⟨k, hk⟩ := low_ex hf.1
    have := hB_bt hk.2.1
    refine ne0_hB (X := ((k % 8 : Nat) : Int) - a) (Y := ((k / 8 : Nat) : Int) - b) ?_
    rw [h, show ((k % 8 : Nat) : Int) - a + a = ((k % 8 : Nat) : Int) by omega, show ((k / 8 : Nat) : Int) - b + b = ((k / 8 : Nat) : Int) by omega]
    exact this
  · intro T ⟨X, Y, h1, h2⟩ hs X' Y' h3
    have := hf.2 (fun X Y => T (X - a) (Y - b)) ⟨X + a, Y + b, by rw [← h]; exact h1, by
      show T (X + a - a) (Y + b - b)
      rw [show X + a - a = X by omega, show Y + b - b = Y by omega]; exact h2⟩ (fun p q p' q' e1 e2 e3 e4 => hs _ _ _ _ (by
        rw [h, show p - a + a = p by omega, show q - b + b = q by omega]; exact e1) (by
        rw [h, show p' - a + a = p' by omega, show q' - b + b = q' by omega]; exact e2) (by unfold adjI at e3 ⊢; omega) e4) (X' + a) (Y' + b) (by rw [← h]; exact h3)
    have this' : T (X' + a - a) (Y' + b - b) := this
    rw [show X' + a - a = X' by omega, show Y' + b - b = Y' by omega] at this'
    exact this'
theorem mf_pt {f : Int64} (hf : FIG f) : ∃ u v : Int, ∀ X Y, pt (mf f) X Y ↔ pt f (u - X) (Y + v) := by
  obtain ⟨r, c, _, _, hc8, hb, hR⟩ := STL_img (mf_spec hf).2.2.2.2
  have h77 := hf.1
  refine ⟨7 - c, r, fun X Y => ⟨?_, ?_⟩⟩
  · rintro ⟨i, hi, rfl, rfl⟩
    obtain ⟨j, hj, rfl⟩ := (hR i).mp hi
    have a1 := hb j hj
    obtain ⟨z, hz, rfl⟩ := (flp_img j).mp hj
    have := h77 z hz
    exact ⟨z, hz, by omega, by omega⟩
  · rintro ⟨z, hz, h1, h2⟩
    have := h77 z hz
    have hj : bt (flp f) (8 * (z / 8) + (7 - z % 8)) = true := (flp_img _).mpr ⟨z, hz, rfl⟩
    have a1 := hb _ hj
    exact ⟨_, (hR _).mpr ⟨_, hj, rfl⟩, by omega, by omega⟩
theorem mf2 {f : Int64} (hf : FIG f) : mf (mf f) = f := by
  have f1 := mf_F hf
  have f2 := mf_F f1
  obtain ⟨u1, v1, h1⟩ := mf_pt hf
  obtain ⟨u2, v2, h2⟩ := mf_pt f1
  refine FIG_tr hf f2 (a := u1 - u2) (b := v2 + v1) (fun X Y => ?_)
  rw [h2, h1, show u1 - (u2 - X) = X + (u1 - u2) by omega, show Y + v2 + v1 = Y + (v2 + v1) by omega]
def SBT (a b : Int64) : Prop := ∃ α β : Int, ∀ X Y, hB a X Y = true → hB b (X + α) (Y + β) = true
theorem SBT_qf {a b : Int64} (ha : FIG a) (hb : FIG b) (h : SBT a b) : SBT (qf a) (qf b) := by
  obtain ⟨α, β, h⟩ := h
  obtain ⟨u1, v1, h1⟩ := qf_pt ha
  obtain ⟨u2, v2, h2⟩ := qf_pt hb
  refine ⟨v2 - v1 - β, u1 + α - u2, fun X Y q => ?_⟩
  rw [← pt_hB, h1, pt_hB] at q
  have := h _ _ q
  rw [← pt_hB, h2, pt_hB]
  rw [show Y + (u1 + α - u2) + u2 = Y + u1 + α by omega, show v2 - (X + (v2 - v1 - β)) = v1 - X + β by omega]
  exact this
theorem SBT_mf {a b : Int64} (ha : FIG a) (hb : FIG b) (h : SBT a b) : SBT (mf a) (mf b) := by
  obtain ⟨α, β, h⟩ := h
  obtain ⟨u1, v1, h1⟩ := mf_pt ha
  obtain ⟨u2, v2, h2⟩ := mf_pt hb
  refine ⟨u2 - u1 - α, v1 + β - v2, fun X Y q => ?_⟩
  rw [← pt_hB, h1, pt_hB] at q
  have := h _ _ q
  rw [← pt_hB, h2, pt_hB]
  rw [show Y + (v1 + β - v2) + v2 = Y + v1 + β by omega, show u2 - (X + (u2 - u1 - α)) = u1 - X + α by omega]
  exact this
theorem SBT_T0 {a b : Int64} (ha : FIG a) (hb : FIG b) (h : SBT a b) (t : Nat) : SBT (T0 a t) (T0 b t) := by
  have h1 := SBT_qf ha hb h
  have h2 := SBT_qf (qf_F ha) (qf_F hb) h1
  have h3 := SBT_qf (qf_F (qf_F ha)) (qf_F (qf_F hb)) h2
  match t with
  | 0 => exact h
  | 1 => exact h1
  | 2 => exact h2
  | _ + 3 => exact h3
theorem SBT_tnd {a b : Int64} (ha : FIG a) (hb : FIG b) (h : SBT a b) (t : Nat) : SBT (tnd a t) (tnd b t) := by
  unfold tnd
  split
  · exact SBT_T0 ha hb h t
  · exact SBT_T0 (mf_F ha) (mf_F hb) (SBT_mf ha hb h) _
theorem tnd_cnt {f : Int64} (hf : FIG f) (t : Nat) : cnt (tnd f t) = cnt f := by
  unfold tnd
  split
  · exact T0_cnt hf t
  · rw [T0_cnt (mf_F hf)]; exact (mf_spec hf).2.2.2.1
/-- turned back -/
noncomputable def bck (g : Int64) (t : Nat) : Int64 := match t with
  | 0 => g
  | 1 => qf (qf (qf g))
  | 2 => qf (qf g)
  | 3 => qf g
  | 4 => mf g
  | 5 => mf (qf (qf (qf g)))
  | 6 => mf (qf (qf g))
  | _ => mf (qf g)
theorem bck_F {g : Int64} (hg : FIG g) (t : Nat) : FIG (bck g t) := by
  have h1 := qf_F hg
  have h2 := qf_F h1
  have h3 := qf_F h2
  match t with
  | 0 => exact hg
  | 1 => exact h3
  | 2 => exact h2
  | 3 => exact h1
  | 4 => exact mf_F hg
  | 5 => exact mf_F h3
  | 6 => exact mf_F h2
  | _ + 7 => exact mf_F h1
theorem bck_S {a b : Int64} (ha : FIG a) (hb : FIG b) (h : SBT a b) (t : Nat) : SBT (bck a t) (bck b t) := by
  have h1 := SBT_qf ha hb h
  have h2 := SBT_qf (qf_F ha) (qf_F hb) h1
  have h3 := SBT_qf (qf_F (qf_F ha)) (qf_F (qf_F hb)) h2
  match t with
  | 0 => exact h
  | 1 => exact h3
  | 2 => exact h2
  | 3 => exact h1
  | 4 => exact SBT_mf ha hb h
  | 5 => exact SBT_mf (qf_F (qf_F (qf_F ha))) (qf_F (qf_F (qf_F hb))) h3
  | 6 => exact SBT_mf (qf_F (qf_F ha)) (qf_F (qf_F hb)) h2
  | _ + 7 => exact SBT_mf (qf_F ha) (qf_F hb) h1
theorem tnd_bck {g : Int64} (hg : FIG g) {t : Nat} (ht : t < 8) : tnd (bck g t) t = g := by
  have h1 := qf_F hg
  have h2 := qf_F h1
  have h3 := qf_F h2
  match t, ht with
  | 0, _ => rfl
  | 1, _ => exact qf4 hg
  | 2, _ => exact qf4 hg
  | 3, _ => exact qf4 hg
  | 4, _ => exact mf2 hg
  | 5, _ => show qf (mf (mf (qf (qf (qf g))))) = g; rw [mf2 h3]; exact qf4 hg
  | 6, _ => show qf (qf (mf (mf (qf (qf g))))) = g; rw [mf2 h2]; exact qf4 hg
  | 7, _ => show qf (qf (qf (mf (mf (qf g))))) = g; rw [mf2 h1]; exact qf4 hg
  | n + 8, h => omega
theorem bck_tnd {g : Int64} (hg : FIG g) {t : Nat} (ht : t < 8) : bck (tnd g t) t = g := by
  have m := mf_F hg
  match t, ht with
  | 0, _ => rfl
  | 1, _ => exact qf4 hg
  | 2, _ => exact qf4 hg
  | 3, _ => exact qf4 hg
  | 4, _ => exact mf2 hg
  | 5, _ => show mf (qf (qf (qf (qf (mf g))))) = g; rw [qf4 m]; exact mf2 hg
  | 6, _ => show mf (qf (qf (qf (qf (mf g))))) = g; rw [qf4 m]; exact mf2 hg
  | 7, _ => show mf (qf (qf (qf (qf (mf g))))) = g; rw [qf4 m]; exact mf2 hg
  | n + 8, h => omega
/-! boards of sets -/
noncomputable def brN (f : Int64) (s : Nat) : Nat → Int64
  | 0 => 0
  | m + 1 => if s.testBit m then brN f s m ||| sl 1 (nI (ith f m)) else brN f s m
noncomputable def brd (f : Int64) (s : Nat) : Int64 := brN f s (cnt f)
theorem brN_bt (f : Int64) (s : Nat) : ∀ m, m ≤ cnt f → ∀ k, bt (brN f s m) k = true ↔ ∃ i, i < m ∧ s.testBit i = true ∧ ith f i = k
  | 0, _, k => by
    show bt 0 k = true ↔ _
    rw [bt_zero]
    exact ⟨(fun h => by cases h), (fun ⟨i, h, _⟩ => by omega)⟩
  | m + 1, hm, k => by
    have ih := brN_bt f s m (by omega) k
    have m64 := bt_lt (ith_bt (f := f) (i := m) (by omega))
    show bt (if s.testBit m then brN f s m ||| sl 1 (nI (ith f m)) else brN f s m) k = true ↔ _
    cases hs : s.testBit m with
    | true =>
      rw [if_pos rfl, bt_or, Bool.or_eq_true, ih, bt_one m64]
      constructor
      · rintro (⟨i, a, b, c⟩ | rfl)
        · exact ⟨i, by omega, b, c⟩
        · exact ⟨m, by omega, hs, rfl⟩
      · rintro ⟨i, a, b, c⟩
        rcases Nat.lt_or_ge i m with q | q
        · exact Or.inl ⟨i, q, b, c⟩
        · have : i = m := by omega
          subst this; exact Or.inr c.symm
    | false =>
      rw [if_neg (by decide), ih]
      constructor
      · rintro ⟨i, a, b, c⟩; exact ⟨i, by omega, b, c⟩
      · rintro ⟨i, a, b, c⟩
        rcases Nat.lt_or_ge i m with q | q
        · exact ⟨i, q, b, c⟩
        · have : i = m := by omega
          subst this; rw [hs] at b; cases b
theorem brd_bt {f : Int64} {s k : Nat} : bt (brd f s) k = true ↔ ∃ i, i < cnt f ∧ s.testBit i = true ∧ ith f i = k := brN_bt f s (cnt f) (Nat.le_refl _) k
theorem brd_sub (f : Int64) (s : Nat) : sub (brd f s) f := by
  intro k hk
  obtain ⟨i, a, _, rfl⟩ := brd_bt.mp hk
  exact ith_bt a
theorem ith_inj {f : Int64} {i j : Nat} (hi : i < cnt f) (hj : j < cnt f) (h : ith f i = ith f j) : i = j := by
  rcases Nat.lt_trichotomy i j with q | q | q
  · have := ith_mono q hj; omega
  · exact q
  · have := ith_mono q hi; omega
theorem brN_cnt (f : Int64) (s : Nat) : ∀ m, m ≤ cnt f → cnt (brN f s m) = fb_ct (fun i => s.testBit i) m
  | 0, _ => cnt_zero
  | m + 1, hm => by
    have ih := brN_cnt f s m (by omega)
    have m64 := bt_lt (ith_bt (f := f) (i := m) (by omega))
    rw [fb_ct_succ, ← ih]
    show cnt (if s.testBit m then brN f s m ||| sl 1 (nI (ith f m)) else brN f s m) = _
    cases hs : s.testBit m with
    | true =>
      rw [if_pos rfl, or_cnt m64]
      · rfl
      · refine bf_of (fun h => ?_)
        obtain ⟨i, a, b, c⟩ := (brN_bt f s m (by omega) _).mp h
        have := ith_inj (show i < cnt f by omega) (show m < cnt f by omega) c
        omega
    | false => rw [if_neg (by decide)]; rfl
theorem brd_cnt {f : Int64} (hf : FIG f) {s : Nat} (hs : s < 2 ^ cnt f) : cnt (brd f s) = pc s := by
  have n12 := hf.2.2.2.1
  unfold brd pc
  rw [brN_cnt f s _ (Nat.le_refl _)]
  exact (ct_gap n12 (fun q h1 _ => Nat.testBit_lt_two_pow (Nat.lt_of_lt_of_le hs (Nat.pow_le_pow_right (n := 2) (by omega) h1)))).symm
theorem ex_bits (p : Nat → Bool) : ∀ n, ∃ s, s < 2 ^ n ∧ ∀ i, i < n → s.testBit i = p i
  | 0 => ⟨0, by decide, fun i h => by omega⟩
  | n + 1 => by
    obtain ⟨s, h1, h2⟩ := ex_bits p n
    have e : 2 ^ (n + 1) = 2 * 2 ^ n := by rw [Nat.pow_succ]; omega
    cases hp : p n with
    | true =>
      refine ⟨s ||| 2 ^ n, Nat.or_lt_two_pow (by omega) (by omega), fun i hi => ?_⟩
      rw [fb_bit_set]
      by_cases q : i = n
      · subst q; rw [decide_eq_true rfl, hp, Bool.or_true]
      · rw [decide_eq_false q, Bool.or_false, h2 i (by omega)]
    | false =>
      refine ⟨s, by omega, fun i hi => ?_⟩
      by_cases q : i = n
      · subst q; rw [hp]; exact Nat.testBit_lt_two_pow h1
      · exact h2 i (by omega)
theorem brd_onto {f g : Int64} (h : sub g f) : ∃ s, s < 2 ^ cnt f ∧ brd f s = g := by
  obtain ⟨s, h1, h2⟩ := ex_bits (fun i => bt g (ith f i)) (cnt f)
  refine ⟨s, h1, bt_ext (fun k _ => bool_iff ?_)⟩
  rw [brd_bt]
  constructor
  · rintro ⟨i, a, b, rfl⟩
    rw [h2 i a] at b; exact b
  · intro hk
    obtain ⟨i, a, rfl⟩ := ith_all (h k hk)
    exact ⟨i, a, by rw [h2 i a]; exact hk, rfl⟩
theorem figureOf_eq {f : Int64} (hf : FIG f) {a : Nat → Int32} (ha : CAt f (cnt f) a) {s : Nat} (hs : s < 2 ^ 31) : mo_figureOf (nI s) (nI (cnt f)) a = some (brd f s) := by
  have n12 := hf.2.2.2.1
  unfold mo_figureOf
  refine crs2 (B := mo_figureOf_B5 (nI s) (nI (cnt f)) a) (brN f s) nI (cnt f) (fun i hi k => ?_) (fun k => ?_) FU (FU_lt (by omega))
  · rw [mo_figureOf_B5, if_neg (nI_ge hi (by omega)), mo_has_n hs (by omega), bd1_some]
    show _ = k (if s.testBit i then brN f s i ||| sl 1 (nI (ith f i)) else brN f s i) (nI (i + 1))
    cases s.testBit i with
    | false =>
      rw [if_pos (by decide), mo_figureOf_J38, nm_eq, nm_eq, o1, if_neg (by decide), show brN f s i ||| (0 : Int64) = brN f s i from bt_ext (fun j _ => by rw [bt_or, bt_zero, Bool.or_false])]
    | true =>
      rw [if_neg (by decide), ck_n (show i < 12 by omega) (by omega), cl_n (by omega), ha i hi, mo_figureOf_J38, nm_eq, nm_eq, o1, if_pos rfl]
  · rw [mo_figureOf_B5, if_pos (nI_le (Nat.le_refl _) (by omega))]; rfl
theorem boardOf_eq {f : Int64} (hf : FIG f) {a : Nat → Int64} (ha : PCl f (cnt f) a) {s : Nat} (hs : s < 2 ^ 31) : pa_boardOf (nI s) (nI (cnt f)) a = some (brd f s) := by
  have n12 := hf.2.2.2.1
  unfold pa_boardOf
  refine crs2 (B := pa_boardOf_B5 (nI s) (nI (cnt f)) a) (brN f s) nI (cnt f) (fun i hi k => ?_) (fun k => ?_) FU (FU_lt (by omega))
  · rw [pa_boardOf_B5, if_neg (nI_ge hi (by omega)), ir_n hs (by omega)]
    show _ = k (if s.testBit i then brN f s i ||| sl 1 (nI (ith f i)) else brN f s i) (nI (i + 1))
    cases s.testBit i with
    | false =>
      rw [if_pos (by decide), pa_boardOf_J33, nm_eq, o1, if_neg (by decide)]
    | true =>
      rw [if_neg (by decide), ck_n (show i < 12 by omega) (by omega), cl_n (by omega), ha i hi, nm_eq, pa_boardOf_J33, nm_eq, o1, if_pos rfl]
  · rw [pa_boardOf_B5, if_pos (nI_le (Nat.le_refl _) (by omega))]; rfl
/-! the largest part of a board that hangs together -/
theorem CnS_sub {H P : Int64} (hs : sub P H) (hP : CON P) {a b : Nat} (ha : bt P a = true) (hb : bt P b = true) : CnS H a b :=
  hP.2 (fun b => CnS H a b) ⟨a, ha, CnS_refl (hs a ha)⟩ (fun p q _ hq hpq hT => CnS_step hT (hs q hq) hpq) b hb
theorem lpart_go {H : Int64} (hH : C7 H) : ∀ (n i : Nat) (rest : Int64) (c k0 : Nat), sub rest H → (∀ a b, bt rest a = true → bt H b = true → adj a b → bt rest b = true) → k0 ≤ c → c ≤ 64 → (∀ P, sub P H → CON P → (∃ a, bt P a = true ∧ bt rest a = false) → cnt P ≤ c) → (c = k0 ∨ ∃ P, sub P H ∧ CON P ∧ cnt P = c) → i + cnt rest ≤ 64 → 64 - i < n → ∃ L, L ≤ 64 ∧ fl3 me_largestPart_B8 n (nI c) rest (nI i) = some (nI L) ∧ k0 ≤ L ∧ (∀ P, sub P H → CON P → cnt P ≤ L) ∧ (L = k0 ∨ ∃ P, sub P H ∧ CON P ∧ cnt P = L) := by
  intro n
  induction n with
  | zero => intro i rest c k0 _ _ _ _ _ _ _ h; omega
  | succ n ih =>
    intro i rest c k0 hs hcl hk0 hc hP hex hi hn
    have r64 := cnt_le rest
    have fin : cnt rest ≤ c → ∀ P, sub P H → CON P → cnt P ≤ c := by
      intro hr P h1 h2
      by_cases q : ∃ a, bt P a = true ∧ bt rest a = false
      · exact hP P h1 h2 q
      · have : sub P rest := fun a ha => by
          cases hb : bt rest a with
          | true => rfl
          | false => exact absurd ⟨a, ha, hb⟩ q
        have := cnt_mono this
        omega
    show ∃ L, L ≤ 64 ∧ me_largestPart_B8 (fl3 me_largestPart_B8 n) (nI c) rest (nI i) = some (nI L) ∧ _
    rw [me_largestPart_B8]
    by_cases q64 : 64 ≤ i
    · rw [if_pos (show (64 : Int32) ≤ nI i from nI_le (a := 64) (b := i) q64 (by omega))]
      exact ⟨c, hc, rfl, hk0, fin (by omega), hex⟩
    · rw [if_neg (show ¬ (64 : Int32) ≤ nI i from nI_ge (a := i) (b := 64) (by omega) (by omega)), jl_bitCount_eq, bd1_some]
      by_cases qr : cnt rest ≤ c
      · rw [if_pos (nI_le qr (by omega))]
        exact ⟨c, hc, rfl, hk0, fin qr, hex⟩
      · rw [if_neg (nI_ge (by omega) (by omega))]
        have h0 : rest ≠ 0 := fun e => by rw [e, cnt_zero] at qr; omega
        obtain ⟨k, hk⟩ := low_ex h0
        obtain ⟨R, h1, h2⟩ := gr_reach_eq (S := rest &&& -rest) (hH.sub hs)
        have hl := lowest_bits hk
        have kH := hs k hk.2.1
        have hR : ∀ j, bt R j = true ↔ CnS H k j := by
          intro j
          rw [h2 j]
          constructor
          · intro hc'
            exact hc'.2 (fun j => CnS H k j) (fun a ha _ => by rw [(hl a).mp ha]; exact CnS_refl kH) (fun a b _ hb hab hT => CnS_step hT (hs b hb) hab)
          · intro hc'
            exact hc'.2.2 (fun j => ClS (rest &&& -rest) rest j) ⟨hk.2.1, fun T t1 _ => t1 k ((hl k).mpr rfl) hk.2.1⟩ (fun a b _ hb hab hT => by
              have hb2 := hcl a b hT.1 hb hab
              exact ⟨hb2, fun T t1 t2 => t2 a b hT.1 hb2 hab (hT.2 T t1 t2)⟩)
        have back : ∀ j, CnS H k j → bt rest j = true := fun j hj => hj.2.2 (fun x => bt rest x = true) hk.2.1 (fun a b _ hb hab hT => hcl a b hT hb hab)
        have hr' : ∀ j, bt (rest ^^^ R) j = true ↔ bt rest j = true ∧ ¬ CnS H k j := by
          intro j
          rw [bt_xor, ← hR j]
          cases hb : bt rest j with
          | true => cases hc' : bt R j <;> simp
          | false =>
            have : bt R j = false := bf_of (fun h => by have := back j ((hR j).mp h); rw [hb] at this; cases this)
            rw [this]; simp
        have RH : sub R H := fun j hj => ((hR j).mp hj).2.1
        have RC : CON R := by
          refine ⟨fun e => ?_, fun T ⟨a, ha, hT⟩ hst b hb => ?_⟩
          · have := (hR k).mpr (CnS_refl kH)
            rw [e, bt_zero] at this; cases this
          · have ab : CnS H a b := CnS_trans (CnS_symm ((hR a).mp ha)) ((hR b).mp hb)
            have := ab.2.2 (fun x => bt R x = true ∧ T x) ⟨ha, hT⟩ (fun p q _ hq hpq hx => by
              have hq2 : bt R q = true := (hR q).mpr (CnS_step ((hR p).mp hx.1) hq hpq)
              exact ⟨hq2, hst p q hx.1 hq2 hpq hx.2⟩)
            exact this.2
        have R64 := cnt_le R
        have mx : mxI (nI c) (nI (cnt R)) = nI (max c (cnt R)) := by
          unfold mxI
          by_cases q : c < cnt R
          · rw [if_pos (nI_lt q (by omega)), Nat.max_eq_right (by omega)]
          · rw [if_neg (nI_nlt (by omega) (by omega)), Nat.max_eq_left (by omega)]
        have cl : cnt (rest ^^^ R) < cnt rest := cnt_lt (fun j hj => ((hr' j).mp hj).1) (fun e => by
          have : bt (rest ^^^ R) k = true := by rw [e]; exact hk.2.1
          exact ((hr' k).mp this).2 (CnS_refl kH))
        rw [h1, bd1_some, jl_bitCount_eq, bd1_some, nm_eq, nm_eq, nm_eq, o1, mx]
        refine ih (i + 1) _ (max c (cnt R)) k0 (fun j hj => hs j ((hr' j).mp hj).1) (fun a b ha hb hab => ?_) (by omega) (by omega) (fun P p1 p2 ⟨a, p3, p4⟩ => ?_) ?_ (by omega) (by omega)
        · have ha' := (hr' a).mp ha
          exact (hr' b).mpr ⟨hcl a b ha'.1 hb hab, fun h => ha'.2 (CnS_step h (hs a ha'.1) (adj_symm hab))⟩
        · by_cases q : bt rest a = true
          · have ca : CnS H k a := Classical.byContradiction (fun h => by rw [(hr' a).mpr ⟨q, h⟩] at p4; cases p4)
            have : sub P R := fun b hb => (hR b).mpr (CnS_trans ca (CnS_sub p1 p2 p3 hb))
            have := cnt_mono this
            omega
          · have := hP P p1 p2 ⟨a, p3, bf_of q⟩
            omega
        · rcases Nat.lt_or_ge c (cnt R) with q | q
          · exact Or.inr ⟨R, RH, RC, by omega⟩
          · rcases hex with e | ⟨P, p1, p2, p3⟩
            · exact Or.inl (by omega)
            · exact Or.inr ⟨P, p1, p2, by omega⟩
theorem lpart_eq {H : Int64} (hH : C7 H) {k0 : Nat} (hk : k0 ≤ 64) : ∃ L, L ≤ 64 ∧ me_largestPart H (nI k0) = some (nI L) ∧ k0 ≤ L ∧ (∀ P, sub P H → CON P → cnt P ≤ L) ∧ (L = k0 ∨ ∃ P, sub P H ∧ CON P ∧ cnt P = L) := by
  have := cnt_le H
  exact lpart_go hH FU 0 H k0 k0 (fun _ h => h) (fun _ _ _ hb _ => hb) (Nat.le_refl _) hk (fun P h1 _ ⟨a, h3, h4⟩ => by rw [h1 a h3] at h4; cases h4) (Or.inl rfl) (by omega) (FU_lt (by omega))
