/-! rows of a figure's forms -/
theorem RI_skips {p : Nat → Bool} {F : Nat → Int64} {n e : Nat} {A : Nat → Int64} (h : RI p F n e A) : ∀ d, (∀ t, t < d → p (n + t) = false) → RI p F (n + d) e A
  | 0, _ => h
  | d + 1, hp => RI_skip (RI_skips h d (fun t ht => hp t (by omega))) (hp d (by omega))
theorem RI_tr {p : Nat → Bool} {F : Nat → Int64} {n e : Nat} {A : Nat → Int64} (h : RI p F n e A) (hp : p n = true) (hn : n < 64) : ∃ e' A', mo_comesIn_tried 0 (nI e) (F n) A = some (nI e', A') ∧ RI p F (n + 1) e' A' := by
  have he := h.2.1
  obtain ⟨e', A', a1, a2, a3, a4, a5, _⟩ := tried_eq (a := 0) (F n) h.1 (Nat.zero_le _) (show e < 64 by omega)
  exact ⟨e', A', a1, RI_put h hp a2 a3 a5⟩
theorem tnd_0 (f : Int64) : tnd f 0 = f := rfl
theorem tnd_4 (f : Int64) : tnd f 4 = mf f := rfl
theorem addForms_eq {f : Int64} (hf : FIG f) {al : Int32} (hal : al = 0 ∨ al = 1) {p : Nat → Bool} {F : Nat → Int64} {d e : Nat} {A : Nat → Int64} (hd : d < 8) (hr : RI p F (8 * d) e A) (hp : ∀ t, t < 8 → p (8 * d + t) = (decide (t = 0) || decide (al = 1))) (hF : ∀ t, t < 8 → F (8 * d + t) = tnd f t) : ∃ e' A', gw_addForms f al (nI e) A = some (nI e', A') ∧ RI p F (8 * (d + 1)) e' A' := by
  have hp0 : p (8 * d) = true := by have := hp 0 (by omega); simpa using this
  have hF0 : F (8 * d) = f := by have := hF 0 (by omega); exact this
  obtain ⟨e1, A1, a1, a2⟩ := RI_rw hr hp0 (by omega)
  rw [hF0] at a1
  rw [gw_addForms, a1, bd2_some]
  rcases hal with rfl | rfl
  · refine ⟨e1, A1, ?_, ?_⟩
    · rw [show fl4 (gw_addForms_B11 f 0) FU f 1 (nI e1) A1 = fl4 (gw_addForms_B11 f 0) FU ((fun _ => f) 0) ((fun _ => (1 : Int32)) 0) ((fun _ => nI e1) 0) ((fun _ => A1) 0) from rfl]
      refine crs4 (B := gw_addForms_B11 f 0) (fun _ => f) (fun _ => (1 : Int32)) (fun _ => nI e1) (fun _ => A1) 0 (fun i hi => by omega) (fun k => ?_) FU (FU_lt (by omega))
      rw [gw_addForms_B11, if_neg (by decide), if_pos rfl]
    · have := RI_skips a2 7 (fun t ht => by
        rw [show 8 * d + 1 + t = 8 * d + (t + 1) by omega, hp (t + 1) (by omega)]; simp)
      rw [show 8 * d + 1 + 7 = 8 * (d + 1) by omega] at this
      exact this
  · refine ivl4 (B := gw_addForms_B11 f 1) (fun i a b c x => a = tnd f i ∧ b = nI (i + 1) ∧ ∃ e, c = nI e ∧ RI p F (8 * d + (i + 1)) e x) (fun o => ∃ e' A', o = some (nI e', A') ∧ RI p F (8 * (d + 1)) e' A') 7 ?_ ?_ FU 0 _ _ _ _ (by omega) (FU_lt (by omega)) ⟨rfl, rfl, e1, rfl, a2⟩
    · rintro i hi a b c x k ⟨rfl, rfl, e, rfl, hr⟩
      obtain ⟨e', A', b1, b2⟩ := RI_rw hr (by rw [hp (i + 1) (by omega)]; simp) (by omega)
      rw [hF (i + 1) (by omega)] at b1
      rw [gw_addForms_B11, if_neg (show ¬ (8 : Int32) ≤ nI (i + 1) from nI_ge (a := i + 1) (b := 8) (by omega) (by omega)), if_neg (by decide)]
      by_cases q : i = 3
      · subst q
        rw [if_pos (show nI (3 + 1) = (4 : Int32) from rfl), (mf_spec hf).1, bd1_some, gw_addForms_J40, ← tnd_4 f, b1, bd2_some, nm_eq, o1]
        exact ⟨_, _, _, _, ⟨rfl, rfl, e', rfl, b2⟩, rfl⟩
      · rw [if_neg (show ¬ nI (i + 1) = (4 : Int32) from fun c => by have := (nI_eq (a := i + 1) (b := 4) (by omega) (by omega)).mp c; omega), (qf_spec (tnd_F hf i)).1, bd1_some, tnd_s f (by omega) q, gw_addForms_J40, b1, bd2_some, nm_eq, o1]
        exact ⟨_, _, _, _, ⟨rfl, rfl, e', rfl, b2⟩, rfl⟩
    · rintro a b c x k ⟨rfl, rfl, e, rfl, hr⟩
      rw [gw_addForms_B11, if_pos (show (8 : Int32) ≤ nI (7 + 1) from by decide)]
      exact ⟨e, x, rfl, hr⟩
/-! one figure in another -/
def LI (a g : Int64) (u v : Int) : Prop := ∀ X Y, hB a X Y = true → hB g (X + u) (Y + v) = true
noncomputable def liB (a g : Int64) (u v : Nat) : Bool := @decide (LI a g u v) (Classical.propDecidable _)
theorem liB_t {a g : Int64} {u v : Nat} : liB a g u v = true ↔ LI a g u v := by unfold liB; exact @decide_eq_true_iff _ (Classical.propDecidable _)
theorem liB_f {a g : Int64} {u v : Nat} : liB a g u v = false ↔ ¬ LI a g u v := by unfold liB; exact @decide_eq_false_iff_not _ (Classical.propDecidable _)
theorem LI_b {a g : Int64} (ha : FIG a) (hg : FIG g) {u v : Int} (h : LI a g u v) : 0 ≤ u ∧ u + wdt a ≤ wdt g ∧ 0 ≤ v ∧ v + hgt a ≤ hgt g := by
  have wa := wdt_b ha
  obtain ⟨y1, h1⟩ := (FIG_w ha (x := wdt a - 1) (by omega)).mpr (by omega)
  obtain ⟨x2, hx2, h2⟩ := (FIG_h ha (y := hgt a - 1) (by omega)).mpr (by omega)
  obtain ⟨x3, _, h3⟩ := ha.2.1
  obtain ⟨y4, _, h4⟩ := ha.2.2.1
  have b1 := bt_lt h1
  have b2 := bt_lt h2
  have c1 := hB_wh hg (h _ _ (hB_bt h1))
  have c2 := hB_wh hg (h _ _ (hB_bt h2))
  have c3 := hB_wh hg (h _ _ (hB_bt h3))
  have c4 := hB_wh hg (h _ _ (hB_bt h4))
  omega
theorem hB_sl {a : Int64} (ha : FIG a) {u v : Nat} (hu : u + wdt a ≤ 7) (hv : v + hgt a ≤ 7) (X Y : Int) : hB (sl a (nI (8 * v + u))) X Y = hB a (X - u) (Y - v) := by
  have wa := wdt_b ha
  apply bool_iff
  constructor
  · intro h
    obtain ⟨x, y, hx, hy, rfl, rfl, hb⟩ := hB_t.mp h
    rw [bt_sl a (by omega) (by omega), Bool.and_eq_true, decide_eq_true_eq] at hb
    have w := bt_wh ha hb.2
    have e := hB_bt hb.2
    rw [← e]
    congr 1 <;> omega
  · intro h
    have w := hB_wh ha h
    obtain ⟨x, y, hx, hy, ex, ey, hb⟩ := hB_t.mp h
    refine hB_t.mpr ⟨x + u, y + v, by omega, by omega, by omega, by omega, ?_⟩
    rw [bt_sl a (by omega) (by omega), decide_eq_true (by omega), Bool.true_and, show 8 * (y + v) + (x + u) - (8 * v + u) = 8 * y + x by omega]
    exact hb
theorem sub_0 (x g : Int64) : x &&& (g ^^^ (-1)) = 0 ↔ ∀ X Y, hB x X Y = true → hB g X Y = true := by
  rw [i64_eq0]
  constructor
  · intro h X Y hx
    obtain ⟨a, b, ha, hb, rfl, rfl, e⟩ := hB_t.mp hx
    have := h (8 * b + a) (by omega)
    rw [bt_and, bt_xor, bt_m1 (by omega), e] at this
    rw [hB_n g ha hb]
    cases hg : bt g (8 * b + a) with
    | true => rfl
    | false => rw [hg] at this; simp at this
  · intro h i hi
    rw [bt_and, bt_xor, bt_m1 hi]
    cases hx : bt x i with
    | false => rfl
    | true =>
      have := h _ _ (hB_bt hx)
      rw [hB_b g hi] at this
      rw [this]; rfl
theorem put_LI {a g : Int64} (ha : FIG a) {u v : Nat} (hu : u + wdt a ≤ 7) (hv : v + hgt a ≤ 7) : sl a (nI (8 * v + u)) &&& (g ^^^ (-1)) = 0 ↔ LI a g u v := by
  rw [sub_0]
  constructor
  · intro h X Y hx
    refine h _ _ ?_
    rw [hB_sl ha hu hv, show X + u - (u : Int) = X by omega, show Y + v - (v : Int) = Y by omega]
    exact hx
  · intro h X Y hx
    rw [hB_sl ha hu hv] at hx
    have := h _ _ hx
    rw [show X - u + (u : Int) = X by omega, show Y - v + (v : Int) = Y by omega] at this
    exact this
theorem sl_ne0 {a : Int64} (ha : FIG a) {u v : Nat} (hu : u + wdt a ≤ 7) (hv : v + hgt a ≤ 7) : sl a (nI (8 * v + u)) ≠ 0 := by
  obtain ⟨x3, _, h3⟩ := ha.2.1
  refine ne0_hB (X := ((x3 % 8 : Nat) : Int) + u) (Y := ((x3 / 8 : Nat) : Int) + v) ?_
  rw [hB_sl ha hu hv, show ((x3 % 8 : Nat) : Int) + u - (u : Int) = ((x3 % 8 : Nat) : Int) by omega, show ((x3 / 8 : Nat) : Int) + v - (v : Int) = ((x3 / 8 : Nat) : Int) by omega]
  exact hB_bt h3
theorem mo_putAt_eq {a : Int64} (ha : FIG a) {u v : Nat} (hu : u < 100) (hv : v < 100) : mo_putAt a (nI u) (nI v) = some (if u + wdt a ≤ 7 ∧ v + hgt a ≤ 7 then sl a (nI (8 * v + u)) else 0) := by
  have wa := wdt_b ha
  rw [mo_putAt, if_neg (nI_pos (by omega)), if_neg (nI_pos (by omega)), mo_wide_eq ha, bd1_some, mo_high_eq ha, bd1_some, nI_add, nI_add, ix_eq]
  by_cases q1 : u + wdt a ≤ 7
  · rw [if_neg (show ¬ (7 : Int32) < nI (u + wdt a) from nI_nlt (a := 7) (b := u + wdt a) q1 (by omega))]
    by_cases q2 : v + hgt a ≤ 7
    · rw [if_pos (show nI (v + hgt a) ≤ (7 : Int32) from nI_le (a := v + hgt a) (b := 7) q2 (by omega)), if_pos ⟨q1, q2⟩]
    · rw [if_neg (show ¬ nI (v + hgt a) ≤ (7 : Int32) from nI_ge (a := 7) (b := v + hgt a) (by omega) (by omega)), if_neg (fun c => q2 c.2)]
  · rw [if_pos (show (7 : Int32) < nI (u + wdt a) from nI_lt (a := 7) (b := u + wdt a) (by omega) (by omega)), if_neg (fun c => q1 c.1)]
noncomputable def lsR (a g : Int64) (v n : Nat) : Nat := fb_ct (fun u => liB a g u v) n
noncomputable def lsS (a g : Int64) (n : Nat) : Nat := fb_sm (fun v => lsR a g v 7) n
theorem mo_liesIn_eq {a g : Int64} (ha : FIG a) (hg : FIG g) : mo_liesIn a g = some (nI (lsS a g 7)) := by
  have wa := wdt_b ha
  have wg := wdt_b hg
  unfold mo_liesIn
  rw [show fl2 (mo_liesIn_B6 a g) FU 0 0 = fl2 (mo_liesIn_B6 a g) FU (nI (lsS a g 0)) (nI 0) from rfl]
  refine crs2 (B := mo_liesIn_B6 a g) (fun v => nI (lsS a g v)) nI 7 (fun v hv K => ?_) (fun K => ?_) FU (FU_lt (by omega))
  · rw [mo_liesIn_B6, if_neg (show ¬ (7 : Int32) ≤ nI v from nI_ge (a := v) (b := 7) hv (by omega)), show (0 : Int32) = nI 0 from nI_0.symm]
    refine crs2 (B := mo_liesIn_B16 a g (nI v) K) (fun u => nI (lsS a g v + lsR a g v u)) nI 7 (fun u hu k => ?_) (fun k => ?_) FU (FU_lt (by omega))
    · have es : lsR a g v (u + 1) = lsR a g v u + (if liB a g u v then 1 else 0) := fb_ct_succ _ _
      rw [mo_liesIn_B16, if_neg (show ¬ (7 : Int32) ≤ nI u from nI_ge (a := u) (b := 7) hu (by omega)), mo_putAt_eq ha (by omega) (by omega), bd1_some]
      simp only [mo_liesIn_J59, nm_eq, nI_1, o1]
      by_cases q : u + wdt a ≤ 7 ∧ v + hgt a ≤ 7
      · rw [if_pos q, if_neg (sl_ne0 ha q.1 q.2)]
        by_cases q2 : LI a g u v
        · rw [if_pos ((put_LI ha q.1 q.2).mpr q2), es, liB_t.mpr q2]; rfl
        · rw [if_neg (fun c => q2 ((put_LI ha q.1 q.2).mp c)), es, liB_f.mpr q2]; rfl
      · rw [if_neg q, if_pos rfl, es, liB_f.mpr (fun c => q (by have := LI_b ha hg c; omega))]; rfl
    · rw [mo_liesIn_B16, if_pos (show (7 : Int32) ≤ nI 7 from by decide), nm_eq, o1]; rfl
  · rw [mo_liesIn_B6, if_pos (show (7 : Int32) ≤ nI 7 from by decide)]
/-- the class counts the same places -/
theorem pl_row {a g : Int64} (ha : FIG a) (hg : FIG g) (v : Nat) : lsR a g v 7 = lsR a g v (wdt g + 1 - wdt a) := by
  have wa := wdt_b ha
  have wg := wdt_b hg
  refine ct_gap (by omega) (fun u h1 h2 => liB_f.mpr (fun c => ?_))
  have := LI_b ha hg c
  omega
theorem pl_all {a g : Int64} (ha : FIG a) (hg : FIG g) : lsS a g 7 = lsS a g (hgt g + 1 - hgt a) := by
  have wa := wdt_b ha
  have wg := wdt_b hg
  have key : ∀ d, hgt g + 1 - hgt a + d ≤ 7 → lsS a g (hgt g + 1 - hgt a + d) = lsS a g (hgt g + 1 - hgt a) := by
    intro d
    induction d with
    | zero => intro _; rfl
    | succ d ih =>
      intro h
      have e : lsS a g (hgt g + 1 - hgt a + d + 1) = lsS a g (hgt g + 1 - hgt a + d) + lsR a g (hgt g + 1 - hgt a + d) 7 := fb_sm_succ _ _
      have z : lsR a g (hgt g + 1 - hgt a + d) 7 = 0 := fb_ct_zero.mpr (fun u hu => liB_f.mpr (fun c => by
        have := LI_b ha hg c
        omega))
      show lsS a g (hgt g + 1 - hgt a + d + 1) = _
      rw [e, z, ih (by omega), Nat.add_zero]
  have := key (7 - (hgt g + 1 - hgt a)) (by omega)
  rw [show hgt g + 1 - hgt a + (7 - (hgt g + 1 - hgt a)) = 7 by omega] at this
  exact this
noncomputable def lsT (A : Nat → Int64) (g : Int64) (n : Nat) : Nat := fb_sm (fun k => lsS (A k) g 7) n
theorem placings_eq {g : Int64} (hg : FIG g) {e : Nat} (he : e ≤ 64) {A : Nat → Int64} (hA : ∀ k, k < e → FIG (A k)) : me_placings g (nI e) A = some (nI (lsT A g e)) := by
  unfold me_placings
  rw [show fl2 (me_placings_B5 g (nI e) A) FU 0 0 = fl2 (me_placings_B5 g (nI e) A) FU (nI (lsT A g 0)) (nI 0) from rfl]
  refine crs2 (B := me_placings_B5 g (nI e) A) (fun k => nI (lsT A g k)) nI e (fun k hk K => ?_) (fun K => ?_) FU (FU_lt (by omega))
  · have ha := hA k hk
    have wa := wdt_b ha
    have wg := wdt_b hg
    have d1 : ∀ i : Nat, i < 100 → (nI (hgt g) - nI (hgt (A k)) < nI i ↔ hgt g + 1 - hgt (A k) ≤ i) := by
      intro i hi
      rw [nI_iI, nI_iI, nI_iI, ← Int32.ofInt_sub, iI_lt (by omega) (by omega)]
      omega
    have d2 : ∀ i : Nat, i < 100 → (nI (wdt g) - nI (wdt (A k)) < nI i ↔ wdt g + 1 - wdt (A k) ≤ i) := by
      intro i hi
      rw [nI_iI, nI_iI, nI_iI, ← Int32.ofInt_sub, iI_lt (by omega) (by omega)]
      omega
    rw [me_placings_B5, rw_size, bd1_some, if_neg (nI_ge hk (by omega)), rw_at_eq hk he, bd1_some, gr_height_eq, bd1_some, gr_height_eq, bd1_some, nm_eq, gr_width_eq, bd1_some, gr_width_eq, bd1_some, nm_eq, show (0 : Int32) = nI 0 from nI_0.symm]
    refine crs2 (B := me_placings_B49 g (nI k) (A k) (nI (hgt g) - nI (hgt (A k))) (nI (wdt g) - nI (wdt (A k))) (nI e) A K) (fun v => nI (lsT A g k + lsS (A k) g v)) nI (hgt g + 1 - hgt (A k)) (fun v hv K2 => ?_) (fun K2 => ?_) FU (FU_lt (by omega))
    · rw [me_placings_B49, if_neg (fun c => by have := (d1 v (by omega)).mp c; omega), show (0 : Int32) = nI 0 from nI_0.symm]
      refine crs2 (B := me_placings_B59 g (nI k) (A k) (nI (hgt g) - nI (hgt (A k))) (nI (wdt g) - nI (wdt (A k))) (nI v) (nI e) A K K2) (fun u => nI (lsT A g k + lsS (A k) g v + lsR (A k) g v u)) nI (wdt g + 1 - wdt (A k)) (fun u hu k3 => ?_) (fun k3 => ?_) FU (FU_lt (by omega))
      · have es : lsR (A k) g v (u + 1) = lsR (A k) g v u + (if liB (A k) g u v then 1 else 0) := fb_ct_succ _ _
        rw [me_placings_B59, if_neg (fun c => by have := (d2 u (by omega)).mp c; omega), ix_eq]
        simp only [me_placings_J91, nm_eq, o1]
        by_cases q2 : LI (A k) g u v
        · rw [if_pos ((put_LI ha (by omega) (by omega)).mpr q2), es, liB_t.mpr q2]; rfl
        · rw [if_neg (fun c => q2 ((put_LI ha (by omega) (by omega)).mp c)), es, liB_f.mpr q2]; rfl
      · rw [me_placings_B59, if_pos ((d2 _ (by omega)).mpr (Nat.le_refl _)), nm_eq, o1, ← pl_row ha hg, Nat.add_assoc]
        rfl
    · rw [me_placings_B49, if_pos ((d1 _ (by omega)).mpr (Nat.le_refl _)), nm_eq, o1, ← pl_all ha hg]
      rfl
  · rw [me_placings_B5, rw_size, bd1_some, if_pos (nI_le (Nat.le_refl _) (by omega))]
def fmP (al : Int32) (t : Nat) : Bool := decide (t = 0) || decide (al = 1)
/-- rows of one figure's forms are alike -/
theorem inside_rows {f : Int64} (hf : FIG f) {al : Int32} (hal : al = 0 ∨ al = 1) (A : Nat → Int64) : ∃ e A', gw_addForms f al 0 A = some (nI e, A') ∧ RI (fmP al) (tnd f) 8 e A' :=
  addForms_eq hf hal (d := 0) (e := 0) (by omega) (RI_0 (fmP al) (tnd f) A) (fun t _ => by rw [Nat.mul_zero, Nat.zero_add]; rfl) (fun t _ => by rw [Nat.mul_zero, Nat.zero_add])
theorem RI_all {p : Nat → Bool} {F : Nat → Int64} {n e : Nat} {A : Nat → Int64} (h : RI p F n e A) {P : Int64 → Prop} (hP : ∀ q, q < n → p q = true → P (F q)) : ∀ k, k < e → P (A k) := by
  intro k hk
  obtain ⟨q, a, b, c⟩ := (h.2.2 (A k)).mp ⟨k, Nat.zero_le _, hk, rfl⟩
  rw [c]; exact hP q a b
theorem mi_end {g : Int64} (hg : FIG g) {i : Nat} (hi : i < 8) (D : Nat → Int64) (hD : D i = g) {e : Nat} (he : e ≤ 64) {A : Nat → Int64} (hA : ∀ k, k < e → FIG (A k)) : fl2 (mo_inside_B103 (nI i) (nI e) D A) FU 0 0 = some (nI (lsT A g e), nI e, A) := by
  rw [show fl2 (mo_inside_B103 (nI i) (nI e) D A) FU 0 0 = fl2 (mo_inside_B103 (nI i) (nI e) D A) FU (nI (lsT A g 0)) (nI 0) from rfl]
  refine crs2 (B := mo_inside_B103 (nI i) (nI e) D A) (fun k => nI (lsT A g k)) nI e (fun k hk K => ?_) (fun K => ?_) FU (FU_lt (by omega))
  · rw [mo_inside_B103, if_neg (nI_ge hk (by omega)), ck_n (show k < 64 by omega) (by omega), ck_n hi (by omega), cl_n (by omega), cl_n (by omega), hD, mo_liesIn_eq (hA k hk) hg, bd1_some, nm_eq, nm_eq, nI_add, o1]
    rfl
  · rw [mo_inside_B103, if_pos (nI_le (Nat.le_refl _) (by omega))]
theorem mo_inside_rows {f g : Int64} (hf : FIG f) (hg : FIG g) {al : Int32} (hal : al = 0 ∨ al = 1) {i j : Nat} (hi : i < 8) (hj : j < 8) (D : Nat → Int64) (hDj : D j = f) (hDi : D i = g) (A : Nat → Int64) : ∃ e A', fl3 (mo_inside_B49 (nI j) (nI i) al D) FU 0 0 A = some (nI (lsT A' g e), nI e, A') ∧ RI (fmP al) (tnd f) 8 e A' := by
  have fin : ∀ {n e : Nat} {X : Nat → Int64}, n ≤ 8 → RI (fmP al) (tnd f) n e X → fl2 (mo_inside_B103 (nI i) (nI e) D X) FU 0 0 = some (nI (lsT X g e), nI e, X) := by
    intro n e X hn hr
    have := hr.2.1
    exact mi_end hg hi D hDi (by omega) (RI_all hr (fun q _ _ => tnd_F hf q))
  rcases hal with rfl | rfl
  · refine ivl3 (B := mo_inside_B49 (nI j) (nI i) 0 D) (fun t a b c => a = nI t ∧ ∃ e, b = nI e ∧ RI (fmP 0) (tnd f) t e c) (fun o => ∃ e A', o = some (nI (lsT A' g e), nI e, A') ∧ RI (fmP 0) (tnd f) 8 e A') 1 ?_ ?_ FU 0 _ _ _ (by omega) (FU_lt (by omega)) ⟨rfl, 0, rfl, RI_0 _ _ _⟩
    · rintro t ht a b c k ⟨rfl, e, rfl, hr⟩
      have t0 : t = 0 := by omega
      subst t0
      obtain ⟨e', A', b1, b2⟩ := RI_tr hr rfl (by omega)
      rw [mo_inside_B49, if_pos rfl, mo_inside_J61, if_neg (by decide), ck_n hj (by omega), cl_n (by omega), hDj, mo_turned_eq hf (by omega), bd1_some, b1, bd2_some, nm_eq, o1]
      exact ⟨_, _, _, ⟨rfl, e', rfl, b2⟩, rfl⟩
    · rintro a b c k ⟨rfl, e, rfl, hr⟩
      rw [mo_inside_B49, if_pos rfl, mo_inside_J61, if_pos (by decide), fin (by omega) hr]
      exact ⟨e, c, rfl, RI_skips hr 7 (fun t ht => by unfold fmP; simp)⟩
  · refine ivl3 (B := mo_inside_B49 (nI j) (nI i) 1 D) (fun t a b c => a = nI t ∧ ∃ e, b = nI e ∧ RI (fmP 1) (tnd f) t e c) (fun o => ∃ e A', o = some (nI (lsT A' g e), nI e, A') ∧ RI (fmP 1) (tnd f) 8 e A') 8 ?_ ?_ FU 0 _ _ _ (by omega) (FU_lt (by omega)) ⟨rfl, 0, rfl, RI_0 _ _ _⟩
    · rintro t ht a b c k ⟨rfl, e, rfl, hr⟩
      obtain ⟨e', A', b1, b2⟩ := RI_tr hr (by unfold fmP; simp) (by omega)
      rw [mo_inside_B49, if_neg (by decide), mo_inside_J61, if_neg (show ¬ (8 : Int32) ≤ nI t from nI_ge (a := t) (b := 8) ht (by omega)), ck_n hj (by omega), cl_n (by omega), hDj, mo_turned_eq hf ht, bd1_some, b1, bd2_some, nm_eq, o1]
      exact ⟨_, _, _, ⟨rfl, e', rfl, b2⟩, rfl⟩
    · rintro a b c k ⟨rfl, e, rfl, hr⟩
      rw [mo_inside_B49, if_neg (by decide), mo_inside_J61, if_pos (by decide), fin (by omega) hr]
      exact ⟨e, c, rfl, hr⟩
theorem opc_inside (v w m : Int32) (hm : m = 0 ∨ m = 1) {g h : Nat → Int64} (hd : DR g h) (rs : Int32) (A : Nat → Int64) (tm : Int32) (B : Nat → Int64) : ∃ r rs' A' tm' B', cf_inside v w m g rs A = some (r, rs', A') ∧ mo_inside v w m tm h B = some (r, tm', B') := by
  cases hv : inr v 0 7 with
  | false =>
    simp only [cf_inside, mo_inside, cf_isDrawer_eq, mo_isDrawer_eq, hv, bd1_some, bf0, if_true]
    exact ⟨-1, _, _, _, _, rfl, rfl⟩
  | true =>
    cases hw : inr w 0 7 with
    | false =>
      simp only [cf_inside, mo_inside, cf_isDrawer_eq, mo_isDrawer_eq, hv, hw, bd1_some, bf0, bt0, if_true, if_false]
      exact ⟨-1, _, _, _, _, rfl, rfl⟩
    | true =>
      obtain ⟨j, hj, rfl⟩ := inr_dr hv
      obtain ⟨i, hi, rfl⟩ := inr_dr hw
      have e := (hd j hj).1
      have e2 := (hd i hi).1
      simp only [cf_inside, mo_inside, cf_isDrawer_eq, mo_isDrawer_eq, hv, hw, bd1_some, bt0, if_false, ck_n hj (show 8 < 2 ^ 31 by omega), cl_n (show j < 2 ^ 31 by omega), ck_n hi (show 8 < 2 ^ 31 by omega), cl_n (show i < 2 ^ 31 by omega), e, e2, rw_clear]
      by_cases h0 : h j = 0
      · rw [if_pos h0, if_pos h0]; exact ⟨-2, _, _, _, _, rfl, rfl⟩
      · rw [if_neg h0, if_neg h0]
        by_cases h1 : h i = 0
        · rw [if_pos h1, if_pos h1]; exact ⟨-2, _, _, _, _, rfl, rfl⟩
        · rw [if_neg h1, if_neg h1]
          have fj := DRf hd hj h0
          have fi := DRf hd hi h1
          obtain ⟨n, A', a1, a2⟩ := inside_rows fj hm A
          obtain ⟨n2, B', b1, b2⟩ := mo_inside_rows fj fi hm hi hj h rfl rfl B
          obtain ⟨z1, z2⟩ := RI_same a2 b2 (fun y => Iff.rfl)
          subst z1
          have n8 := a2.2.1
          rw [a1, bd2_some, placings_eq fi (by omega) (RI_all a2 (fun q _ _ => tnd_F fj q)), bd1_some, b1]
          have : lsT B' (h i) n = lsT A' (h i) n := fb_sm_cong (fun k hk => by rw [z2 k hk])
          rw [this]
          exact ⟨_, _, _, _, _, rfl, rfl⟩
