theorem fi_measure_eq {e : Nat} (he : e ≤ 64) {A : Nat → Int64} (hA : ∀ k, k < e → FIG (A k)) (x : Int32) (fg : Nat → Int64) (ft wd ht : Nat → Int32) : ∃ fg' ft' wd' ht', fi_measure (nI e) A x fg ft wd ht = some (nI e, fg', ft', wd', ht') ∧ MSR e A fg' ft' wd' ht' := by
  have mn : mnI (nI e) 64 = nI e := by
    unfold mnI
    rw [if_neg (show ¬ (64 : Int32) < nI e from nI_nlt (a := 64) (b := e) he (by omega))]
  rw [fi_measure, rw_size, bd1_some, nm_eq, mn]
  refine ivl5 (B := fi_measure_B15 (nI e) A (nI e)) (fun i a b c d x => a = nI i ∧ MSR i A b c d x) (fun o => ∃ fg' ft' wd' ht', o = some (nI e, fg', ft', wd', ht') ∧ MSR e A fg' ft' wd' ht') e ?_ ?_ FU 0 _ _ _ _ _ (by omega) (FU_lt (by omega)) ⟨rfl, fun q h => by omega⟩
  · rintro i hi a b c d x k ⟨rfl, hm⟩
    have c64 : ∀ {β : Type} (k : Option β), ck (nI i) 64 k = k := fun k => ck_n (show i < 64 by omega) (by omega) k
    have f1 := (fst_low (hA i hi)).1
    simp only [fi_measure_B15, if_neg (nI_ge hi (show e < 2 ^ 31 by omega)), rw_at_eq hi he, bd1_some, nm_eq, c64, cl_n (show i < 2 ^ 31 by omega), pk_uLs, gr_lowest_eq f1, gr_width_eq, gr_height_eq, o1]
    refine ⟨_, _, _, _, _, ⟨rfl, fun q hq => ?_⟩, rfl⟩
    rcases Nat.lt_or_ge q i with z | z
    · rw [pk_uLn (by omega), pk_un (by omega), pk_un (by omega), pk_un (by omega)]; exact hm q z
    · have : q = i := by omega
      subst this
      rw [pk_uLs, pk_us, pk_us, pk_us]
      exact ⟨rfl, rfl, rfl, rfl⟩
  · rintro a b c d x k ⟨rfl, hm⟩
    rw [fi_measure_B15, if_pos (nI_le (Nat.le_refl _) (by omega))]
    exact ⟨_, _, _, _, rfl, hm⟩
theorem neg_neg64 (x : Int64) : (x ^^^ (-1)) ^^^ (-1) = x := by
  apply bt_ext
  intro i hi
  rw [bt_xor, bt_xor, bt_m1 hi]
  cases bt x i <;> rfl
theorem rct_low {w h : Nat} (hw : 1 ≤ w ∧ w ≤ 6) (hh : 1 ≤ h ∧ h ≤ 6) : low (rct w h) 0 := ⟨by omega, by rw [rct_bt hw hh (by omega), decide_eq_true_eq]; omega, fun i hi => by omega⟩
theorem not0 (x : Int64) : x &&& ((0 : Int64) ^^^ (-1)) = x := by
  apply bt_ext
  intro i hi
  rw [bt_and, bt_xor, bt_zero, bt_m1 hi]
  cases bt x i <;> rfl
theorem search_eq {w h : Nat} (hw : 1 ≤ w ∧ w ≤ 6) (hh : 1 ≤ h ∧ h ≤ 6) {e : Nat} (he : e ≤ 64) {A B : Nat → Int64} (hA : ∀ k, k < e → FIG (A k)) (hAB : ∀ k, k < e → A k = B k) (Dr : Nat → Int64) (x : Int32) (fg : Nat → Int64) (ft wd ht : Nat → Int32) (cov : Nat → Int64) (pl nx : Nat → Int32) (tk : Nat → Int64) (ta : Nat → Int32) : ∃ r x' fg' ft' wd' ht' cov' pl' nx' r' tk' ta', fi_search (nI w) (nI h) (nI e) A x fg ft wd ht cov pl nx = some (r, x', fg', ft', wd', ht', cov', pl', nx') ∧ fl2 (mo_fill_B141 (nI w) (nI h) (nI e) Dr B tk ta) FU 0 0 = some (r', nI e, B, tk', ta') ∧ ((r = -1 ∧ r' = -3) ∨ ∃ q, q ≤ 20000 ∧ r = nI q ∧ r' = nI q) := by
  obtain ⟨fg', ft', wd', ht', m1, m2⟩ := fi_measure_eq he hA x fg ft wd ht
  have c0 : ∀ {β : Type} (k : Option β), ck 0 36 k = k := fun k => ck_n (n := 0) (by omega) (by omega) k
  have e8 : (8 - nI w : Int32) = nI (8 - w) := by rw [show (8 : Int32) = nI 8 from rfl, pk_sub (by omega)]
  have e9 : (8 * (8 - nI h) : Int32) = nI (8 * (8 - h)) := by rw [show (8 : Int32) = nI 8 from rfl, pk_sub (by omega), pk_mul]
  have op : fi_open 0 ((su 255 (nI (8 - w)) * su 72340172838076673 (nI (8 * (8 - h)))) ^^^ (-1)) cov pl nx = some (vp_updL cov 0 (rct w h ^^^ (-1)), upd pl 0 (nI 0), upd nx 0 0) := by
    show fi_open 0 (rct w h ^^^ (-1)) cov pl nx = _
    rw [fi_open, c0, nm_eq, neg_neg64, gr_lowest_eq (rct_low hw hh), bd1_some, c0, nm_eq, c0, nm_eq]
    rfl
  rw [fi_search, m1, bd5_some, e8, e9, op, bd3_some, mo_rect hw hh]
  obtain ⟨r, cov', pl', nx', r', tk', ta', g1, g2, g3⟩ := fill_go hw hh he m2 hA (nI e) A hAB Dr FU 1 0 0 0 (vp_updL cov 0 (rct w h ^^^ (-1))) (upd pl 0 (nI 0)) (upd nx 0 0) (vp_updL tk 0 0) (upd ta 0 0) (Or.inr (by
    intro d hd
    have d0 : d = 0 := by omega
    subst d0
    rw [pk_us, pk_us, pk_us, pk_uLs, pk_uLs, not0]
    exact ⟨⟨0, by omega, rfl, rfl⟩, rfl, ⟨0, rct_low hw hh, rfl⟩, (fun i hi => by rw [bt_zero] at hi; cases hi), Nat.zero_le _⟩)) (by omega) (by omega) (by omega) (by omega) (by
      have := FU_lt (n := 40003) (by omega)
      omega)
  exact ⟨r, _, _, _, _, _, _, _, _, r', tk', ta', g1, g2, g3⟩
/-! the rows of several figures -/
def fpP (s : Nat) (al : Int32) (q : Nat) : Bool := s.testBit (q / 8) && fmP al (q % 8)
noncomputable def fpF (h : Nat → Int64) (q : Nat) : Int64 := tnd (h (q / 8)) (q % 8)
theorem mod8 {d t : Nat} (ht : t < 8) : (8 * d + t) / 8 = d ∧ (8 * d + t) % 8 = t := by omega
theorem fpP_no {s d : Nat} {al : Int32} (hb : s.testBit d = false) (t : Nat) (ht : t < 8) : fpP s al (8 * d + t) = false := by
  unfold fpP
  rw [(mod8 ht).1, hb, Bool.false_and]
theorem mo_forms {f : Int64} (hf : FIG f) {al : Int32} (hal : al = 0 ∨ al = 1) {s : Nat} {h : Nat → Int64} {d : Nat} (hd : d < 8) (hh : h d = f) (hb : s.testBit d = true) (v1 v2 v3 : Int32) (tk : Nat → Int64) (ta : Nat → Int32) (K : Int32 → Int32 → (Nat → Int64) → Option (Int32 × Int32 × (Nat → Int64) × (Nat → Int64) × (Nat → Int32))) {e : Nat} {A : Nat → Int64} (hr : RI (fpP s al) (fpF h) (8 * d) e A) : ∃ e' A', fl3 (mo_fill_B79 v1 v2 v3 al (nI d) h tk ta K) FU 0 (nI e) A = K (nI (d + 1)) (nI e') A' ∧ RI (fpP s al) (fpF h) (8 * (d + 1)) e' A' := by
  have pp : ∀ t, t < 8 → fpP s al (8 * d + t) = fmP al t := by
    intro t ht
    unfold fpP
    rw [(mod8 ht).1, (mod8 ht).2, hb, Bool.true_and]
  have pf : ∀ t, t < 8 → fpF h (8 * d + t) = tnd f t := by
    intro t ht
    unfold fpF
    rw [(mod8 ht).1, (mod8 ht).2, hh]
  rcases hal with rfl | rfl
  · refine ivl3 (B := mo_fill_B79 v1 v2 v3 0 (nI d) h tk ta K) (fun t a b c => a = nI t ∧ ∃ e, b = nI e ∧ RI (fpP s 0) (fpF h) (8 * d + t) e c) (fun o => ∃ e' A', o = K (nI (d + 1)) (nI e') A' ∧ RI (fpP s 0) (fpF h) (8 * (d + 1)) e' A') 1 ?_ ?_ FU 0 _ _ _ (by omega) (FU_lt (by omega)) ⟨rfl, e, rfl, hr⟩
    · rintro t ht a b c k ⟨rfl, e, rfl, hr⟩
      have t0 : t = 0 := by omega
      subst t0
      obtain ⟨e', A', b1, b2⟩ := RI_tr hr (by rw [pp 0 (by omega)]; rfl) (by omega)
      rw [pf 0 (by omega)] at b1
      rw [mo_fill_B79, if_pos rfl, mo_fill_J92, if_neg (by decide), ck_n hd (by omega), cl_n (by omega), hh, mo_turned_eq hf (by omega), bd1_some, b1, bd2_some, nm_eq, o1]
      exact ⟨_, _, _, ⟨rfl, e', rfl, b2⟩, rfl⟩
    · rintro a b c k ⟨rfl, e, rfl, hr⟩
      rw [mo_fill_B79, if_pos rfl, mo_fill_J92, if_pos (by decide), mo_fill_J129, nm_eq, o1]
      have := RI_skips hr 7 (fun t ht => by
        rw [show 8 * d + 1 + t = 8 * d + (t + 1) by omega, pp (t + 1) (by omega)]; unfold fmP; simp)
      rw [show 8 * d + 1 + 7 = 8 * (d + 1) by omega] at this
      exact ⟨e, c, rfl, this⟩
  · refine ivl3 (B := mo_fill_B79 v1 v2 v3 1 (nI d) h tk ta K) (fun t a b c => a = nI t ∧ ∃ e, b = nI e ∧ RI (fpP s 1) (fpF h) (8 * d + t) e c) (fun o => ∃ e' A', o = K (nI (d + 1)) (nI e') A' ∧ RI (fpP s 1) (fpF h) (8 * (d + 1)) e' A') 8 ?_ ?_ FU 0 _ _ _ (by omega) (FU_lt (by omega)) ⟨rfl, e, rfl, hr⟩
    · rintro t ht a b c k ⟨rfl, e, rfl, hr⟩
      obtain ⟨e', A', b1, b2⟩ := RI_tr hr (by rw [pp t ht]; unfold fmP; simp) (by omega)
      rw [pf t ht] at b1
      rw [mo_fill_B79, if_neg (by decide), mo_fill_J92, if_neg (show ¬ (8 : Int32) ≤ nI t from nI_ge (a := t) (b := 8) ht (by omega)), ck_n hd (by omega), cl_n (by omega), hh, mo_turned_eq hf ht, bd1_some, b1, bd2_some, nm_eq, o1]
      exact ⟨_, _, _, ⟨rfl, e', rfl, b2⟩, rfl⟩
    · rintro a b c k ⟨rfl, e, rfl, hr⟩
      rw [mo_fill_B79, if_neg (by decide), mo_fill_J92, if_pos (by decide), mo_fill_J129, nm_eq, o1]
      exact ⟨e, c, rfl, hr⟩
/-- the drawers before the n-th are all filled that are asked for -/
def okD (s : Nat) (h : Nat → Int64) (n : Nat) : Prop := ∀ d, d < n → s.testBit d = true → h d ≠ 0
theorem cf_rows {s : Nat} (hs : s < 256) {al : Int32} (hal : al = 0 ∨ al = 1) {g h : Nat → Int64} (hd : DR g h) (v1 v2 : Int32) (x : Int32) (fg : Nat → Int64) (ft wd ht : Nat → Int32) (cov : Nat → Int64) (pl nx : Nat → Int32) {N : Nat} (hN : N ≤ 8) (hok : okD s h N) (Q : Option (Int32 × Int32 × (Nat → Int64) × Int32 × (Nat → Int64) × (Nat → Int32) × (Nat → Int32) × (Nat → Int32) × (Nat → Int64) × (Nat → Int32) × (Nat → Int32)) → Prop) (hQ : ∀ e A k, RI (fpP s al) (fpF h) (8 * N) e A → Q (cf_fill_B43 v1 v2 (nI s) al g x fg ft wd ht cov pl nx k (nI N) (nI e) A)) (A : Nat → Int64) : Q (fl3 (cf_fill_B43 v1 v2 (nI s) al g x fg ft wd ht cov pl nx) FU 0 0 A) := by
  refine ivl3 (B := cf_fill_B43 v1 v2 (nI s) al g x fg ft wd ht cov pl nx) (fun d a b c => a = nI d ∧ ∃ e, b = nI e ∧ RI (fpP s al) (fpF h) (8 * d) e c) Q N ?_ ?_ FU 0 _ _ _ (by omega) (FU_lt (by omega)) ⟨rfl, 0, rfl, RI_0 _ _ _⟩
  · rintro d hdN a b c k ⟨rfl, e, rfl, hr⟩
    have d8 : d < 8 := by omega
    rw [cf_fill_B43, if_neg (show ¬ (8 : Int32) ≤ nI d from nI_ge (a := d) (b := 8) d8 (by omega)), cf_fill_J90, nm_eq, o1]
    cases hb : s.testBit d with
    | false =>
      rw [if_pos ((ir_bit ⟨s, hs⟩ ⟨d, d8⟩).mpr hb)]
      have := RI_skips hr 8 (fun t ht => fpP_no hb t ht)
      exact ⟨_, _, _, ⟨rfl, e, rfl, this⟩, rfl⟩
    | true =>
      have h0 := hok d hdN hb
      have eg := (hd d d8).1
      have fd := DRf hd d8 h0
      rw [if_neg (fun c => by have := (ir_bit ⟨s, hs⟩ ⟨d, d8⟩).mp c; rw [show (⟨s, hs⟩ : Fin 256).val = s from rfl, show (⟨d, d8⟩ : Fin 8).val = d from rfl, hb] at this; cases this), ck_n d8 (by omega), cl_n (by omega), eg, if_neg h0, ck_n d8 (by omega)]
      obtain ⟨e', A', a1, a2⟩ := addForms_eq fd hal d8 hr (fun t ht => by unfold fpP; rw [(mod8 ht).1, (mod8 ht).2, hb, Bool.true_and]; rfl) (fun t ht => by unfold fpF; rw [(mod8 ht).1, (mod8 ht).2])
      rw [a1, bd2_some, cf_fill_J90, nm_eq, o1]
      exact ⟨_, _, _, ⟨rfl, e', rfl, a2⟩, rfl⟩
  · rintro a b c k ⟨rfl, e, rfl, hr⟩
    exact hQ e c k hr
theorem mo_rows {s : Nat} (hs : s < 256) {al : Int32} (hal : al = 0 ∨ al = 1) {g h : Nat → Int64} (hd : DR g h) (v1 v2 : Int32) (tk : Nat → Int64) (ta : Nat → Int32) {N : Nat} (hN : N ≤ 8) (hok : okD s h N) (Q : Option (Int32 × Int32 × (Nat → Int64) × (Nat → Int64) × (Nat → Int32)) → Prop) (hQ : ∀ e A k, RI (fpP s al) (fpF h) (8 * N) e A → Q (mo_fill_B41 v1 v2 (nI s) al h tk ta k (nI N) (nI e) A)) (A : Nat → Int64) : Q (fl3 (mo_fill_B41 v1 v2 (nI s) al h tk ta) FU 0 0 A) := by
  refine ivl3 (B := mo_fill_B41 v1 v2 (nI s) al h tk ta) (fun d a b c => a = nI d ∧ ∃ e, b = nI e ∧ RI (fpP s al) (fpF h) (8 * d) e c) Q N ?_ ?_ FU 0 _ _ _ (by omega) (FU_lt (by omega)) ⟨rfl, 0, rfl, RI_0 _ _ _⟩
  · rintro d hdN a b c k ⟨rfl, e, rfl, hr⟩
    have d8 : d < 8 := by omega
    rw [mo_fill_B41, if_neg (show ¬ (8 : Int32) ≤ nI d from nI_ge (a := d) (b := 8) d8 (by omega)), mo_has_eq _ (show d < 64 by omega), bd1_some, bt_nI (by omega), mo_fill_J129, nm_eq, o1]
    cases hb : s.testBit d with
    | false =>
      rw [if_pos (by decide)]
      have := RI_skips hr 8 (fun t ht => fpP_no hb t ht)
      exact ⟨_, _, _, ⟨rfl, e, rfl, this⟩, rfl⟩
    | true =>
      have h0 := hok d hdN hb
      have fd := DRf hd d8 h0
      rw [if_neg (by decide), ck_n d8 (by omega), cl_n (by omega), if_neg h0]
      obtain ⟨e', A', a1, a2⟩ := mo_forms fd hal d8 rfl hb v1 v2 (nI s) tk ta k hr
      exact ⟨_, _, _, ⟨rfl, e', rfl, a2⟩, a1⟩
  · rintro a b c k ⟨rfl, e, rfl, hr⟩
    exact hQ e c k hr
theorem inr_16 {v : Int32} (h : inr v 1 6 = true) : ∃ n, 1 ≤ n ∧ n ≤ 6 ∧ v = nI n := inr_lo (m := 1) (n := 6) (by omega) (by omega) h
theorem opc_fill (v w s al : Int32) (hal : al = 0 ∨ al = 1) {g h : Nat → Int64} (hd : DR g h) (rs : Int32) (A : Nat → Int64) (x : Int32) (fg : Nat → Int64) (ft wd ht : Nat → Int32) (cov : Nat → Int64) (pl nx : Nat → Int32) (tm : Int32) (B tk : Nat → Int64) (ta : Nat → Int32) : ∃ r rs' A' x' fg' ft' wd' ht' cov' pl' nx' tm' B' tk' ta', cf_fill v w s al g rs A x fg ft wd ht cov pl nx = some (r, rs', A', x', fg', ft', wd', ht', cov', pl', nx') ∧ mo_fill v w s al tm h B tk ta = some (r, tm', B', tk', ta') := by
  cases hv : inr v 1 6 with
  | false =>
    simp only [cf_fill, mo_fill, cf_within_eq, mo_in_eq, hv, bd1_some, bf0, if_true]
    exact ⟨-1, _, _, _, _, _, _, _, _, _, _, _, _, _, _, rfl, rfl⟩
  | true =>
    cases hw : inr w 1 6 with
    | false =>
      simp only [cf_fill, mo_fill, cf_within_eq, mo_in_eq, hv, hw, bd1_some, bf0, bt0, if_true, if_false]
      exact ⟨-1, _, _, _, _, _, _, _, _, _, _, _, _, _, _, rfl, rfl⟩
    | true =>
      cases hs : inr s 1 255 with
      | false =>
        simp only [cf_fill, mo_fill, cf_within_eq, mo_in_eq, hv, hw, hs, bd1_some, bf0, bt0, if_true, if_false]
        exact ⟨-1, _, _, _, _, _, _, _, _, _, _, _, _, _, _, rfl, rfl⟩
      | true =>
        obtain ⟨v, v1, v2, rfl⟩ := inr_16 hv
        obtain ⟨w, w1, w2, rfl⟩ := inr_16 hw
        obtain ⟨s, s1, s2, rfl⟩ := inr_lo (m := 1) (n := 255) (by omega) (by omega) hs
        simp only [cf_fill, mo_fill, cf_within_eq, mo_in_eq, hv, hw, hs, bd1_some, bt0, if_false, rw_clear]
        by_cases bad : ∃ d, d < 8 ∧ (s.testBit d = true ∧ h d = 0)
        · obtain ⟨d, d8, ⟨hb, h0⟩, hfst⟩ := fb_first bad
          have ok : okD s h d := fun i hi hb h0 => hfst i hi ⟨hb, h0⟩
          have eg := (hd d d8).1
          have c1 := cf_rows (s := s) (by omega) hal hd (nI v) (nI w) x fg ft wd ht cov pl nx (N := d) (by omega) ok (fun o => ∃ rs' A', o = some (-2, rs', A', x, fg, ft, wd, ht, cov, pl, nx)) (fun e A k hr => by
            rw [cf_fill_B43, if_neg (show ¬ (8 : Int32) ≤ nI d from nI_ge (a := d) (b := 8) d8 (by omega)), if_neg (fun c => by have := (ir_bit ⟨s, by omega⟩ ⟨d, d8⟩).mp c; rw [show (⟨s, by omega⟩ : Fin 256).val = s from rfl, show (⟨d, d8⟩ : Fin 8).val = d from rfl, hb] at this; cases this), ck_n d8 (by omega), cl_n (by omega), eg, if_pos h0]
            exact ⟨_, _, rfl⟩) A
          have c2 := mo_rows (s := s) (by omega) hal hd (nI v) (nI w) tk ta (N := d) (by omega) ok (fun o => ∃ tm' B', o = some (-2, tm', B', tk, ta)) (fun e A k hr => by
            rw [mo_fill_B41, if_neg (show ¬ (8 : Int32) ≤ nI d from nI_ge (a := d) (b := 8) d8 (by omega)), mo_has_eq _ (show d < 64 by omega), bd1_some, bt_nI (by omega), hb, if_neg (by decide), ck_n d8 (by omega), cl_n (by omega), if_pos h0]
            exact ⟨_, _, rfl⟩) B
          obtain ⟨rs', A', c1⟩ := c1
          obtain ⟨tm', B', c2⟩ := c2
          rw [c1, c2]
          exact ⟨-2, _, _, _, _, _, _, _, _, _, _, _, _, _, _, rfl, rfl⟩
        · have ok : okD s h 8 := fun i hi hb h0 => bad ⟨i, hi, hb, h0⟩
          have hFIG : ∀ {e : Nat} {X : Nat → Int64}, RI (fpP s al) (fpF h) (8 * 8) e X → ∀ k, k < e → FIG (X k) := by
            intro e X hr
            refine RI_all hr (fun q hq hp => ?_)
            unfold fpP at hp
            rw [Bool.and_eq_true] at hp
            exact tnd_F (DRf hd (by omega) (ok (q / 8) (by omega) hp.1)) _
          obtain ⟨e2, B', b2, m2⟩ := mo_rows (s := s) (by omega) hal hd (nI v) (nI w) tk ta (N := 8) (by omega) ok (fun o => ∃ e B', RI (fpP s al) (fpF h) (8 * 8) e B' ∧ o = fl2 (mo_fill_B141 (nI v) (nI w) (nI e) h B' tk ta) FU 0 0) (fun e A k hr => by
            rw [mo_fill_B41, if_pos (show (8 : Int32) ≤ nI 8 from by decide)]
            exact ⟨e, A, hr, rfl⟩) B
          rw [m2]
          refine cf_rows (s := s) (by omega) hal hd (nI v) (nI w) x fg ft wd ht cov pl nx (N := 8) (by omega) ok (fun o => ∃ r rs' A' x' fg' ft' wd' ht' cov' pl' nx' tm' B'' tk' ta', o = some (r, rs', A', x', fg', ft', wd', ht', cov', pl', nx') ∧ fl2 (mo_fill_B141 (nI v) (nI w) (nI e2) h B' tk ta) FU 0 0 = some (r, tm', B'', tk', ta')) (fun e A k hr => ?_) A
          obtain ⟨z1, z2⟩ := RI_same hr b2 (fun y => Iff.rfl)
          subst z1
          have e64 := hr.2.1
          obtain ⟨r, x', fg', ft', wd', ht', cov', pl', nx', r', tk', ta', g1, g2, g3⟩ := search_eq ⟨v1, v2⟩ ⟨w1, w2⟩ (by omega) (hFIG hr) z2 h x fg ft wd ht cov pl nx tk ta
          rw [cf_fill_B43, if_pos (show (8 : Int32) ≤ nI 8 from by decide), g1, bd9_some, g2]
          rcases g3 with ⟨rfl, rfl⟩ | ⟨q, hq, rfl, rfl⟩
          · rw [if_neg (by decide)]
            exact ⟨-3, _, _, _, _, _, _, _, _, _, _, _, _, _, _, rfl, rfl⟩
          · rw [if_pos (nI_pos' (by omega))]
            exact ⟨_, _, _, _, _, _, _, _, _, _, _, _, _, _, _, rfl, rfl⟩
