/-! rectangles filled -/
theorem ivl5 {α β γ δ ε ρ : Type} {B : (α → β → γ → δ → ε → Option ρ) → α → β → γ → δ → ε → Option ρ} (P : Nat → α → β → γ → δ → ε → Prop) (Q : Option ρ → Prop) (N : Nat) (hs : ∀ i, i < N → ∀ a b c d e k, P i a b c d e → ∃ a' b' c' d' e', P (i + 1) a' b' c' d' e' ∧ B k a b c d e = k a' b' c' d' e') (he : ∀ a b c d e k, P N a b c d e → Q (B k a b c d e)) : ∀ (n i : Nat) (a : α) (b : β) (c : γ) (d : δ) (e : ε), i ≤ N → N - i < n → P i a b c d e → Q (fl5 B n a b c d e) := by
  intro n
  induction n with
  | zero => intro i a b c d e _ h; omega
  | succ n ih =>
    intro i a b c d e hi hn hp
    show Q (B (fl5 B n) a b c d e)
    rcases Nat.lt_or_ge i N with q | q
    · obtain ⟨a', b', c', d', e', h1, h2⟩ := hs i q a b c d e (fl5 B n) hp
      rw [h2]; exact ih (i + 1) a' b' c' d' e' q (by omega) h1
    · have e : i = N := by omega
      subst e; exact he a b c d _ _ hp
theorem bd9_some {α β γ δ ε ζ η θ ι κ : Type} (a : α) (b : β) (c : γ) (d : δ) (e : ε) (f : ζ) (g : η) (h : θ) (i : ι) (k : α → β → γ → δ → ε → ζ → η → θ → ι → Option κ) : bd9 (some (a, b, c, d, e, f, g, h, i)) k = k a b c d e f g h i := rfl
theorem and7 : ∀ p : Fin 64, nI p.val &&& 7 = nI (p.val % 8) := by decide +kernel
theorem ir3 : ∀ p : Fin 64, ir (nI p.val) 3 = nI (p.val / 8) := by decide +kernel
theorem ir_bit : ∀ s : Fin 256, ∀ d : Fin 8, ((ir (nI s.val) (nI d.val)) &&& 1 = 0) ↔ s.val.testBit d.val = false := by decide +kernel
theorem bt_nI {s : Nat} (hs : s < 2 ^ 31) (d : Nat) : bt (nI s).toInt64 d = s.testBit d := by
  rw [nI_l hs]
  exact bt_ofNat s (by omega) d
/-- the rectangle -/
def rct (w h : Nat) : Int64 := su 255 (nI (8 - w)) * su 72340172838076673 (nI (8 * (8 - h)))
theorem rct_bt' : ∀ w : Fin 7, ∀ h : Fin 7, 1 ≤ w.val → 1 ≤ h.val → ∀ i : Fin 64, bt (rct w.val h.val) i.val = decide (i.val % 8 < w.val ∧ i.val / 8 < h.val) := by decide +kernel
theorem rct_bt {w h : Nat} (hw : 1 ≤ w ∧ w ≤ 6) (hh : 1 ≤ h ∧ h ≤ 6) {i : Nat} (hi : i < 64) : bt (rct w h) i = decide (i % 8 < w ∧ i / 8 < h) := rct_bt' ⟨w, by omega⟩ ⟨h, by omega⟩ hw.1 hh.1 ⟨i, hi⟩
theorem rct_cnt' : ∀ w : Fin 7, ∀ h : Fin 7, 1 ≤ w.val → 1 ≤ h.val → cnt (rct w.val h.val) ≤ 36 := by decide +kernel
theorem rct_hB {w h : Nat} (hw : 1 ≤ w ∧ w ≤ 6) (hh : 1 ≤ h ∧ h ≤ 6) {X Y : Int} : hB (rct w h) X Y = true ↔ 0 ≤ X ∧ X < w ∧ 0 ≤ Y ∧ Y < h := by
  rw [hB_t]
  constructor
  · rintro ⟨x, y, hx, hy, rfl, rfl, e⟩
    rw [rct_bt hw hh (by omega), decide_eq_true_eq] at e
    omega
  · rintro ⟨a, b, c, d⟩
    refine ⟨X.toNat, Y.toNat, by omega, by omega, by omega, by omega, ?_⟩
    rw [rct_bt hw hh (by omega), decide_eq_true_eq]
    omega
theorem mo_rect {w h : Nat} (hw : 1 ≤ w ∧ w ≤ 6) (hh : 1 ≤ h ∧ h ≤ 6) (y : Int32) (D A tk : Nat → Int64) (ta : Nat → Int32) : fl2 (mo_fill_B141 (nI w) (nI h) y D A tk ta) FU 0 0 = fl5 (mo_fill_B203 (rct w h) y D A) FU 0 0 0 (vp_updL tk 0 0) (upd ta 0 0) := by
  refine ivl2 (B := mo_fill_B141 (nI w) (nI h) y D A tk ta) (fun j a b => b = nI j ∧ ∀ i, i < 64 → bt a i = decide (i % 8 < w ∧ i / 8 < j)) (fun o => o = fl5 (mo_fill_B203 (rct w h) y D A) FU 0 0 0 (vp_updL tk 0 0) (upd ta 0 0)) h ?_ ?_ FU 0 _ _ (by omega) (FU_lt (by omega)) ⟨rfl, fun i hi => by rw [bt_zero, decide_eq_false (by omega)]⟩
  · rintro j hj a b K ⟨rfl, ha⟩
    rw [mo_fill_B141, if_neg (nI_ge hj (by omega))]
    refine ivl2 (B := mo_fill_B150 (nI w) (nI h) (nI j) y D A tk ta K) (fun x a b => b = nI x ∧ ∀ i, i < 64 → bt a i = decide ((i % 8 < w ∧ i / 8 < j) ∨ (i % 8 < x ∧ i / 8 = j))) (fun o => ∃ a' b', (b' = nI (j + 1) ∧ ∀ i, i < 64 → bt a' i = decide (i % 8 < w ∧ i / 8 < j + 1)) ∧ o = K a' b') w ?_ ?_ FU 0 _ _ (by omega) (FU_lt (by omega)) ⟨rfl, fun i hi => by rw [ha i hi]; congr 1; apply propext; omega⟩
    · rintro x hx a b k ⟨rfl, hb⟩
      rw [mo_fill_B150, if_neg (nI_ge hx (by omega)), mo_cellBit, bd1_some, ix_eq, nm_eq, nm_eq, o1]
      refine ⟨_, _, ⟨rfl, fun i hi => ?_⟩, rfl⟩
      rw [bt_or, hb i hi]
      apply bool_iff
      rw [Bool.or_eq_true, bt_one (by omega), decide_eq_true_eq, decide_eq_true_eq]
      omega
    · rintro a b k ⟨rfl, hb⟩
      rw [mo_fill_B150, if_pos (nI_le (Nat.le_refl _) (by omega)), nm_eq, o1]
      exact ⟨_, _, ⟨rfl, fun i hi => by rw [hb i hi]; congr 1; apply propext; omega⟩, rfl⟩
  · rintro a b K ⟨rfl, ha⟩
    have e : a = rct w h := bt_ext (fun i hi => by rw [ha i hi, rct_bt hw hh hi])
    subst e
    rw [mo_fill_B141, if_pos (nI_le (Nat.le_refl _) (by omega)), show ∀ k : Option (Int32 × Int32 × (Nat → Int64) × (Nat → Int64) × (Nat → Int32)), ck 0 37 k = k from fun k => ck_n (n := 0) (by omega) (by omega) k, nm_eq, show ∀ k : Option (Int32 × Int32 × (Nat → Int64) × (Nat → Int64) × (Nat → Int32)), ck 0 37 k = k from fun k => ck_n (n := 0) (by omega) (by omega) k, nm_eq]
    rfl
/-- what stands at the depths: class and reference -/
def FSt (al : Int64) (e D : Nat) (cov : Nat → Int64) (pl nx : Nat → Int32) (tk : Nat → Int64) (ta : Nat → Int32) : Prop :=
  ∀ d, d ≤ D → (∃ q, q ≤ e ∧ nx d = nI q ∧ ta d = nI q) ∧ cov d = (al &&& (tk d ^^^ (-1))) ^^^ (-1) ∧ (∃ k, low (al &&& (tk d ^^^ (-1))) k ∧ pl d = nI k) ∧ sub (tk d) al ∧ d ≤ cnt (tk d)
def MSR (e : Nat) (A fg : Nat → Int64) (ft wd ht : Nat → Int32) : Prop := ∀ q, q < e → fg q = A q ∧ ft q = nI (ith (A q) 0) ∧ wd q = nI (wdt (A q)) ∧ ht q = nI (hgt (A q))
theorem fst_low {f : Int64} (hf : FIG f) : low f (ith f 0) ∧ ith f 0 < 8 ∧ low (f &&& 255) (ith f 0) := by
  have hc : 0 < cnt f := by
    rcases Nat.eq_zero_or_pos (cnt f) with e | e
    · exact absurd (cnt_0 e) hf.ne
    · exact e
  have h := ith_low (f := f) (i := 0) hc
  have h' : low f (ith f 0) := h
  obtain ⟨x, hx, hb⟩ := hf.2.1
  have l8 : ith f 0 < 8 := by have := low_row h' hb; omega
  refine ⟨h', l8, h'.1, ?_, fun i hi => ?_⟩
  · rw [bt_and, h'.2.1, k_255 h'.1, decide_eq_true l8]; rfl
  · rw [bt_and, h'.2.2 i hi, Bool.false_and]
/-- does the figure go there -/
def LDp (a lft : Int64) (p : Nat) : Prop := ith a 0 ≤ p % 8 ∧ p % 8 - ith a 0 + wdt a ≤ 7 ∧ p / 8 + hgt a ≤ 7 ∧ sl a (nI (8 * (p / 8) + (p % 8 - ith a 0))) &&& (lft ^^^ (-1)) = 0
theorem LDp_w {a al tk : Int64} (ha : FIG a) {w h : Nat} (hw : 1 ≤ w ∧ w ≤ 6) (hh : 1 ≤ h ∧ h ≤ 6) (hal : al = rct w h) {p : Nat} (h0 : LDp a (al &&& (tk ^^^ (-1))) p) : p % 8 - ith a 0 + wdt a ≤ w ∧ p / 8 + hgt a ≤ h := by
  have wa := wdt_b ha
  obtain ⟨h1, h2, h3, h4⟩ := h0
  have hl := (put_LI ha h2 h3).mp h4
  have hall : ∀ X Y, hB (al &&& (tk ^^^ (-1))) X Y = true → hB al X Y = true := by
    intro X Y q
    obtain ⟨x, y, hx, hy, rfl, rfl, e⟩ := hB_t.mp q
    rw [bt_and, Bool.and_eq_true] at e
    rw [hB_n al hx hy]; exact e.1
  obtain ⟨y1, b1⟩ := (FIG_w ha (x := wdt a - 1) (by omega)).mpr (by omega)
  obtain ⟨x2, hx2, b2⟩ := (FIG_h ha (y := hgt a - 1) (by omega)).mpr (by omega)
  have l1 := bt_lt b1
  have l2 := bt_lt b2
  have c1 := hall _ _ (hl _ _ (hB_bt b1))
  have c2 := hall _ _ (hl _ _ (hB_bt b2))
  rw [hal, rct_hB hw hh] at c1 c2
  omega
theorem laid_eq {e : Nat} {A fg : Nat → Int64} {ft wd ht : Nat → Int32} (hm : MSR e A fg ft wd ht) {q : Nat} (hq : q < e) (he : e ≤ 64) (ha : FIG (A q)) {w h : Nat} (hw : 1 ≤ w ∧ w ≤ 6) (hh : 1 ≤ h ∧ h ≤ 6) {D : Nat} (hD : D < 36) {cov : Nat → Int64} {pl : Nat → Int32} {tk : Int64} {p : Nat} (hp : p < 64) (hpl : pl D = nI p) (hcov : cov D = (rct w h &&& (tk ^^^ (-1))) ^^^ (-1)) [dd : Decidable (LDp (A q) (rct w h &&& (tk ^^^ (-1))) p)] : fi_laid (nI q) (nI D) (nI w) (nI h) fg ft wd ht cov pl = some (if LDp (A q) (rct w h &&& (tk ^^^ (-1))) p then sl (A q) (nI (8 * (p / 8) + (p % 8 - ith (A q) 0))) else 0) := by
  obtain ⟨m1, m2, m3, m4⟩ := hm q hq
  have wa := wdt_b ha
  obtain ⟨_, f8, _⟩ := fst_low ha
  have c36 : ∀ k : Option Int64, ck (nI D) 36 k = k := fun k => ck_n hD (by omega) k
  have c64 : ∀ k : Option Int64, ck (nI q) 64 k = k := fun k => ck_n (show q < 64 by omega) (by omega) k
  simp only [fi_laid, nm_eq, c36, c64, cl_n (show D < 2 ^ 31 by omega), cl_n (show q < 2 ^ 31 by omega), hpl, m1, m2, m3, m4, hcov, and7 ⟨p, hp⟩, ir3 ⟨p, hp⟩]
  by_cases q1 : ith (A q) 0 ≤ p % 8
  · rw [pk_sub q1, if_neg (nI_pos (by omega)), nI_add]
    by_cases q2 : p % 8 - ith (A q) 0 + wdt (A q) ≤ w
    · rw [if_neg (nI_nlt q2 (by omega)), nI_add]
      by_cases q3 : p / 8 + hgt (A q) ≤ h
      · rw [if_pos (nI_le q3 (by omega)), ix_eq]
        by_cases q4 : sl (A q) (nI (8 * (p / 8) + (p % 8 - ith (A q) 0))) &&& ((rct w h &&& (tk ^^^ (-1))) ^^^ (-1)) = 0
        · rw [if_pos q4, if_pos (show LDp (A q) (rct w h &&& (tk ^^^ (-1))) p from ⟨q1, by omega, by omega, q4⟩)]
        · rw [if_neg q4, if_neg (fun c : LDp (A q) (rct w h &&& (tk ^^^ (-1))) p => q4 c.2.2.2)]
      · rw [if_neg (nI_ge (by omega) (by omega)), if_neg (fun c : LDp (A q) (rct w h &&& (tk ^^^ (-1))) p => q3 (LDp_w ha hw hh rfl c).2)]
    · rw [if_pos (nI_lt (by omega) (by omega)), if_neg (fun c : LDp (A q) (rct w h &&& (tk ^^^ (-1))) p => q2 (LDp_w ha hw hh rfl c).1)]
  · rw [if_pos (show nI (p % 8) - nI (ith (A q) 0) < 0 from pk_sneg (by omega) (by omega)), if_neg (fun c : LDp (A q) (rct w h &&& (tk ^^^ (-1))) p => q1 c.1)]
theorem put_eq {a : Int64} (ha : FIG a) {p : Nat} (hp : p < 64) : mo_putAt a (nI (p % 8) - nI (ith a 0)) (nI (p / 8)) = some (if ith a 0 ≤ p % 8 ∧ p % 8 - ith a 0 + wdt a ≤ 7 ∧ p / 8 + hgt a ≤ 7 then sl a (nI (8 * (p / 8) + (p % 8 - ith a 0))) else 0) := by
  obtain ⟨_, f8, _⟩ := fst_low ha
  by_cases q1 : ith a 0 ≤ p % 8
  · rw [pk_sub q1, mo_putAt_eq ha (by omega) (by omega)]
    by_cases q2 : p % 8 - ith a 0 + wdt a ≤ 7 ∧ p / 8 + hgt a ≤ 7
    · rw [if_pos q2, if_pos ⟨q1, q2⟩]
    · rw [if_neg q2, if_neg (fun c => q2 c.2)]
  · rw [mo_putAt, if_pos (show nI (p % 8) - nI (ith a 0) < 0 from pk_sneg (by omega) (by omega)), if_neg (fun c => q1 c.1)]
theorem cov_or (al tk its : Int64) : its ||| ((al &&& (tk ^^^ (-1))) ^^^ (-1)) = (al &&& ((its ||| tk) ^^^ (-1))) ^^^ (-1) := by
  apply bt_ext
  intro i hi
  rw [bt_or, bt_xor, bt_xor, bt_and, bt_and, bt_xor, bt_xor, bt_or, bt_m1 hi]
  cases bt its i <;> cases bt al i <;> cases bt tk i <;> rfl
theorem full_iff {al tk : Int64} (hs : sub tk al) : (al &&& (tk ^^^ (-1))) ^^^ (-1) = -1 ↔ tk = al := by
  constructor
  · intro h
    apply bt_ext
    intro i hi
    have := congrArg (fun z => bt z i) h
    simp only [bt_xor, bt_and, bt_m1 hi] at this
    have h2 := hs i
    cases ha : bt al i <;> cases hb : bt tk i <;> simp_all
  · rintro rfl
    apply bt_ext
    intro i hi
    rw [bt_xor, bt_and, bt_xor, bt_m1 hi]
    cases bt tk i <;> rfl
theorem low_ne {x : Int64} {k : Nat} (h : low x k) : x ≠ 0 := by
  intro e
  have := h.2.1
  rw [e, bt_zero] at this; cases this
theorem left_ne {al tk : Int64} (hs : sub tk al) (h : al &&& (tk ^^^ (-1)) ≠ 0) : tk ≠ al := by
  rintro rfl
  apply h
  apply bt_ext
  intro i hi
  rw [bt_and, bt_xor, bt_m1 hi, bt_zero]
  cases bt tk i <;> rfl
theorem left_low {al tk : Int64} (hs : sub tk al) (h : tk ≠ al) : ∃ k, low (al &&& (tk ^^^ (-1))) k := by
  refine low_ex (fun e => h ?_)
  have := (full_iff hs).mp (by rw [e]; apply bt_ext; intro i hi; rw [bt_xor, bt_zero, bt_m1 hi]; rfl)
  exact this
theorem its_sub {its al tk : Int64} (h : its &&& ((al &&& (tk ^^^ (-1))) ^^^ (-1)) = 0) : sub its al ∧ ∀ i, bt its i = true → bt tk i = false := by
  have key : ∀ i, bt its i = true → bt al i = true ∧ bt tk i = false := by
    intro i hi
    have i64 := bt_lt hi
    have := (i64_eq0.mp h) i i64
    rw [bt_and, bt_xor, bt_and, bt_xor, bt_m1 i64, hi] at this
    cases ha : bt al i <;> cases hb : bt tk i <;> rw [ha, hb] at this <;> simp_all
  exact ⟨fun i hi => (key i hi).1, fun i hi => (key i hi).2⟩
theorem cnt_or {a b : Int64} (h : ∀ i, bt a i = true → bt b i = false) : cnt (a ||| b) = cnt a + cnt b := by
  unfold cnt
  rw [← fb_ct_or (fun k _ => by rintro ⟨h1, h2⟩; rw [h k h1] at h2; cases h2)]
  exact fb_ct_cong (fun k _ => bt_or a b k)
/-- both searches, round for round -/
theorem fill_go {w h : Nat} (hw : 1 ≤ w ∧ w ≤ 6) (hh : 1 ≤ h ∧ h ≤ 6) {e : Nat} (he : e ≤ 64) {A fg : Nat → Int64} {ft wd ht : Nat → Int32} (hm : MSR e A fg ft wd ht) (hA : ∀ k, k < e → FIG (A k)) (rs : Int32) (A0 : Nat → Int64) {B : Nat → Int64} (hB' : ∀ k, k < e → A k = B k) (Dr : Nat → Int64) : ∀ (n D1 T Fd R : Nat) (cov : Nat → Int64) (pl nx : Nat → Int32) (tk : Nat → Int64) (ta : Nat → Int32), (D1 = 0 ∨ FSt (rct w h) e (D1 - 1) cov pl nx tk ta) → D1 ≤ 36 → T ≤ 20000 → Fd ≤ T → R + D1 ≤ 2 * T + 1 → 40003 - R < n → ∃ r cov' pl' nx' r' tk' ta', fl7 (fi_search_B46 (nI w) (nI h) rs A0 (nI e) fg ft wd ht) n (Int32.ofInt ((D1 : Int) - 1)) (nI T) (nI Fd) (nI R) cov pl nx = some (r, nI e, fg, ft, wd, ht, cov', pl', nx') ∧ fl5 (mo_fill_B203 (rct w h) (nI e) Dr B) n (nI Fd) (nI T) (Int32.ofInt ((D1 : Int) - 1)) tk ta = some (r', nI e, B, tk', ta') ∧ ((r = -1 ∧ r' = -3) ∨ ∃ q, q ≤ 20000 ∧ r = nI q ∧ r' = nI q) := by
  intro n
  induction n with
  | zero => intro D1 T Fd R _ _ _ _ _ _ _ _ _ _ hn; omega
  | succ n ih =>
    intro D1 T Fd R cov pl nx tk ta hS hD1 hT hFd hR hn
    show ∃ r cov' pl' nx' r' tk' ta', fi_search_B46 (nI w) (nI h) rs A0 (nI e) fg ft wd ht (fl7 (fi_search_B46 (nI w) (nI h) rs A0 (nI e) fg ft wd ht) n) (Int32.ofInt ((D1 : Int) - 1)) (nI T) (nI Fd) (nI R) cov pl nx = some (r, nI e, fg, ft, wd, ht, cov', pl', nx') ∧ mo_fill_B203 (rct w h) (nI e) Dr B (fl5 (mo_fill_B203 (rct w h) (nI e) Dr B) n) (nI Fd) (nI T) (Int32.ofInt ((D1 : Int) - 1)) tk ta = some (r', nI e, B, tk', ta') ∧ _
    rw [fi_search_B46, mo_fill_B203, if_neg (show ¬ (40002 : Int32) < nI R from nI_nlt (a := 40002) (b := R) (by omega) (by omega))]
    cases D1 with
    | zero =>
      rw [if_pos (show Int32.ofInt (((0 : Nat) : Int) - 1) < 0 from by decide), if_pos (show Int32.ofInt (((0 : Nat) : Int) - 1) < 0 from by decide)]
      exact ⟨_, _, _, _, _, _, _, rfl, rfl, Or.inr ⟨Fd, by omega, rfl, rfl⟩⟩
    | succ D =>
      have ed : Int32.ofInt (((D + 1 : Nat) : Int) - 1) = nI D := by rw [nI_iI]; congr 1; omega
      have S : FSt (rct w h) e D cov pl nx tk ta := by
        rcases hS with q | q
        · omega
        · exact q
      obtain ⟨⟨q, hq, nq, tq⟩, cD, ⟨p, hp, plD⟩, sD, dD⟩ := S D (Nat.le_refl _)
      have back : nI D + Int32.ofInt (-1) = Int32.ofInt ((D : Int) - 1) := by rw [nI_iI, ← Int32.ofInt_add]; congr 1
      have back2 : nI D - 1 = Int32.ofInt ((D : Int) - 1) := by rw [nI_iI]; exact iO _
      rw [ed, if_neg (nI_pos (by omega)), if_neg (nI_pos (by omega)), ck_n (show D < 36 by omega) (by omega), ck_n (show D < 37 by omega) (by omega), cl_n (by omega), nq, tq, nm_eq]
      by_cases qe : q = e
      · subst qe
        rw [if_neg (nI_nlt (Nat.le_refl _) (by omega)), if_pos rfl, nm_eq, nm_eq, back, back2, fi_search_J178, nm_eq, o1]
        exact ih D T Fd (R + 1) cov pl nx tk ta (by
          rcases Nat.eq_zero_or_pos D with z | z
          · exact Or.inl z
          · exact Or.inr (fun d hd => S d (by omega))) (by omega) hT hFd (by omega) (by omega)
      · have hqe : q < e := by omega
        have fq := hA q hqe
        rw [if_pos (nI_lt hqe (by omega)), if_neg (fun c => qe ((nI_eq (by omega) (by omega)).mp c))]
        simp only [nm_eq, ck_n (show D < 36 by omega) (show 36 < 2 ^ 31 by omega), ck_n (show D < 37 by omega) (show 37 < 2 ^ 31 by omega), nI_1, o1]
        by_cases qT : T = 20000
        · subst qT
          rw [if_neg (show ¬ nI (20000 + 1) ≤ (20000 : Int32) from by decide), if_pos (show nI 20000 = (20000 : Int32) from rfl)]
          exact ⟨_, _, _, _, _, _, _, rfl, rfl, Or.inl ⟨rfl, rfl⟩⟩
        · rw [if_pos (show nI (T + 1) ≤ (20000 : Int32) from nI_le (a := T + 1) (b := 20000) (by omega) (by omega)), if_neg (show ¬ nI T = (20000 : Int32) from fun c => qT ((nI_eq (a := T) (b := 20000) (by omega) (by omega)).mp c))]
          have p64 := hp.1
          obtain ⟨f1, f2, f3⟩ := fst_low fq
          have dd : Decidable (LDp (A q) (rct w h &&& (tk D ^^^ (-1))) p) := Classical.propDecidable _
          rw [laid_eq hm hqe he fq hw hh (show D < 36 by omega) p64 plD cD, bd1_some, ck_n (show q < 64 by omega) (by omega), cl_n (show q < 2 ^ 31 by omega), ← hB' q hqe, mo_lowest_eq hp, bd1_some, mo_lowest_eq f3, bd1_some, dzI_n (by decide), dzI_n (by decide), show (8 : Int32) = nI 8 from rfl, remI_n (by omega) (by omega) (by omega), pk_div (by omega) (by omega) (by omega), put_eq fq p64, bd1_some, cD]
          have tl : tk D ≠ rct w h := left_ne sD (low_ne hp)
          -- going on at the same depth
          have S' : ∀ d, d ≤ D → (∃ q', q' ≤ e ∧ upd nx D (nI (q + 1)) d = nI q' ∧ upd ta D (nI (q + 1)) d = nI q') ∧ cov d = (rct w h &&& (tk d ^^^ (-1))) ^^^ (-1) ∧ (∃ k, low (rct w h &&& (tk d ^^^ (-1))) k ∧ pl d = nI k) ∧ sub (tk d) (rct w h) ∧ d ≤ cnt (tk d) := by
            intro d hd
            have sd := S d hd
            refine ⟨?_, sd.2⟩
            by_cases qd : d = D
            · subst qd; exact ⟨q + 1, by omega, pk_us, pk_us⟩
            · rw [pk_un qd, pk_un qd]; exact sd.1
          have same : ∀ Fd', Fd' ≤ T + 1 → ∃ r cov' pl' nx' r' tk' ta', fl7 (fi_search_B46 (nI w) (nI h) rs A0 (nI e) fg ft wd ht) n (nI D) (nI (T + 1)) (nI Fd') (nI (R + 1)) cov pl (upd nx D (nI (q + 1))) = some (r, nI e, fg, ft, wd, ht, cov', pl', nx') ∧ fl5 (mo_fill_B203 (rct w h) (nI e) Dr B) n (nI Fd') (nI (T + 1)) (nI D) tk (upd ta D (nI (q + 1))) = some (r', nI e, B, tk', ta') ∧ ((r = -1 ∧ r' = -3) ∨ ∃ q, q ≤ 20000 ∧ r = nI q ∧ r' = nI q) := by
            intro Fd' hF'
            have := ih (D + 1) (T + 1) Fd' (R + 1) cov pl (upd nx D (nI (q + 1))) tk (upd ta D (nI (q + 1))) (Or.inr S') (by omega) (by omega) hF' (by omega) (by omega)
            rw [ed] at this
            exact this
          by_cases qL : LDp (A q) (rct w h &&& (tk D ^^^ (-1))) p
          · rw [if_pos qL, if_pos (show ith (A q) 0 ≤ p % 8 ∧ p % 8 - ith (A q) 0 + wdt (A q) ≤ 7 ∧ p / 8 + hgt (A q) ≤ 7 from ⟨qL.1, qL.2.1, qL.2.2.1⟩), cov_or, if_neg (sl_ne0 fq qL.2.1 qL.2.2.1), if_neg (sl_ne0 fq qL.2.1 qL.2.2.1), if_pos qL.2.2.2]
            obtain ⟨i1, i2⟩ := its_sub qL.2.2.2
            generalize hits : sl (A q) (nI (8 * (p / 8) + (p % 8 - ith (A q) 0))) = its at *
            have ine : its ≠ 0 := by rw [← hits]; exact sl_ne0 fq qL.2.1 qL.2.2.1
            have s2 : sub (its ||| tk D) (rct w h) := by
              intro i hi
              rw [bt_or, Bool.or_eq_true] at hi
              rcases hi with a | a
              · exact i1 i a
              · exact sD i a
            have c2 := cnt_or i2
            have cp : 0 < cnt its := by
              rcases Nat.eq_zero_or_pos (cnt its) with z | z
              · exact absurd (cnt_0 z) ine
              · exact z
            by_cases qF : its ||| tk D = rct w h
            · rw [if_pos ((full_iff s2).mpr qF), if_pos qF, fi_search_J178, nm_eq, o1]
              exact same (Fd + 1) (by omega)
            · have cl := cnt_lt s2 qF
              have c36' : cnt (rct w h) ≤ 36 := rct_cnt' ⟨w, by omega⟩ ⟨h, by omega⟩ hw.1 hh.1
              rw [if_neg (fun c => qF ((full_iff s2).mp c)), if_neg qF, if_neg (show ¬ (36 : Int32) ≤ nI (D + 1) from nI_ge (a := D + 1) (b := 36) (by omega) (by omega))]
              obtain ⟨k, hk⟩ := left_low s2 qF
              rw [show nI (D + 1) - 1 = nI D from nI_pred D, ck_n (show D < 36 by omega) (by omega), ck_n (show D < 37 by omega) (by omega), cl_n (by omega), cD, cov_or, fi_open, ck_n (show D + 1 < 36 by omega) (by omega), nm_eq]
              have xx : ((rct w h &&& ((its ||| tk D) ^^^ (-1))) ^^^ (-1)) ^^^ (-1) = rct w h &&& ((its ||| tk D) ^^^ (-1)) := by
                apply bt_ext
                intro i hi
                rw [bt_xor, bt_xor, bt_m1 hi]
                cases bt (rct w h &&& ((its ||| tk D) ^^^ (-1))) i <;> rfl
              rw [xx, gr_lowest_eq hk, bd1_some, ck_n (show D + 1 < 36 by omega) (by omega), nm_eq, nm_eq, ck_n (show D + 1 < 36 by omega) (by omega), bd3_some, fi_search_J178, nm_eq, o1, ck_n (show D + 1 < 37 by omega) (by omega), cl_n (show D + 1 < 2 ^ 31 by omega), ck_n (show D + 1 < 37 by omega) (by omega)]
              have ed2 : Int32.ofInt (((D + 1 + 1 : Nat) : Int) - 1) = nI (D + 1) := by rw [nI_iI]; congr 1; omega
              have := ih (D + 1 + 1) (T + 1) Fd (R + 1) (vp_updL cov (D + 1) ((rct w h &&& ((its ||| tk D) ^^^ (-1))) ^^^ (-1))) (upd pl (D + 1) (nI k)) (upd (upd nx D (nI (q + 1))) (D + 1) 0) (vp_updL tk (D + 1) (tk D ||| its)) (upd (upd ta D (nI (q + 1))) (D + 1) 0) (Or.inr (by
                intro d hd
                rw [show D + 1 + 1 - 1 = D + 1 by omega] at hd
                by_cases qd : d = D + 1
                · subst qd
                  rw [pk_us, pk_us, pk_us, pk_uLs, pk_uLs, show tk D ||| its = its ||| tk D from bt_ext (fun i _ => by rw [bt_or, bt_or, Bool.or_comm])]
                  exact ⟨⟨0, by omega, rfl, rfl⟩, rfl, ⟨k, hk, rfl⟩, s2, by omega⟩
                · rw [pk_un qd, pk_un qd, pk_un qd, pk_uLn qd, pk_uLn qd]
                  exact S' d (by omega))) (by omega) (by omega) (by omega) (by omega) (by omega)
              rw [ed2] at this
              exact this
          · rw [if_neg qL]
            have z0 : (0 : Int64) ||| ((rct w h &&& (tk D ^^^ (-1))) ^^^ (-1)) = (rct w h &&& (tk D ^^^ (-1))) ^^^ (-1) := bt_ext (fun i _ => by rw [bt_or, bt_zero, Bool.false_or])
            rw [z0, if_neg (fun c => tl ((full_iff sD).mp c)), if_pos rfl, fi_search_J178, nm_eq, o1]
            by_cases qP : ith (A q) 0 ≤ p % 8 ∧ p % 8 - ith (A q) 0 + wdt (A q) ≤ 7 ∧ p / 8 + hgt (A q) ≤ 7
            · rw [if_pos qP, if_neg (sl_ne0 fq qP.2.1 qP.2.2), if_neg (fun c => qL ⟨qP.1, qP.2.1, qP.2.2, c⟩)]
              exact same Fd (by omega)
            · rw [if_neg qP, if_pos rfl]
              exact same Fd (by omega)
