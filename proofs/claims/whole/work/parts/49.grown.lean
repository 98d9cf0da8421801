/-! what hangs together, told by places -/
def adjI (X Y X' Y' : Int) : Prop := (Y = Y' ∧ (X + 1 = X' ∨ X' + 1 = X)) ∨ (X = X' ∧ (Y + 1 = Y' ∨ Y' + 1 = Y))
theorem adjI_symm {X Y X' Y' : Int} (h : adjI X Y X' Y') : adjI X' Y' X Y := by unfold adjI at *; omega
theorem adj_I (a b : Nat) : adj a b ↔ adjI ((a % 8 : Nat) : Int) ((a / 8 : Nat) : Int) ((b % 8 : Nat) : Int) ((b / 8 : Nat) : Int) := by
  unfold adj adjI
  constructor <;> intro h <;> omega
theorem hB_bt {f : Int64} {i : Nat} (h : bt f i = true) : hB f ((i % 8 : Nat) : Int) ((i / 8 : Nat) : Int) = true := by
  rw [hB_b f (bt_lt h)]; exact h
theorem CON_i {f : Int64} : CON f ↔ f ≠ 0 ∧ ∀ T : Int → Int → Prop, (∃ X Y, hB f X Y = true ∧ T X Y) → (∀ X Y X' Y', hB f X Y = true → hB f X' Y' = true → adjI X Y X' Y' → T X Y → T X' Y') → ∀ X Y, hB f X Y = true → T X Y := by
  constructor
  · rintro ⟨h0, h⟩
    refine ⟨h0, fun T ⟨X, Y, a, b⟩ hs X1 Y1 c => ?_⟩
    obtain ⟨x, y, hx, hy, rfl, rfl, e⟩ := hB_t.mp a
    obtain ⟨x1, y1, hx1, hy1, rfl, rfl, e1⟩ := hB_t.mp c
    have := h (fun i => T ((i % 8 : Nat) : Int) ((i / 8 : Nat) : Int)) ⟨_, e, by
      show T (((8 * y + x) % 8 : Nat) : Int) (((8 * y + x) / 8 : Nat) : Int)
      rw [show (8 * y + x) % 8 = x by omega, show (8 * y + x) / 8 = y by omega]; exact b⟩ (fun p q hp hq hpq ht => hs _ _ _ _ (hB_bt hp) (hB_bt hq) ((adj_I p q).mp hpq) ht) _ e1
    rw [show (8 * y1 + x1) % 8 = x1 by omega, show (8 * y1 + x1) / 8 = y1 by omega] at this
    exact this
  · rintro ⟨h0, h⟩
    refine ⟨h0, fun T ⟨a, ha, hT⟩ hs b hb => ?_⟩
    have e8 : ∀ i : Nat, 8 * (((i / 8 : Nat) : Int)).toNat + (((i % 8 : Nat) : Int)).toNat = i := by intro i; omega
    have := h (fun X Y => T (8 * Y.toNat + X.toNat)) ⟨_, _, hB_bt ha, by
      show T (8 * (((a / 8 : Nat) : Int)).toNat + (((a % 8 : Nat) : Int)).toNat)
      rw [e8]; exact hT⟩ (fun X Y X' Y' p q hpq ht => by
        obtain ⟨x, y, hx, hy, rfl, rfl, e⟩ := hB_t.mp p
        obtain ⟨x1, y1, hx1, hy1, rfl, rfl, e1⟩ := hB_t.mp q
        have ht' : T (8 * y + x) := ht
        show T (8 * y1 + x1)
        exact hs _ _ e e1 ((adj_I _ _).mpr (by
          rw [show (8 * y1 + x1) % 8 = x1 by omega, show (8 * y1 + x1) / 8 = y1 by omega, show (8 * y + x) % 8 = x by omega, show (8 * y + x) / 8 = y by omega]; exact hpq)) ht') _ _ (hB_bt hb)
    rw [← e8 b]; exact this
theorem cnt_tr {f g : Int64} {a b : Int} (h : ∀ X Y, hB g X Y = hB f (X + a) (Y + b)) : cnt g = cnt f := by
  have one : ∀ (f g : Int64) (a b : Int), (∀ X Y, hB g X Y = hB f (X + a) (Y + b)) → cnt g ≤ cnt f := by
    intro f g a b h
    refine cnt_img (fun j => 8 * (((j / 8 : Nat) : Int) - b).toNat + (((j % 8 : Nat) : Int) - a).toNat) (fun i hi => ?_)
    have := hB_bt hi
    rw [h] at this
    obtain ⟨x, y, hx, hy, ex, ey, e⟩ := hB_t.mp this
    refine ⟨_, e, ?_⟩
    rw [show (8 * y + x) % 8 = x by omega, show (8 * y + x) / 8 = y by omega]
    omega
  have h1 := one f g a b h
  have h2 := one g f (-a) (-b) (fun X Y => by rw [h]; congr 1 <;> omega)
  omega
theorem zB_c (p : Prop) [Decidable p] : (p ∧ zB (decide p) = 1) ∨ (¬ p ∧ zB (decide p) = 0) := by
  by_cases q : p
  · exact Or.inl ⟨q, by rw [decide_eq_true q]; rfl⟩
  · exact Or.inr ⟨q, by rw [decide_eq_false q]; rfl⟩
theorem Wn_c {f : Int64} {x y : Int} (h : Wn f x y = true) : (x < 0 → wdt f < 7) ∧ x < 7 ∧ (y < 0 → hgt f < 7) ∧ y < 7 := by
  unfold Wn at h
  rw [decide_eq_true_eq] at h
  obtain ⟨a, b⟩ := h
  refine ⟨fun q => by rw [if_pos q] at a; exact a, ?_, fun q => by rw [if_pos q] at b; exact b, ?_⟩
  · by_cases q : x < 0
    · omega
    · rw [if_neg q] at a; exact a
  · by_cases q : y < 0
    · omega
    · rw [if_neg q] at b; exact b
theorem BS_c {f : Int64} {x y : Int} (h : BS f x y = true) : hB f x y = false ∧ ∃ x' y', adjI x y x' y' ∧ hB f x' y' = true := by
  unfold BS at h
  rw [Bool.and_eq_true, Bool.or_eq_true, Bool.or_eq_true, Bool.or_eq_true, Bool.not_eq_true'] at h
  refine ⟨h.1, ?_⟩
  rcases h.2 with ((q | q) | q) | q
  · exact ⟨_, _, Or.inl ⟨rfl, Or.inl rfl⟩, q⟩
  · exact ⟨_, _, Or.inl ⟨rfl, Or.inr (by omega)⟩, q⟩
  · exact ⟨_, _, Or.inr ⟨rfl, Or.inl rfl⟩, q⟩
  · exact ⟨_, _, Or.inr ⟨rfl, Or.inr (by omega)⟩, q⟩
theorem BS_r {f : Int64} (hf : F77 f) {x y : Int} (h : BS f x y = true) : -1 ≤ x ∧ x ≤ 7 ∧ -1 ≤ y ∧ y ≤ 7 := by
  obtain ⟨_, x', y', a, b⟩ := BS_c h
  have : 0 ≤ x' ∧ x' < 7 ∧ 0 ≤ y' ∧ y' < 7 := Classical.byContradiction (fun q => by rw [hB_77 hf q] at b; cases b)
  unfold adjI at a
  omega
theorem ne0_hB {f : Int64} {X Y : Int} (h : hB f X Y = true) : f ≠ 0 := by
  intro e
  subst e
  obtain ⟨_, _, _, _, _, _, c⟩ := hB_t.mp h
  rw [bt_zero] at c; cases c
theorem wth_FIG {f : Int64} (hf : FIG f) (hc : cnt f < 12) {x y : Int} (hb : BS f x y = true) (hw : Wn f x y = true) : FIG (wth f x y) ∧ cnt (wth f x y) = cnt f + 1 := by
  obtain ⟨x1, x2, y1, y2⟩ := BS_r hf.1 hb
  obtain ⟨w1, w2, w3, w4⟩ := Wn_c hw
  have zx := zB_c (x < 0)
  have zy := zB_c (y < 0)
  have wb := wdt_b hf
  have hg := wth_hB hf.1 (x := x) (y := y) ⟨x1, w2⟩ ⟨y1, w4⟩
  obtain ⟨n0, x', y', ha, hn⟩ := BS_c hb
  have new : hB (wth f x y) (x + zB (decide (x < 0))) (y + zB (decide (y < 0))) = true := by
    rw [hg]; simp
  have old : ∀ X Y, hB f X Y = true → hB (wth f x y) (X + zB (decide (x < 0))) (Y + zB (decide (y < 0))) = true := by
    intro X Y q
    rw [hg, show X + zB (decide (x < 0)) - zB (decide (x < 0)) = X by omega, show Y + zB (decide (y < 0)) - zB (decide (y < 0)) = Y by omega, q, Bool.true_or]
  have cases_ : ∀ X Y, hB (wth f x y) X Y = true → hB f (X - zB (decide (x < 0))) (Y - zB (decide (y < 0))) = true ∨ (X = x + zB (decide (x < 0)) ∧ Y = y + zB (decide (y < 0))) := by
    intro X Y q
    rw [hg, Bool.or_eq_true, decide_eq_true_eq] at q
    exact q
  have cn : cnt (wth f x y) = cnt f + 1 := by
    have a := pz_lt w2
    have b := pz_lt w4
    have e1 : cnt (rmB (decide (x < 0)) (decide (y < 0)) f) = cnt f := cnt_tr (a := - zB (decide (x < 0))) (b := - zB (decide (y < 0))) (fun X Y => by rw [rmB_hB hf.1]; congr 1)
    unfold wth
    rw [or_cnt (by omega), e1]
    rw [← hB_b _ (by omega), show (8 * pz y + pz x) % 8 = pz x by omega, show (8 * pz y + pz x) / 8 = pz y by omega, rmB_hB hf.1, pz_z x x1, pz_z y y1, show x + zB (decide (x < 0)) - zB (decide (x < 0)) = x by omega, show y + zB (decide (y < 0)) - zB (decide (y < 0)) = y by omega]
    exact n0
  refine ⟨⟨?_, ?_, ?_, by omega, ?_⟩, cn⟩
  · intro i hi
    have i64 := bt_lt hi
    rcases cases_ _ _ (hB_bt hi) with q | q
    · have := hB_wh hf q
      rcases zx with z | z <;> rcases zy with z2 | z2 <;> omega
    · rcases zx with z | z <;> rcases zy with z2 | z2 <;> omega
  · by_cases q : y < 0
    · have e : y + zB (decide (y < 0)) = 0 := by rcases zy with z | z <;> omega
      rw [e] at new
      obtain ⟨a, b, a8, b8, ea, eb, h⟩ := hB_t.mp new
      have b0 : b = 0 := by omega
      subst b0
      refine ⟨a, ?_, by rw [show a = 8 * 0 + a by omega]; exact h⟩
      rcases zx with z | z <;> omega
    · obtain ⟨a, ha7, h⟩ := hf.2.1
      have := old _ _ (hB_bt h)
      have e : zB (decide (y < 0)) = 0 := by rcases zy with z | z <;> omega
      rw [e] at this
      have wh := bt_wh hf h
      obtain ⟨a2, b2, a8, b8, ea, eb, h2⟩ := hB_t.mp this
      have b0 : b2 = 0 := by omega
      subst b0
      refine ⟨a2, ?_, by rw [show a2 = 8 * 0 + a2 by omega]; exact h2⟩
      rcases zx with z | z <;> omega
  · by_cases q : x < 0
    · have e : x + zB (decide (x < 0)) = 0 := by rcases zx with z | z <;> omega
      rw [e] at new
      obtain ⟨a, b, a8, b8, ea, eb, h⟩ := hB_t.mp new
      have b0 : a = 0 := by omega
      subst b0
      refine ⟨b, ?_, h⟩
      rcases zy with z | z <;> omega
    · obtain ⟨a, ha7, h⟩ := hf.2.2.1
      have := old _ _ (hB_bt h)
      have e : zB (decide (x < 0)) = 0 := by rcases zx with z | z <;> omega
      rw [e] at this
      have wh := bt_wh hf h
      obtain ⟨a2, b2, a8, b8, ea, eb, h2⟩ := hB_t.mp this
      have b0 : a2 = 0 := by omega
      subst b0
      refine ⟨b2, ?_, h2⟩
      rcases zy with z | z <;> omega
  · rw [CON_i]
    refine ⟨ne0_hB new, fun T ⟨X, Y, h1, h2⟩ hs X' Y' h3 => ?_⟩
    have an : adjI (x + zB (decide (x < 0))) (y + zB (decide (y < 0))) (x' + zB (decide (x < 0))) (y' + zB (decide (y < 0))) := by
      unfold adjI at ha ⊢; omega
    have hcon := (CON_i.mp hf.2.2.2.2).2 (fun X Y => T (X + zB (decide (x < 0))) (Y + zB (decide (y < 0))))
    have all : ∀ X Y, hB f X Y = true → T (X + zB (decide (x < 0))) (Y + zB (decide (y < 0))) := by
      refine hcon ?_ (fun a b c d p1 p2 p3 p4 => hs _ _ _ _ (old _ _ p1) (old _ _ p2) (by unfold adjI at p3 ⊢; omega) p4)
      rcases cases_ _ _ h1 with q | q
      · exact ⟨_, _, q, by
          show T (X - zB (decide (x < 0)) + zB (decide (x < 0))) (Y - zB (decide (y < 0)) + zB (decide (y < 0)))
          rw [show X - zB (decide (x < 0)) + zB (decide (x < 0)) = X by omega, show Y - zB (decide (y < 0)) + zB (decide (y < 0)) = Y by omega]; exact h2⟩
      · refine ⟨x', y', hn, hs _ _ _ _ new (old _ _ hn) an ?_⟩
        rw [← q.1, ← q.2]; exact h2
    rcases cases_ _ _ h3 with q | q
    · have := all _ _ q
      rw [show X' - zB (decide (x < 0)) + zB (decide (x < 0)) = X' by omega, show Y' - zB (decide (y < 0)) + zB (decide (y < 0)) = Y' by omega] at this
      exact this
    · rw [q.1, q.2]
      exact hs _ _ _ _ (old _ _ hn) new (adjI_symm an) (all _ _ hn)
theorem low_sl {x : Int64} {k : Nat} (h : low x k) : x &&& -x = sl 1 (nI k) := by
  apply bt_ext
  intro i hi
  apply bool_iff
  rw [bt_lowest h hi, bt_one h.1, decide_eq_true_eq]
theorem site_c {f : Int64} (hf : FIG f) {i : Nat} (h : bt (stL f) i = true) : BS f (((i % 8 : Nat) : Int) - rxI f) (((i / 8 : Nat) : Int) - ryI f) = true ∧ Wn f (((i % 8 : Nat) : Int) - rxI f) (((i / 8 : Nat) : Int) - ryI f) = true := by
  rw [site_bt hf (bt_lt h), Bool.and_eq_true] at h
  exact h
theorem site_settle {f : Int64} (hf : FIG f) (hc : cnt f < 12) {i : Nat} (h : bt (stL f) i = true) : gr_settled (rmL f ||| sl 1 (nI i)) = some (wth f (((i % 8 : Nat) : Int) - rxI f) (((i / 8 : Nat) : Int) - ryI f)) := by
  have i64 := bt_lt h
  obtain ⟨hb, hw⟩ := site_c hf h
  obtain ⟨x1, x2, y1, y2⟩ := BS_r hf.1 hb
  obtain ⟨w1, w2, w3, w4⟩ := Wn_c hw
  refine (settle_tr (wth_FIG hf hc hb hw).1 (α := zB (decide (((i % 8 : Nat) : Int) - rxI f < 0)) - rxI f) (β := zB (decide (((i / 8 : Nat) : Int) - ryI f < 0)) - ryI f) (fun X Y => ?_)).1
  rw [wth_hB hf.1 ⟨x1, w2⟩ ⟨y1, w4⟩, hB_or, rmL_hB hf.1, hB_one i64]
  congr 1
  · congr 1 <;> omega
  · apply bool_iff
    rw [decide_eq_true_eq, decide_eq_true_eq]
    omega
/-- the nine by nine places round a figure, by one number -/
def PLq (f : Int64) (q : Nat) : Bool := BS f (((q % 9 : Nat) : Int) - 1) (((q / 9 : Nat) : Int) - 1) && Wn f (((q % 9 : Nat) : Int) - 1) (((q / 9 : Nat) : Int) - 1)
noncomputable def wtq (f : Int64) (q : Nat) : Int64 := wth f (((q % 9 : Nat) : Int) - 1) (((q / 9 : Nat) : Int) - 1)
noncomputable def sgm (f : Int64) (i : Nat) : Nat := (9 * (((i / 8 : Nat) : Int) - ryI f + 1) + (((i % 8 : Nat) : Int) - rxI f + 1)).toNat
theorem sgm_c (f : Int64) {i : Nat} : (((sgm f i % 9 : Nat) : Int) - 1 = ((i % 8 : Nat) : Int) - rxI f) ∧ (((sgm f i / 9 : Nat) : Int) - 1 = ((i / 8 : Nat) : Int) - ryI f) := by
  have hx := rxI_c f
  have hy := ryI_c f
  unfold sgm
  rcases hx with q | q <;> rcases hy with q2 | q2 <;> rw [q.2, q2.2] <;> omega
theorem sgm_lt (f : Int64) {i : Nat} (h : i < 64) : sgm f i < 81 := by
  have := sgm_c f (i := i)
  have hx := rxI_c f
  have hy := ryI_c f
  have : sgm f i / 9 < 9 := by rcases hy with q | q <;> omega
  omega
theorem sgm_mono (f : Int64) {i j : Nat} (h : i < j) : sgm f i < sgm f j := by
  have a := sgm_c f (i := i)
  have b := sgm_c f (i := j)
  have hx := rxI_c f
  omega
theorem PLq_sgm {f : Int64} (hf : FIG f) {i : Nat} (hi : i < 64) : PLq f (sgm f i) = bt (stL f) i := by
  unfold PLq
  rw [(sgm_c f).1, (sgm_c f).2, site_bt hf hi]
theorem wtq_sgm (f : Int64) (i : Nat) : wtq f (sgm f i) = wth f (((i % 8 : Nat) : Int) - rxI f) (((i / 8 : Nat) : Int) - ryI f) := by
  unfold wtq
  rw [(sgm_c f).1, (sgm_c f).2]
theorem PLq_onto {f : Int64} (hf : FIG f) {q : Nat} (hq : q < 81) (h : PLq f q = true) : ∃ i, bt (stL f) i = true ∧ sgm f i = q := by
  have h' := h
  unfold PLq at h
  rw [Bool.and_eq_true] at h
  obtain ⟨w1, w2, w3, w4⟩ := Wn_c h.2
  have hx := rxI_c f
  have hy := ryI_c f
  let i : Nat := (8 * (((q / 9 : Nat) : Int) - 1 + ryI f) + (((q % 9 : Nat) : Int) - 1 + rxI f)).toNat
  have hi : i < 64 := by show (8 * (((q / 9 : Nat) : Int) - 1 + ryI f) + (((q % 9 : Nat) : Int) - 1 + rxI f)).toNat < 64; omega
  have e1 : ((i % 8 : Nat) : Int) = ((q % 9 : Nat) : Int) - 1 + rxI f := by
    show (((8 * (((q / 9 : Nat) : Int) - 1 + ryI f) + (((q % 9 : Nat) : Int) - 1 + rxI f)).toNat % 8 : Nat) : Int) = _
    omega
  have e2 : ((i / 8 : Nat) : Int) = ((q / 9 : Nat) : Int) - 1 + ryI f := by
    show (((8 * (((q / 9 : Nat) : Int) - 1 + ryI f) + (((q % 9 : Nat) : Int) - 1 + rxI f)).toNat / 8 : Nat) : Int) = _
    omega
  have es : sgm f i = q := by
    have := sgm_c f (i := i)
    omega
  refine ⟨i, ?_, es⟩
  rw [← PLq_sgm hf hi, es]
  exact h'
theorem PLq_c {f : Int64} {q : Nat} (h : PLq f q = true) : BS f (((q % 9 : Nat) : Int) - 1) (((q / 9 : Nat) : Int) - 1) = true ∧ Wn f (((q % 9 : Nat) : Int) - 1) (((q / 9 : Nat) : Int) - 1) = true := by
  unfold PLq at h
  rw [Bool.and_eq_true] at h
  exact h
theorem wtq_F {f : Int64} (hf : FIG f) (hc : cnt f < 12) {q : Nat} (h : PLq f q = true) : FIG (wtq f q) ∧ cnt (wtq f q) = cnt f + 1 := wth_FIG hf hc (PLq_c h).1 (PLq_c h).2
theorem mo_isWithin_eq {f : Int64} (hf : FIG f) {x y : Int} (hx : -1 ≤ x ∧ x ≤ 7) (hy : -1 ≤ y ∧ y ≤ 7) : mo_isWithin f (Int32.ofInt x) (Int32.ofInt y) = some (boI (Wn f x y)) := by
  have wb := wdt_b hf
  have lx := iI_lt0 (z := x) (by omega)
  have ly := iI_lt0 (z := y) (by omega)
  have gx : (7 : Int32) ≤ Int32.ofInt x ↔ 7 ≤ x := iI_le (a := 7) (b := x) (by omega) (by omega)
  have gy : (7 : Int32) ≤ Int32.ofInt y ↔ 7 ≤ y := iI_le (a := 7) (b := y) (by omega) (by omega)
  have key : mo_isWithin_J22 f (Int32.ofInt y) = some (boI (decide (if y < 0 then hgt f < 7 else y < 7))) := by
    rw [mo_isWithin_J22, mo_isWithin_J44, zb_1, zb_0]
    by_cases qy : y < 0
    · rw [if_pos (ly.mpr qy), mo_high_eq hf, bd1_some]
      simp only [qy, if_true]
      by_cases q : hgt f < 7
      · rw [if_neg (show ¬ (7 : Int32) ≤ nI (hgt f) from nI_ge (a := hgt f) (b := 7) q (by omega)), decide_eq_true q]; rfl
      · rw [if_pos (show (7 : Int32) ≤ nI (hgt f) from nI_le (a := 7) (b := hgt f) (by omega) (by omega)), decide_eq_false q]; rfl
    · rw [if_neg (fun h => qy (ly.mp h))]
      simp only [qy, if_false]
      by_cases q : y < 7
      · rw [if_neg (fun h => by have := gy.mp h; omega), decide_eq_true q]; rfl
      · rw [if_pos (gy.mpr (by omega)), decide_eq_false q]; rfl
  rw [mo_isWithin, key, zb_0]
  unfold Wn
  rw [Bool.decide_and]
  by_cases qx : x < 0
  · rw [if_pos (lx.mpr qx), mo_wide_eq hf, bd1_some]
    simp only [qx, if_true]
    by_cases q : wdt f < 7
    · rw [if_neg (show ¬ (7 : Int32) ≤ nI (wdt f) from nI_ge (a := wdt f) (b := 7) q (by omega)), decide_eq_true q, Bool.true_and]
    · rw [if_pos (show (7 : Int32) ≤ nI (wdt f) from nI_le (a := 7) (b := wdt f) (by omega) (by omega)), decide_eq_false q, Bool.false_and]; rfl
  · rw [if_neg (fun h => qx (lx.mp h))]
    simp only [qx, if_false]
    by_cases q : x < 7
    · rw [if_neg (fun h => by have := gx.mp h; omega), decide_eq_true q, Bool.true_and]
    · rw [if_pos (gx.mpr (by omega)), decide_eq_false q, Bool.false_and]; rfl
