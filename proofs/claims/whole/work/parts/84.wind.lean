/-! how often the line goes round a place -/
def cvI (X Y : Nat → Int) (l : Nat → Nat) (x y : Int) (i : Nat) : Int := if l i = 1 then (if Y i = y ∧ X i ≤ x then 1 else 0) else if l i = 3 then (if Y i - 1 = y ∧ X i ≤ x then -1 else 0) else 0
def chI (X Y : Nat → Int) (l : Nat → Nat) (x y : Int) (i : Nat) : Int := if l i = 0 then (if X i = x ∧ Y i = y then 1 else 0) else if l i = 2 then (if X i - 1 = x ∧ Y i = y then -1 else 0) else 0
def cuI (X Y : Nat → Int) (l : Nat → Nat) (x y : Int) (i : Nat) : Int := if l i = 1 then (if X i = x ∧ Y i = y then 1 else 0) else if l i = 3 then (if X i = x ∧ Y i - 1 = y then -1 else 0) else 0
def phI (x y a b : Int) : Int := if a ≤ x ∧ b = y then 1 else 0
theorem tel_1 {X Y : Nat → Int} {l : Nat → Nat} {i : Nat} (hX : X (i + 1) = X i + dX (l i)) (hY : Y (i + 1) = Y i + dY (l i)) (hl : l i < 4) (x y : Int) : cvI X Y l x y i - cvI X Y l x (y - 1) i + chI X Y l x y i = phI x y (X i) (Y i) - phI x y (X (i + 1)) (Y (i + 1)) := by
  unfold cvI chI phI
  rcases l4 hl with e | e | e | e
  · rw [e] at hX hY
    rw [hX, hY, e, show dX 0 = 1 from rfl, show dY 0 = 0 from rfl]
    repeat' split
    all_goals omega
  · rw [e] at hX hY
    rw [hX, hY, e, show dX 1 = 0 from rfl, show dY 1 = 1 from rfl]
    repeat' split
    all_goals omega
  · rw [e] at hX hY
    rw [hX, hY, e, show dX 2 = -1 from rfl, show dY 2 = 0 from rfl]
    repeat' split
    all_goals omega
  · rw [e] at hX hY
    rw [hX, hY, e, show dX 3 = 0 from rfl, show dY 3 = -1 from rfl]
    repeat' split
    all_goals omega
theorem tel_2 {X Y : Nat → Int} {l : Nat → Nat} {i : Nat} (x y : Int) : cvI X Y l x y i - cvI X Y l (x - 1) y i = cuI X Y l x y i := by
  unfold cvI cuI
  by_cases e : l i = 1
  · rw [if_pos e, if_pos e, if_pos e]
    repeat' split
    all_goals omega
  · rw [if_neg e, if_neg e, if_neg e]
    by_cases e3 : l i = 3
    · rw [if_pos e3, if_pos e3, if_pos e3]
      repeat' split
      all_goals omega
    · rw [if_neg e3, if_neg e3, if_neg e3]; rfl
theorem si_tel (g : Nat → Int) : ∀ n, fb_si (fun i => g i - g (i + 1)) n = g 0 - g n
  | 0 => by show (0 : Int) = g 0 - g 0; omega
  | n + 1 => by rw [fb_si_succ, si_tel g n]; omega
theorem si_zr {g : Nat → Int} : ∀ {n : Nat}, (∀ k, k < n → g k = 0) → fb_si g n = 0
  | 0, _ => rfl
  | n + 1, h => by rw [fb_si_succ, si_zr (fun k hk => h k (by omega)), h n (by omega)]; rfl
theorem si_cp (p : Nat → Bool) : ∀ n, fb_si (fun i => if p i then 1 else 0) n = (fb_ct p n : Int)
  | 0 => rfl
  | n + 1 => by
    rw [fb_si_succ, si_cp p n, fb_ct_succ]
    cases p n <;> simp
theorem si_cq (p : Nat → Bool) : ∀ n, fb_si (fun i => if p i then -1 else 0) n = -(fb_ct p n : Int)
  | 0 => rfl
  | n + 1 => by
    rw [fb_si_succ, si_cq p n, fb_ct_succ]
    cases p n
    · simp
    · simp; omega
noncomputable def wW (f : Int64) (x0 L : Nat) (x y : Int) : Int := fb_si (cvI (wX f x0) (wY f x0) (wL f x0) x y) L
noncomputable def wH (f : Int64) (x0 L : Nat) (x y : Int) : Int := fb_si (chI (wX f x0) (wY f x0) (wL f x0) x y) L
noncomputable def wV (f : Int64) (x0 L : Nat) (x y : Int) : Int := fb_si (cuI (wX f x0) (wY f x0) (wL f x0) x y) L
theorem wind_1 {f : Int64} {x0 L : Nat} (h : LNs f x0) (hL : LEN f x0 L) (x y : Int) : wW f x0 L x y - wW f x0 L x (y - 1) + wH f x0 L x y = 0 := by
  unfold wW wH
  rw [← fb_si_sub, ← fb_si_add]
  rw [fb_si_cong (g := fun i => phI x y (wX f x0 i) (wY f x0 i) - phI x y (wX f x0 (i + 1)) (wY f x0 (i + 1))) (fun i _ => tel_1 (wX_s f x0 i) (wY_s f x0 i) (wk_sd h i).2 x y), si_tel (fun i => phI x y (wX f x0 i) (wY f x0 i)) L, hL.2.2.1, hL.2.2.2.1, wX_0, wY_0]
  omega
theorem wind_2 (f : Int64) (x0 L : Nat) (x y : Int) : wW f x0 L x y - wW f x0 L (x - 1) y = wV f x0 L x y := by
  unfold wW wV
  rw [← fb_si_sub]
  exact fb_si_cong (fun i _ => tel_2 x y)
theorem wH_same {f : Int64} {x0 L : Nat} (h : LNs f x0) {x y : Int} (e : hB f x y = hB f x (y - 1)) : wH f x0 L x y = 0 := by
  refine si_zr (fun i _ => ?_)
  have s := (wk_sd h i).1
  unfold chI
  by_cases c0 : wL f x0 i = 0
  · rw [if_pos c0, if_neg]
    rintro ⟨a, b⟩
    rw [c0, a, b, sd_0, e] at s
    cases z : hB f x (y - 1) <;> rw [z] at s <;> simp at s
  · rw [if_neg c0]
    by_cases c2 : wL f x0 i = 2
    · rw [if_pos c2, if_neg]
      rintro ⟨a, b⟩
      rw [c2, sd_2, a, b, e] at s
      cases z : hB f x (y - 1) <;> rw [z] at s <;> simp at s
    · rw [if_neg c2]
theorem wV_same {f : Int64} {x0 L : Nat} (h : LNs f x0) {x y : Int} (e : hB f x y = hB f (x - 1) y) : wV f x0 L x y = 0 := by
  refine si_zr (fun i _ => ?_)
  have s := (wk_sd h i).1
  unfold cuI
  by_cases c0 : wL f x0 i = 1
  · rw [if_pos c0, if_neg]
    rintro ⟨a, b⟩
    rw [c0, a, b, sd_1, e] at s
    cases z : hB f (x - 1) y <;> rw [z] at s <;> simp at s
  · rw [if_neg c0]
    by_cases c2 : wL f x0 i = 3
    · rw [if_pos c2, if_neg]
      rintro ⟨a, b⟩
      rw [c2, sd_3, a, b, e] at s
      cases z : hB f (x - 1) y <;> rw [z] at s <;> simp at s
    · rw [if_neg c2]
/-- how often a side is gone along -/
noncomputable def wN (f : Int64) (x0 L : Nat) (x y : Int) (l : Nat) : Nat := fb_ct (fun i => decide (wX f x0 i = x ∧ wY f x0 i = y ∧ wL f x0 i = l)) L
theorem wN_0 {f : Int64} {x0 L : Nat} (h : LNs f x0) {x y : Int} (hs : sdB f x y 0 = true) : wH f x0 L x y = (wN f x0 L x y 0 : Int) := by
  unfold wH wN
  rw [← si_cp]
  refine fb_si_cong (fun i _ => ?_)
  have s := (wk_sd h i).1
  rw [sd_0] at hs
  unfold chI
  by_cases c0 : wL f x0 i = 0
  · rw [if_pos c0]
    by_cases q : wX f x0 i = x ∧ wY f x0 i = y
    · rw [if_pos q, decide_eq_true ⟨q.1, q.2, c0⟩]; rfl
    · rw [if_neg q, decide_eq_false (fun z => q ⟨z.1, z.2.1⟩)]; rfl
  · rw [if_neg c0, decide_eq_false (fun z => c0 z.2.2)]
    by_cases c2 : wL f x0 i = 2
    · rw [if_pos c2, if_neg]
      · rfl
      · rintro ⟨a, b⟩
        rw [c2, sd_2, a, b] at s
        cases z : hB f x y <;> rw [z] at s hs <;> simp at s hs
    · rw [if_neg c2]; rfl
theorem wN_2 {f : Int64} {x0 L : Nat} (h : LNs f x0) {x y : Int} (hs : sdB f x y 2 = true) : wH f x0 L (x - 1) y = -(wN f x0 L x y 2 : Int) := by
  unfold wH wN
  rw [← si_cq]
  refine fb_si_cong (fun i _ => ?_)
  have s := (wk_sd h i).1
  rw [sd_2] at hs
  unfold chI
  by_cases c0 : wL f x0 i = 0
  · rw [if_pos c0, decide_eq_false (fun z => by rw [c0] at z; exact absurd z.2.2 (by decide)), if_neg]
    · rfl
    · rintro ⟨a, b⟩
      rw [c0, a, b, sd_0] at s
      cases z : hB f (x - 1) y <;> rw [z] at s hs <;> simp at s hs
  · rw [if_neg c0]
    by_cases c2 : wL f x0 i = 2
    · rw [if_pos c2]
      by_cases q : wX f x0 i - 1 = x - 1 ∧ wY f x0 i = y
      · rw [if_pos q, decide_eq_true ⟨by omega, q.2, c2⟩]; rfl
      · rw [if_neg q, decide_eq_false (fun z => q ⟨by omega, z.2.1⟩)]; rfl
    · rw [if_neg c2, decide_eq_false (fun z => c2 z.2.2)]; rfl
theorem wN_1 {f : Int64} {x0 L : Nat} (h : LNs f x0) {x y : Int} (hs : sdB f x y 1 = true) : wV f x0 L x y = (wN f x0 L x y 1 : Int) := by
  unfold wV wN
  rw [← si_cp]
  refine fb_si_cong (fun i _ => ?_)
  have s := (wk_sd h i).1
  rw [sd_1] at hs
  unfold cuI
  by_cases c0 : wL f x0 i = 1
  · rw [if_pos c0]
    by_cases q : wX f x0 i = x ∧ wY f x0 i = y
    · rw [if_pos q, decide_eq_true ⟨q.1, q.2, c0⟩]; rfl
    · rw [if_neg q, decide_eq_false (fun z => q ⟨z.1, z.2.1⟩)]; rfl
  · rw [if_neg c0, decide_eq_false (fun z => c0 z.2.2)]
    by_cases c2 : wL f x0 i = 3
    · rw [if_pos c2, if_neg]
      · rfl
      · rintro ⟨a, b⟩
        rw [c2, sd_3, a, b] at s
        cases z : hB f x y <;> rw [z] at s hs <;> simp at s hs
    · rw [if_neg c2]; rfl
theorem wN_3 {f : Int64} {x0 L : Nat} (h : LNs f x0) {x y : Int} (hs : sdB f x y 3 = true) : wV f x0 L x (y - 1) = -(wN f x0 L x y 3 : Int) := by
  unfold wV wN
  rw [← si_cq]
  refine fb_si_cong (fun i _ => ?_)
  have s := (wk_sd h i).1
  rw [sd_3] at hs
  unfold cuI
  by_cases c0 : wL f x0 i = 1
  · rw [if_pos c0, decide_eq_false (fun z => by rw [c0] at z; exact absurd z.2.2 (by decide)), if_neg]
    · rfl
    · rintro ⟨a, b⟩
      rw [c0, a, b, sd_1] at s
      cases z : hB f x (y - 1) <;> rw [z] at s hs <;> simp at s hs
  · rw [if_neg c0]
    by_cases c2 : wL f x0 i = 3
    · rw [if_pos c2]
      by_cases q : wX f x0 i = x ∧ wY f x0 i - 1 = y - 1
      · rw [if_pos q, decide_eq_true ⟨q.1, by omega, c2⟩]; rfl
      · rw [if_neg q, decide_eq_false (fun z => q ⟨z.1, by omega⟩)]; rfl
    · rw [if_neg c2, decide_eq_false (fun z => c2 z.2.2)]; rfl
theorem all_Cn {f : Int64} (hf : F77 f) (h0 : hlw f = 0) {p : Nat} (hp : Fr f p) : Cn f 0 p := by
  by_cases r : rng p
  · exact rng_Cn hf hp.1 r
  · obtain ⟨i, i1, i2, rfl⟩ := nr_pl hp.1 r
    have b := (Fr_pl i1 i2).mp hp
    have z : bt (hlw f) i = false := by rw [h0, bt_zero]
    by_cases q : Cn f 0 (pl i)
    · exact q
    · rw [(hlw_Cn hf i).mpr ⟨bt_fre.mpr ⟨i1, i2, b⟩, q⟩] at z; simp at z
theorem wW_out {f : Int64} {x0 L : Nat} (h : LNs f x0) (hL : LEN f x0 L) {x y : Int} (hx : -1 ≤ x ∧ x ≤ 7) (hy : -1 ≤ y ∧ y ≤ 7) (hb : hB f x y = false) : wW f x0 L x y = 0 := by
  have c := all_Cn h.1.1 h.2.2.1 (p := (9 * (y + 1) + (x + 1)).toNat) ⟨by omega, by
    rw [show (((9 * (y + 1) + (x + 1)).toNat % 9 : Nat) : Int) - 1 = x by omega, show (((9 * (y + 1) + (x + 1)).toNat / 9 : Nat) : Int) - 1 = y by omega]; exact hb⟩
  have r := c.2.2 (fun p => wW f x0 L (((p % 9 : Nat) : Int) - 1) (((p / 9 : Nat) : Int) - 1) = 0) (by
    refine si_zr (fun i _ => ?_)
    have q := wk_rng h i
    unfold cvI
    rw [show (((0 % 9 : Nat)) : Int) - 1 = -1 from rfl]
    split
    · rw [if_neg (by omega)]
    · split
      · rw [if_neg (by omega)]
      · rfl) (fun a b ha hb hab t => by
    have t' : wW f x0 L (((a % 9 : Nat) : Int) - 1) (((a / 9 : Nat) : Int) - 1) = 0 := t
    show wW f x0 L (((b % 9 : Nat) : Int) - 1) (((b / 9 : Nat) : Int) - 1) = 0
    have e1 := ha.2
    have e2 := hb.2
    rcases hab with ⟨r1, r2 | r2⟩ | ⟨r1, r2 | r2⟩
    · have w := wind_2 f x0 L (((b % 9 : Nat) : Int) - 1) (((b / 9 : Nat) : Int) - 1)
      rw [show ((b % 9 : Nat) : Int) - 1 - 1 = ((a % 9 : Nat) : Int) - 1 by omega] at w
      rw [r1] at t' e1
      rw [wV_same h (by rw [show ((b % 9 : Nat) : Int) - 1 - 1 = ((a % 9 : Nat) : Int) - 1 by omega, e1, e2])] at w
      omega
    · have w := wind_2 f x0 L (((a % 9 : Nat) : Int) - 1) (((a / 9 : Nat) : Int) - 1)
      rw [show ((a % 9 : Nat) : Int) - 1 - 1 = ((b % 9 : Nat) : Int) - 1 by omega] at w
      rw [← r1] at e2
      rw [wV_same h (by rw [show ((a % 9 : Nat) : Int) - 1 - 1 = ((b % 9 : Nat) : Int) - 1 by omega, e1, e2])] at w
      rw [← r1]
      omega
    · have w := wind_1 h hL (((b % 9 : Nat) : Int) - 1) (((b / 9 : Nat) : Int) - 1)
      rw [show ((b / 9 : Nat) : Int) - 1 - 1 = ((a / 9 : Nat) : Int) - 1 by omega] at w
      rw [r1] at t' e1
      rw [wH_same h (by rw [show ((b / 9 : Nat) : Int) - 1 - 1 = ((a / 9 : Nat) : Int) - 1 by omega, e1, e2])] at w
      omega
    · have w := wind_1 h hL (((a % 9 : Nat) : Int) - 1) (((a / 9 : Nat) : Int) - 1)
      rw [show ((a / 9 : Nat) : Int) - 1 - 1 = ((b / 9 : Nat) : Int) - 1 by omega] at w
      rw [← r1] at e2
      rw [wH_same h (by rw [show ((a / 9 : Nat) : Int) - 1 - 1 = ((b / 9 : Nat) : Int) - 1 by omega, e1, e2])] at w
      rw [← r1]
      omega)
  rw [show (((9 * (y + 1) + (x + 1)).toNat % 9 : Nat) : Int) - 1 = x by omega, show (((9 * (y + 1) + (x + 1)).toNat / 9 : Nat) : Int) - 1 = y by omega] at r
  exact r
theorem wW_in {f : Int64} {x0 L : Nat} (h : LNs f x0) (hL : LEN f x0 L) {x y u v : Int} (ha : hB f x y = true) (hb : hB f u v = true) : wW f x0 L u v = wW f x0 L x y := by
  refine (CON_i.mp h.1.2.2.2.2).2 (fun X Y => wW f x0 L X Y = wW f x0 L x y) ⟨x, y, ha, rfl⟩ (fun X Y X' Y' h1 h2 hab t => ?_) u v hb
  rcases hab with ⟨r1, r2 | r2⟩ | ⟨r1, r2 | r2⟩
  · subst r1; subst r2
    have w := wind_2 f x0 L (X + 1) Y
    rw [show X + 1 - 1 = X by omega, wV_same h (by rw [show X + 1 - 1 = X by omega, h1, h2])] at w
    omega
  · subst r1; subst r2
    have w := wind_2 f x0 L (X' + 1) Y
    rw [show X' + 1 - 1 = X' by omega, wV_same h (by rw [show X' + 1 - 1 = X' by omega, h1, h2])] at w
    omega
  · subst r1; subst r2
    have w := wind_1 h hL X (Y + 1)
    rw [show Y + 1 - 1 = Y by omega, wH_same h (by rw [show Y + 1 - 1 = Y by omega, h1, h2])] at w
    omega
  · subst r1; subst r2
    have w := wind_1 h hL X (Y' + 1)
    rw [show Y' + 1 - 1 = Y' by omega, wH_same h (by rw [show Y' + 1 - 1 = Y' by omega, h1, h2])] at w
    omega
theorem wN_all {f : Int64} {x0 L : Nat} (h : LNs f x0) (hL : LEN f x0 L) {x y : Int} {l : Nat} (hl : l < 4) (hs : sdB f x y l = true) {u v : Int} (hb : hB f u v = true) : (wN f x0 L x y l : Int) = -wW f x0 L u v := by
  have r := sd_rng h.1.1 hl hs
  rcases l4 hl with rfl | rfl | rfl | rfl
  · have n := wN_0 (L := L) h hs
    have w := wind_1 h hL x y
    rw [sd_0, Bool.and_eq_true, Bool.not_eq_true'] at hs
    rw [wW_in h hL hb hs.1, wW_out h hL (by omega) (by omega) hs.2] at w
    omega
  · have n := wN_1 (L := L) h hs
    have w := wind_2 f x0 L x y
    rw [sd_1, Bool.and_eq_true, Bool.not_eq_true'] at hs
    rw [wW_in h hL hb hs.1, wW_out h hL (by omega) (by omega) hs.2] at w
    omega
  · have n := wN_2 (L := L) h hs
    have w := wind_1 h hL (x - 1) y
    rw [sd_2, Bool.and_eq_true, Bool.not_eq_true'] at hs
    rw [wW_in h hL hb hs.1, wW_out h hL (by omega) (by omega) hs.2] at w
    omega
  · have n := wN_3 (L := L) h hs
    have w := wind_2 f x0 L x (y - 1)
    rw [sd_3, Bool.and_eq_true, Bool.not_eq_true'] at hs
    rw [wW_in h hL hb hs.1, wW_out h hL (by omega) (by omega) hs.2] at w
    omega
/-- every side is on the line -/
theorem on_line {f : Int64} {x0 L : Nat} (h : LNs f x0) (hL : LEN f x0 L) {x y : Int} {l : Nat} (hl : l < 4) (hs : sdB f x y l = true) : ∃ i, i < L ∧ wX f x0 i = x ∧ wY f x0 i = y ∧ wL f x0 i = l := by
  have s0 := wk_sd h 0
  obtain ⟨y1, y2, y3⟩ := h.1.2.1
  have hb := hB_bt h.2.2.2.2
  have a := wN_all h hL s0.2 s0.1 hb
  have b := wN_all h hL hl hs hb
  have p : 0 < wN f x0 L (wX f x0 0) (wY f x0 0) (wL f x0 0) := fb_ct_pos.mpr ⟨0, by have := hL.1; omega, decide_eq_true ⟨rfl, rfl, rfl⟩⟩
  obtain ⟨i, i1, i2⟩ := fb_ct_pos.mp (show 0 < wN f x0 L x y l by omega)
  exact ⟨i, i1, of_decide_eq_true i2⟩
