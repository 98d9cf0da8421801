/-! a figure with one cell more -/
theorem hB_b (f : Int64) {i : Nat} (hi : i < 64) : hB f ((i % 8 : Nat) : Int) ((i / 8 : Nat) : Int) = bt f i := by
  rw [hB_n f (by omega) (by omega), show 8 * (i / 8) + i % 8 = i by omega]
theorem hB_t {f : Int64} {X Y : Int} : hB f X Y = true ↔ ∃ x y : Nat, x < 8 ∧ y < 8 ∧ X = x ∧ Y = y ∧ bt f (8 * y + x) = true := by
  constructor
  · intro h
    by_cases q : 0 ≤ X ∧ X < 8 ∧ 0 ≤ Y ∧ Y < 8
    · obtain ⟨x, rfl⟩ := Int.eq_ofNat_of_zero_le q.1
      obtain ⟨y, rfl⟩ := Int.eq_ofNat_of_zero_le q.2.2.1
      rw [hB_n f (by omega) (by omega)] at h
      exact ⟨x, y, by omega, by omega, rfl, rfl, h⟩
    · rw [hB_o f q] at h; cases h
  · rintro ⟨x, y, hx, hy, rfl, rfl, h⟩
    rw [hB_n f hx hy]; exact h
theorem hB_ext {a b : Int64} (h : ∀ X Y, hB a X Y = hB b X Y) : a = b := by
  apply bt_ext
  intro i hi
  rw [← hB_b a hi, ← hB_b b hi, h]
theorem hB_or (a b : Int64) (X Y : Int) : hB (a ||| b) X Y = (hB a X Y || hB b X Y) := by
  unfold hB; rw [bt_or]
  cases decide (0 ≤ X ∧ X < 8 ∧ 0 ≤ Y ∧ Y < 8) <;> simp
theorem bool_iff {a b : Bool} (h : a = true ↔ b = true) : a = b := by cases a <;> cases b <;> simp_all
theorem hB_one {k : Nat} (hk : k < 64) (X Y : Int) : hB (sl 1 (nI k)) X Y = decide (X = ((k % 8 : Nat) : Int) ∧ Y = ((k / 8 : Nat) : Int)) := by
  apply bool_iff
  rw [hB_t, decide_eq_true_eq]
  constructor
  · rintro ⟨x, y, hx, hy, rfl, rfl, h⟩
    have := (bt_one hk).mp h
    subst this
    constructor <;> omega
  · rintro ⟨rfl, rfl⟩
    exact ⟨k % 8, k / 8, by omega, by omega, rfl, rfl, (bt_one hk).mpr (by omega)⟩
theorem hB_s1 {f : Int64} (hf : ∀ Y, hB f 7 Y = false) (X Y : Int) : hB (sl f 1) X Y = hB f (X - 1) Y := by
  by_cases q : 0 ≤ X ∧ X < 8 ∧ 0 ≤ Y ∧ Y < 8
  · obtain ⟨x, rfl⟩ := Int.eq_ofNat_of_zero_le q.1
    obtain ⟨y, rfl⟩ := Int.eq_ofNat_of_zero_le q.2.2.1
    rw [hB_n _ (by omega) (by omega), show (1 : Int32) = nI 1 from rfl, bt_sl f (n := 1) (by omega) (by omega)]
    rcases Nat.eq_zero_or_pos x with e | e
    · subst e
      rw [hB_o f (x := ((0 : Nat) : Int) - 1) (by omega)]
      rcases Nat.eq_zero_or_pos y with e2 | e2
      · subst e2; rfl
      · have a := hf ((y - 1 : Nat) : Int)
        rw [show (7 : Int) = ((7 : Nat) : Int) from rfl, hB_n f (by omega) (by omega)] at a
        rw [show 8 * y + 0 - 1 = 8 * (y - 1) + 7 by omega, a, Bool.and_false]
    · rw [show (x : Int) - 1 = ((x - 1 : Nat) : Int) by omega, hB_n f (by omega) (by omega), decide_eq_true (by omega), Bool.true_and, show 8 * y + x - 1 = 8 * y + (x - 1) by omega]
  · rw [hB_o _ q]
    by_cases q2 : X = 8
    · subst q2; exact (hf Y).symm
    · rw [hB_o f (by omega)]
theorem hB_s8 {f : Int64} (hf : ∀ X, hB f X 7 = false) (X Y : Int) : hB (sl f 8) X Y = hB f X (Y - 1) := by
  by_cases q : 0 ≤ X ∧ X < 8 ∧ 0 ≤ Y ∧ Y < 8
  · obtain ⟨x, rfl⟩ := Int.eq_ofNat_of_zero_le q.1
    obtain ⟨y, rfl⟩ := Int.eq_ofNat_of_zero_le q.2.2.1
    rw [hB_n _ (by omega) (by omega), show (8 : Int32) = nI 8 from rfl, bt_sl f (n := 8) (by omega) (by omega)]
    rcases Nat.eq_zero_or_pos y with e | e
    · subst e
      rw [hB_o f (y := ((0 : Nat) : Int) - 1) (by omega), decide_eq_false (by omega), Bool.false_and]
    · rw [show (y : Int) - 1 = ((y - 1 : Nat) : Int) by omega, hB_n f (by omega) (by omega), decide_eq_true (by omega), Bool.true_and, show 8 * y + x - 8 = 8 * (y - 1) + x by omega]
  · rw [hB_o _ q]
    by_cases q2 : Y = 8
    · subst q2; exact (hf X).symm
    · rw [hB_o f (by omega)]
def zB (b : Bool) : Int := if b then 1 else 0
def rmB (bx byy : Bool) (f : Int64) : Int64 := if byy then sl (if bx then sl f 1 else f) 8 else (if bx then sl f 1 else f)
theorem rmB_hB {f : Int64} (hf : F77 f) (bx byy : Bool) (X Y : Int) : hB (rmB bx byy f) X Y = hB f (X - zB bx) (Y - zB byy) := by
  have h7 : ∀ Y, hB f 7 Y = false := fun Y => hB_77 hf (by omega)
  have h8 : ∀ X, hB f X 7 = false := fun X => hB_77 hf (by omega)
  have h9 : ∀ X, hB (sl f 1) X 7 = false := fun X => by rw [hB_s1 h7]; exact h8 _
  cases bx <;> cases byy
  · show hB f X Y = hB f (X - 0) (Y - 0)
    rw [Int.sub_zero, Int.sub_zero]
  · show hB (sl f 8) X Y = hB f (X - 0) (Y - 1)
    rw [Int.sub_zero, hB_s8 h8]
  · show hB (sl f 1) X Y = hB f (X - 1) (Y - 0)
    rw [Int.sub_zero, hB_s1 h7]
  · show hB (sl (sl f 1) 8) X Y = hB f (X - 1) (Y - 1)
    rw [hB_s8 h9, hB_s1 h7]
/-- a board that is a figure moved settles to it -/
theorem settle_tr {b g : Int64} (hg : FIG g) {α β : Int} (h : ∀ X Y, hB b X Y = hB g (X + α) (Y + β)) : gr_settled b = some g ∧ mo_moved b = some g := by
  have hb : b ≠ 0 := by
    obtain ⟨x, hx, hb⟩ := hg.2.1
    intro e
    have := h ((x : Int) - α) (0 - β)
    rw [show (x : Int) - α + α = (x : Int) by omega, show (0 : Int) - β + β = ((0 : Nat) : Int) by omega, hB_n g (by omega) (by omega), show 8 * 0 + x = x by omega, hb, e] at this
    rw [hB_t] at this
    obtain ⟨_, _, _, _, _, _, c⟩ := this
    rw [bt_zero] at c; cases c
  obtain ⟨k, hk⟩ := low_ex hb
  obtain ⟨c, hc⟩ := colp_ex hb
  have e1 := gr_settled_eq hk hc
  have e2 := mo_moved_eq hk hc
  obtain ⟨r, c', ⟨y, hy⟩, ⟨x, hx, hxb⟩, hc8, hall, hR⟩ := STL_img (b := b) ⟨k, c, hk, hc, rfl⟩
  generalize su b (nI (8 * (k / 8) + c)) = R at e1 e2 hR
  have hy8 : 8 * y + c' < 64 := bt_lt hy
  have hr8 : 8 * r + x < 64 := bt_lt hxb
  have hall2 : ∀ X Y, hB b X Y = true → (c' : Int) ≤ X ∧ (r : Int) ≤ Y := by
    intro X Y q
    obtain ⟨x1, y1, a1, a2, rfl, rfl, a3⟩ := hB_t.mp q
    have := hall _ a3
    omega
  have hRb : ∀ X Y, hB R X Y = hB b (X + c') (Y + r) := by
    intro X Y
    apply bool_iff
    rw [hB_t, hB_t]
    constructor
    · rintro ⟨x1, y1, a1, a2, rfl, rfl, a3⟩
      obtain ⟨j, j1, j2⟩ := (hR _).mp a3
      have j3 := hall j j1
      have j4 := bt_lt j1
      exact ⟨j % 8, j / 8, by omega, by omega, by omega, by omega, by rw [show 8 * (j / 8) + j % 8 = j by omega]; exact j1⟩
    · rintro ⟨x1, y1, a1, a2, a4, a5, a3⟩
      have j3 := hall _ a3
      exact ⟨x1 - c', y1 - r, by omega, by omega, by omega, by omega, (hR _).mpr ⟨_, a3, by omega⟩⟩
  -- both moved to the corner
  have g1 : ∀ X Y, hB g X Y = true → 0 ≤ X ∧ 0 ≤ Y := by
    intro X Y q
    obtain ⟨x1, y1, _, _, rfl, rfl, _⟩ := hB_t.mp q
    omega
  have bb : ∀ X Y, hB g X Y = hB b (X - α) (Y - β) := by
    intro X Y; rw [h]; congr 1 <;> omega
  have bc : hB b (c' : Int) (y : Int) = true := by rw [hB_n b (by omega) (by omega)]; exact hy
  have br : hB b (x : Int) (r : Int) = true := by rw [hB_n b (by omega) (by omega)]; exact hxb
  have ea : α + c' = 0 := by
    have q1 := bc
    rw [h] at q1
    have := g1 _ _ q1
    obtain ⟨y2, hy2, q2⟩ := hg.2.2.1
    have q3 : hB g ((0 : Nat) : Int) (y2 : Int) = true := by rw [hB_n g (by omega) (by omega)]; exact q2
    rw [bb] at q3
    have := hall2 _ _ q3
    omega
  have eb : β + r = 0 := by
    have q1 := br
    rw [h] at q1
    have := g1 _ _ q1
    obtain ⟨x2, hx2, q2⟩ := hg.2.1
    have q3 : hB g (x2 : Int) ((0 : Nat) : Int) = true := by rw [hB_n g (by omega) (by omega), show 8 * 0 + x2 = x2 by omega]; exact q2
    rw [bb] at q3
    have := hall2 _ _ q3
    omega
  have : R = g := hB_ext (fun X Y => by rw [hRb, h]; congr 1 <;> omega)
  rw [e1, e2, this]
  exact ⟨rfl, rfl⟩
theorem gr_roomed_eq (f : Int64) : gr_roomed f = some (rmB (decide (wdt f < 7)) (decide (hgt f < 7)) f) := by
  have hw : wdt f < 2 ^ 31 := by unfold wdt cnt; exact Nat.lt_of_le_of_lt (fb_ct_le _ _) (by omega)
  have hh : hgt f < 2 ^ 31 := by unfold hgt; exact Nat.lt_of_le_of_lt (fb_ct_le _ _) (by omega)
  have key : ∀ t, gr_roomed_J16 f t = some (if decide (hgt f < 7) then sl t 8 else t) := by
    intro t
    rw [gr_roomed_J16, gr_height_eq, bd1_some]
    by_cases q : hgt f < 7
    · rw [if_neg (show ¬ (7 : Int32) ≤ nI (hgt f) from nI_ge (a := hgt f) (b := 7) q (by omega)), if_pos (decide_eq_true q)]
    · rw [if_pos (show (7 : Int32) ≤ nI (hgt f) from nI_le (a := 7) (b := hgt f) (by omega) hh), if_neg (by simp [q])]
  rw [gr_roomed, gr_width_eq, bd1_some, key, key]
  unfold rmB
  by_cases q : wdt f < 7
  · rw [if_neg (show ¬ (7 : Int32) ≤ nI (wdt f) from nI_ge (a := wdt f) (b := 7) q (by omega)), decide_eq_true q]
    simp only [if_true]
  · rw [if_pos (show (7 : Int32) ≤ nI (wdt f) from nI_le (a := 7) (b := wdt f) (by omega) hw), decide_eq_false q]
    simp only [Bool.false_eq_true, if_false]
noncomputable def rmL (f : Int64) : Int64 := rmB (decide (wdt f < 7)) (decide (hgt f < 7)) f
def rxI (f : Int64) : Int := zB (decide (wdt f < 7))
def ryI (f : Int64) : Int := zB (decide (hgt f < 7))
theorem rxI_c (f : Int64) : (wdt f < 7 ∧ rxI f = 1) ∨ (¬ wdt f < 7 ∧ rxI f = 0) := by
  unfold rxI zB
  by_cases q : wdt f < 7
  · exact Or.inl ⟨q, by rw [decide_eq_true q]; rfl⟩
  · exact Or.inr ⟨q, by rw [decide_eq_false q]; rfl⟩
theorem ryI_c (f : Int64) : (hgt f < 7 ∧ ryI f = 1) ∨ (¬ hgt f < 7 ∧ ryI f = 0) := by
  unfold ryI zB
  by_cases q : hgt f < 7
  · exact Or.inl ⟨q, by rw [decide_eq_true q]; rfl⟩
  · exact Or.inr ⟨q, by rw [decide_eq_false q]; rfl⟩
theorem rmL_hB {f : Int64} (hf : F77 f) (X Y : Int) : hB (rmL f) X Y = hB f (X - rxI f) (Y - ryI f) := rmB_hB hf _ _ X Y
theorem k_56 {i : Nat} (h : i < 64) : bt 72057594037927935 i = decide (i < 56) := by
  have : ∀ i : Fin 64, bt 72057594037927935 i.val = decide (i.val < 56) := by decide +kernel
  exact this ⟨i, h⟩
noncomputable def stL (f : Int64) : Int64 := gar (rmL f) &&& (if hgt f < 7 then (if wdt f < 7 then rmL f ^^^ (-1) else (rmL f ^^^ (-1)) &&& 9187201950435737471) else (if wdt f < 7 then rmL f ^^^ (-1) else (rmL f ^^^ (-1)) &&& 9187201950435737471) &&& 72057594037927935)
theorem gr_sites_eq (f : Int64) : gr_sites f (rmL f) = some (stL f) := by
  have hw : wdt f < 2 ^ 31 := by unfold wdt cnt; exact Nat.lt_of_le_of_lt (fb_ct_le _ _) (by omega)
  have hh : hgt f < 2 ^ 31 := by unfold hgt; exact Nat.lt_of_le_of_lt (fb_ct_le _ _) (by omega)
  have key : ∀ t, gr_sites_J24 f (rmL f) t = some (gar (rmL f) &&& (if hgt f < 7 then t else t &&& 72057594037927935)) := by
    intro t
    rw [gr_sites_J24, gr_height_eq, bd1_some]
    by_cases q : hgt f < 7
    · rw [if_pos (show nI (hgt f) < (7 : Int32) from nI_lt (a := hgt f) (b := 7) q (by omega)), if_pos q, gr_sites_J41, gr_around_eq, bd1_some]
    · rw [if_neg (show ¬ nI (hgt f) < (7 : Int32) from nI_nlt (a := hgt f) (b := 7) (by omega) hh), if_neg q, nm_eq, gr_sites_J41, gr_around_eq, bd1_some]
  rw [gr_sites, nm_eq, gr_width_eq, bd1_some, key]
  unfold stL
  by_cases q : wdt f < 7
  · rw [if_pos (show nI (wdt f) < (7 : Int32) from nI_lt (a := wdt f) (b := 7) q (by omega))]
    simp only [q, if_true]
  · rw [if_neg (show ¬ nI (wdt f) < (7 : Int32) from nI_nlt (a := wdt f) (b := 7) (by omega) hw), nm_eq, key]
    simp only [q, if_false]
theorem gar_hB {R : Int64} (hR : C7 R) {i : Nat} (hi : i < 64) (h : i % 8 < 7 ∨ ∀ y : Nat, bt R (8 * y) = false) : bt (gar R) i = (hB R (((i % 8 : Nat) : Int) + 1) ((i / 8 : Nat) : Int) || hB R (((i % 8 : Nat) : Int) - 1) ((i / 8 : Nat) : Int) || hB R ((i % 8 : Nat) : Int) (((i / 8 : Nat) : Int) + 1) || hB R ((i % 8 : Nat) : Int) (((i / 8 : Nat) : Int) - 1)) := by
  have a1 : hB R (((i % 8 : Nat) : Int) + 1) ((i / 8 : Nat) : Int) = bt R (1 + i) := by
    by_cases q : i % 8 = 7
    · rw [hB_o R (by omega)]
      rcases h with h | h
      · omega
      · rw [show 1 + i = 8 * (i / 8 + 1) by omega]; exact (h _).symm
    · rw [show ((i % 8 : Nat) : Int) + 1 = ((i % 8 + 1 : Nat) : Int) by omega, hB_n R (by omega) (by omega), show 8 * (i / 8) + (i % 8 + 1) = 1 + i by omega]
  have a2 : hB R (((i % 8 : Nat) : Int) - 1) ((i / 8 : Nat) : Int) = (decide (1 ≤ i) && bt R (i - 1)) := by
    by_cases q : i % 8 = 0
    · rw [hB_o R (by omega)]
      by_cases q2 : 1 ≤ i
      · rw [decide_eq_true q2, Bool.true_and]
        cases hb : bt R (i - 1) with
        | false => rfl
        | true => have := hR _ hb; omega
      · rw [decide_eq_false q2, Bool.false_and]
    · rw [show ((i % 8 : Nat) : Int) - 1 = ((i % 8 - 1 : Nat) : Int) by omega, hB_n R (by omega) (by omega), show 8 * (i / 8) + (i % 8 - 1) = i - 1 by omega, decide_eq_true (by omega), Bool.true_and]
  have a3 : hB R ((i % 8 : Nat) : Int) (((i / 8 : Nat) : Int) + 1) = bt R (8 + i) := by
    by_cases q : i / 8 = 7
    · rw [hB_o R (by omega), bt_big (by omega)]
    · rw [show ((i / 8 : Nat) : Int) + 1 = ((i / 8 + 1 : Nat) : Int) by omega, hB_n R (by omega) (by omega), show 8 * (i / 8 + 1) + i % 8 = 8 + i by omega]
  have a4 : hB R ((i % 8 : Nat) : Int) (((i / 8 : Nat) : Int) - 1) = (decide (8 ≤ i) && bt R (i - 8)) := by
    by_cases q : 8 ≤ i
    · rw [show ((i / 8 : Nat) : Int) - 1 = ((i / 8 - 1 : Nat) : Int) by omega, hB_n R (by omega) (by omega), show 8 * (i / 8 - 1) + i % 8 = i - 8 by omega, decide_eq_true q, Bool.true_and]
    · rw [hB_o R (by omega), decide_eq_false q, Bool.false_and]
  rw [bt_gar R hi, a1, a2, a3, a4]
  cases (decide (1 ≤ i) && bt R (i - 1)) <;> cases bt R (1 + i) <;> cases (decide (8 ≤ i) && bt R (i - 8)) <;> cases bt R (8 + i) <;> rfl
/-- within seven by seven with the cell (x, y) -/
def Wn (f : Int64) (x y : Int) : Bool := decide ((if x < 0 then wdt f < 7 else x < 7) ∧ (if y < 0 then hgt f < 7 else y < 7))
theorem BS_rm {f : Int64} (hf : F77 f) (X Y : Int) : BS (rmL f) X Y = BS f (X - rxI f) (Y - ryI f) := by
  unfold BS
  rw [rmL_hB hf, rmL_hB hf, rmL_hB hf, rmL_hB hf, rmL_hB hf, show X + 1 - rxI f = X - rxI f + 1 by omega, show X - 1 - rxI f = X - rxI f - 1 by omega, show Y + 1 - ryI f = Y - ryI f + 1 by omega, show Y - 1 - ryI f = Y - ryI f - 1 by omega]
theorem bt_rm {f : Int64} (hf : F77 f) {i : Nat} (hi : i < 64) : bt (rmL f) i = hB f (((i % 8 : Nat) : Int) - rxI f) (((i / 8 : Nat) : Int) - ryI f) := by
  rw [← hB_b (rmL f) hi, rmL_hB hf]
theorem site_bt {f : Int64} (hf : FIG f) {i : Nat} (hi : i < 64) : bt (stL f) i = (BS f (((i % 8 : Nat) : Int) - rxI f) (((i / 8 : Nat) : Int) - ryI f) && Wn f (((i % 8 : Nat) : Int) - rxI f) (((i / 8 : Nat) : Int) - ryI f)) := by
  have hx := rxI_c f
  have hy := ryI_c f
  have h7 : C7 (rmL f) := by
    intro j hj
    have j64 := bt_lt hj
    rw [bt_rm hf.1 j64] at hj
    have := hB_wh hf hj
    have w7 := wdt_b hf
    rcases hx with q | q <;> omega
  have hw : bt (gar (rmL f) &&& (rmL f ^^^ (-1))) i = true → (i % 8 < 7 ∨ wdt f < 7) → True := fun _ _ => trivial
  -- the masks
  have hm : bt (stL f) i = ((bt (gar (rmL f)) i && !bt (rmL f) i) && (decide (wdt f < 7 ∨ i % 8 < 7) && decide (hgt f < 7 ∨ i < 56))) := by
    unfold stL
    by_cases qh : hgt f < 7 <;> by_cases qw : wdt f < 7
    · simp only [qh, qw, if_true]
      rw [bt_and, bt_xor, bt_m1 hi]
      simp
    · simp only [qh, qw, if_true, if_false]
      rw [bt_and, bt_and, bt_xor, bt_m1 hi, k_7F hi]
      by_cases q7 : i % 8 < 7
      · rw [decide_eq_true (show ¬ i % 8 = 7 by omega)]; simp [q7]
      · rw [decide_eq_false (show ¬ ¬ i % 8 = 7 by omega)]; simp [q7]
    · simp only [qh, qw, if_true, if_false]
      rw [bt_and, bt_and, bt_xor, bt_m1 hi, k_56 hi]
      by_cases q7 : i < 56 <;> simp [q7]
    · simp only [qh, qw, if_false]
      rw [bt_and, bt_and, bt_and, bt_xor, bt_m1 hi, k_7F hi, k_56 hi]
      by_cases q7 : i % 8 < 7
      · rw [decide_eq_true (show ¬ i % 8 = 7 by omega)]
        by_cases q8 : i < 56 <;> simp [q7, q8]
      · rw [decide_eq_false (show ¬ ¬ i % 8 = 7 by omega)]; simp [q7]
  have hW : Wn f (((i % 8 : Nat) : Int) - rxI f) (((i / 8 : Nat) : Int) - ryI f) = (decide (wdt f < 7 ∨ i % 8 < 7) && decide (hgt f < 7 ∨ i < 56)) := by
    unfold Wn
    rw [← Bool.decide_and]
    apply bool_iff
    rw [decide_eq_true_eq, decide_eq_true_eq]
    constructor
    · rintro ⟨p1, p2⟩
      constructor
      · split at p1 <;> rcases hx with q | q <;> omega
      · split at p2 <;> rcases hy with q | q <;> omega
    · rintro ⟨p1, p2⟩
      constructor
      · split <;> rcases hx with q | q <;> omega
      · split <;> rcases hy with q | q <;> omega
  rw [hm, hW]
  by_cases qw : wdt f < 7 ∨ i % 8 < 7
  · congr 1
    rw [← BS_rm hf.1]
    have hg := gar_hB h7 hi (by
      rcases qw with qw | qw
      · right
        intro y
        cases hb : bt (rmL f) (8 * y) with
        | false => rfl
        | true =>
          have y64 := bt_lt hb
          rw [bt_rm hf.1 y64] at hb
          have := hB_wh hf hb
          rcases hx with q | q <;> omega
      · exact Or.inl qw)
    unfold BS
    rw [hg, hB_b _ hi, Bool.and_comm]
  · rw [decide_eq_false qw]; simp
/-- the figure with the cell (x, y) more -/
def pz (x : Int) : Nat := if x < 0 then 0 else x.toNat
noncomputable def wth (f : Int64) (x y : Int) : Int64 := rmB (decide (x < 0)) (decide (y < 0)) f ||| sl 1 (nI (8 * pz y + pz x))
theorem pz_lt {x : Int} (h : x < 7) : pz x < 7 := by unfold pz; split <;> omega
theorem pz_z (x : Int) (h : -1 ≤ x) : (pz x : Int) = x + zB (decide (x < 0)) := by
  unfold pz zB
  by_cases q : x < 0
  · rw [if_pos q, decide_eq_true q]; simp; omega
  · rw [if_neg q, decide_eq_false q]; simp; omega
theorem mo_with_eq (f : Int64) {x y : Int} (hx : -1 ≤ x ∧ x < 7) (hy : -1 ≤ y ∧ y < 7) : mo_with f (Int32.ofInt x) (Int32.ofInt y) = some (wth f x y) := by
  have cx : (0 ≤ Int32.ofInt x) ↔ 0 ≤ x := by
    have := iI_le (a := 0) (b := x) (by omega) (by omega)
    exact this
  have cy : (0 ≤ Int32.ofInt y) ↔ 0 ≤ y := by
    have := iI_le (a := 0) (b := y) (by omega) (by omega)
    exact this
  have key : ∀ (t : Int64) (a b : Nat), mo_with_J49 t (nI a) (nI b) = some (t ||| sl 1 (nI (8 * b + a))) := by
    intro t a b
    rw [mo_with_J49, mo_cellBit, bd1_some, ix_eq]
  have kx : ∀ t, mo_with_J27 (Int32.ofInt x) (Int32.ofInt y) t = some (t ||| sl 1 (nI (8 * pz y + pz x))) := by
    intro t
    rw [mo_with_J27, mo_with_J40, mo_with_J40]
    unfold pz
    by_cases qx : x < 0
    · rw [if_neg (show ¬ 0 ≤ Int32.ofInt x by rw [cx]; omega), if_pos qx]
      by_cases qy : y < 0
      · rw [if_neg (show ¬ 0 ≤ Int32.ofInt y by rw [cy]; omega), if_pos qy]
        exact key t 0 0
      · rw [if_pos (show 0 ≤ Int32.ofInt y by rw [cy]; omega), if_neg qy, show Int32.ofInt y = nI y.toNat by rw [nI_iI]; congr 1; omega]
        exact key t 0 _
    · rw [if_pos (show 0 ≤ Int32.ofInt x by rw [cx]; omega), if_neg qx, show Int32.ofInt x = nI x.toNat by rw [nI_iI]; congr 1; omega]
      by_cases qy : y < 0
      · rw [if_neg (show ¬ 0 ≤ Int32.ofInt y by rw [cy]; omega), if_pos qy]
        exact key t _ 0
      · rw [if_pos (show 0 ≤ Int32.ofInt y by rw [cy]; omega), if_neg qy, show Int32.ofInt y = nI y.toNat by rw [nI_iI]; congr 1; omega]
        exact key t _ _
  rw [mo_with, mo_with_J11, mo_with_J11, kx, kx, kx, kx]
  unfold wth rmB
  by_cases qx : x < 0
  · rw [if_neg (show ¬ 0 ≤ Int32.ofInt x by rw [cx]; omega), decide_eq_true qx]
    by_cases qy : y < 0
    · rw [if_neg (show ¬ 0 ≤ Int32.ofInt y by rw [cy]; omega), decide_eq_true qy]
      simp only [if_true]
    · rw [if_pos (show 0 ≤ Int32.ofInt y by rw [cy]; omega), decide_eq_false qy]
      simp only [if_true, Bool.false_eq_true, if_false]
  · rw [if_pos (show 0 ≤ Int32.ofInt x by rw [cx]; omega), decide_eq_false qx]
    by_cases qy : y < 0
    · rw [if_neg (show ¬ 0 ≤ Int32.ofInt y by rw [cy]; omega), decide_eq_true qy]
      simp only [if_true, Bool.false_eq_true, if_false]
    · rw [if_pos (show 0 ≤ Int32.ofInt y by rw [cy]; omega), decide_eq_false qy]
      simp only [Bool.false_eq_true, if_false]
theorem wth_hB {f : Int64} (hf : F77 f) {x y : Int} (hx : -1 ≤ x ∧ x < 7) (hy : -1 ≤ y ∧ y < 7) (X Y : Int) : hB (wth f x y) X Y = (hB f (X - zB (decide (x < 0))) (Y - zB (decide (y < 0))) || decide (X = x + zB (decide (x < 0)) ∧ Y = y + zB (decide (y < 0)))) := by
  have a := pz_lt hx.2
  have b := pz_lt hy.2
  unfold wth
  rw [hB_or, rmB_hB hf, hB_one (by omega), ← pz_z x hx.1, ← pz_z y hy.1, show (8 * pz y + pz x) % 8 = pz x by omega, show (8 * pz y + pz x) / 8 = pz y by omega]
