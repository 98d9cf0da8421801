/-! LAYER 2: points of the class, beside, whole rows -/
theorem hB_n (f : Int64) {x y : Nat} (hx : x < 8) (hy : y < 8) : hB f x y = bt f (8 * y + x) := by
  unfold hB
  rw [decide_eq_true (show (0 : Int) ≤ x ∧ (x : Int) < 8 ∧ (0 : Int) ≤ y ∧ (y : Int) < 8 by omega)]
  rfl
theorem hB_o (f : Int64) {x y : Int} (h : ¬ (0 ≤ x ∧ x < 8 ∧ 0 ≤ y ∧ y < 8)) : hB f x y = false := by
  unfold hB; rw [decide_eq_false h]; rfl
theorem hB_l {f : Int64} (hf : C7 f) {x y : Nat} (hx : x < 8) (hy : y < 8) : hB f ((x : Int) - 1) y = bt (sl f 1) (8 * y + x) := by
  rw [show sl f 1 = sl f (nI 1) from rfl, bt_sl _ (by omega) (by omega)]
  cases x with
  | zero =>
    rw [hB_o f (by omega)]
    cases hb : bt f (8 * y + 0 - 1) with
    | false => simp
    | true =>
      rcases Nat.eq_zero_or_pos y with q | q
      · subst q; rfl
      · have := hf _ hb; omega
  | succ x =>
    rw [show ((x + 1 : Nat) : Int) - 1 = (x : Nat) by omega, hB_n f (by omega) hy, decide_eq_true (show 1 ≤ 8 * y + (x + 1) by omega), Bool.true_and]
    congr 1
theorem hB_u {f : Int64} {x y : Nat} (hx : x < 8) (hy : y < 8) : hB f x ((y : Int) - 1) = bt (sl f 8) (8 * y + x) := by
  rw [show sl f 8 = sl f (nI 8) from rfl, bt_sl _ (by omega) (by omega)]
  cases y with
  | zero => rw [hB_o f (by omega), decide_eq_false (show ¬ 8 ≤ 8 * 0 + x by omega)]; rfl
  | succ y =>
    rw [show ((y + 1 : Nat) : Int) - 1 = (y : Nat) by omega, hB_n f hx (by omega), decide_eq_true (show 8 ≤ 8 * (y + 1) + x by omega), Bool.true_and]
    congr 1; omega
theorem hB_lu {f : Int64} (hf : C7 f) {x y : Nat} (hx : x < 8) (hy : y < 8) : hB f ((x : Int) - 1) ((y : Int) - 1) = bt (sl f 9) (8 * y + x) := by
  rw [show sl f 9 = sl f (nI 9) from rfl, bt_sl _ (by omega) (by omega)]
  cases y with
  | zero =>
    rw [hB_o f (by omega)]
    by_cases q : 9 ≤ 8 * 0 + x
    · omega
    · rw [decide_eq_false q]; rfl
  | succ y =>
    cases x with
    | zero =>
      rw [hB_o f (by omega)]
      cases hb : bt f (8 * (y + 1) + 0 - 9) with
      | false => simp
      | true =>
        rcases Nat.eq_zero_or_pos y with q | q
        · subst q; rfl
        · have := hf _ hb; omega
    | succ x =>
      rw [show ((x + 1 : Nat) : Int) - 1 = (x : Nat) by omega, show ((y + 1 : Nat) : Int) - 1 = (y : Nat) by omega, hB_n f (by omega) (by omega), decide_eq_true (show 9 ≤ 8 * (y + 1) + (x + 1) by omega), Bool.true_and]
      congr 1; omega
def thrL (f : Int64) : Int64 := ((f &&& sl f 1) &&& (sl f 8 ^^^ sl f 9)) ||| ((sl f 8 &&& sl f 9) &&& (f ^^^ sl f 1))
def aslL (f : Int64) : Int64 := ((f &&& sl f 9) &&& ((sl f 1 ||| sl f 8) ^^^ (-1))) ||| ((sl f 1 &&& sl f 8) &&& ((f ||| sl f 9) ^^^ (-1)))
def oddL (f : Int64) : Int64 := ((f ^^^ sl f 1) ^^^ sl f 8) ^^^ sl f 9
def sqrL (f : Int64) : Int64 := ((f &&& sl f 1) &&& sl f 8) &&& sl f 9
theorem tr_threes_eq (f : Int64) : tr_threes f = some (thrL f) := rfl
theorem tr_aslant_eq (f : Int64) : tr_aslant f = some (aslL f) := rfl
theorem ptf_bits {f : Int64} (hf : C7 f) (w : Nat) {x y : Nat} (hx : x < 8) (hy : y < 8) : ptf f w x y = ptv (bt (sl f 9) (8 * y + x)) (bt (sl f 8) (8 * y + x)) (bt (sl f 1) (8 * y + x)) (bt f (8 * y + x)) w := by
  unfold ptf
  rw [hB_lu hf hx hy, hB_u hx hy, hB_l hf hx hy, hB_n f hx hy]
theorem ptS_cnt {f : Int64} {w : Nat} (g : Int64) (h : ∀ x y, x < 8 → y < 8 → ptf f w x y = if bt g (8 * y + x) then 1 else 0) : ptS f w 8 = cnt g := by
  rw [cnt_rows]
  refine fb_sm_cong (fun y hy => ?_)
  rw [← sm_ct]
  exact fb_sm_cong (fun x hx => h x y hx hy)
theorem pt_thr {f : Int64} (hf : C7 f) : ptS f 1 8 = cnt (thrL f) := ptS_cnt _ (fun x y hx hy => by
  rw [ptf_bits hf 1 hx hy]
  unfold thrL
  simp only [bt_or, bt_and, bt_xor]
  cases bt (sl f 9) (8 * y + x) <;> cases bt (sl f 8) (8 * y + x) <;> cases bt (sl f 1) (8 * y + x) <;> cases bt f (8 * y + x) <;> rfl)
theorem pt_asl {f : Int64} (hf : C7 f) : ptS f 2 8 = cnt (aslL f) := ptS_cnt _ (fun x y hx hy => by
  rw [ptf_bits hf 2 hx hy]
  unfold aslL
  simp only [bt_or, bt_and, bt_xor, bt_m1 (show 8 * y + x < 64 by omega)]
  cases bt (sl f 9) (8 * y + x) <;> cases bt (sl f 8) (8 * y + x) <;> cases bt (sl f 1) (8 * y + x) <;> cases bt f (8 * y + x) <;> rfl)
theorem pt_sqr {f : Int64} (hf : C7 f) : ptS f 3 8 = cnt (sqrL f) := ptS_cnt _ (fun x y hx hy => by
  rw [ptf_bits hf 3 hx hy]
  unfold sqrL
  simp only [bt_or, bt_and, bt_xor, bt_m1 (show 8 * y + x < 64 by omega)]
  cases bt (sl f 9) (8 * y + x) <;> cases bt (sl f 8) (8 * y + x) <;> cases bt (sl f 1) (8 * y + x) <;> cases bt f (8 * y + x) <;> rfl)
theorem pt_out {f : Int64} (hf : C7 f) : ptS f 0 8 = cnt (oddL f &&& (thrL f ^^^ (-1))) + (cnt (aslL f) + cnt (aslL f)) := by
  rw [cnt_rows (oddL f &&& (thrL f ^^^ (-1))), cnt_rows (aslL f), ← fb_sm_add, ← fb_sm_add]
  refine fb_sm_cong (fun y hy => ?_)
  show fb_sm (fun x => ptf f 0 x y) 8 = _
  rw [← sm_ct, ← sm_ct, ← fb_sm_add, ← fb_sm_add]
  refine fb_sm_cong (fun x hx => ?_)
  rw [ptf_bits hf 0 hx hy]
  unfold aslL oddL thrL
  simp only [bt_or, bt_and, bt_xor, bt_m1 (show 8 * y + x < 64 by omega)]
  cases bt (sl f 9) (8 * y + x) <;> cases bt (sl f 8) (8 * y + x) <;> cases bt (sl f 1) (8 * y + x) <;> cases bt f (8 * y + x) <;> rfl
theorem tr_outer_eq {f : Int64} (hf : C7 f) : tr_outer f = some (nI (ptS f 0 8)) := by
  unfold tr_outer
  rw [nm_eq, tr_threes_eq, bd1_some, jl_bitCount_eq, bd1_some, tr_aslant_eq, bd1_some, jl_bitCount_eq, bd1_some, pt_out hf, show (2 : Int32) = nI 2 from rfl, pk_mul, nI_add]
  show some (nI (cnt (oddL f &&& (thrL f ^^^ (-1))) + 2 * cnt (aslL f))) = _
  congr 2; omega
theorem tr_squares_eq {f : Int64} (hf : C7 f) : tr_squares f = some (nI (ptS f 3 8)) := by
  unfold tr_squares
  rw [jl_bitCount_eq, bd1_some, pt_sqr hf]; rfl
/-! beside -/
def BS (f : Int64) (x y : Int) : Bool := !hB f x y && (hB f (x + 1) y || hB f (x - 1) y || hB f x (y + 1) || hB f x (y - 1))
theorem mo_isBeside_i (f : Int64) {x y : Int} (hx : -50 < x ∧ x < 50) (hy : -50 < y ∧ y < 50) : mo_isBeside f (Int32.ofInt x) (Int32.ofInt y) = some (boI (BS f x y)) := by
  unfold mo_isBeside mo_isBeside_J53 BS
  rw [iP, iO, iP, iO, mo_isCell_i f (by omega) (by omega), mo_isCell_i f (by omega) (by omega), mo_isCell_i f (by omega) (by omega), mo_isCell_i f (by omega) (by omega), mo_isCell_i f (by omega) (by omega)]
  simp only [bd1_some, zb_0, zb_1]
  cases hB f x y <;> cases hB f (x + 1) y <;> cases hB f (x - 1) y <;> cases hB f x (y + 1) <;> cases hB f x (y - 1) <;> rfl
def besR (f : Int64) (j : Nat) : Nat := fb_ct (fun i => BS f ((i : Int) - 1) ((j : Int) - 1)) 9
def besS (f : Int64) (n : Nat) : Nat := fb_sm (besR f) n
theorem iI9 (i : Nat) : Int32.ofInt ((i : Int) - 1) + Int32.ofInt 1 = Int32.ofInt (((i + 1 : Nat) : Int) - 1) := by
  rw [← Int32.ofInt_add]; congr 1; omega
theorem i8le {i : Nat} (h : i < 9) : ¬ (8 : Int32) ≤ Int32.ofInt ((i : Int) - 1) := by
  rw [Int32.le_iff_toInt_le, fb_ofI (by omega) (by omega), show (8 : Int32).toInt = 8 from rfl]; omega
theorem mo_besideOf_eq (f : Int64) : mo_besideOf f = some (nI (besS f 9)) := by
  unfold mo_besideOf
  rw [show fl2 (mo_besideOf_B4 f) FU 0 (-1) = fl2 (mo_besideOf_B4 f) FU (nI (besS f 0)) (Int32.ofInt (((0 : Nat) : Int) - 1)) from rfl]
  refine crs2 (B := mo_besideOf_B4 f) (fun i => nI (besS f i)) (fun i => Int32.ofInt ((i : Int) - 1)) 9 (fun j hj k => ?_) (fun k => ?_) FU (FU_lt (by omega))
  · rw [mo_besideOf_B4, if_neg (i8le hj)]
    refine crs2 (B := mo_besideOf_B13 f (Int32.ofInt ((j : Int) - 1)) k) (fun i => nI (besS f j + fb_ct (fun i => BS f ((i : Int) - 1) ((j : Int) - 1)) i)) (fun i => Int32.ofInt ((i : Int) - 1)) 9 (fun i hi k2 => ?_) (fun k2 => ?_) FU (FU_lt (by omega))
    · show mo_besideOf_B13 f (Int32.ofInt ((j : Int) - 1)) k k2 (nI (besS f j + fb_ct (fun i => BS f ((i : Int) - 1) ((j : Int) - 1)) i)) (Int32.ofInt ((i : Int) - 1)) = k2 (nI (besS f j + fb_ct (fun i => BS f ((i : Int) - 1) ((j : Int) - 1)) (i + 1))) (Int32.ofInt (((i + 1 : Nat) : Int) - 1))
      rw [mo_besideOf_B13, if_neg (i8le hi), mo_isBeside_i f (by omega) (by omega), bd1_some, fb_ct_succ]
      unfold mo_besideOf_J36
      cases BS f ((i : Int) - 1) ((j : Int) - 1) with
      | true => rw [if_neg (by decide), nm_eq, nm_eq, nI_1, iI9]; rfl
      | false => rw [if_pos (by decide), nm_eq, nm_eq, show (0 : Int32) = nI 0 from nI_0.symm, nI_add, iI9]; rfl
    · show mo_besideOf_B13 f (Int32.ofInt ((j : Int) - 1)) k k2 (nI (besS f j + besR f j)) (Int32.ofInt (((9 : Nat) : Int) - 1)) = k (nI (besS f (j + 1))) (Int32.ofInt (((j + 1 : Nat) : Int) - 1))
      rw [mo_besideOf_B13, if_pos (by decide), nm_eq, iI9]; rfl
  · show mo_besideOf_B4 f k (nI (besS f 9)) (Int32.ofInt (((9 : Nat) : Int) - 1)) = _
    rw [mo_besideOf_B4, if_pos (by decide)]
theorem k_77 {i : Nat} (h : i < 64) : bt 35887507618889599 i = decide (i % 8 < 7 ∧ i < 56) := by
  have : ∀ i : Fin 64, bt 35887507618889599 i.val = decide (i.val % 8 < 7 ∧ i.val < 56) := by decide +kernel
  exact this ⟨i, h⟩
theorem k_c6 {i : Nat} (h : i < 64) : bt 4629771061636907072 i = decide (i % 8 = 6) := by
  have : ∀ i : Fin 64, bt 4629771061636907072 i.val = decide (i.val % 8 = 6) := by decide +kernel
  exact this ⟨i, h⟩
theorem k_r6 {i : Nat} (h : i < 64) : bt 71776119061217280 i = decide (48 ≤ i ∧ i < 56) := by
  have : ∀ i : Fin 64, bt 71776119061217280 i.val = decide (48 ≤ i.val ∧ i.val < 56) := by decide +kernel
  exact this ⟨i, h⟩
theorem bf_of {f : Int64} {i : Nat} (h : ¬ bt f i = true) : bt f i = false := by cases hb : bt f i with
  | false => rfl
  | true => exact absurd hb h
theorem cnt77 {g : Int64} (h : F77 g) : cnt g = fb_sm (fun y => fb_ct (fun x => bt g (8 * y + x)) 7) 7 := by
  rw [cnt_rows, fb_sm_succ]
  have z : fb_ct (fun x => bt g (8 * 7 + x)) 8 = 0 := fb_ct_zero.mpr (fun x _ => bf_of (fun hb => by have := h _ hb; omega))
  rw [z, Nat.add_zero]
  refine fb_sm_cong (fun y hy => ?_)
  rw [fb_ct_succ, bf_of (f := g) (i := 8 * y + 7) (fun hb => by have := h _ hb; omega)]
  rfl
theorem ct_9 (p : Nat → Bool) : fb_ct p 9 = (if p 0 then 1 else 0) + fb_ct (fun k => p (1 + k)) 7 + (if p 8 then 1 else 0) := by
  rw [fb_ct_succ, show (8 : Nat) = 1 + 7 by omega, fb_ct_split]
  simp [fb_ct]
theorem sm_9 (p : Nat → Nat) : fb_sm p 9 = p 0 + fb_sm (fun k => p (1 + k)) 7 + p 8 := by
  rw [fb_sm_succ, show (8 : Nat) = 1 + 7 by omega, fb_sm_split]
  simp [fb_sm]
theorem F77_sub {f g : Int64} (h : F77 f) (s : sub g f) : F77 g := fun i hi => h i (s i hi)
theorem and_sub (f m : Int64) : sub (f &&& m) f := fun i hi => by rw [bt_and, Bool.and_eq_true] at hi; exact hi.1
theorem hB_77 {f : Int64} (hf : F77 f) {x y : Int} (h : ¬ (0 ≤ x ∧ x < 7 ∧ 0 ≤ y ∧ y < 7)) : hB f x y = false := by
  unfold hB
  by_cases q : 0 ≤ x ∧ x < 8 ∧ 0 ≤ y ∧ y < 8
  · rw [decide_eq_true q, Bool.true_and]
    refine bf_of (fun hb => ?_)
    have := hf _ hb; omega
  · rw [decide_eq_false q]; rfl
def besB (f : Int64) : Int64 := (gar f &&& (f ^^^ (-1))) &&& 35887507618889599
theorem BS_in {f : Int64} (hf : F77 f) {x y : Nat} (hx : x < 7) (hy : y < 7) : BS f x y = bt (besB f) (8 * y + x) := by
  have h64 : 8 * y + x < 64 := by omega
  have e : BS f x y = true ↔ bt (besB f) (8 * y + x) = true := by
    unfold BS besB
    rw [bt_and, bt_and, bt_xor, bt_m1 h64, k_77 h64, hB_n f (by omega) (by omega)]
    have hx1 : hB f ((x : Int) + 1) y = bt f (1 + (8 * y + x)) := by
      rw [show ((x : Int) + 1) = ((x + 1 : Nat) : Int) by omega, hB_n f (by omega) (by omega)]; congr 1; omega
    have hy1 : hB f x ((y : Int) + 1) = bt f (8 + (8 * y + x)) := by
      rw [show ((y : Int) + 1) = ((y + 1 : Nat) : Int) by omega, hB_n f (by omega) (by omega)]; congr 1; omega
    have hx0 : hB f ((x : Int) - 1) y = true ↔ ¬ (8 * y + x) % 8 = 0 ∧ bt f (8 * y + x - 1) = true := by
      cases x with
      | zero => rw [hB_o f (by omega)]; constructor
                · intro h; cases h
                · intro h; omega
      | succ x => rw [show ((x + 1 : Nat) : Int) - 1 = (x : Nat) by omega, hB_n f (by omega) (by omega), show 8 * y + (x + 1) - 1 = 8 * y + x by omega]
                  exact ⟨fun h => ⟨by omega, h⟩, fun h => h.2⟩
    have hy0 : hB f x ((y : Int) - 1) = true ↔ 8 ≤ 8 * y + x ∧ bt f (8 * y + x - 8) = true := by
      cases y with
      | zero => rw [hB_o f (by omega)]; constructor
                · intro h; cases h
                · intro h; omega
      | succ y => rw [show ((y + 1 : Nat) : Int) - 1 = (y : Nat) by omega, hB_n f (by omega) (by omega), show 8 * (y + 1) + x - 8 = 8 * y + x by omega]
                  exact ⟨fun h => ⟨by omega, h⟩, fun h => h.2⟩
    have hn := gar_nb hf.c7 h64 (show (8 * y + x) % 8 < 7 by omega)
    rw [nb_iff, ← hx0, ← hy0, ← hx1, ← hy1] at hn
    simp only [Bool.and_eq_true, Bool.or_eq_true, Bool.not_eq_true', decide_eq_true_eq]
    rw [hn]
    constructor
    · rintro ⟨a, b⟩
      refine ⟨⟨?_, by rw [a]; rfl⟩, by omega⟩
      rcases b with ((b | b) | b) | b
      · exact Or.inl ⟨by omega, b⟩
      · exact Or.inr (Or.inl b)
      · exact Or.inr (Or.inr (Or.inl b))
      · exact Or.inr (Or.inr (Or.inr b))
    · rintro ⟨⟨a, b⟩, _⟩
      have b2 : bt f (8 * y + x) = false := bf_of (fun hb => by rw [hb] at b; cases b)
      refine ⟨b2, ?_⟩
      rcases a with a | a | a | a
      · exact Or.inl (Or.inl (Or.inl a.2))
      · exact Or.inl (Or.inl (Or.inr a))
      · exact Or.inl (Or.inr a)
      · exact Or.inr a
  cases hb : BS f x y with
  | true => exact (e.mp hb).symm
  | false =>
    cases hc : bt (besB f) (8 * y + x) with
    | false => rfl
    | true => rw [e.mpr hc] at hb; cases hb
theorem besS_eq {f : Int64} (hf : F77 f) : besS f 9 = cnt (besB f) + cnt (f &&& 72340172838076673) + cnt (f &&& 4629771061636907072) + cnt (f &&& 255) + cnt (f &&& 71776119061217280) := by
  have hB77 : F77 (besB f) := fun i hi => by
    have h64 := bt_lt hi
    unfold besB at hi
    rw [bt_and, Bool.and_eq_true, k_77 h64] at hi
    exact of_decide_eq_true hi.2
  rw [cnt77 hB77, cnt77 (F77_sub hf (and_sub f _)), cnt77 (F77_sub hf (and_sub f _)), cnt77 (F77_sub hf (and_sub f 255)), cnt77 (F77_sub hf (and_sub f 71776119061217280))]
  show fb_sm (besR f) 9 = _
  rw [sm_9]
  have r0 : besR f 0 = fb_ct (fun x => bt f x) 7 := by
    unfold besR
    rw [ct_9]
    have a1 : BS f (((0 : Nat) : Int) - 1) (((0 : Nat) : Int) - 1) = false := by
      unfold BS
      rw [hB_77 hf (by omega), hB_77 hf (by omega), hB_77 hf (by omega), hB_77 hf (by omega), hB_77 hf (by omega)]; rfl
    have a2 : BS f (((8 : Nat) : Int) - 1) (((0 : Nat) : Int) - 1) = false := by
      unfold BS
      rw [hB_77 hf (by omega), hB_77 hf (by omega), hB_77 hf (by omega), hB_77 hf (by omega), hB_77 hf (by omega)]; rfl
    rw [a1, a2]
    simp only [Bool.false_eq_true, if_false, Nat.zero_add, Nat.add_zero]
    refine fb_ct_cong (fun x hx => ?_)
    unfold BS
    rw [hB_77 hf (by omega), hB_77 hf (by omega), hB_77 hf (by omega), hB_77 (x := ((1 + x : Nat) : Int) - 1) (y := ((0 : Nat) : Int) - 1 - 1) hf (by omega), show ((1 + x : Nat) : Int) - 1 = (x : Nat) by omega, show ((0 : Nat) : Int) - 1 + 1 = (0 : Nat) by omega, hB_n f (by omega) (by omega), show 8 * 0 + x = x by omega]
    cases bt f x <;> rfl
  have r8 : besR f 8 = fb_ct (fun x => bt f (48 + x)) 7 := by
    unfold besR
    rw [ct_9]
    have a1 : BS f (((0 : Nat) : Int) - 1) (((8 : Nat) : Int) - 1) = false := by
      unfold BS
      rw [hB_77 hf (by omega), hB_77 hf (by omega), hB_77 hf (by omega), hB_77 hf (by omega), hB_77 hf (by omega)]; rfl
    have a2 : BS f (((8 : Nat) : Int) - 1) (((8 : Nat) : Int) - 1) = false := by
      unfold BS
      rw [hB_77 hf (by omega), hB_77 hf (by omega), hB_77 hf (by omega), hB_77 hf (by omega), hB_77 hf (by omega)]; rfl
    rw [a1, a2]
    simp only [Bool.false_eq_true, if_false, Nat.zero_add, Nat.add_zero]
    refine fb_ct_cong (fun x hx => ?_)
    unfold BS
    rw [hB_77 hf (by omega), hB_77 hf (by omega), hB_77 hf (by omega), hB_77 (x := ((1 + x : Nat) : Int) - 1) (y := ((8 : Nat) : Int) - 1 + 1) hf (by omega), show ((1 + x : Nat) : Int) - 1 = (x : Nat) by omega, show ((8 : Nat) : Int) - 1 - 1 = (6 : Nat) by omega, hB_n f (by omega) (by omega)]
    show _ = bt f (48 + x)
    cases bt f (48 + x) <;> rfl
  have rm : ∀ y, y < 7 → besR f (1 + y) = (if bt f (8 * y) then 1 else 0) + fb_ct (fun x => bt (besB f) (8 * y + x)) 7 + (if bt f (8 * y + 6) then 1 else 0) := by
    intro y hy
    unfold besR
    rw [ct_9]
    have a1 : BS f (((0 : Nat) : Int) - 1) (((1 + y : Nat) : Int) - 1) = bt f (8 * y) := by
      unfold BS
      rw [hB_77 hf (by omega), show ((0 : Nat) : Int) - 1 + 1 = (0 : Nat) by omega, show ((1 + y : Nat) : Int) - 1 = (y : Nat) by omega, hB_n f (by omega) (by omega), hB_77 hf (by omega), hB_77 hf (by omega), hB_77 hf (by omega)]
      show _ = bt f (8 * y + 0)
      cases bt f (8 * y + 0) <;> rfl
    have a2 : BS f (((8 : Nat) : Int) - 1) (((1 + y : Nat) : Int) - 1) = bt f (8 * y + 6) := by
      unfold BS
      rw [hB_77 hf (by omega), hB_77 hf (by omega), show ((8 : Nat) : Int) - 1 - 1 = (6 : Nat) by omega, show ((1 + y : Nat) : Int) - 1 = (y : Nat) by omega, hB_n f (by omega) (by omega), hB_77 hf (by omega), hB_77 hf (by omega)]
      cases bt f (8 * y + 6) <;> rfl
    rw [a1, a2]
    congr 2
    refine fb_ct_cong (fun x hx => ?_)
    rw [show ((1 + x : Nat) : Int) - 1 = (x : Nat) by omega, show ((1 + y : Nat) : Int) - 1 = (y : Nat) by omega, BS_in hf hx hy]
  rw [r0, r8, fb_sm_cong (g := fun y => ((if bt f (8 * y) then 1 else 0) + fb_ct (fun x => bt (besB f) (8 * y + x)) 7) + (if bt f (8 * y + 6) then 1 else 0)) rm, fb_sm_add, fb_sm_add]
  have c0 : fb_sm (fun y => fb_ct (fun x => bt (f &&& 72340172838076673) (8 * y + x)) 7) 7 = fb_sm (fun y => if bt f (8 * y) then 1 else 0) 7 := fb_sm_cong (fun y hy => by
    have z : fb_ct (fun k => bt (f &&& 72340172838076673) (8 * y + (1 + k))) 6 = 0 := fb_ct_zero.mpr (fun x hx => by
      show bt (f &&& 72340172838076673) (8 * y + (1 + x)) = false
      rw [bt_and, k_col (by omega), decide_eq_false (by omega), Bool.and_false])
    rw [show fb_ct (fun x => bt (f &&& 72340172838076673) (8 * y + x)) 7 = fb_ct (fun x => bt (f &&& 72340172838076673) (8 * y + x)) (1 + 6) from rfl, fb_ct_split, z]
    show 0 + (if bt (f &&& 72340172838076673) (8 * y + 0) = true then 1 else 0) + 0 = _
    rw [bt_and, k_col (show 8 * y + 0 < 64 by omega), decide_eq_true (show (8 * y + 0) % 8 = 0 by omega), Bool.and_true, Nat.zero_add, Nat.add_zero, Nat.add_zero])
  have c6 : fb_sm (fun y => fb_ct (fun x => bt (f &&& 4629771061636907072) (8 * y + x)) 7) 7 = fb_sm (fun y => if bt f (8 * y + 6) then 1 else 0) 7 := fb_sm_cong (fun y hy => by
    rw [fb_ct_succ, fb_ct_zero.mpr (fun x hx => by
      show bt (f &&& 4629771061636907072) (8 * y + x) = false
      rw [bt_and, k_c6 (by omega), decide_eq_false (by omega), Bool.and_false]), bt_and, k_c6 (by omega), decide_eq_true (by omega), Bool.and_true, Nat.zero_add])
  have d0 : fb_sm (fun y => fb_ct (fun x => bt (f &&& 255) (8 * y + x)) 7) 7 = fb_ct (fun x => bt f x) 7 := by
    have z : ∀ y, y < 6 → fb_ct (fun x => bt (f &&& 255) (8 * (1 + y) + x)) 7 = 0 := fun y hy => fb_ct_zero.mpr (fun x hx => by
      show bt (f &&& 255) (8 * (1 + y) + x) = false
      rw [bt_and, k_255 (by omega), decide_eq_false (by omega), Bool.and_false])
    rw [show fb_sm (fun y => fb_ct (fun x => bt (f &&& 255) (8 * y + x)) 7) 7 = fb_sm (fun y => fb_ct (fun x => bt (f &&& 255) (8 * y + x)) 7) (1 + 6) from rfl, fb_sm_split, fb_sm_cong (g := fun _ => 0) z, fb_sm_const]
    show 0 + fb_ct (fun x => bt (f &&& 255) (8 * 0 + x)) 7 + 6 * 0 = _
    rw [Nat.zero_add, Nat.mul_zero, Nat.add_zero]
    refine fb_ct_cong (fun x hx => ?_)
    rw [bt_and, k_255 (by omega), decide_eq_true (by omega), Bool.and_true, show 8 * 0 + x = x by omega]
  have d6 : fb_sm (fun y => fb_ct (fun x => bt (f &&& 71776119061217280) (8 * y + x)) 7) 7 = fb_ct (fun x => bt f (48 + x)) 7 := by
    rw [fb_sm_succ, fb_sm_cong (g := fun _ => 0) (fun y hy => fb_ct_zero.mpr (fun x hx => by
      show bt (f &&& 71776119061217280) (8 * y + x) = false
      rw [bt_and, k_r6 (by omega), decide_eq_false (by omega), Bool.and_false])), fb_sm_const, Nat.mul_zero, Nat.zero_add]
    refine fb_ct_cong (fun x hx => ?_)
    rw [bt_and, k_r6 (by omega), decide_eq_true (by omega), Bool.and_true]
  rw [c0, c6, d0, d6]
  omega
theorem tr_beside_eq {f : Int64} (hf : F77 f) : tr_beside f = some (nI (besS f 9)) := by
  unfold tr_beside
  rw [gr_around_eq, bd1_some, jl_bitCount_eq, bd1_some, jl_bitCount_eq, bd1_some, jl_bitCount_eq, bd1_some, jl_bitCount_eq, bd1_some, jl_bitCount_eq, bd1_some, nI_add, nI_add, nI_add, nI_add, besS_eq hf]
  rfl
