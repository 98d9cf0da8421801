/-! vector, owner -/
theorem bd13_some {α1 α2 α3 α4 α5 α6 α7 α8 α9 α10 α11 α12 α13 β : Type} (a1 : α1) (a2 : α2) (a3 : α3) (a4 : α4) (a5 : α5) (a6 : α6) (a7 : α7) (a8 : α8) (a9 : α9) (a10 : α10) (a11 : α11) (a12 : α12) (a13 : α13) (k : α1 → α2 → α3 → α4 → α5 → α6 → α7 → α8 → α9 → α10 → α11 → α12 → α13 → Option β) : bd13 (some (a1, a2, a3, a4, a5, a6, a7, a8, a9, a10, a11, a12, a13)) k = k a1 a2 a3 a4 a5 a6 a7 a8 a9 a10 a11 a12 a13 := rfl
theorem bd17_some {α1 α2 α3 α4 α5 α6 α7 α8 α9 α10 α11 α12 α13 α14 α15 α16 α17 β : Type} (a1 : α1) (a2 : α2) (a3 : α3) (a4 : α4) (a5 : α5) (a6 : α6) (a7 : α7) (a8 : α8) (a9 : α9) (a10 : α10) (a11 : α11) (a12 : α12) (a13 : α13) (a14 : α14) (a15 : α15) (a16 : α16) (a17 : α17) (k : α1 → α2 → α3 → α4 → α5 → α6 → α7 → α8 → α9 → α10 → α11 → α12 → α13 → α14 → α15 → α16 → α17 → Option β) : bd17 (some (a1, a2, a3, a4, a5, a6, a7, a8, a9, a10, a11, a12, a13, a14, a15, a16, a17)) k = k a1 a2 a3 a4 a5 a6 a7 a8 a9 a10 a11 a12 a13 a14 a15 a16 a17 := rfl
theorem i32_0s (x : Int32) : 0 - x = -x := by
  obtain ⟨z, rfl⟩ : ∃ z : Int, x = Int32.ofInt z := ⟨x.toInt, (fb_asI x).symm⟩
  rw [show (0 : Int32) = Int32.ofInt 0 from rfl, ← Int32.ofInt_sub, Int.zero_sub, Int32.ofInt_neg]
theorem opc_vector (v w : Int32) {g h : Nat → Int64} (hd : DR g h) (xl x1 x2 x3 x4 x5 x6 x7 x8 x9 x10 : Int32) (le : Nat → Int32) (y s z1 z2 z3 z4 z5 z6 z7 z8 z9 : Int32) (fl go ml lx ly : Nat → Int32) : ∃ r xl' x1' x2' x3' x4' x5' x6' x7' x8' x9' x10' le' y' s' z1' z2' z3' z4' z5' z6' z7' z8' z9' fl' go' ml' lx' ly', cf_vector v w g xl x1 x2 x3 x4 x5 x6 x7 x8 x9 x10 le = some (r, xl', x1', x2', x3', x4', x5', x6', x7', x8', x9', x10', le') ∧ mo_vector v w y s z1 z2 z3 z4 z5 z6 z7 z8 z9 h fl go ml lx ly = some (r, y', s', z1', z2', z3', z4', z5', z6', z7', z8', z9', fl', go', ml', lx', ly') := by
  cases hv : inr v 0 7 with
  | false =>
    simp only [cf_vector, mo_vector, cf_isDrawer_eq, mo_isDrawer_eq, hv, bd1_some, bf0, if_true]
    exact ⟨-1, _, _, _, _, _, _, _, _, _, _, _, _, _, _, _, _, _, _, _, _, _, _, _, _, _, _, _, _, rfl, rfl⟩
  | true =>
    cases hw : inr w 0 4 with
    | false =>
      simp only [cf_vector, mo_vector, cf_isDrawer_eq, mo_isDrawer_eq, cf_within_eq, mo_in_eq, hv, hw, bd1_some, bf0, bt0, if_true, if_false]
      exact ⟨-1, _, _, _, _, _, _, _, _, _, _, _, _, _, _, _, _, _, _, _, _, _, _, _, _, _, _, _, _, rfl, rfl⟩
    | true =>
      obtain ⟨j, hj, rfl⟩ := inr_dr hv
      obtain ⟨t, ht, rfl⟩ := inr_nI (n := 4) (by omega) hw
      obtain ⟨r, xl', x1', x2', x3', x4', x5', x6', p, q, u, w, le', y', s', z1', z2', z3', z4', z5', p2, q2, u2, w2, fl', go', ml', lx', ly', e1, e2, e3⟩ := prep_eq hd hj xl x1 x2 x3 x4 x5 x6 x7 x8 x9 x10 le y s z1 z2 z3 z4 z5 z6 z7 z8 z9 fl go ml lx ly
      simp only [cf_vector, mo_vector, cf_isDrawer_eq, mo_isDrawer_eq, cf_within_eq, mo_in_eq, hv, hw, bd1_some, bt0, if_false]
      rw [e1, bd13_some, e2, bd17_some]
      rcases e3 with ⟨rfl, _, _, _, _, _, _, _, _, _, _, _, rfl, rfl, rfl, rfl⟩ | ⟨n1, n2⟩
      · rw [if_pos rfl, if_pos (show (0 : Int32) ≤ 0 by decide)]
        rcases (show t = 0 ∨ t = 1 ∨ t = 2 ∨ t = 3 ∨ t = 4 by omega) with rfl | rfl | rfl | rfl | rfl
        · rw [ol_move, if_pos (show nI 0 = 0 by decide), if_pos (show nI 0 = 0 by decide), bd1_some]
          exact ⟨_, _, _, _, _, _, _, _, _, _, _, _, _, _, _, _, _, _, _, _, _, _, _, _, _, _, _, _, _, rfl, rfl⟩
        · rw [ol_move, if_neg (show ¬ nI 1 = 0 by decide), if_neg (show ¬ nI 1 = 0 by decide), if_pos (show nI 1 = 1 by decide), if_pos (show nI 1 = 1 by decide), bd1_some]
          exact ⟨_, _, _, _, _, _, _, _, _, _, _, _, _, _, _, _, _, _, _, _, _, _, _, _, _, _, _, _, _, rfl, rfl⟩
        · rw [ol_move, if_neg (show ¬ nI 2 = 0 by decide), if_neg (show ¬ nI 2 = 0 by decide), if_neg (show ¬ nI 2 = 1 by decide), if_neg (show ¬ nI 2 = 1 by decide), if_pos (show nI 2 = 2 by decide), if_pos (show nI 2 = 2 by decide), bd1_some]
          exact ⟨_, _, _, _, _, _, _, _, _, _, _, _, _, _, _, _, _, _, _, _, _, _, _, _, _, _, _, _, _, rfl, rfl⟩
        · rw [ol_move, if_neg (show ¬ nI 3 = 0 by decide), if_neg (show ¬ nI 3 = 0 by decide), if_neg (show ¬ nI 3 = 1 by decide), if_neg (show ¬ nI 3 = 1 by decide), if_neg (show ¬ nI 3 = 2 by decide), if_neg (show ¬ nI 3 = 2 by decide), if_pos (show nI 3 = 3 by decide), if_pos (show nI 3 = 3 by decide), bd1_some]
          exact ⟨_, _, _, _, _, _, _, _, _, _, _, _, _, _, _, _, _, _, _, _, _, _, _, _, _, _, _, _, _, rfl, rfl⟩
        · rw [ol_move, if_neg (show ¬ nI 4 = 0 by decide), if_neg (show ¬ nI 4 = 0 by decide), if_neg (show ¬ nI 4 = 1 by decide), if_neg (show ¬ nI 4 = 1 by decide), if_neg (show ¬ nI 4 = 2 by decide), if_neg (show ¬ nI 4 = 2 by decide), if_neg (show ¬ nI 4 = 3 by decide), if_neg (show ¬ nI 4 = 3 by decide), ol_crossed, bd1_some, bd1_some, mo_area, bd1_some, bd1_some, bd1_some, abI]
          by_cases c : 0 ≤ p2 * w2 - q2 * u2
          · rw [if_pos c, if_pos c]
            exact ⟨_, _, _, _, _, _, _, _, _, _, _, _, _, _, _, _, _, _, _, _, _, _, _, _, _, _, _, _, _, rfl, rfl⟩
          · rw [if_neg c, if_neg c, i32_0s]
            exact ⟨_, _, _, _, _, _, _, _, _, _, _, _, _, _, _, _, _, _, _, _, _, _, _, _, _, _, _, _, _, rfl, rfl⟩
      · rw [if_neg n1, if_neg n2]
        exact ⟨_, _, _, _, _, _, _, _, _, _, _, _, _, _, _, _, _, _, _, _, _, _, _, _, _, _, _, _, _, rfl, rfl⟩
def oA (x y u w : Int32) (k : Nat) : Int32 := (x - nI (k % 8)) * w - (y - nI (k / 8)) * u
def oB (x y p q : Int32) (k : Nat) : Int32 := p * (y - nI (k / 8)) - q * (x - nI (k % 8))
def oH (x y p q u w : Int32) (k : Nat) : Prop := remI (oA x y u w k) (p * w - q * u) = 0 ∧ remI (oB x y p q k) (p * w - q * u) = 0
def oR (x y p q u w : Int32) (k t : Nat) : Int32 := if t = 0 then 100 + oA x y u w k / (p * w - q * u) else if t = 1 then 100 + oB x y p q k / (p * w - q * u) else nI k
theorem a7_64 : ∀ k : Fin 64, nI k.val &&& 7 = nI (k.val % 8) ∧ ir (nI k.val) 3 = nI (k.val / 8) ∧ remI (nI k.val) 8 = nI (k.val % 8) ∧ nI k.val / 8 = nI (k.val / 8) := by decide +kernel
theorem copyAt_eq {f : Int64} {x y p q u w : Int32} (har : ¬ p * w - q * u = 0) {k0 : Nat} (hb : bt f k0 = true) (hh : oH x y p q u w k0) (hf : ∀ k, k < k0 → bt f k = true → ¬ oH x y p q u w k) {t : Nat} (ht : t ≤ 2) : ol_copyAt f x y (nI t) p q u w = some (oR x y p q u w k0 t) := by
  have c64 := cnt_le f
  obtain ⟨i1, i2⟩ := ith_ct hb
  rw [ol_copyAt, ol_crossed, bd1_some, if_neg har, jl_bitCount_eq, bd1_some]
  refine crs2 (B := ol_copyAt_B41 x y (nI t) (p * w - q * u) (nI (cnt f)) p q u w) (itr f) (fun i => nI i) (fb_ct (bt f) k0) (fun i hi K => ?_) (fun K => ?_) FU (FU_lt (by omega))
  · have il : i < cnt f := by omega
    have lw := ith_low il
    have a7 := a7_64 ⟨ith f i, bt_lt (ith_bt il)⟩
    have a1 : nI (ith f i) &&& 7 = nI (ith f i % 8) := a7.1
    have a2 : ir (nI (ith f i)) 3 = nI (ith f i / 8) := a7.2.1
    have lt : ith f i < k0 := by rw [← i1]; exact ith_mono hi i2
    have nh := hf _ lt (ith_bt il)
    rw [ol_copyAt_B41, if_neg (nI_ge il (by omega)), gr_lowest_eq lw, bd1_some, nm_eq, a1, a2, nm_eq, nm_eq, ol_crossed, bd1_some, ol_crossed, bd1_some, dzI_n har, ol_copyAt_J162, nm_eq, o1, dzI_n har]
    by_cases c1 : remI (oA x y u w (ith f i)) (p * w - q * u) = 0
    · have c2 : ¬ remI (oB x y p q (ith f i)) (p * w - q * u) = 0 := fun e => nh ⟨c1, e⟩
      rw [if_pos (show remI ((x - nI (ith f i % 8)) * w - (y - nI (ith f i / 8)) * u) (p * w - q * u) = 0 from c1), if_neg (show ¬ remI (p * (y - nI (ith f i / 8)) - q * (x - nI (ith f i % 8))) (p * w - q * u) = 0 from c2)]
      rfl
    · rw [if_neg (show ¬ remI ((x - nI (ith f i % 8)) * w - (y - nI (ith f i / 8)) * u) (p * w - q * u) = 0 from c1)]
      rfl
  · have lw := ith_low i2
    rw [i1] at lw
    have a7 := a7_64 ⟨k0, bt_lt hb⟩
    have a1 : nI k0 &&& 7 = nI (k0 % 8) := a7.1
    have a2 : ir (nI k0) 3 = nI (k0 / 8) := a7.2.1
    rw [ol_copyAt_B41, if_neg (nI_ge i2 (by omega)), gr_lowest_eq lw, bd1_some, nm_eq, a1, a2, nm_eq, nm_eq, ol_crossed, bd1_some, ol_crossed, bd1_some, dzI_n har, if_pos (show remI ((x - nI (k0 % 8)) * w - (y - nI (k0 / 8)) * u) (p * w - q * u) = 0 from hh.1), dzI_n har, if_pos (show remI (p * (y - nI (k0 / 8)) - q * (x - nI (k0 % 8))) (p * w - q * u) = 0 from hh.2), dzI_n har, dzI_n har]
    rcases (show t = 0 ∨ t = 1 ∨ t = 2 by omega) with rfl | rfl | rfl
    · rw [if_neg (show ¬ nI 0 = 2 by decide), if_pos (show nI 0 = 0 by decide)]; rfl
    · rw [if_neg (show ¬ nI 1 = 2 by decide), if_neg (show ¬ nI 1 = 0 by decide)]; rfl
    · rw [if_pos (show nI 2 = 2 by decide)]; rfl
theorem rem_mul {m A : Int} (hA : A ≠ 0) (h1 : -1000000 ≤ A ∧ A ≤ 1000000) (h2 : -1000000 ≤ m * A ∧ m * A ≤ 1000000) : remI (Int32.ofInt (m * A)) (Int32.ofInt A) = 0 := by
  have d : Int32.ofInt (m * A) / Int32.ofInt A = Int32.ofInt m := by
    apply Int32.toInt_inj.mp
    rw [Int32.toInt_div, fb_ofI (by omega) (by omega), fb_ofI (by omega) (by omega), Int.mul_tdiv_cancel _ hA, Int32.toInt_ofInt]
  unfold remI
  rw [d, ← Int32.ofInt_mul, ← Int32.ofInt_sub, Int.sub_self]
  rfl
theorem mul_bd {a b : Int} {A B : Nat} (ha : a.natAbs ≤ A) (hb : b.natAbs ≤ B) : (a * b).natAbs ≤ A * B := by
  rw [Int.natAbs_mul]; exact Nat.mul_le_mul ha hb
theorem hit_ex {f : Int64} {p q u w : Int} (hall : ∀ x y, onC f p q u w x y) (hp : -7 ≤ p ∧ p ≤ 7) (hq : -7 ≤ q ∧ q ≤ 7) (hu : -7 ≤ u ∧ u ≤ 7) (hw : -7 ≤ w ∧ w ≤ 7) {x y : Int} (hx : -20 ≤ x ∧ x ≤ 20) (hy : -20 ≤ y ∧ y ≤ 20) : (¬ Int32.ofInt p * Int32.ofInt w - Int32.ofInt q * Int32.ofInt u = 0) ∧ ∃ k, k < 64 ∧ bt f k = true ∧ oH (Int32.ofInt x) (Int32.ofInt y) (Int32.ofInt p) (Int32.ofInt q) (Int32.ofInt u) (Int32.ofInt w) k := by
  have ne := area_ne hall
  have b1 := mul_bd (a := p) (b := w) (A := 7) (B := 7) (by omega) (by omega)
  have b2 := mul_bd (a := q) (b := u) (A := 7) (B := 7) (by omega) (by omega)
  have ea : Int32.ofInt p * Int32.ofInt w - Int32.ofInt q * Int32.ofInt u = Int32.ofInt (p * w - q * u) := by rw [← Int32.ofInt_mul, ← Int32.ofInt_mul, ← Int32.ofInt_sub]
  refine ⟨?_, ?_⟩
  · rw [ea]
    intro e
    exact ne ((gi_eq (by omega) (by omega)).mp (show Int32.ofInt (p * w - q * u) = Int32.ofInt 0 from e))
  · obtain ⟨k, k1, k2, m, n, e1, e2⟩ := own_ex hall x y
    have c1 := mul_bd (a := x - ((k % 8 : Nat) : Int)) (b := w) (A := 27) (B := 7) (by omega) (by omega)
    have c2 := mul_bd (a := y - ((k / 8 : Nat) : Int)) (b := u) (A := 27) (B := 7) (by omega) (by omega)
    have c3 := mul_bd (a := p) (b := y - ((k / 8 : Nat) : Int)) (A := 7) (B := 27) (by omega) (by omega)
    have c4 := mul_bd (a := q) (b := x - ((k % 8 : Nat) : Int)) (A := 7) (B := 27) (by omega) (by omega)
    have d1 : oA (Int32.ofInt x) (Int32.ofInt y) (Int32.ofInt u) (Int32.ofInt w) k = Int32.ofInt (m * (p * w - q * u)) := by
      rw [← e1]
      unfold oA
      rw [nI_iI, nI_iI, ← Int32.ofInt_sub, ← Int32.ofInt_sub, ← Int32.ofInt_mul, ← Int32.ofInt_mul, ← Int32.ofInt_sub]
    have d2 : oB (Int32.ofInt x) (Int32.ofInt y) (Int32.ofInt p) (Int32.ofInt q) k = Int32.ofInt (n * (p * w - q * u)) := by
      rw [← e2]
      unfold oB
      rw [nI_iI, nI_iI, ← Int32.ofInt_sub, ← Int32.ofInt_sub, ← Int32.ofInt_mul, ← Int32.ofInt_mul, ← Int32.ofInt_sub]
    refine ⟨k, k1, k2, ?_, ?_⟩
    · rw [d1, ea]
      exact rem_mul ne (by omega) (by omega)
    · rw [d2, ea]
      exact rem_mul ne (by omega) (by omega)
theorem inr_20 {v : Int32} (h : inr v (-20) 20 = true) : ∃ z : Int, -20 ≤ z ∧ z ≤ 20 ∧ v = Int32.ofInt z := by
  unfold inr at h
  rw [Bool.and_eq_true, decide_eq_true_eq, decide_eq_true_eq, Int32.le_iff_toInt_le, Int32.le_iff_toInt_le] at h
  rw [show (-20 : Int32).toInt = -20 from rfl, show (20 : Int32).toInt = 20 from rfl] at h
  exact ⟨v.toInt, h.1, h.2, (fb_asI v).symm⟩
theorem owner_go {h : Nat → Int64} {j : Nat} (hj : j < 8) {x y p q u w : Int32} (har : ¬ p * w - q * u = 0) {k0 : Nat} (hb : bt (h j) k0 = true) (hh : oH x y p q u w k0) (hf : ∀ k, k < k0 → bt (h j) k = true → ¬ oH x y p q u w k) {t : Nat} (ht : t ≤ 2) (a1 a2 a3 a4 a5 a6 a7 : Int32) (fl go ml lx ly : Nat → Int32) : fl1 (mo_owner_B65 (nI j) x y (nI t) (p * w - q * u) a1 a2 a3 a4 a5 a6 a7 p q u w h fl go ml lx ly) FU 0 = some (oR x y p q u w k0 t, a1, a2, a3, a4, a5, a6, a7, p, q, u, w, fl, go, ml, lx, ly) := by
  have k64 := bt_lt hb
  refine crs1 (B := mo_owner_B65 (nI j) x y (nI t) (p * w - q * u) a1 a2 a3 a4 a5 a6 a7 p q u w h fl go ml lx ly) (fun i => nI i) k0 (fun k hk K => ?_) (fun K => ?_) FU (FU_lt (by omega))
  · have b8 := a7_64 ⟨k, by omega⟩
    have b1 : remI (nI k) 8 = nI (k % 8) := b8.2.2.1
    have b2 : nI k / 8 = nI (k / 8) := b8.2.2.2
    rw [mo_owner_B65, if_neg (show ¬ (64 : Int32) ≤ nI k from nI_ge (a := k) (b := 64) (by omega) (by omega)), ck_n hj (by omega), cl_n (show j < 2 ^ 31 by omega), mo_has_eq _ (show k < 64 by omega), bd1_some, mo_owner_J196, nm_eq, o1, dzI_n (by decide), b1, nm_eq, dzI_n (by decide), b2, nm_eq, nm_eq, nm_eq, dzI_n har, dzI_n har]
    cases z : bt (h j) k with
    | false => rw [if_pos boI_f]
    | true =>
      rw [if_neg (by decide)]
      have nh := hf k hk z
      by_cases c1 : remI (oA x y u w k) (p * w - q * u) = 0
      · have c2 : ¬ remI (oB x y p q k) (p * w - q * u) = 0 := fun e => nh ⟨c1, e⟩
        rw [if_pos (show remI ((x - nI (k % 8)) * w - (y - nI (k / 8)) * u) (p * w - q * u) = 0 from c1), if_neg (show ¬ remI (p * (y - nI (k / 8)) - q * (x - nI (k % 8))) (p * w - q * u) = 0 from c2)]
      · rw [if_neg (show ¬ remI ((x - nI (k % 8)) * w - (y - nI (k / 8)) * u) (p * w - q * u) = 0 from c1)]
  · have b8 := a7_64 ⟨k0, k64⟩
    have b1 : remI (nI k0) 8 = nI (k0 % 8) := b8.2.2.1
    have b2 : nI k0 / 8 = nI (k0 / 8) := b8.2.2.2
    rw [mo_owner_B65, if_neg (show ¬ (64 : Int32) ≤ nI k0 from nI_ge (a := k0) (b := 64) (by omega) (by omega)), ck_n hj (by omega), cl_n (show j < 2 ^ 31 by omega), mo_has_eq _ k64, bd1_some, hb, if_neg (by decide), dzI_n (by decide), b1, nm_eq, dzI_n (by decide), b2, nm_eq, nm_eq, nm_eq, dzI_n har, if_pos (show remI ((x - nI (k0 % 8)) * w - (y - nI (k0 / 8)) * u) (p * w - q * u) = 0 from hh.1), dzI_n har, if_pos (show remI (p * (y - nI (k0 / 8)) - q * (x - nI (k0 % 8))) (p * w - q * u) = 0 from hh.2), dzI_n har, dzI_n har]
    rcases (show t = 0 ∨ t = 1 ∨ t = 2 by omega) with rfl | rfl | rfl
    · rw [if_pos (show nI 0 = 0 by decide)]; rfl
    · rw [if_neg (show ¬ nI 1 = 0 by decide), if_pos (show nI 1 = 1 by decide)]; rfl
    · rw [if_neg (show ¬ nI 2 = 0 by decide), if_neg (show ¬ nI 2 = 1 by decide)]; rfl
theorem opc_owner (v x y w : Int32) {g h : Nat → Int64} (hd : DR g h) (xl x1 x2 x3 x4 x5 x6 x7 x8 x9 x10 : Int32) (le : Nat → Int32) (y0 s z1 z2 z3 z4 z5 z6 z7 z8 z9 : Int32) (fl go ml lx ly : Nat → Int32) : ∃ r xl' x1' x2' x3' x4' x5' x6' x7' x8' x9' x10' le' y' s' z1' z2' z3' z4' z5' z6' z7' z8' z9' fl' go' ml' lx' ly', cf_owner v x y w g xl x1 x2 x3 x4 x5 x6 x7 x8 x9 x10 le = some (r, xl', x1', x2', x3', x4', x5', x6', x7', x8', x9', x10', le') ∧ mo_owner v x y w y0 s z1 z2 z3 z4 z5 z6 z7 z8 z9 h fl go ml lx ly = some (r, y', s', z1', z2', z3', z4', z5', z6', z7', z8', z9', fl', go', ml', lx', ly') := by
  cases hv : inr v 0 7 with
  | false =>
    simp only [cf_owner, mo_owner, cf_isDrawer_eq, mo_isDrawer_eq, hv, bd1_some, bf0, if_true]
    exact ⟨-1, _, _, _, _, _, _, _, _, _, _, _, _, _, _, _, _, _, _, _, _, _, _, _, _, _, _, _, _, rfl, rfl⟩
  | true =>
    cases hx : inr x (-20) 20 with
    | false =>
      simp only [cf_owner, mo_owner, cf_isDrawer_eq, mo_isDrawer_eq, cf_within_eq, mo_in_eq, hv, hx, bd1_some, bf0, bt0, if_true, if_false]
      exact ⟨-1, _, _, _, _, _, _, _, _, _, _, _, _, _, _, _, _, _, _, _, _, _, _, _, _, _, _, _, _, rfl, rfl⟩
    | true =>
      cases hy : inr y (-20) 20 with
      | false =>
        simp only [cf_owner, mo_owner, cf_isDrawer_eq, mo_isDrawer_eq, cf_within_eq, mo_in_eq, hv, hx, hy, bd1_some, bf0, bt0, if_true, if_false]
        exact ⟨-1, _, _, _, _, _, _, _, _, _, _, _, _, _, _, _, _, _, _, _, _, _, _, _, _, _, _, _, _, rfl, rfl⟩
      | true =>
        cases hw : inr w 0 2 with
        | false =>
          simp only [cf_owner, mo_owner, cf_isDrawer_eq, mo_isDrawer_eq, cf_within_eq, mo_in_eq, hv, hx, hy, hw, bd1_some, bf0, bt0, if_true, if_false]
          exact ⟨-1, _, _, _, _, _, _, _, _, _, _, _, _, _, _, _, _, _, _, _, _, _, _, _, _, _, _, _, _, rfl, rfl⟩
        | true =>
          obtain ⟨j, hj, rfl⟩ := inr_dr hv
          obtain ⟨t, ht, rfl⟩ := inr_2 hw
          obtain ⟨X, X1, X2, rfl⟩ := inr_20 hx
          obtain ⟨Y, Y1, Y2, rfl⟩ := inr_20 hy
          have ej := (hd j hj).1
          obtain ⟨r, xl', x1', x2', x3', x4', x5', x6', p, q, u, w, le', y', s', z1', z2', z3', z4', z5', p2, q2, u2, w2, fl', go', ml', lx', ly', e1, e2, e3⟩ := prep_eq hd hj xl x1 x2 x3 x4 x5 x6 x7 x8 x9 x10 le y0 s z1 z2 z3 z4 z5 z6 z7 z8 z9 fl go ml lx ly
          simp only [cf_owner, mo_owner, cf_isDrawer_eq, mo_isDrawer_eq, cf_within_eq, mo_in_eq, hv, hx, hy, hw, bd1_some, bt0, if_false]
          rw [e1, bd13_some, e2, bd17_some]
          rcases e3 with ⟨rfl, hf, x0, H, S, a, b, k1, k2, k3, k4, ⟨rfl, rfl, rfl, rfl⟩, rfl, rfl, rfl, rfl⟩ | ⟨n1, n2⟩
          · have m1 := mv_b k1 S (S + (a + b))
            have m2 := mv_b k1 (S + a) (S + H)
            obtain ⟨har, k, kk1, kk2, kk3⟩ := hit_ex (onC_all k1 k2 k4) ⟨m1.1, m1.2.1⟩ ⟨m1.2.2.1, m1.2.2.2⟩ ⟨m2.1, m2.2.1⟩ ⟨m2.2.2.1, m2.2.2.2⟩ ⟨X1, X2⟩ ⟨Y1, Y2⟩
            generalize Int32.ofInt (mvX (h j) x0 S (S + (a + b))) = p at *
            generalize Int32.ofInt (mvY (h j) x0 S (S + (a + b))) = q at *
            generalize Int32.ofInt (mvX (h j) x0 (S + a) (S + H)) = u at *
            generalize Int32.ofInt (mvY (h j) x0 (S + a) (S + H)) = w at *
            have dp : DecidablePred (fun k => bt (h j) k = true ∧ oH (Int32.ofInt X) (Int32.ofInt Y) p q u w k) := fun t => Classical.propDecidable _
            obtain ⟨k0, q1, q2, q3⟩ := @fb_first (fun k => bt (h j) k = true ∧ oH (Int32.ofInt X) (Int32.ofInt Y) p q u w k) dp 64 ⟨k, kk1, kk2, kk3⟩
            have q3' : ∀ k, k < k0 → bt (h j) k = true → ¬ oH (Int32.ofInt X) (Int32.ofInt Y) p q u w k := fun k hk hb ho => q3 k hk ⟨hb, ho⟩
            rw [if_pos rfl, if_pos (show (0 : Int32) ≤ 0 by decide), ck_n hj (by omega), cl_n (show j < 2 ^ 31 by omega), ej, copyAt_eq har q2.1 q2.2 q3' ht, bd1_some, mo_area, bd1_some, owner_go hj har q2.1 q2.2 q3' ht]
            exact ⟨_, _, _, _, _, _, _, _, _, _, _, _, _, _, _, _, _, _, _, _, _, _, _, _, _, _, _, _, _, rfl, rfl⟩
          · rw [if_neg n1, if_neg n2]
            exact ⟨_, _, _, _, _, _, _, _, _, _, _, _, _, _, _, _, _, _, _, _, _, _, _, _, _, _, _, _, _, rfl, rfl⟩
