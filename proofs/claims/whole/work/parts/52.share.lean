/-! two figures, the second moved -/
theorem gi_lt {a b : Int} (ha : -2147483648 ≤ a ∧ a < 2147483648) (hb : -2147483648 ≤ b ∧ b < 2147483648) : Int32.ofInt a < Int32.ofInt b ↔ a < b := by
  rw [Int32.lt_iff_toInt_lt, fb_ofI ha.1 ha.2, fb_ofI hb.1 hb.2]
theorem gi_le {a b : Int} (ha : -2147483648 ≤ a ∧ a < 2147483648) (hb : -2147483648 ≤ b ∧ b < 2147483648) : Int32.ofInt a ≤ Int32.ofInt b ↔ a ≤ b := by
  rw [Int32.le_iff_toInt_le, fb_ofI ha.1 ha.2, fb_ofI hb.1 hb.2]
theorem gi_eq {a b : Int} (ha : -2147483648 ≤ a ∧ a < 2147483648) (hb : -2147483648 ≤ b ∧ b < 2147483648) : Int32.ofInt a = Int32.ofInt b ↔ a = b := by
  rw [← Int32.toInt_inj, fb_ofI ha.1 ha.2, fb_ofI hb.1 hb.2]
/-- cells of g that lie on f, g moved by (u, v) -/
def ovp (f g : Int64) (u v : Int) (k : Nat) : Bool := bt g k && hB f (((k % 8 : Nat) : Int) + u) (((k / 8 : Nat) : Int) + v)
def ov (f g : Int64) (u v : Int) : Nat := fb_ct (ovp f g u v) 64
theorem ov_le (f g : Int64) (u v : Int) : ov f g u v ≤ 64 := fb_ct_le _ _
theorem me_overlap_eq {f g : Int64} {u v : Int} (hu : -8 ≤ u ∧ u ≤ 8) (hv : -8 ≤ v ∧ v ≤ 8) : me_overlap f g (Int32.ofInt u) (Int32.ofInt v) = some (nI (ov f g u v)) := by
  rw [me_overlap]
  by_cases q : (-7 ≤ u ∧ u ≤ 7) ∧ (-7 ≤ v ∧ v ≤ 7)
  · obtain ⟨R, h1, h2⟩ := gr_moved_eq g q.1 q.2
    obtain ⟨S, h3, h4⟩ := gr_moved_eq f (u := -u) (v := -v) (by omega) (by omega)
    rw [h1, bd1_some, jl_bitCount_eq, bd1_some]
    have e1 : cnt (f &&& R) = cnt (g &&& S) := by
      have a : cnt (f &&& R) ≤ cnt (g &&& S) := cnt_img (fun j => (8 * (((j / 8 : Nat) : Int) + v) + (((j % 8 : Nat) : Int) + u)).toNat) (fun i hi => by
        have i64 := bt_lt hi
        rw [bt_and, Bool.and_eq_true, h2 i i64] at hi
        obtain ⟨x, y, hx, hy, ex, ey, hb⟩ := hB_t.mp hi.2
        refine ⟨8 * y + x, ?_, ?_⟩
        · rw [bt_and, hb, h4 _ (by omega), show (8 * y + x) % 8 = x by omega, show (8 * y + x) / 8 = y by omega, show (x : Int) - -u = ((i % 8 : Nat) : Int) by omega, show (y : Int) - -v = ((i / 8 : Nat) : Int) by omega, hB_b f i64, hi.1]; rfl
        · rw [show (8 * y + x) % 8 = x by omega, show (8 * y + x) / 8 = y by omega]; omega)
      have b : cnt (g &&& S) ≤ cnt (f &&& R) := cnt_img (fun j => (8 * (((j / 8 : Nat) : Int) - v) + (((j % 8 : Nat) : Int) - u)).toNat) (fun i hi => by
        have i64 := bt_lt hi
        rw [bt_and, Bool.and_eq_true, h4 i i64] at hi
        obtain ⟨x, y, hx, hy, ex, ey, hb⟩ := hB_t.mp hi.2
        refine ⟨8 * y + x, ?_, ?_⟩
        · rw [bt_and, hb, h2 _ (by omega), show (8 * y + x) % 8 = x by omega, show (8 * y + x) / 8 = y by omega, show (x : Int) - u = ((i % 8 : Nat) : Int) by omega, show (y : Int) - v = ((i / 8 : Nat) : Int) by omega, hB_b g i64, hi.1]; rfl
        · rw [show (8 * y + x) % 8 = x by omega, show (8 * y + x) / 8 = y by omega]; omega)
      omega
    have e2 : cnt (g &&& S) = ov f g u v := fb_ct_cong (fun k hk => by
      rw [bt_and, h4 k hk]; unfold ovp
      rw [show ((k % 8 : Nat) : Int) - -u = ((k % 8 : Nat) : Int) + u by omega, show ((k / 8 : Nat) : Int) - -v = ((k / 8 : Nat) : Int) + v by omega])
    rw [e1, e2]
  · have z : gr_moved g (Int32.ofInt u) (Int32.ofInt v) = some 0 := by
      have i1 := inr_i (z := u) (lo := -7) (hi := 7) (by omega) (by omega) (by omega)
      have i2 := inr_i (z := v) (lo := -7) (hi := 7) (by omega) (by omega) (by omega)
      rw [gr_moved, cf_within_eq, bd1_some, cf_within_eq, bd1_some]
      by_cases q1 : -7 ≤ u ∧ u ≤ 7
      · rw [decide_eq_true q1] at i1
        rw [decide_eq_false (fun q2 => q ⟨q1, q2⟩)] at i2
        rw [show inr (Int32.ofInt u) (-7) 7 = true from i1, show inr (Int32.ofInt v) (-7) 7 = false from i2, if_neg (by decide), if_pos (by decide)]
      · rw [decide_eq_false q1] at i1
        rw [show inr (Int32.ofInt u) (-7) 7 = false from i1, if_pos (by decide)]
    have e0 : ov f g u v = 0 := fb_ct_zero.mpr (fun k hk => by
      unfold ovp
      rw [hB_o f (by omega), Bool.and_false])
    rw [z, bd1_some, jl_bitCount_eq, bd1_some, e0]
    have : f &&& (0 : Int64) = 0 := bt_ext (fun i hi => by rw [bt_and, bt_zero, Bool.and_false])
    rw [this, cnt_zero]
def sh4 (f g : Int64) (u v : Int) (n : Nat) : Nat := fb_ct (ovp f g (u + 1) v) n + fb_ct (ovp f g (u - 1) v) n + fb_ct (ovp f g u (v + 1)) n + fb_ct (ovp f g u (v - 1)) n
def shd (f g : Int64) (u v : Int) : Nat := sh4 f g u v 64
theorem shd_eq (f g : Int64) (u v : Int) : shd f g u v = ov f g (u + 1) v + ov f g (u - 1) v + ov f g u (v + 1) + ov f g u (v - 1) := rfl
theorem me_sharedSides_eq {f g : Int64} {u v : Int} (hu : -7 ≤ u ∧ u ≤ 7) (hv : -7 ≤ v ∧ v ≤ 7) : me_sharedSides f g (Int32.ofInt u) (Int32.ofInt v) = some (nI (shd f g u v)) := by
  rw [me_sharedSides, iO, iO, iP, iP, me_overlap_eq (by omega) (by omega), bd1_some, me_overlap_eq (by omega) (by omega), bd1_some, me_overlap_eq (by omega) (by omega), bd1_some, me_overlap_eq (by omega) (by omega), bd1_some, nI_add, nI_add, nI_add, shd_eq]
  congr 2; omega
theorem add_b (a : Nat) (b : Bool) : nI a + boI b = nI (a + (if b then 1 else 0)) := by
  cases b
  · show nI a + 0 = nI (a + 0)
    rw [show (0 : Int32) = nI 0 from nI_0.symm, nI_add]
  · show nI a + 1 = nI (a + 1)
    exact nI_1 a
theorem if_bo {β : Type} (b : Bool) (F : Int32 → β) : (if boI b = 0 then F 0 else F 1) = F (boI b) := by
  cases b
  · rw [if_pos (by decide)]; rfl
  · rw [if_neg (by decide)]; rfl
theorem mo_shared_step {f g : Int64} {u v : Int} (hu : -7 ≤ u ∧ u ≤ 7) (hv : -7 ≤ v ∧ v ≤ 7) {i : Nat} (hi : i < 64) (h : ovp f g u v i = false) (k : Int32 → Int32 → Option Int32) : mo_shared_B6 f g (Int32.ofInt u) (Int32.ofInt v) k (nI (sh4 f g u v i)) (nI i) = k (nI (sh4 f g u v (i + 1))) (nI (i + 1)) := by
  have es : sh4 f g u v (i + 1) = sh4 f g u v i + (if ovp f g (u + 1) v i then 1 else 0) + (if ovp f g (u - 1) v i then 1 else 0) + (if ovp f g u (v + 1) i then 1 else 0) + (if ovp f g u (v - 1) i then 1 else 0) := by
    unfold sh4
    rw [fb_ct_succ, fb_ct_succ, fb_ct_succ, fb_ct_succ]
    omega
  have ex : remI (nI i) 8 + Int32.ofInt u = Int32.ofInt (((i % 8 : Nat) : Int) + u) := by
    rw [show (8 : Int32) = nI 8 from rfl, remI_n (by omega) (by omega) (by omega), nI_iI, ← Int32.ofInt_add]
  have ey : nI i / 8 + Int32.ofInt v = Int32.ofInt (((i / 8 : Nat) : Int) + v) := by
    rw [show (8 : Int32) = nI 8 from rfl, pk_div (by omega) (by omega) (by omega), nI_iI, ← Int32.ofInt_add]
  have r1 : ((i % 8 : Nat) : Int) + u + 1 = ((i % 8 : Nat) : Int) + (u + 1) := by omega
  have r2 : ((i % 8 : Nat) : Int) + u - 1 = ((i % 8 : Nat) : Int) + (u - 1) := by omega
  have r3 : ((i / 8 : Nat) : Int) + v + 1 = ((i / 8 : Nat) : Int) + (v + 1) := by omega
  have r4 : ((i / 8 : Nat) : Int) + v - 1 = ((i / 8 : Nat) : Int) + (v - 1) := by omega
  rw [mo_shared_B6, if_neg (show ¬ (64 : Int32) ≤ nI i from nI_ge (a := i) (b := 64) hi (by omega)), mo_has_eq g hi, bd1_some, mo_shared_J139, nm_eq, o1, es]
  unfold ovp at h ⊢
  cases hg : bt g i with
  | false => rw [if_pos (by decide)]; rfl
  | true =>
    rw [hg, Bool.true_and] at h
    rw [if_neg (by decide), dzI_n (by decide), nm_eq, dzI_n (by decide), nm_eq, ex, ey, mo_isCell_i f (by omega) (by omega), bd1_some, h, if_pos (by decide), iP, mo_isCell_i f (by omega) (by omega), bd1_some]
    rw [if_bo _ (fun t => mo_shared_J79 k f g (Int32.ofInt u) (Int32.ofInt v) (nI i) (Int32.ofInt (((i % 8 : Nat) : Int) + u)) (Int32.ofInt (((i / 8 : Nat) : Int) + v)) (nI (sh4 f g u v i)) t)]
    rw [mo_shared_J79, iO, mo_isCell_i f (by omega) (by omega), bd1_some]
    rw [if_bo _ (fun t => mo_shared_J98 k f g (Int32.ofInt u) (Int32.ofInt v) (nI i) (Int32.ofInt (((i % 8 : Nat) : Int) + u)) (Int32.ofInt (((i / 8 : Nat) : Int) + v)) (nI (sh4 f g u v i) + _) t)]
    rw [mo_shared_J98, iP, mo_isCell_i f (by omega) (by omega), bd1_some]
    rw [if_bo _ (fun t => mo_shared_J117 k f g (Int32.ofInt u) (Int32.ofInt v) (nI i) (Int32.ofInt (((i % 8 : Nat) : Int) + u)) (Int32.ofInt (((i / 8 : Nat) : Int) + v)) (nI (sh4 f g u v i) + _ + _) t)]
    rw [mo_shared_J117, iO, mo_isCell_i f (by omega) (by omega), bd1_some]
    rw [if_bo _ (fun t => mo_shared_J136 k f g (Int32.ofInt u) (Int32.ofInt v) (nI i) (nI (sh4 f g u v i) + _ + _ + _) t)]
    rw [mo_shared_J136, nm_eq, mo_shared_J139, nm_eq, o1, add_b, add_b, add_b, add_b, r1, r2, r3, r4]
    simp only [Bool.true_and]
theorem mo_shared_eq {f g : Int64} {u v : Int} (hu : -7 ≤ u ∧ u ≤ 7) (hv : -7 ≤ v ∧ v ≤ 7) : mo_shared f g (Int32.ofInt u) (Int32.ofInt v) = some (if ov f g u v = 0 then nI (shd f g u v) else -3) := by
  unfold mo_shared
  rw [show fl2 (mo_shared_B6 f g (Int32.ofInt u) (Int32.ofInt v)) FU 0 0 = fl2 (mo_shared_B6 f g (Int32.ofInt u) (Int32.ofInt v)) FU (nI (sh4 f g u v 0)) (nI 0) from rfl]
  by_cases q : ov f g u v = 0
  · have z := fb_ct_zero.mp q
    rw [if_pos q]
    refine crs2 (B := mo_shared_B6 f g (Int32.ofInt u) (Int32.ofInt v)) (fun i => nI (sh4 f g u v i)) nI 64 (fun i hi k => mo_shared_step hu hv hi (z i hi) k) (fun k => ?_) FU (FU_lt (by omega))
    rw [mo_shared_B6, if_pos (show (64 : Int32) ≤ nI 64 from by decide)]
    rfl
  · rw [if_neg q]
    obtain ⟨i, hi, hp, hf⟩ := fb_first (p := fun k => ovp f g u v k = true) (fb_ct_pos.mp (Nat.pos_of_ne_zero q))
    refine crs2 (B := mo_shared_B6 f g (Int32.ofInt u) (Int32.ofInt v)) (fun i => nI (sh4 f g u v i)) nI i (fun j hj k => mo_shared_step hu hv (by omega) (by cases hb : ovp f g u v j with | false => rfl | true => exact absurd hb (hf j hj)) k) (fun k => ?_) FU (FU_lt (by omega))
    have hp' : bt g i = true ∧ hB f (((i % 8 : Nat) : Int) + u) (((i / 8 : Nat) : Int) + v) = true := by
      unfold ovp at hp; rw [Bool.and_eq_true] at hp; exact hp
    have ex : remI (nI i) 8 + Int32.ofInt u = Int32.ofInt (((i % 8 : Nat) : Int) + u) := by
      rw [show (8 : Int32) = nI 8 from rfl, remI_n (by omega) (by omega) (by omega), nI_iI, ← Int32.ofInt_add]
    have ey : nI i / 8 + Int32.ofInt v = Int32.ofInt (((i / 8 : Nat) : Int) + v) := by
      rw [show (8 : Int32) = nI 8 from rfl, pk_div (by omega) (by omega) (by omega), nI_iI, ← Int32.ofInt_add]
    rw [mo_shared_B6, if_neg (show ¬ (64 : Int32) ≤ nI i from nI_ge (a := i) (b := 64) hi (by omega)), mo_has_eq g hi, bd1_some, hp'.1, if_neg (by decide), dzI_n (by decide), nm_eq, dzI_n (by decide), nm_eq, ex, ey, mo_isCell_i f (by omega) (by omega), bd1_some, hp'.2, if_neg (by decide)]
theorem nI_le0 {n : Nat} (h : n < 2 ^ 31) : nI n ≤ 0 ↔ n = 0 := by
  constructor
  · intro q
    rcases Nat.eq_zero_or_pos n with e | e
    · exact e
    · exact absurd q (nI_nle e h)
  · rintro rfl; decide
theorem opc_share (v w x y : Int32) {g h : Nat → Int64} (hd : DR g h) : ∃ r, cf_share v w x y g = some r ∧ mo_share v w x y h = some r := by
  cases hv : inr v 0 7 with
  | false =>
    simp only [cf_share, mo_share, cf_isDrawer_eq, mo_isDrawer_eq, hv, bd1_some, bf0, if_true]
    exact ⟨-1, rfl, rfl⟩
  | true =>
    cases hw : inr w 0 7 with
    | false =>
      simp only [cf_share, mo_share, cf_isDrawer_eq, mo_isDrawer_eq, hv, hw, bd1_some, bf0, bt0, if_true, if_false]
      exact ⟨-1, rfl, rfl⟩
    | true =>
      cases hx : inr x (-7) 7 with
      | false =>
        simp only [cf_share, mo_share, cf_isDrawer_eq, mo_isDrawer_eq, cf_isMove_eq, mo_in_eq, hv, hw, hx, Bool.false_and, bd1_some, bf0, bt0, if_true, if_false]
        exact ⟨-1, rfl, rfl⟩
      | true =>
        cases hy : inr y (-7) 7 with
        | false =>
          simp only [cf_share, mo_share, cf_isDrawer_eq, mo_isDrawer_eq, cf_isMove_eq, mo_in_eq, hv, hw, hx, hy, Bool.and_false, bd1_some, bf0, bt0, if_true, if_false]
          exact ⟨-1, rfl, rfl⟩
        | true =>
          obtain ⟨j, hj, rfl⟩ := inr_dr hv
          obtain ⟨i, hi, rfl⟩ := inr_dr hw
          obtain ⟨u, u1, u2, rfl⟩ := inr_77 hx
          obtain ⟨t, t1, t2, rfl⟩ := inr_77 hy
          have e := (hd j hj).1
          have e2 := (hd i hi).1
          simp only [cf_share, mo_share, mo_share_J61, cf_isDrawer_eq, mo_isDrawer_eq, cf_isMove_eq, mo_in_eq, hv, hw, hx, hy, Bool.and_true, bd1_some, bt0, if_false, ck_n hj (show 8 < 2 ^ 31 by omega), cl_n (show j < 2 ^ 31 by omega), ck_n hi (show 8 < 2 ^ 31 by omega), cl_n (show i < 2 ^ 31 by omega), e, e2]
          by_cases h0 : h j = 0
          · rw [if_pos h0, if_pos h0]; exact ⟨-2, rfl, rfl⟩
          · rw [if_neg h0, if_neg h0]
            by_cases h1 : h i = 0
            · rw [if_pos h1, if_pos h1]; exact ⟨-2, rfl, rfl⟩
            · have o64 := ov_le (h j) (h i) u t
              rw [if_neg h1, if_neg h1, me_overlap_eq (by omega) (by omega), bd1_some, mo_shared_eq ⟨u1, u2⟩ ⟨t1, t2⟩, bd1_some, me_sharedSides_eq ⟨u1, u2⟩ ⟨t1, t2⟩, bd1_some]
              by_cases q : ov (h j) (h i) u t = 0
              · rw [if_pos ((nI_le0 (by omega)).mpr q), if_pos q]; exact ⟨_, rfl, rfl⟩
              · rw [if_neg (fun c => q ((nI_le0 (by omega)).mp c)), if_neg q]; exact ⟨_, rfl, rfl⟩
