/-! LAYER 2: put, cell -/
theorem su_bit (x : Int64) {k : Nat} (hk : k < 64) : su x (nI k) &&& 1 = 0 ↔ bt x k = false := by
  have e1 : ∀ i, i < 64 → bt 1 i = decide (i = 0) := by
    have : ∀ i : Fin 64, bt 1 i.val = decide (i.val = 0) := by decide +kernel
    exact fun i hi => this ⟨i, hi⟩
  constructor
  · intro e
    have := i64_eq0.mp e 0 (by omega)
    rw [bt_and, bt_su _ hk, e1 0 (by omega)] at this
    simpa using this
  · intro h
    apply i64_eq0.mpr
    intro i hi
    rw [bt_and, bt_su _ hk, e1 i hi]
    by_cases q : i = 0
    · subst q; rw [Nat.add_zero, h]; rfl
    · rw [decide_eq_false q, Bool.and_false]
def hasB (f : Int64) (x y : Int32) : Bool := inr x 0 7 && inr y 0 7 && bt f (8 * y.toNatClampNeg + x.toNatClampNeg)
theorem ix_eq {a b : Nat} : (8 * nI b + nI a : Int32) = nI (8 * b + a) := by
  rw [show (8 : Int32) = nI 8 from rfl, pk_mul, nI_add]
theorem gr_has_eq (f : Int64) (x y : Int32) : gr_has f x y = some (boI (hasB f x y)) := by
  unfold gr_has hasB
  rw [cf_within_eq, bd1_some, cf_within_eq, zb_0, zb_1]
  cases hx : inr x 0 7 with
  | false => rfl
  | true =>
    rw [if_neg (by decide), bd1_some]
    cases hy : inr y 0 7 with
    | false => rfl
    | true =>
      rw [if_neg (by decide)]
      obtain ⟨a, ha, rfl⟩ := inr_dr hx
      obtain ⟨b, hb, rfl⟩ := inr_dr hy
      rw [ix_eq, cl_n (by omega), cl_n (by omega)]
      cases hbit : bt f (8 * b + a) with
      | false => rw [if_pos ((su_bit f (by omega)).mpr hbit)]; rfl
      | true => rw [if_neg (fun e => by have := (su_bit f (by omega)).mp e; rw [hbit] at this; cases this)]; rfl
theorem mo_has_eq (f : Int64) {k : Nat} (hk : k < 64) : mo_has f (nI k) = some (boI (bt f k)) := by
  unfold mo_has
  rw [zb_0, zb_1]
  cases hb : bt f k with
  | true => rw [if_pos ((ss_bit f hk).1.mpr hb)]; rfl
  | false => rw [if_neg (fun e => by have := (ss_bit f hk).1.mp e; rw [hb] at this; cases this)]; rfl
theorem mo_isCell_eq (f : Int64) (x y : Int32) : mo_isCell f x y = some (boI (hasB f x y)) := by
  unfold mo_isCell hasB
  rw [mo_in_eq, bd1_some, mo_in_eq, zb_0, zb_1]
  cases hx : inr x 0 7 with
  | false => rfl
  | true =>
    rw [if_neg (by decide), bd1_some]
    cases hy : inr y 0 7 with
    | false => rfl
    | true =>
      rw [if_neg (by decide)]
      obtain ⟨a, ha, rfl⟩ := inr_dr hx
      obtain ⟨b, hb, rfl⟩ := inr_dr hy
      rw [ix_eq, cl_n (by omega), cl_n (by omega), mo_has_eq f (by omega), bd1_some]
      cases bt f (8 * b + a) <;> rfl
theorem opc_put (v : Int32) (n : Int64) {g h : Nat → Int64} (hd : DR g h) : ∃ r g' h', cf_put v n g = some (r, g') ∧ mo_put v n h = some (r, h') ∧ DR g' h' := by
  unfold cf_put mo_put
  rw [cf_isDrawer_eq, mo_isDrawer_eq, bd1_some, bd1_some, zb_0, zb_0]
  cases hv : inr v 0 7 with
  | false => exact ⟨0, g, h, rfl, rfl, hd⟩
  | true =>
    rw [if_neg (by decide), if_neg (by decide)]
    obtain ⟨j, hj, rfl⟩ := inr_dr hv
    by_cases hf : FIG n
    · rw [(gr_isFigure_eq n).1 hf, (mo_isFigure_eq n).1 hf, bd1_some, bd1_some, if_neg (by decide), if_neg (by decide), ck_n hj (by omega), ck_n hj (by omega), cl_n (by omega), nm_eq, nm_eq, zb_1, zb_1]
      exact ⟨1, _, _, rfl, rfl, DR_set hd (Or.inr hf)⟩
    · rw [(gr_isFigure_eq n).2 hf, (mo_isFigure_eq n).2 hf]
      exact ⟨0, g, h, rfl, rfl, hd⟩
theorem opc_cell (v x y : Int32) {g h : Nat → Int64} (hd : DR g h) : ∃ r, cf_cell v x y g = some r ∧ mo_cell v x y h = some r := by
  cases hv : inr v 0 7 with
  | false =>
    simp only [cf_cell, mo_cell, cf_isDrawer_eq, mo_isDrawer_eq, hv, bd1_some, bf0, if_true]
    exact ⟨-1, rfl, rfl⟩
  | true =>
    cases hx : inr x 0 6 with
    | false =>
      simp only [cf_cell, mo_cell, cf_isDrawer_eq, mo_isDrawer_eq, cf_within_eq, mo_in_eq, hv, hx, bd1_some, bf0, bt0, if_true, if_false]
      exact ⟨-1, rfl, rfl⟩
    | true =>
      cases hy : inr y 0 6 with
      | false =>
        simp only [cf_cell, mo_cell, cf_isDrawer_eq, mo_isDrawer_eq, cf_within_eq, mo_in_eq, hv, hx, hy, bd1_some, bf0, bt0, if_true, if_false]
        exact ⟨-1, rfl, rfl⟩
      | true =>
        obtain ⟨j, hj, rfl⟩ := inr_dr hv
        have e := (hd j hj).1
        simp only [cf_cell, mo_cell, cf_isDrawer_eq, mo_isDrawer_eq, cf_within_eq, mo_in_eq, hv, hx, hy, bd1_some, bt0, if_false, ck_n hj (show 8 < 2 ^ 31 by omega), cl_n (show j < 2 ^ 31 by omega), e, gr_has_eq, mo_isCell_eq]
        by_cases h0 : h j = 0
        · rw [if_pos h0]; exact ⟨-2, rfl, rfl⟩
        · rw [if_neg h0]
          cases hasB (h j) x y
          · exact ⟨0, rfl, rfl⟩
          · exact ⟨1, rfl, rfl⟩
