/-! LAYER 2: calls that read no figure: take, swap, keep, back, feed, count -/
theorem upL (g : Nat → Int64) (j i : Nat) (x : Int64) : vp_updL g j x i = if i = j then x else g i := rfl
theorem upI (g : Nat → Int32) (j i : Nat) (x : Int32) : upd g j x i = if i = j then x else g i := rfl
theorem bt0 : (boI true = 0) = False := by simp [boI]
theorem bf0 : (boI false = 0) = True := by simp [boI]
theorem inr_dr' {j : Nat} (hj : j < 8) : inr (nI j) 0 7 = true := by
  unfold inr
  rw [decide_eq_true (nI_pos' (by omega)), decide_eq_true (show nI j ≤ (7 : Int32) from nI_le (a := j) (b := 7) (by omega) (by omega))]; rfl
theorem DR_set {g h : Nat → Int64} {j : Nat} {x : Int64} (hd : DR g h) (hx : x = 0 ∨ FIG x) : DR (vp_updL g j x) (vp_updL h j x) := by
  intro i hi
  rw [upL, upL]
  by_cases q : i = j
  · rw [if_pos q, if_pos q]; exact ⟨rfl, hx⟩
  · rw [if_neg q, if_neg q]; exact hd i hi
theorem cf_take_in {j : Nat} (hj : j < 8) (g : Nat → Int64) : cf_take (nI j) g = some (if g j = 0 then 0 else 1, vp_updL g j 0) := by
  have h1 : (nI j).toNatClampNeg = j := cl_n (by omega)
  simp only [cf_take, cf_take_J25, nm, cf_isDrawer_eq, inr_dr' hj, bd1_some, bt0, if_false, ck_n hj (show 8 < 2 ^ 31 by omega), h1]
  split <;> rfl
theorem mo_take_in {j : Nat} (hj : j < 8) (g : Nat → Int64) : mo_take (nI j) g = some (if g j = 0 then 0 else 1, vp_updL g j 0) := by
  have h1 : (nI j).toNatClampNeg = j := cl_n (by omega)
  simp only [mo_take, mo_take_J25, nm, mo_isDrawer_eq, inr_dr' hj, bd1_some, bt0, if_false, ck_n hj (show 8 < 2 ^ 31 by omega), h1]
  split <;> rfl
theorem opc_take (v : Int32) {g h : Nat → Int64} (hd : DR g h) : ∃ r g' h', cf_take v g = some (r, g') ∧ mo_take v h = some (r, h') ∧ DR g' h' := by
  cases hv : inr v 0 7 with
  | false => exact ⟨-1, g, h, by simp only [cf_take, cf_isDrawer_eq, hv, bd1_some, bf0, if_true], by simp only [mo_take, mo_isDrawer_eq, hv, bd1_some, bf0, if_true], hd⟩
  | true =>
    obtain ⟨j, hj, rfl⟩ := inr_dr hv
    exact ⟨_, _, _, cf_take_in hj g, by rw [mo_take_in hj, (hd j hj).1], DR_set hd (Or.inl rfl)⟩
theorem cf_swap_in {j k : Nat} (hj : j < 8) (hk : k < 8) (g : Nat → Int64) : cf_swap (nI j) (nI k) g = if g j = g k then some (0, g) else some (1, vp_updL (vp_updL g j (g k)) k (g j)) := by
  have h1 : (nI j).toNatClampNeg = j := cl_n (by omega)
  have h2 : (nI k).toNatClampNeg = k := cl_n (by omega)
  simp only [cf_swap, nm, cf_isDrawer_eq, inr_dr' hj, inr_dr' hk, bd1_some, bt0, if_false, ck_n hj (show 8 < 2 ^ 31 by omega), ck_n hk (show 8 < 2 ^ 31 by omega), h1, h2]
theorem mo_swap_in {j k : Nat} (hj : j < 8) (hk : k < 8) (g : Nat → Int64) : mo_swap (nI j) (nI k) g = some (if g j = g k then 0 else 1, vp_updL (vp_updL g j (g k)) k (g j)) := by
  have h1 : (nI j).toNatClampNeg = j := cl_n (by omega)
  have h2 : (nI k).toNatClampNeg = k := cl_n (by omega)
  simp only [mo_swap, nm, mo_isDrawer_eq, inr_dr' hj, inr_dr' hk, bd1_some, bt0, if_false, ck_n hj (show 8 < 2 ^ 31 by omega), ck_n hk (show 8 < 2 ^ 31 by omega), h1, h2]
  by_cases q : j = k
  · subst q; simp [upL]
  · simp only [upL, if_neg q, if_pos, if_true]
    by_cases q2 : g j = g k
    · simp [q2]
    · have q3 : ¬ g k = g j := fun h => q2 h.symm
      simp [q2, q3]
theorem opc_swap (v w : Int32) {g h : Nat → Int64} (hd : DR g h) : ∃ r g' h', cf_swap v w g = some (r, g') ∧ mo_swap v w h = some (r, h') ∧ DR g' h' := by
  cases hv : inr v 0 7 with
  | false => exact ⟨-1, g, h, by simp only [cf_swap, cf_isDrawer_eq, hv, bd1_some, bf0, if_true], by simp only [mo_swap, mo_isDrawer_eq, hv, bd1_some, bf0, if_true], hd⟩
  | true =>
    cases hw : inr w 0 7 with
    | false => exact ⟨-1, g, h, by simp only [cf_swap, cf_isDrawer_eq, hv, hw, bd1_some, bt0, bf0, if_true, if_false], by simp only [mo_swap, mo_isDrawer_eq, hv, hw, bd1_some, bt0, bf0, if_true, if_false], hd⟩
    | true =>
      obtain ⟨j, hj, rfl⟩ := inr_dr hv
      obtain ⟨k, hk, rfl⟩ := inr_dr hw
      have ej := (hd j hj).1
      have ek := (hd k hk).1
      have h2 : DR (vp_updL (vp_updL g j (g k)) k (g j)) (vp_updL (vp_updL h j (h k)) k (h j)) := by
        rw [← ej, ← ek]; exact DR_set (DR_set hd (hd k hk).2) (hd j hj).2
      by_cases q : g j = g k
      · refine ⟨0, g, _, by rw [cf_swap_in hj hk, if_pos q], by rw [mo_swap_in hj hk, if_pos (by rw [← ej, ← ek]; exact q)], ?_⟩
        intro i hi
        have h3 := h2 i hi
        have e : vp_updL (vp_updL g j (g k)) k (g j) i = g i := by
          rw [upL, upL]
          by_cases q1 : i = k
          · rw [if_pos q1, q1]; exact q
          · rw [if_neg q1]
            by_cases q2 : i = j
            · rw [if_pos q2, q2]; exact q.symm
            · rw [if_neg q2]
        rw [e] at h3
        exact h3
      · exact ⟨1, _, _, by rw [cf_swap_in hj hk, if_neg q], by rw [mo_swap_in hj hk, if_neg (by rw [← ej, ← ek]; exact q)], h2⟩
/-! keep, back -/
theorem mo_keep_go {t : Nat} (ht : t < 10) (g : Nat → Int64) : ∀ (n d : Nat) (k : Nat → Int64), d ≤ 8 → 8 - d < n → fl2 (mo_keep_B13 (nI t) g) n (nI d) k = some (nI (t + 1), nI (t + 1), fun i => if 8 * t + d ≤ i ∧ i < 8 * t + 8 then g (i - 8 * t) else k i) := by
  intro n
  induction n with
  | zero => intro d k _ h; omega
  | succ n ih =>
    intro d k hd hn
    show mo_keep_B13 (nI t) g (fl2 (mo_keep_B13 (nI t) g) n) (nI d) k = _
    rw [mo_keep_B13]
    by_cases q : d = 8
    · subst q
      rw [if_pos (show (8 : Int32) ≤ nI 8 from nI_le (a := 8) (b := 8) (by omega) (by omega))]
      show some (nI t + 1, nI t + 1, k) = _
      rw [nI_1]
      congr 3
      funext i
      rw [if_neg (by omega)]
    · rw [if_neg (show ¬ (8 : Int32) ≤ nI d from nI_ge (a := d) (b := 8) (by omega) (by omega)), ck_n (show d < 8 by omega) (by omega)]
      have e1 : (8 * nI t + nI d : Int32) = nI (8 * t + d) := by
        rw [show (8 : Int32) = nI 8 from rfl, pk_mul, nI_add]
      show ck (8 * nI t + nI d) 80 _ = _
      rw [e1, ck_n (by omega) (by omega), cl_n (by omega), cl_n (by omega)]
      show fl2 (mo_keep_B13 (nI t) g) n (nI d + nI 1) _ = _
      rw [nI_add, ih (d + 1) _ (by omega) (by omega)]
      congr 3
      funext i
      by_cases c1 : 8 * t + (d + 1) ≤ i ∧ i < 8 * t + 8
      · rw [if_pos c1, if_pos (by omega)]
      · rw [if_neg c1, upL]
        by_cases c2 : i = 8 * t + d
        · rw [if_pos c2, if_pos (by omega)]; congr 1; omega
        · rw [if_neg c2, if_neg (by omega)]
theorem opc_keep {tk km : Int32} {g h k k2 : Nat → Int64} (hd : DR g h) (hk : KP tk km k k2) : ∃ r tk' k' km' k2', cf_keep tk g k = some (r, tk', k') ∧ mo_keep km h k2 = some (r, km', k2') ∧ KP tk' km' k' k2' := by
  obtain ⟨t, ht, rfl, rfl, hp⟩ := hk
  by_cases q : t = 10
  · subst q
    refine ⟨-1, nI 10, k, nI 10, k2, ?_, ?_, 10, by omega, rfl, rfl, hp⟩
    · unfold cf_keep; rw [if_neg (show ¬ nI 10 < (10 : Int32) from nI_nlt (a := 10) (b := 10) (by omega) (by omega))]
    · unfold mo_keep; rw [if_pos (show nI 10 = 10 from rfl)]
  · have h10 : ¬ nI t = 10 := fun e => q ((nI_eq (by omega) (by omega)).mp (show nI t = nI 10 from e))
    have hm := mo_keep_go (t := t) (by omega) h FU 0 k2 (by omega) (FU_lt (by omega))
    have e8 : nI t * 8 = nI (t * 8) := by rw [show (8 : Int32) = nI 8 from rfl, pk_mul]
    refine ⟨nI (t + 1), nI (t + 1), va_cpy g k 0 (t * 8) 8, nI (t + 1), (fun i => if 8 * t + 0 ≤ i ∧ i < 8 * t + 8 then h (i - 8 * t) else k2 i), ?_, ?_, t + 1, by omega, rfl, rfl, ?_⟩
    · unfold cf_keep nm
      rw [if_pos (show nI t < (10 : Int32) from nI_lt (a := t) (b := 10) (by omega) (by omega)), e8, nI_1, cl_n (by omega)]
      unfold cpk
      rw [if_pos]
      · rfl
      · refine ⟨by decide, nI_pos (by omega), by decide, by decide, ?_⟩
        rw [cl_n (by omega)]
        show t * 8 + 8 ≤ 80
        omega
    · unfold mo_keep; rw [if_neg h10]; exact hm
    · intro i hi
      show (va_cpy g k 0 (t * 8) 8 i = (if 8 * t + 0 ≤ i ∧ i < 8 * t + 8 then h (i - 8 * t) else k2 i) ∧ _)
      by_cases c : 8 * t ≤ i
      · have e1 : va_cpy g k 0 (t * 8) 8 i = g (i - 8 * t) := by
          unfold va_cpy; rw [if_pos (by omega)]; congr 1; omega
        rw [e1, if_pos (by omega)]
        exact hd _ (by omega)
      · have e1 : va_cpy g k 0 (t * 8) 8 i = k i := by
          unfold va_cpy; rw [if_neg (by omega)]
        rw [e1, if_neg (by omega)]
        exact hp i (by omega)
