/-! what the lists hold, by rank -/
theorem kth {n k t : Nat} (hn : 1 ≤ n ∧ n ≤ 7) (ht : t < eK k n - eK k (n - 1)) : ∃ i, eN (n - 1) ≤ i ∧ i < eN n ∧ lB k i = true ∧ rk k i = eK k (n - 1) + t := by
  obtain ⟨i, h1, h2, h3⟩ := fb_ct_kth (p := lB k) (n := eN n) (k := eK k (n - 1) + t) (by
    have : eK k (n - 1) + t < eK k n := by omega
    exact this)
  refine ⟨i, ?_, h1, h2, h3⟩
  rcases Nat.lt_or_ge i (eN (n - 1)) with q | q
  · have s := rk_s k i
    rw [h2, if_pos rfl] at s
    have := rk_le (k := k) (show i + 1 ≤ eN (n - 1) from q)
    have e : rk k i = eK k (n - 1) + t := h3
    have e2 : rk k (eN (n - 1)) = eK k (n - 1) := rfl
    omega
  · exact q
theorem rk_in {n k i : Nat} (hi : i < eN n) (hb : lB k i = true) : rk k i < eK k n := by
  have s := rk_s k i
  rw [hb, if_pos rfl] at s
  have := rk_le (k := k) (show i + 1 ≤ eN n from hi)
  show rk k i < rk k (eN n)
  omega
theorem rk_mono {k i j : Nat} (hi : lB k i = true) (h : i < j) : rk k i < rk k j := by
  have s := rk_s k i
  rw [hi, if_pos rfl] at s
  have := rk_le (k := k) (show i + 1 ≤ j from h)
  omega
theorem member_eq {m : Nat} {nu : Nat → Int64} {os fr en : Nat → Int32} (hc : CL m nu os fr en) (hm : m ≤ 7) {k i : Nat} (hk : k ≤ 2) (hi : i < eN m) (hb : lB k i = true) : ca_member (nI k) (nI (rk k i)) os fr = some (nI i) := by
  have b := eN_b hm
  match k, hk with
  | 0, _ => rw [ca_member, if_pos (show nI 0 = (0 : Int32) from rfl), rk0]
  | 1, _ =>
    have r := rk_in hi hb
    have r2 := rk1_b (i := eN m) b
    have e : eK 1 m = rk 1 (eN m) := rfl
    have i1 : inr (nI (rk 1 i)) 0 (285 - 1) = true := by
      unfold inr
      rw [Bool.and_eq_true, decide_eq_true_eq, decide_eq_true_eq]
      exact ⟨nI_pos' (by omega), nI_le (a := rk 1 i) (b := 284) (by omega) (by omega)⟩
    rw [ca_member, if_neg (show ¬ nI 1 = (0 : Int32) from by decide), if_pos (show nI 1 = (1 : Int32) from rfl), cf_within_eq, bd1_some, i1, if_neg (by decide), ck_n (show rk 1 i < 285 by omega) (by omega), cl_n (by omega), hc.2.1 i hi hb]
  | 2, _ =>
    have r := rk_in hi hb
    have r2 := rk2_b (i := eN m) b
    have e : eK 2 m = rk 2 (eN m) := rfl
    have i1 : inr (nI (rk 2 i)) 0 (164 - 1) = true := by
      unfold inr
      rw [Bool.and_eq_true, decide_eq_true_eq, decide_eq_true_eq]
      exact ⟨nI_pos' (by omega), nI_le (a := rk 2 i) (b := 163) (by omega) (by omega)⟩
    rw [ca_member, if_neg (show ¬ nI 2 = (0 : Int32) from by decide), if_neg (show ¬ nI 2 = (1 : Int32) from by decide), cf_within_eq, bd1_some, i1, if_neg (by decide), ck_n (show rk 2 i < 164 by omega) (by omega), cl_n (by omega), hc.2.2.1 i hi hb]
  | k + 3, h => omega
theorem numberOf_eq {m : Nat} {nu : Nat → Int64} {os fr en : Nat → Int32} (hc : CL m nu os fr en) (hm : m ≤ 7) {i : Nat} (hi : i < eN m) : ca_numberOf (nI i) nu = some (Lf i) := by
  have b := eN_b hm
  have i1 : inr (nI i) 0 1066 = true := by
    unfold inr
    rw [Bool.and_eq_true, decide_eq_true_eq, decide_eq_true_eq]
    exact ⟨nI_pos' (by omega), nI_le (a := i) (b := 1066) (by omega) (by omega)⟩
  rw [ca_numberOf, cf_within_eq, bd1_some, i1, if_neg (by decide), ck_n (show i < 1067 by omega) (by omega), cl_n (by omega), hc.1 i hi]
theorem cend {m : Nat} {nu : Nat → Int64} {os fr en : Nat → Int32} (hc : CL m nu os fr en) (hm : m ≤ 7) {n k : Nat} (hk : k ≤ 2) (hn : n ≤ m) : ca_end (nI n) (nI k) en = some (nI (eK k n)) := ca_end_eq (m := m) (nu := nu) (os := os) (fr := fr) hk (by omega) (hc.2.2.2 k n hk hn)
theorem eK_1067 {k n : Nat} (hn : n ≤ 7) : eK k n ≤ 1067 := rk_b (eN_b hn)
theorem csize {m : Nat} {nu : Nat → Int64} {os fr en : Nat → Int32} (hc : CL m nu os fr en) (hm : m ≤ 7) {n k : Nat} (hk : k ≤ 2) (h1 : 1 ≤ n) (hn : n ≤ m) : ca_size (nI n) (nI k) en = some (nI (eK k n - eK k (n - 1))) := by
  have := eK_le (k := k) (show n - 1 ≤ n by omega) (by omega)
  rw [ca_size, cend hc hm hk hn, bd1_some, nI_m1 (by omega), cend hc hm hk (by omega), bd1_some, pk_sub this]
theorem cat {m : Nat} {nu : Nat → Int64} {os fr en : Nat → Int32} (hc : CL m nu os fr en) (hm : m ≤ 7) {n k i t : Nat} (hk : k ≤ 2) (h1 : 1 ≤ n) (hn : n ≤ m) (hi : i < eN n) (hb : lB k i = true) (hr : rk k i = eK k (n - 1) + t) : ca_at (nI n) (nI k) (nI t) nu os fr en = some (Lf i) := by
  have im : i < eN m := by
    have : ∀ a b : Fin 8, a.val ≤ b.val → eN a.val ≤ eN b.val := by decide
    have : eN n ≤ eN m := this ⟨n, by omega⟩ ⟨m, by omega⟩ hn
    omega
  rw [ca_at, nI_m1 (by omega), cend hc hm hk (by omega), bd1_some, nI_add, ← hr, member_eq hc hm hk im hb, bd1_some, numberOf_eq hc hm im, bd1_some]
theorem mbeg {li : Nat → Int64} {fm : Nat → Int32} (h : MLm 7 li fm) {n k : Nat} (hn : 1 ≤ n ∧ n ≤ 7) (hk : k ≤ 2) : mo_begin (nI n) (nI k) fm = some (nI (bK n k)) := by
  have e : (3 * (nI n - 1) + nI k : Int32) = nI (3 * (n - 1) + k) := by rw [nI_m1 (by omega), show (3 : Int32) = nI 3 from rfl, pk_mul, nI_add]
  rw [mo_begin, nm_eq, e, ck_n (show 3 * (n - 1) + k < 25 by omega) (by omega), cl_n (by omega), h.1 n k hn.1 hn.2 (by omega)]
theorem mend {li : Nat → Int64} {fm : Nat → Int32} (h : MLm 7 li fm) {n k : Nat} (hn : 1 ≤ n ∧ n ≤ 7) (hk : k ≤ 2) : mo_end (nI n) (nI k) fm = some (nI (bK n (k + 1))) := by
  have e : ((3 * (nI n - 1)) + nI k + 1 : Int32) = nI (3 * (n - 1) + (k + 1)) := by rw [nI_m1 (by omega), show (3 : Int32) = nI 3 from rfl, pk_mul, nI_add, nI_1]; rfl
  rw [mo_end, nm_eq, e, ck_n (show 3 * (n - 1) + (k + 1) < 25 by omega) (by omega), cl_n (by omega), h.1 n (k + 1) hn.1 hn.2 (by omega)]
theorem inr_17' {v : Int32} (h : inr v 1 7 = true) : ∃ n, 1 ≤ n ∧ n ≤ 7 ∧ v = nI n := inr_lo (m := 1) (n := 7) (by omega) (by omega) h
theorem sz_eq {n k : Nat} (h1 : 1 ≤ n) (hn : n ≤ 7) (hk : k ≤ 2) : bK n (k + 1) - bK n k = eK k n - eK k (n - 1) ∧ bK n k ≤ bK n (k + 1) := by
  have a := bK_1 (n := n) (k := k) h1 hk
  have b := eK_le (k := k) (show n - 1 ≤ n by omega) hn
  omega
theorem opc_list (v w : Int32) {x : Int32} {nu : Nat → Int64} {os fr en : Nat → Int32} (hc : CLs x nu os fr en) {li : Nat → Int64} {fm : Nat → Int32} (hl : MLm 7 li fm) : ∃ r x' nu' os' fr' en', cf_list v w x nu os fr en = some (r, x', nu', os', fr', en') ∧ mo_list v w fm = some r ∧ CLs x' nu' os' fr' en' := by
  cases hv : (inr v 1 7 && inr w 0 2) with
  | false =>
    simp only [cf_list, mo_list, cf_isList_eq, mo_isList_eq, hv, bd1_some, bf0, if_true]
    exact ⟨-1, _, _, _, _, _, rfl, rfl, hc⟩
  | true =>
    have hv' := hv
    rw [Bool.and_eq_true] at hv
    obtain ⟨n, n1, n2, rfl⟩ := inr_17' hv.1
    obtain ⟨k, hk, rfl⟩ := inr_2 hv.2
    simp only [cf_list, mo_list, cf_isList_eq, mo_isList_eq, hv', bd1_some, bt0, if_false]
    obtain ⟨m, nu', os', fr', en', m1, m2, p1, p2⟩ := prepare_eq hc n2
    have sz := sz_eq n1 n2 hk
    rw [p1, bd5_some, csize p2 m2 hk n1 m1, bd1_some, mend hl ⟨n1, n2⟩ hk, bd1_some, mbeg hl ⟨n1, n2⟩ hk, bd1_some, pk_sub sz.2, sz.1]
    exact ⟨_, _, _, _, _, _, rfl, rfl, m, m2, rfl, p2⟩
theorem opc_listed (v w u : Int32) {x : Int32} {nu : Nat → Int64} {os fr en : Nat → Int32} (hc : CLs x nu os fr en) {li : Nat → Int64} {fm : Nat → Int32} (hl : MLm 7 li fm) : ∃ r x' nu' os' fr' en', cf_listed v w u x nu os fr en = some (r, x', nu', os', fr', en') ∧ mo_listed v w u li fm = some r ∧ CLs x' nu' os' fr' en' := by
  cases hv : (inr v 1 7 && inr w 0 2) with
  | false =>
    simp only [cf_listed, mo_listed, cf_isList_eq, mo_isList_eq, hv, bd1_some, bf0, if_true]
    exact ⟨-1, _, _, _, _, _, rfl, rfl, hc⟩
  | true =>
    have hv' := hv
    rw [Bool.and_eq_true] at hv
    obtain ⟨n, n1, n2, rfl⟩ := inr_17' hv.1
    obtain ⟨k, hk, rfl⟩ := inr_2 hv.2
    simp only [cf_listed, mo_listed, cf_isList_eq, mo_isList_eq, hv', bd1_some, bt0, if_false]
    by_cases qu : 0 ≤ u
    · obtain ⟨t, ht, rfl⟩ := nI_of (i32_nlt.mpr qu)
      obtain ⟨m, nu', os', fr', en', m1, m2, p1, p2⟩ := prepare_eq hc n2
      have sz := sz_eq n1 n2 hk
      have e1 := eK_1067 (k := k) n2
      have bb := bK_b (n := n) (k := k + 1) n2
      rw [if_pos qu, if_pos qu, p1, bd5_some, csize p2 m2 hk n1 m1, bd1_some, mend hl ⟨n1, n2⟩ hk, bd1_some, mbeg hl ⟨n1, n2⟩ hk, bd1_some, pk_sub sz.2, sz.1]
      by_cases q : eK k n - eK k (n - 1) ≤ t
      · rw [if_pos (nI_le q ht), if_pos (nI_le q ht)]
        exact ⟨-2, _, _, _, _, _, rfl, rfl, m, m2, rfl, p2⟩
      · obtain ⟨i, i1, i2, i3, i4⟩ := kth (n := n) (k := k) (t := t) ⟨n1, n2⟩ (by omega)
        have := hl.2 n k i n1 n2 hk i1 i2 i3
        rw [i4, show eK k (n - 1) + t - eK k (n - 1) = t by omega] at this
        rw [if_neg (nI_ge (by omega) (by omega)), if_neg (nI_ge (by omega) (by omega)), cat p2 m2 hk n1 m1 i2 i3 i4, bd1_some, bd1_some, nm_eq, nI_add, ck_n (show bK n k + t < 1600 by omega) (by omega), cl_n (by omega), this]
        exact ⟨_, _, _, _, _, _, rfl, rfl, m, m2, rfl, p2⟩
    · rw [if_neg qu, if_neg qu]
      exact ⟨-1, _, _, _, _, _, rfl, rfl, hc⟩
theorem index_go {m : Nat} {nu : Nat → Int64} {os fr en : Nat → Int32} (hc : CL m nu os fr en) (hm : m ≤ 7) {n k j : Nat} (hk : k ≤ 2) (h1 : 1 ≤ n) (hn : n ≤ m) (hj1 : eN (n - 1) ≤ j) (hj2 : j < eN n) (hb : lB k j = true) : ∀ (f lo hi t : Nat), eK k (n - 1) ≤ lo → lo ≤ rk k j → rk k j ≤ hi → hi ≤ eK k n → hi - lo < f → (hi - lo) * 2 ^ t ≤ 2047 → fl3 (ca_indexOf_B25 (nI n) (nI k) (Lf j) (nI (eK k (n - 1))) nu os fr en) f (nI lo) (nI hi) (nI t) = some (nI (rk k j - eK k (n - 1))) := by
  have jm : ∀ i, i < eN n → i < eN m := by
    intro i hi
    have : ∀ a b : Fin 8, a.val ≤ b.val → eN a.val ≤ eN b.val := by decide
    have : eN n ≤ eN m := this ⟨n, by omega⟩ ⟨m, by omega⟩ hn
    omega
  have b := eN_b (n := n) (by omega)
  have ek := eK_1067 (k := k) (n := n) (by omega)
  have rj := rk_in hj2 hb
  intro f
  induction f with
  | zero => intro lo hi t _ _ _ _ h; omega
  | succ f ih =>
    intro lo hi t a1 a2 a3 a4 a5 a6
    show ca_indexOf_B25 (nI n) (nI k) (Lf j) (nI (eK k (n - 1))) nu os fr en (fl3 (ca_indexOf_B25 (nI n) (nI k) (Lf j) (nI (eK k (n - 1))) nu os fr en) f) (nI lo) (nI hi) (nI t) = _
    rw [ca_indexOf_B25]
    rcases Nat.lt_or_ge lo hi with q | q
    · have t11 : t < 11 := by
        rcases Nat.lt_or_ge t 11 with z | z
        · exact z
        · have p : 2 ^ 11 ≤ 2 ^ t := Nat.pow_le_pow_right (n := 2) (by omega) z
          have : 1 * 2 ^ t ≤ (hi - lo) * 2 ^ t := Nat.mul_le_mul_right _ (by omega)
          omega
      have half : ∀ d, d ≤ (hi - lo) / 2 → d * 2 ^ (t + 1) ≤ 2047 := by
        intro d hd
        have : d * 2 ^ (t + 1) ≤ (hi - lo) * 2 ^ t := by
          rw [Nat.pow_succ, Nat.mul_comm (2 ^ t) 2, ← Nat.mul_assoc]
          exact Nat.mul_le_mul_right _ (by omega)
        omega
      obtain ⟨i, i1, i2, i3, i4⟩ := kth (n := n) (k := k) (t := (lo + hi) / 2 - eK k (n - 1)) ⟨h1, by omega⟩ (by omega)
      have im : rk k i = (lo + hi) / 2 := by omega
      have gi : gn i = n - 1 + 1 := gn_of (m := n - 1) (by omega) i1 (by rw [show n - 1 + 1 = n by omega]; exact i2)
      have gj : gn j = n - 1 + 1 := gn_of (m := n - 1) (by omega) hj1 (by rw [show n - 1 + 1 = n by omega]; exact hj2)
      have cmp : Lf j ≤ Lf i ↔ rk k j ≤ (lo + hi) / 2 := by
        rw [← l_nlt, Lf_lt (by omega) (by omega) (gi.trans gj.symm)]
        constructor
        · intro h
          rcases Nat.lt_or_ge i j with z | z
          · exact absurd z h
          · have := rk_le (k := k) z; omega
        · intro h z
          have := rk_mono i3 z
          omega
      rw [if_neg (show ¬ (32 : Int32) ≤ nI t from nI_ge (a := t) (b := 32) (by omega) (by omega)), if_neg (nI_ge q (by omega)), nI_add, ui1 (by omega), nm_eq, ← im, member_eq hc hm hk (jm i i2) i3, bd1_some, numberOf_eq hc hm (jm i i2), bd1_some, nm_eq]
      by_cases c : Lf j ≤ Lf i
      · rw [if_pos c, ca_indexOf_J77, nm_eq, o1]
        have := cmp.mp c
        exact ih lo (rk k i) (t + 1) a1 a2 (by omega) (by omega) (by omega) (half _ (by omega))
      · rw [if_neg c, nI_1, ca_indexOf_J77, nm_eq, o1]
        have : ¬ rk k j ≤ (lo + hi) / 2 := fun h => c (cmp.mpr h)
        exact ih (rk k i + 1) hi (t + 1) (by omega) (by omega) a3 a4 (by omega) (half _ (by omega))
    · have e : lo = rk k j := by omega
      subst e
      have e2 : hi = rk k j := by omega
      subst e2
      rw [if_pos (nI_le (Nat.le_refl (rk k j)) (by omega)), ite_self, ca_indexOf_J83, cend hc hm hk hn, bd1_some, if_neg (nI_ge rj (by omega)), member_eq hc hm hk (jm j hj2) hb, bd1_some, numberOf_eq hc hm (jm j hj2), bd1_some, if_pos rfl, pk_sub a1]
theorem index_eq {m : Nat} {nu : Nat → Int64} {os fr en : Nat → Int32} (hc : CL m nu os fr en) (hm : m ≤ 7) {n k j : Nat} (hk : k ≤ 2) (h1 : 1 ≤ n) (hn : n ≤ m) (hj1 : eN (n - 1) ≤ j) (hj2 : j < eN n) (hb : lB k j = true) : ca_indexOf (nI n) (nI k) (Lf j) nu os fr en = some (nI (rk k j - eK k (n - 1))) := by
  have ek := eK_1067 (k := k) (n := n) (by omega)
  have rj := rk_in hj2 hb
  have r0 : eK k (n - 1) ≤ rk k j := rk_le hj1
  rw [ca_indexOf, nI_m1 (by omega), cend hc hm hk (by omega), bd1_some, cend hc hm hk hn, bd1_some]
  exact index_go hc hm hk h1 hn hj1 hj2 hb FU (eK k (n - 1)) (eK k n) 0 (Nat.le_refl _) r0 (by omega) (Nat.le_refl _) (FU_lt (by omega)) (by omega)
/-- where a figure's own one of a kind stands -/
theorem fig_at {f : Int64} (hf : FIG f) (h7 : cnt f ≤ 7) {k : Nat} : ∃ j, eN (cnt f - 1) ≤ j ∧ j < eN (cnt f) ∧ lB k j = true ∧ own f k = Lf j := by
  obtain ⟨i, i1, i2, i3⟩ := Lf_all (cnt f) f hf rfl h7
  have ib := eN_b h7
  have i67 : i < 1067 := by omega
  obtain ⟨o1', o2', o3'⟩ := own_Lf (k := k) i67
  have cp := cnt_pos' hf
  have gi : gn i = cnt f - 1 + 1 := gn_of (m := cnt f - 1) (by omega) i1 (by rw [show cnt f - 1 + 1 = cnt f by omega]; exact i2)
  have gb := gn_b o2'
  rw [o3', gi, show cnt f - 1 + 1 = cnt f by omega] at gb
  exact ⟨oN k i, gb.2.2.1, gb.2.2.2, lB_oN i67, by rw [← o1', i3]⟩
theorem mo_place_go {li : Nat → Int64} {fm : Nat → Int32} (hl : MLm 7 li fm) {n k j : Nat} (hn : 1 ≤ n ∧ n ≤ 7) (hk : k ≤ 2) (hj1 : eN (n - 1) ≤ j) (hj2 : j < eN n) (hb : lB k j = true) (D : Nat → Int64) : fl1 (mo_place_B69 (nI k) (nI n) (Lf j) D li fm) FU (nI (bK n k)) = some (nI (rk k j - eK k (n - 1))) := by
  have ek := eK_1067 (k := k) (n := n) hn.2
  have rj := rk_in hj2 hb
  have r0 : eK k (n - 1) ≤ rk k j := rk_le hj1
  have bb := bK_b (n := n) (k := k + 1) hn.2
  have sz := sz_eq hn.1 hn.2 hk
  have b := eN_b hn.2
  refine crs1 (B := mo_place_B69 (nI k) (nI n) (Lf j) D li fm) (fun t => nI (bK n k + t)) (rk k j - eK k (n - 1)) (fun t ht K => ?_) (fun K => ?_) FU (FU_lt (by omega))
  · obtain ⟨i, i1, i2, i3, i4⟩ := kth (n := n) (k := k) (t := t) hn (by omega)
    have := hl.2 n k i hn.1 hn.2 hk i1 i2 i3
    rw [i4, show eK k (n - 1) + t - eK k (n - 1) = t by omega] at this
    rw [mo_place_B69, ck_n (show bK n k + t < 1600 by omega) (by omega), cl_n (by omega), this, if_neg (fun c => by
      have := Lf_inj (show i < 1067 by omega) (show j < 1067 by omega) c
      subst this
      omega), nm_eq, nI_1]
    rfl
  · have := hl.2 n k j hn.1 hn.2 hk hj1 hj2 hb
    rw [mo_place_B69, ck_n (show bK n k + (rk k j - eK k (n - 1)) < 1600 by omega) (by omega), cl_n (by omega), this, if_pos rfl, mbeg hl hn hk, bd1_some, pk_sub (by omega), show bK n k + (rk k j - eK k (n - 1)) - bK n k = rk k j - eK k (n - 1) by omega]
theorem opc_place (v w : Int32) {g h : Nat → Int64} (hd : DR g h) {x : Int32} {nu : Nat → Int64} {os fr en : Nat → Int32} (hc : CLs x nu os fr en) {li : Nat → Int64} {fm : Nat → Int32} (hl : MLm 7 li fm) : ∃ r x' nu' os' fr' en', cf_place v w g x nu os fr en = some (r, x', nu', os', fr', en') ∧ mo_place v w h li fm = some r ∧ CLs x' nu' os' fr' en' := by
  cases hv : inr v 0 7 with
  | false =>
    simp only [cf_place, mo_place, cf_isDrawer_eq, mo_isDrawer_eq, hv, bd1_some, bf0, if_true]
    exact ⟨-1, _, _, _, _, _, rfl, rfl, hc⟩
  | true =>
    cases hw : inr w 0 2 with
    | false =>
      simp only [cf_place, mo_place, cf_isDrawer_eq, mo_isDrawer_eq, cf_isKind_eq, mo_isKind_eq, hv, hw, bd1_some, bf0, bt0, if_true, if_false]
      exact ⟨-1, _, _, _, _, _, rfl, rfl, hc⟩
    | true =>
      obtain ⟨j, hj, rfl⟩ := inr_dr hv
      obtain ⟨k, hk, rfl⟩ := inr_2 hw
      have e := (hd j hj).1
      simp only [cf_place, mo_place, cf_isDrawer_eq, mo_isDrawer_eq, cf_isKind_eq, mo_isKind_eq, hv, hw, bd1_some, bt0, if_false, ck_n hj (show 8 < 2 ^ 31 by omega), cl_n (show j < 2 ^ 31 by omega), e]
      by_cases h0 : h j = 0
      · rw [if_pos h0, if_pos h0]; exact ⟨-2, _, _, _, _, _, rfl, rfl, hc⟩
      · rw [if_neg h0, if_neg h0]
        have hf := DRf hd hj h0
        have n12 := hf.2.2.2.1
        have cp := cnt_pos' hf
        rw [jl_bitCount_eq, bd1_some, mo_bits_eq, bd1_some]
        by_cases q7 : cnt (h j) ≤ 7
        · obtain ⟨m, nu', os', fr', en', m1, m2, p1, p2⟩ := prepare_eq hc q7
          obtain ⟨i, i1, i2, i3, i4⟩ := fig_at hf q7 (k := k)
          rw [if_pos (show nI (cnt (h j)) ≤ (7 : Int32) from nI_le (a := cnt (h j)) (b := 7) q7 (by omega)), if_pos (show nI (cnt (h j)) ≤ (7 : Int32) from nI_le (a := cnt (h j)) (b := 7) q7 (by omega)), p1, bd5_some, gr_least_eq hf hk, bd1_some, i4, index_eq p2 m2 hk (by omega) m1 i1 i2 i3, bd1_some, mo_ownOf_eq hf hk, bd1_some, i4, mbeg hl ⟨by omega, q7⟩ hk, bd1_some, mo_place_go hl ⟨by omega, q7⟩ hk i1 i2 i3]
          exact ⟨_, _, _, _, _, _, rfl, rfl, m, m2, rfl, p2⟩
        · rw [if_neg (show ¬ nI (cnt (h j)) ≤ (7 : Int32) from nI_ge (a := 7) (b := cnt (h j)) (by omega) (by omega)), if_neg (show ¬ nI (cnt (h j)) ≤ (7 : Int32) from nI_ge (a := 7) (b := cnt (h j)) (by omega) (by omega))]
          exact ⟨-3, _, _, _, _, _, rfl, rfl, hc⟩
