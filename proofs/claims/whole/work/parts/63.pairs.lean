/-! pairings -/
def lob (s : Nat) : Nat := fb_ct (fun i => decide (s % 2 ^ (i + 1) = 0)) 12
theorem lob64 : ∀ a : Fin 64, ∀ b : Fin 64, 0 < 64 * a.val + b.val → (64 * a.val + b.val).testBit (lob (64 * a.val + b.val)) = true ∧ nI (64 * a.val + b.val) &&& -(nI (64 * a.val + b.val)) = nI (2 ^ lob (64 * a.val + b.val)) := by decide +kernel
theorem lob64b : ∀ a : Fin 64, ∀ b : Fin 64, ∀ i : Fin 12, i.val < lob (64 * a.val + b.val) → (64 * a.val + b.val).testBit i.val = false := by decide +kernel
theorem lob_spec {s : Nat} (h0 : 0 < s) (hs : s < 4096) : s.testBit (lob s) = true ∧ nI s &&& -(nI s) = nI (2 ^ lob s) ∧ (∀ i, i < lob s → s.testBit i = false) ∧ lob s < 12 := by
  have h1 := lob64 ⟨s / 64, by omega⟩ ⟨s % 64, by omega⟩
  have h2 := lob64b ⟨s / 64, by omega⟩ ⟨s % 64, by omega⟩
  have e : 64 * (s / 64) + s % 64 = s := by omega
  simp only [e] at h1 h2
  have h3 := h1 h0
  have l12 : lob s < 12 := by
    rcases Nat.lt_or_ge (lob s) 12 with z | z
    · exact z
    · rw [tb_12 hs z] at h3; cases h3.1
  exact ⟨h3.1, h3.2, fun i hi => h2 ⟨i, by omega⟩ hi, l12⟩
theorem ji_m1 : ∀ i : Fin 12, ji_bitCount (nI (2 ^ i.val) - 1) = some (nI i.val) := by decide +kernel
def wo2 (s j : Nat) : Nat := wo1 (wo1 s (lob s)) j
theorem wo1_le (t j : Nat) : wo1 t j ≤ t := dff_le _ _
theorem adjb_irr (a : Nat) : adjb a a = false := by unfold adjb; exact decide_eq_false (by omega)
noncomputable def qTm (f : Int64) (T : Nat → Nat) (s j : Nat) : Nat := if s.testBit j = true ∧ adjb (ith f (lob s)) (ith f j) = true then T (wo2 s j) else 0
noncomputable def qT (f : Int64) : Nat → Nat → Nat
  | 0 => fun _ => 0
  | m + 1 => fun t => if t = m then (if m = 0 then 1 else fb_sm (qTm f (qT f m) m) (cnt f)) else qT f m t
noncomputable def qW (f : Int64) (t : Nat) : Nat := qT f (t + 1) t
theorem qT_W (f : Int64) {t : Nat} : ∀ m, t < m → qT f m t = qW f t
  | 0, h => by omega
  | m + 1, h => by
    by_cases q : t = m
    · subst q; rfl
    · show (if t = m then _ else qT f m t) = _
      rw [if_neg q]; exact qT_W f m (by omega)
theorem qW_0 (f : Int64) : qW f 0 = 1 := rfl
theorem wo2_lt {s j : Nat} (h0 : 0 < s) (hs : s < 4096) : wo2 s j < s := Nat.lt_of_le_of_lt (wo1_le _ _) (wo1_lt hs (lob_spec h0 hs).1)
theorem qW_eq {f : Int64} {s : Nat} (h0 : 0 < s) (hs : s < 4096) : qW f s = fb_sm (qTm f (qW f) s) (cnt f) := by
  show (if s = s then (if s = 0 then 1 else fb_sm (qTm f (qT f s) s) (cnt f)) else qT f s s) = _
  rw [if_pos rfl, if_neg (by omega)]
  refine fb_sm_cong (fun j _ => ?_)
  unfold qTm
  rw [qT_W f s (wo2_lt h0 hs)]
theorem qW_le {f : Int64} (hf : FIG f) : ∀ m s, s < m → s < 4096 → qW f s ≤ fct (pc s)
  | 0, s, h, _ => by omega
  | m + 1, s, h, hs => by
    have n12 := hf.2.2.2.1
    rcases Nat.eq_zero_or_pos s with z | z
    · subst z
      rw [qW_0, show pc 0 = 0 from fb_ct_zero.mpr (fun i _ => Nat.zero_testBit i)]
      exact Nat.le_refl _
    · obtain ⟨l1, l2, l3, l4⟩ := lob_spec z hs
      have wl := wo1_lt hs l1
      have p1 := pc_wo1 hs l4 l1
      have b := sm_pick (p := fun i => s.testBit i) (g := qTm f (qW f) s) (B := fct (pc s - 1)) (n := cnt f) (fun j hj => by
        unfold qTm
        by_cases q : s.testBit j = true ∧ adjb (ith f (lob s)) (ith f j) = true
        · rw [if_pos q, if_pos q.1]
          have ne : j ≠ lob s := by
            rintro rfl
            have := q.2
            rw [adjb_irr] at this; cases this
          have tb : (wo1 s (lob s)).testBit j = true := by rw [wo1_bit hs, q.1, decide_eq_false ne]; rfl
          have p2 := pc_wo1 (show wo1 s (lob s) < 4096 by omega) (show j < 12 by omega) tb
          have l := wo2_lt (j := j) z hs
          have := qW_le hf m (wo2 s j) (by omega) (by omega)
          have p3 : pc (wo2 s j) + 1 = pc (wo1 s (lob s)) := p2
          exact Nat.le_trans this (fct_mono (by omega))
        · rw [if_neg q]; exact Nat.zero_le _)
      rw [qW_eq z hs]
      have e : fct (pc s) = pc s * fct (pc s - 1) := by
        obtain ⟨q, hq⟩ : ∃ q, pc s = q + 1 := ⟨pc s - 1, by omega⟩
        rw [hq]; rfl
      rw [e]
      exact Nat.le_trans b (Nat.mul_le_mul_right _ (pc_n n12))
theorem qW_b {f : Int64} (hf : FIG f) {t : Nat} (ht : t < 4096) : qW f t < 2 ^ 31 := by
  have := qW_le hf (t + 1) t (by omega) ht
  have p := fct_mono (pc_le t)
  have : fct 12 = 479001600 := by decide
  omega
theorem lob_n {n s : Nat} (h0 : 0 < s) (hs : s < 2 ^ n) (hn : n ≤ 12) : lob s < n := by
  have p12 := pw12 hn
  have := (lob_spec h0 (by omega)).1
  rcases Nat.lt_or_ge (lob s) n with z | z
  · exact z
  · rw [Nat.testBit_lt_two_pow (Nat.lt_of_lt_of_le hs (Nat.pow_le_pow_right (n := 2) (by omega) z))] at this
    cases this
theorem q_pre {f : Int64} {s : Nat} (h0 : 0 < s) (hs : s < 4096) : fb_sm (qTm f (qW f) s) (lob s + 1) = 0 := by
  obtain ⟨l1, l2, l3, l4⟩ := lob_spec h0 hs
  rw [fb_sm_cong (f := qTm f (qW f) s) (g := fun _ => 0) (fun j hj => ?_), fb_sm_const, Nat.mul_zero]
  unfold qTm
  rw [if_neg]
  rintro ⟨c1, c2⟩
  rcases Nat.lt_or_ge j (lob s) with z | z
  · rw [l3 j z] at c1; cases c1
  · have : j = lob s := by omega
    subst this
    rw [adjb_irr] at c2; cases c2
def WQ (f : Int64) (s : Nat) (w : Nat → Int64) : Prop := ∀ t, t ≤ s → w t = lN (qW f t)
theorem mo_paired_eq {f : Int64} (hf : FIG f) {b : Nat → Int32} (hb : NEb f (cnt f) b) (w : Nat → Int64) : ∃ w', mo_paired (nI (cnt f)) b w = some (lN (qW f (2 ^ cnt f - 1)), w') := by
  have n12 := hf.2.2.2.1
  have p12 := pw12 n12
  have hp := cnt_pos' hf
  have ph := pw_half hp
  have p1 : 0 < 2 ^ (cnt f - 1) := Nat.pow_pos (by omega)
  have c0 : ∀ {β : Type} (k : Option β), ck 0 4096 k = k := fun k => ck_n (n := 0) (by omega) (by omega) k
  rw [mo_paired, nm_eq, il_n ⟨cnt f, by omega⟩, show nI (2 ^ cnt f) - 1 = nI (2 ^ cnt f - 1) from nI_m1 (by omega), c0, nm_eq]
  refine ivl2 (B := mo_paired_B18 (nI (2 ^ cnt f - 1)) (nI (cnt f)) b) (fun s x w => x = nI (s + 1) ∧ WQ f s w) (fun o => ∃ w', o = some (lN (qW f (2 ^ cnt f - 1)), w')) (2 ^ cnt f - 1) ?_ ?_ FU 0 _ _ (by omega) (FU_lt (by omega)) ⟨rfl, fun t h => by
    have : t = 0 := by omega
    subst this
    exact pk_uLs⟩
  · rintro s hs x w K ⟨rfl, hw⟩
    have s12 : s + 1 < 4096 := by omega
    obtain ⟨l1, l2, l3, l4⟩ := lob_spec (s := s + 1) (by omega) s12
    have ln := lob_n (n := cnt f) (s := s + 1) (by omega) (by omega) n12
    have wl := wo1_lt s12 l1
    have c4 : ∀ {β : Type} (k : Option β), ck (nI (s + 1)) 4096 k = k := fun k => ck_n s12 (by omega) k
    have lw : low (nI (s + 1)).toInt64 (lob (s + 1)) := ⟨by omega, by rw [bt_nI (by omega)]; exact l1, fun i hi => by rw [bt_nI (by omega)]; exact l3 i hi⟩
    rw [mo_paired_B18, if_neg (nI_nlt (by omega) (by omega)), c4, nm_eq, cl_n (by omega), mo_lowest_eq lw, bd1_some, nm_eq, nI_1]
    refine ivl2 (B := mo_paired_B41 (nI (2 ^ cnt f - 1)) (nI (s + 1)) (nI (lob (s + 1))) (nI (cnt f)) b K) (fun i a w => a = nI (lob (s + 1) + 1 + i) ∧ WQ f s w ∧ w (s + 1) = lN (fb_sm (qTm f (qW f) (s + 1)) (lob (s + 1) + 1 + i))) (fun o => ∃ a' b', (a' = nI (s + 1 + 1) ∧ WQ f (s + 1) b') ∧ o = K a' b') (cnt f - (lob (s + 1) + 1)) ?_ ?_ FU 0 _ _ (by omega) (FU_lt (by omega)) ⟨rfl, fun t ht => by rw [pk_uLn (by omega)]; exact hw t ht, by rw [pk_uLs, Nat.add_zero, q_pre (by omega) s12]; rfl⟩
    · rintro i hi a w k ⟨rfl, h1, h2⟩
      generalize ej : lob (s + 1) + 1 + i = j at *
      have jn : j < cnt f := by omega
      have ej2 : lob (s + 1) + 1 + (i + 1) = j + 1 := by omega
      rw [ej2]
      have es : fb_sm (qTm f (qW f) (s + 1)) (j + 1) = fb_sm (qTm f (qW f) (s + 1)) j + qTm f (qW f) (s + 1) j := fb_sm_succ _ _
      have skip : qTm f (qW f) (s + 1) j = 0 → ∃ a' b', (a' = nI (j + 1) ∧ WQ f s b' ∧ b' (s + 1) = lN (fb_sm (qTm f (qW f) (s + 1)) (j + 1))) ∧ mo_paired_J107 K k (nI (cnt f)) b (nI (2 ^ cnt f - 1)) (nI (s + 1)) (nI (lob (s + 1))) (nI j) w = k a' b' := by
        intro z
        rw [mo_paired_J107, nm_eq, o1]
        exact ⟨_, _, ⟨rfl, h1, by rw [h2, es, z]; rfl⟩, rfl⟩
      rw [mo_paired_B41, if_neg (nI_ge jn (by omega)), mo_has_n (by omega) (by omega), bd1_some]
      cases ht : (s + 1).testBit j with
      | false =>
        rw [if_pos (by decide)]
        apply skip
        unfold qTm
        rw [if_neg (fun c => by rw [ht] at c; cases c.1)]
      | true =>
        have bl := bsN_lt f (lob (s + 1)) (cnt f)
        rw [if_neg (by decide), ck_n (show lob (s + 1) < 12 by omega) (by omega), cl_n (show lob (s + 1) < 2 ^ 31 by omega), hb _ ln, mo_has_n (by omega) (by omega), bd1_some, bsN_bit, decide_eq_true jn, Bool.true_and]
        cases hA : adjb (ith f (lob (s + 1))) (ith f j) with
        | false =>
          rw [if_pos (by decide)]
          apply skip
          unfold qTm
          rw [if_neg (fun c => by rw [hA] at c; cases c.2)]
        | true =>
          have w2 := wo2_lt (j := j) (s := s + 1) (by omega) s12
          have ei : (nI (s + 1) &&& ((il 1 (nI (lob (s + 1)))) ^^^ (-1))) &&& ((il 1 (nI j)) ^^^ (-1)) = nI (wo2 (s + 1) j) := by
            rw [wo1_n _ _ l4, wo1_n _ _ (by omega)]; rfl
          rw [if_neg (by decide), c4, nm_eq, ei, ck_n (show wo2 (s + 1) j < 4096 by omega) (by omega), nm_eq, c4, nm_eq, cl_n (show s + 1 < 2 ^ 31 by omega), cl_n (show wo2 (s + 1) j < 2 ^ 31 by omega), mo_paired_J107, nm_eq, o1, h2, h1 _ (by omega), lN_add]
          refine ⟨_, _, ⟨rfl, fun t tt => by rw [pk_uLn (by omega)]; exact h1 t tt, ?_⟩, rfl⟩
          rw [pk_uLs, es]
          unfold qTm
          rw [if_pos ⟨ht, hA⟩]
    · rintro a w k ⟨rfl, h1, h2⟩
      rw [show lob (s + 1) + 1 + (cnt f - (lob (s + 1) + 1)) = cnt f by omega] at *
      rw [mo_paired_B41, if_pos (nI_le (Nat.le_refl _) (by omega)), nm_eq, o1]
      refine ⟨_, _, ⟨rfl, fun t tt => ?_⟩, rfl⟩
      by_cases qt : t = s + 1
      · rw [qt, h2, qW_eq (by omega) s12]
      · exact h1 t (by omega)
  · rintro x w K ⟨rfl, hw⟩
    rw [mo_paired_B18, if_pos (nI_lt (by omega) (by omega)), ck_n (show 2 ^ cnt f - 1 < 4096 by omega) (by omega), cl_n (by omega), hw _ (Nat.le_refl _)]
    exact ⟨_, rfl⟩
def TQ (f : Int64) (s : Nat) (w : Nat → Int32) : Prop := ∀ t, t ≤ s → w t = nI (qW f t)
theorem pairings_eq {f : Int64} (hf : FIG f) {b : Nat → Int32} (hb : NEb f (cnt f) b) (w : Nat → Int32) : ∃ w', pa_pairings (nI (cnt f)) b w = some (lN (qW f (2 ^ cnt f - 1)), w') := by
  have n12 := hf.2.2.2.1
  have p12 := pw12 n12
  have hp := cnt_pos' hf
  have ph := pw_half hp
  have p1 : 0 < 2 ^ (cnt f - 1) := Nat.pow_pos (by omega)
  have c0 : ∀ {β : Type} (k : Option β), ck 0 4096 k = k := fun k => ck_n (n := 0) (by omega) (by omega) k
  rw [pa_pairings, nm_eq, il_n ⟨cnt f, by omega⟩, c0, nm_eq]
  refine ivl2 (B := pa_pairings_B16 (nI (2 ^ cnt f)) (nI (cnt f)) b) (fun s x w => x = nI (s + 1) ∧ TQ f s w) (fun o => ∃ w', o = some (lN (qW f (2 ^ cnt f - 1)), w')) (2 ^ cnt f - 1) ?_ ?_ FU 0 _ _ (by omega) (FU_lt (by omega)) ⟨rfl, fun t h => by
    have : t = 0 := by omega
    subst this
    exact pk_us⟩
  · rintro s hs x w K ⟨rfl, hw⟩
    have s12 : s + 1 < 4096 := by omega
    obtain ⟨l1, l2, l3, l4⟩ := lob_spec (s := s + 1) (by omega) s12
    have ln := lob_n (n := cnt f) (s := s + 1) (by omega) (by omega) n12
    have wl := wo1_lt s12 l1
    have bl := bsN_lt f (lob (s + 1)) (cnt f)
    have al : bsN f (lob (s + 1)) (cnt f) &&& (s + 1) ≤ bsN f (lob (s + 1)) (cnt f) := Nat.and_le_left
    have c4 : ∀ {β : Type} (k : Option β), ck (nI (s + 1)) 4096 k = k := fun k => ck_n s12 (by omega) k
    rw [pa_pairings_B16, if_neg (nI_ge (show s + 1 < 2 ^ cnt f by omega) (by omega)), nm_eq, l2, ji_m1 ⟨lob (s + 1), l4⟩, bd1_some, ck_n l4 (by omega), nm_eq, c4, nm_eq, cl_n (show lob (s + 1) < 2 ^ 31 by omega), cl_n (show s + 1 < 2 ^ 31 by omega), hb _ ln, nI_and]
    refine ivl2 (B := pa_pairings_B51 (nI (2 ^ cnt f)) (nI (s + 1)) (nI (2 ^ lob (s + 1))) (nI (bsN f (lob (s + 1)) (cnt f) &&& (s + 1))) (nI (cnt f)) b K) (fun j a w => a = nI j ∧ TQ f s w ∧ w (s + 1) = nI (fb_sm (qTm f (qW f) (s + 1)) j)) (fun o => ∃ a' b', (a' = nI (s + 1 + 1) ∧ TQ f (s + 1) b') ∧ o = K a' b') (cnt f) ?_ ?_ FU 0 _ _ (by omega) (FU_lt (by omega)) ⟨rfl, fun t ht => by rw [pk_un (by omega)]; exact hw t ht, pk_us⟩
    · rintro j jn a w k ⟨rfl, h1, h2⟩
      have es : fb_sm (qTm f (qW f) (s + 1)) (j + 1) = fb_sm (qTm f (qW f) (s + 1)) j + qTm f (qW f) (s + 1) j := fb_sm_succ _ _
      have bit : (bsN f (lob (s + 1)) (cnt f) &&& (s + 1)).testBit j = (adjb (ith f (lob (s + 1))) (ith f j) && (s + 1).testBit j) := by
        rw [Nat.testBit_and, bsN_bit, decide_eq_true jn, Bool.true_and]
      rw [pa_pairings_B51, if_neg (nI_ge jn (by omega)), ir_n (by omega) (by omega), bit]
      by_cases q : (s + 1).testBit j = true ∧ adjb (ith f (lob (s + 1))) (ith f j) = true
      · have ne : j ≠ lob (s + 1) := by
          rintro rfl
          have := q.2
          rw [adjb_irr] at this; cases this
        have w2 := wo2_lt (j := j) (s := s + 1) (by omega) s12
        have ex : ((s + 1) ^^^ 2 ^ lob (s + 1)) ^^^ 2 ^ j = wo2 (s + 1) j := by
          apply Nat.eq_of_testBit_eq
          intro m
          unfold wo2
          rw [wo1_bit (by omega), wo1_bit s12, fb_bit_flip, fb_bit_flip]
          by_cases m1 : m = j
          · subst m1
            rw [decide_eq_true rfl, decide_eq_false ne, q.1]; rfl
          · rw [decide_eq_false m1]
            by_cases m2 : m = lob (s + 1)
            · subst m2
              rw [decide_eq_true rfl, l1]; rfl
            · rw [decide_eq_false m2]
              cases (s + 1).testBit m <;> rfl
        rw [q.1, q.2, if_neg (by decide), c4, nm_eq, il_n ⟨j, by omega⟩, fb_xorI, fb_xorI, ex, ck_n (show wo2 (s + 1) j < 4096 by omega) (by omega), nm_eq, c4, nm_eq, cl_n (show s + 1 < 2 ^ 31 by omega), cl_n (show wo2 (s + 1) j < 2 ^ 31 by omega), pa_pairings_J92, nm_eq, o1, h2, h1 _ (by omega), nI_add]
        refine ⟨_, _, ⟨rfl, fun t tt => by rw [pk_un (by omega)]; exact h1 t tt, ?_⟩, rfl⟩
        rw [pk_us, es]
        unfold qTm
        rw [if_pos q]
      · have z : qTm f (qW f) (s + 1) j = 0 := by unfold qTm; rw [if_neg q]
        have zb : (adjb (ith f (lob (s + 1))) (ith f j) && (s + 1).testBit j) = false := by
          cases h3 : adjb (ith f (lob (s + 1))) (ith f j) with
          | false => rfl
          | true =>
            cases h4 : (s + 1).testBit j with
            | false => rfl
            | true => exact absurd ⟨h4, h3⟩ q
        rw [zb, if_pos (by decide), pa_pairings_J92, nm_eq, o1]
        exact ⟨_, _, ⟨rfl, h1, by rw [h2, es, z]; rfl⟩, rfl⟩
    · rintro a w k ⟨rfl, h1, h2⟩
      rw [pa_pairings_B51, if_pos (nI_le (Nat.le_refl _) (by omega)), nm_eq, o1]
      refine ⟨_, _, ⟨rfl, fun t tt => ?_⟩, rfl⟩
      by_cases qt : t = s + 1
      · rw [qt, h2, qW_eq (by omega) s12]
      · exact h1 t (by omega)
  · rintro x w K ⟨rfl, hw⟩
    have e : nI (2 ^ cnt f) - 1 = nI (2 ^ cnt f - 1) := nI_m1 (by omega)
    rw [pa_pairings_B16, if_pos (nI_le (show 2 ^ cnt f ≤ 2 ^ cnt f - 1 + 1 by omega) (by omega)), nm_eq, e, ck_n (show 2 ^ cnt f - 1 < 4096 by omega) (by omega), cl_n (by omega), hw _ (Nat.le_refl _), nI_l (qW_b hf (by omega))]
    exact ⟨_, rfl⟩
