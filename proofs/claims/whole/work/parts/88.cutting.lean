/-! both search all cuttings in one order -/
theorem dq {s a b : Nat} (ha : a < 14) (hb : b < 14) : (196 * s + 14 * a + b) / 196 = s ∧ (196 * s + 14 * a + b) / 14 % 14 = a ∧ (196 * s + 14 * a + b) % 14 = b := by
  refine ⟨by omega, by omega, by omega⟩
theorem note_q (v1 v2 v3 v4 cu ba pl la lb lc : Int32) : ol_note v1 v2 v3 v4 cu ba pl la lb lc = some (cu + 1, if v4 = 0 then ba + 1 else ba, if cu = 0 then v1 else pl, if cu = 0 then v2 else la, if cu = 0 then v3 else lb, if cu = 0 then v4 else lc) := by
  rw [ol_note, ol_note_J28, ol_note_J28]
  simp only [nm_eq]
  by_cases q : cu = 0
  · rw [if_pos q, if_pos q, if_pos q, if_pos q, if_pos q]
    by_cases z : v4 = 0
    · rw [if_pos z, if_pos z]
    · rw [if_neg z, if_neg z]
  · rw [if_neg q, if_neg q, if_neg q, if_neg q, if_neg q]
    by_cases z : v4 = 0
    · rw [if_pos z, if_pos z]
    · rw [if_neg z, if_neg z]
theorem CI_at {W : Nat → Nat} {h s a b : Nat} {cu ba pl la lb lc : Int32} (h13 : h ≤ 13) (hc : CI W h (196 * s + 14 * a + b) cu ba pl la lb lc) (hs : s < h) (ha : a < 14) (hb : b < 14) (hp : ctP W h s a b) : CI W h (196 * s + 14 * a + (b + 1)) (cu + 1) (if nI (h - a - b) = 0 then ba + 1 else ba) (if cu = 0 then nI s else pl) (if cu = 0 then nI a else la) (if cu = 0 then nI b else lb) (if cu = 0 then nI (h - a - b) else lc) := by
  obtain ⟨d1, d2, d3⟩ := dq (s := s) ha hb
  have := CI_hit hc (by omega) h13 (ctB_t.mpr (by rw [d1, d2, d3]; exact hp))
  rw [d1, d2, d3] at this
  exact this
theorem CI_no {W : Nat → Nat} {h s a b : Nat} {cu ba pl la lb lc : Int32} (hc : CI W h (196 * s + 14 * a + b) cu ba pl la lb lc) (ha : a < 14) (hb : b < 14) (hp : ¬ ctP W h s a b) : CI W h (196 * s + 14 * a + (b + 1)) cu ba pl la lb lc := by
  obtain ⟨d1, d2, d3⟩ := dq (s := s) ha hb
  refine CI_skip hc (by omega) (fun q' h1 h2 => ?_)
  rw [show q' = 196 * s + 14 * a + b by omega]
  exact ctB_f (by rw [d1, d2, d3]; exact hp)
/-- on to the next A -/
theorem CI_a {W : Nat → Nat} {h s a b : Nat} {cu ba pl la lb lc : Int32} (h13 : h ≤ 13) (hc : CI W h (196 * s + 14 * a + b) cu ba pl la lb lc) (ha : a < 13) (hb : b ≤ 14) (hn : ∀ b', b ≤ b' → ¬ ctP W h s a b') : CI W h (196 * s + 14 * (a + 1) + 1) cu ba pl la lb lc := by
  refine CI_skip hc (by omega) (fun q' h1 h2 => ctB_f (fun hp => ?_))
  rcases Nat.lt_or_ge q' (196 * s + 14 * (a + 1)) with z | z
  · obtain ⟨d1, d2, d3⟩ := dq (s := s) (a := a) (b := q' - (196 * s + 14 * a)) (by omega) (by omega)
    rw [show 196 * s + 14 * a + (q' - (196 * s + 14 * a)) = q' by omega] at d1 d2 d3
    rw [d1, d2, d3] at hp
    exact hn _ (by omega) hp
  · have := hp.2.2.1
    omega
/-- on to the next place -/
theorem CI_s {W : Nat → Nat} {h s : Nat} {cu ba pl la lb lc : Int32} (h1 : 1 ≤ h) (h13 : h ≤ 13) (hc : CI W h (196 * s + 14 * h + 1) cu ba pl la lb lc) : CI W h (196 * (s + 1) + 15) cu ba pl la lb lc := by
  refine CI_skip hc (by omega) (fun q' h1 h2 => ctB_f (fun hp => ?_))
  have a1 := hp.2.1
  have a2 := hp.2.2.1
  have a3 := hp.2.2.2.1
  omega
theorem CI_15 {W : Nat → Nat} {h : Nat} (pl la lb lc : Int32) : CI W h 15 0 0 pl la lb lc := by
  refine CI_skip (CI_0 W h pl la lb lc) (by omega) (fun q' h1 h2 => ctB_f (fun hp => ?_))
  have a1 := hp.2.1
  have a2 := hp.2.2.1
  omega
theorem cutFrom_eq {W : Nat → Nat} {h : Nat} (hW : LTR W h) {le : Nat → Int32} (hle : ∀ i, i < 4 * h → le i = nI (W i)) {s a : Nat} (hs : s < h) (ha : 1 ≤ a) (hah : a < h) (hop : opP W h s a) {cu ba pl la lb lc : Int32} (hc : CI W h (196 * s + 14 * a + 1) cu ba pl la lb lc) : ∃ cu' ba' pl' la' lb' lc', ol_cutFrom (nI s) (nI a) (nI (2 * h)) cu ba pl la lb lc le = some (cu', ba', pl', la', lb', lc') ∧ CI W h (196 * s + 14 * a + (h - a + 1)) cu' ba' pl' la' lb' lc' := by
  have h13 := hW.2.2.2
  rw [ol_cutFrom, dzI_n (by decide), hlf_n h13, nm_eq]
  refine ivl7 (B := ol_cutFrom_B10 (nI s) (nI a) (nI h) (nI (2 * h)) le) (fun t v cu ba pl la lb lc => v = nI (t + 1) ∧ CI W h (196 * s + 14 * a + (t + 1)) cu ba pl la lb lc) (fun o => ∃ cu' ba' pl' la' lb' lc', o = some (cu', ba', pl', la', lb', lc') ∧ CI W h (196 * s + 14 * a + (h - a + 1)) cu' ba' pl' la' lb' lc') (h - a) ?_ ?_ FU 0 _ _ _ _ _ _ _ (by omega) (FU_lt (by omega)) ⟨rfl, hc⟩
  · rintro t ht v cu ba pl la lb lc kq ⟨rfl, hc⟩
    have io1 := isOpposed_eq hW hle (st := s + a) (sz := t + 1) (by omega)
    have io2 := isOpposed_eq hW hle (st := s + a + (t + 1)) (sz := h - a - (t + 1)) (by omega)
    rw [ol_cutFrom_B10, nI_add a (t + 1), if_neg (i32_nlt.mpr (nI_le (show a + (t + 1) ≤ h by omega) (by omega))), pk_sub (show a ≤ h by omega), pk_sub (show t + 1 ≤ h - a by omega), nm_eq, nI_add s a, io1, bd1_some, nI_add (s + a) (t + 1), io2, bd1_some]
    cases q1 : opB W h (s + a) (t + 1) with
    | false =>
      rw [if_pos boI_f, ol_cutFrom_J63, nm_eq, o1]
      exact ⟨_, _, _, _, _, _, _, ⟨rfl, CI_no hc (by omega) (by omega) (fun hp => opB_f.mp q1 hp.2.2.2.2.2.1)⟩, rfl⟩
    | true =>
      rw [if_neg (show ¬ boI true = 0 by decide)]
      cases q2 : opB W h (s + a + (t + 1)) (h - a - (t + 1)) with
      | false =>
        rw [if_pos boI_f, ol_cutFrom_J63, nm_eq, o1]
        exact ⟨_, _, _, _, _, _, _, ⟨rfl, CI_no hc (by omega) (by omega) (fun hp => opB_f.mp q2 hp.2.2.2.2.2.2)⟩, rfl⟩
      | true =>
        rw [if_neg (show ¬ boI true = 0 by decide), note_q, bd6_some, ol_cutFrom_J63, nm_eq, o1]
        exact ⟨_, _, _, _, _, _, _, ⟨rfl, CI_at h13 hc hs (by omega) (by omega) ⟨hs, ha, by omega, by omega, hop, opB_t.mp q1, opB_t.mp q2⟩⟩, rfl⟩
  · rintro v cu ba pl la lb lc kq ⟨rfl, hc⟩
    rw [ol_cutFrom_B10, nI_add a (h - a + 1), if_pos (i32_nle.mp (nI_ge (show h < a + (h - a + 1) by omega) (by omega)))]
    exact ⟨_, _, _, _, _, _, rfl, hc⟩
theorem cut_eq {W : Nat → Nat} {h : Nat} (hW : LTR W h) {le : Nat → Int32} (hle : ∀ i, i < 4 * h → le i = nI (W i)) (cu ba pl la lb lc : Int32) : ∃ cu' ba' pl' la' lb' lc', ol_cut (nI (2 * h)) cu ba pl la lb lc le = some (cu', ba', pl', la', lb', lc') ∧ CI W h (196 * h + 15) cu' ba' pl' la' lb' lc' := by
  have h13 := hW.2.2.2
  have h1 := hW.2.2.1
  rw [ol_cut, dzI_n (by decide), hlf_n h13, nm_eq]
  refine ivl7 (B := ol_cut_B19 (nI h) (nI (2 * h)) le) (fun s v cu ba pl la lb lc => v = nI s ∧ CI W h (196 * s + 15) cu ba pl la lb lc) (fun o => ∃ cu' ba' pl' la' lb' lc', o = some (cu', ba', pl', la', lb', lc') ∧ CI W h (196 * h + 15) cu' ba' pl' la' lb' lc') h ?_ ?_ FU 0 _ _ _ _ _ _ _ (by omega) (FU_lt (by omega)) ⟨rfl, CI_15 pl la lb lc⟩
  · rintro s hs v cu ba pl la lb lc kq ⟨rfl, hc⟩
    rw [ol_cut_B19, if_neg (nI_ge hs (by omega))]
    have inner : ∃ cu' ba' pl' la' lb' lc', fl7 (ol_cut_B26 (nI h) (nI s) (nI (2 * h)) le kq) FU 1 cu ba pl la lb lc = kq (nI (s + 1)) cu' ba' pl' la' lb' lc' ∧ CI W h (196 * s + 14 * h + 1) cu' ba' pl' la' lb' lc' := by
      refine ivl7 (B := ol_cut_B26 (nI h) (nI s) (nI (2 * h)) le kq) (fun t v cu ba pl la lb lc => v = nI (t + 1) ∧ CI W h (196 * s + 14 * (t + 1) + 1) cu ba pl la lb lc) (fun o => ∃ cu' ba' pl' la' lb' lc', o = kq (nI (s + 1)) cu' ba' pl' la' lb' lc' ∧ CI W h (196 * s + 14 * h + 1) cu' ba' pl' la' lb' lc') (h - 1) ?_ ?_ FU 0 _ _ _ _ _ _ _ (by omega) (FU_lt (by omega)) ⟨rfl, hc⟩
      · rintro t ht v cu ba pl la lb lc kk ⟨rfl, hc⟩
        have io := isOpposed_eq hW hle (st := s) (sz := t + 1) (by omega)
        rw [ol_cut_B26, if_neg (nI_ge (show t + 1 < h by omega) (by omega)), io, bd1_some]
        cases q1 : opB W h s (t + 1) with
        | false =>
          rw [if_pos boI_f, ol_cut_J46, nm_eq, o1]
          exact ⟨_, _, _, _, _, _, _, ⟨rfl, CI_a h13 hc (by omega) (by omega) (fun b' _ hp => opB_f.mp q1 hp.2.2.2.2.1)⟩, rfl⟩
        | true =>
          obtain ⟨cu', ba', pl', la', lb', lc', r1, r2⟩ := cutFrom_eq hW hle hs (show 1 ≤ t + 1 by omega) (by omega) (opB_t.mp q1) hc
          rw [if_neg (show ¬ boI true = 0 by decide), r1, bd6_some, ol_cut_J46, nm_eq, o1]
          exact ⟨_, _, _, _, _, _, _, ⟨rfl, CI_a h13 r2 (by omega) (by omega) (fun b' hb hp => by have := hp.2.2.2.1; omega)⟩, rfl⟩
      · rintro v cu ba pl la lb lc kk ⟨rfl, hc⟩
        rw [show h - 1 + 1 = h by omega] at hc ⊢
        rw [ol_cut_B26, if_pos (nI_le (Nat.le_refl _) (by omega)), nm_eq, o1]
        exact ⟨_, _, _, _, _, _, rfl, hc⟩
    obtain ⟨cu', ba', pl', la', lb', lc', r1, r2⟩ := inner
    rw [r1]
    exact ⟨_, _, _, _, _, _, _, ⟨rfl, CI_s h1 h13 r2⟩, rfl⟩
  · rintro v cu ba pl la lb lc kq ⟨rfl, hc⟩
    rw [ol_cut_B19, if_pos (nI_le (Nat.le_refl _) (by omega))]
    exact ⟨_, _, _, _, _, _, rfl, hc⟩
theorem i32_a0 (x : Int32) : x + 0 = x := by
  obtain ⟨z, rfl⟩ : ∃ z : Int, x = Int32.ofInt z := ⟨x.toInt, (fb_asI x).symm⟩
  rw [show (0 : Int32) = Int32.ofInt 0 from rfl, ← Int32.ofInt_add, Int.add_zero]
theorem lays_in {W : Nat → Nat} {h : Nat} (hW : LTR W h) {le : Nat → Int32} (hle : ∀ i, i < 2 * h → le i = nI (W i)) {s a : Nat} (hs : s < h) (ha : 1 ≤ a) (hah : a < h) (hop : opP W h s a) (k19 k26 : Int32 → Int32 → Int32 → Int32 → Int32 → Int32 → Option (Int32 × Int32 × Int32 × Int32 × Int32)) {cu ba pl la lb lc : Int32} (hc : CI W h (196 * s + 14 * a + 1) cu ba pl la lb lc) : ∃ cu' ba' pl' la' lb' lc', fl6 (mo_laysCuttings_B49 (nI h) (nI s) (nI a) (nI (2 * h)) le k19 k26) FU 1 cu ba pl la lb = k26 (nI (a + 1)) cu' ba' pl' la' lb' ∧ CI W h (196 * s + 14 * a + (h - a + 1)) cu' ba' pl' la' lb' lc' := by
  have h13 := hW.2.2.2
  refine ivl6 (B := mo_laysCuttings_B49 (nI h) (nI s) (nI a) (nI (2 * h)) le k19 k26) (fun t v cu ba pl la lb => v = nI (t + 1) ∧ ∃ lc, CI W h (196 * s + 14 * a + (t + 1)) cu ba pl la lb lc) (fun o => ∃ cu' ba' pl' la' lb' lc', o = k26 (nI (a + 1)) cu' ba' pl' la' lb' ∧ CI W h (196 * s + 14 * a + (h - a + 1)) cu' ba' pl' la' lb' lc') (h - a) ?_ ?_ FU 0 _ _ _ _ _ _ (by omega) (FU_lt (by omega)) ⟨rfl, lc, hc⟩
  · rintro t ht v cu ba pl la lb kq ⟨rfl, lc, hc⟩
    have io1 := comesAgain_eq hW hle (st := s + a) (sz := t + 1) (by omega)
    have io2 := comesAgain_eq hW hle (st := s + a + (t + 1)) (sz := h - a - (t + 1)) (by omega)
    rw [show s + a + h = s + h + a by omega] at io1
    rw [show s + a + (t + 1) + h = s + h + a + (t + 1) by omega] at io2
    rw [mo_laysCuttings_B49, nI_add a (t + 1), if_neg (i32_nlt.mpr (nI_le (show a + (t + 1) ≤ h by omega) (by omega))), pk_sub (show a ≤ h by omega), pk_sub (show t + 1 ≤ h - a by omega), nm_eq, nI_add s a, nI_add s h, nI_add (s + h) a, io1, bd1_some, nI_add (s + a) (t + 1), nI_add (s + h + a) (t + 1), io2, bd1_some]
    cases q1 : opB W h (s + a) (t + 1) with
    | false =>
      rw [if_pos boI_f, mo_laysCuttings_J160, nm_eq, o1]
      exact ⟨_, _, _, _, _, _, ⟨rfl, lc, CI_no hc (by omega) (by omega) (fun hp => opB_f.mp q1 hp.2.2.2.2.2.1)⟩, rfl⟩
    | true =>
      rw [if_neg (show ¬ boI true = 0 by decide)]
      cases q2 : opB W h (s + a + (t + 1)) (h - a - (t + 1)) with
      | false =>
        rw [if_pos boI_f, mo_laysCuttings_J160, nm_eq, o1]
        exact ⟨_, _, _, _, _, _, ⟨rfl, lc, CI_no hc (by omega) (by omega) (fun hp => opB_f.mp q2 hp.2.2.2.2.2.2)⟩, rfl⟩
      | true =>
        have hit := CI_at h13 hc hs (by omega) (by omega) ⟨hs, ha, by omega, by omega, hop, opB_t.mp q1, opB_t.mp q2⟩
        rw [if_neg (show ¬ boI true = 0 by decide)]
        simp only [mo_laysCuttings_J131, mo_laysCuttings_J156, mo_laysCuttings_J160, nm_eq, o1, i32_a0]
        refine ⟨_, _, _, _, _, _, ⟨rfl, _, hit⟩, ?_⟩
        by_cases z : cu = 0
        · rw [if_pos z, if_pos z, if_pos z, if_pos z]
          by_cases y : nI (h - a - (t + 1)) = 0
          · rw [if_pos y, if_pos y]
          · rw [if_neg y, if_neg y]
        · rw [if_neg z, if_neg z, if_neg z, if_neg z]
          by_cases y : nI (h - a - (t + 1)) = 0
          · rw [if_pos y, if_pos y]
          · rw [if_neg y, if_neg y]
  · rintro v cu ba pl la lb kq ⟨rfl, lc, hc⟩
    rw [mo_laysCuttings_B49, nI_add a (h - a + 1), if_pos (i32_nle.mp (nI_ge (show h < a + (h - a + 1) by omega) (by omega))), mo_laysCuttings_J166, nm_eq, o1]
    exact ⟨_, _, _, _, _, _, rfl, hc⟩
theorem lays_eq {W : Nat → Nat} {h : Nat} (hW : LTR W h) {le : Nat → Int32} (hle : ∀ i, i < 2 * h → le i = nI (W i)) (cu ba pl la lb : Int32) : ∃ cu' ba' pl' la' lb' lc', mo_laysCuttings (nI (2 * h)) cu ba pl la lb le = some (cu', ba', pl', la', lb') ∧ CI W h (196 * h + 15) cu' ba' pl' la' lb' lc' := by
  have h13 := hW.2.2.2
  have h1 := hW.2.2.1
  rw [mo_laysCuttings, dzI_n (by decide), hlf_n h13, nm_eq]
  refine ivl6 (B := mo_laysCuttings_B19 (nI h) (nI (2 * h)) le) (fun s v cu ba pl la lb => v = nI s ∧ ∃ lc, CI W h (196 * s + 15) cu ba pl la lb lc) (fun o => ∃ cu' ba' pl' la' lb' lc', o = some (cu', ba', pl', la', lb') ∧ CI W h (196 * h + 15) cu' ba' pl' la' lb' lc') h ?_ ?_ FU 0 _ _ _ _ _ _ (by omega) (FU_lt (by omega)) ⟨rfl, 0, CI_15 pl la lb 0⟩
  · rintro s hs v cu ba pl la lb kq ⟨rfl, lc, hc⟩
    rw [mo_laysCuttings_B19, if_neg (nI_ge hs (by omega))]
    have inner : ∃ cu' ba' pl' la' lb' lc', fl6 (mo_laysCuttings_B26 (nI h) (nI s) (nI (2 * h)) le kq) FU 1 cu ba pl la lb = kq (nI (s + 1)) cu' ba' pl' la' lb' ∧ CI W h (196 * s + 14 * h + 1) cu' ba' pl' la' lb' lc' := by
      refine ivl6 (B := mo_laysCuttings_B26 (nI h) (nI s) (nI (2 * h)) le kq) (fun t v cu ba pl la lb => v = nI (t + 1) ∧ ∃ lc, CI W h (196 * s + 14 * (t + 1) + 1) cu ba pl la lb lc) (fun o => ∃ cu' ba' pl' la' lb' lc', o = kq (nI (s + 1)) cu' ba' pl' la' lb' ∧ CI W h (196 * s + 14 * h + 1) cu' ba' pl' la' lb' lc') (h - 1) ?_ ?_ FU 0 _ _ _ _ _ _ (by omega) (FU_lt (by omega)) ⟨rfl, lc, hc⟩
      · rintro t ht v cu ba pl la lb kk ⟨rfl, lc, hc⟩
        have io := comesAgain_eq hW hle (st := s) (sz := t + 1) (by omega)
        rw [mo_laysCuttings_B26, if_neg (nI_ge (show t + 1 < h by omega) (by omega)), nI_add s h, io, bd1_some]
        cases q1 : opB W h s (t + 1) with
        | false =>
          rw [if_pos boI_f, mo_laysCuttings_J166, nm_eq, o1]
          exact ⟨_, _, _, _, _, _, ⟨rfl, lc, CI_a h13 hc (by omega) (by omega) (fun b' _ hp => opB_f.mp q1 hp.2.2.2.2.1)⟩, rfl⟩
        | true =>
          obtain ⟨cu', ba', pl', la', lb', lc', r1, r2⟩ := lays_in hW hle hs (show 1 ≤ t + 1 by omega) (by omega) (opB_t.mp q1) kq kk hc
          rw [if_neg (show ¬ boI true = 0 by decide), r1]
          exact ⟨_, _, _, _, _, _, ⟨rfl, lc', CI_a h13 r2 (by omega) (by omega) (fun b' hb hp => by have := hp.2.2.2.1; omega)⟩, rfl⟩
      · rintro v cu ba pl la lb kk ⟨rfl, lc, hc⟩
        rw [show h - 1 + 1 = h by omega] at hc ⊢
        rw [mo_laysCuttings_B26, if_pos (nI_le (Nat.le_refl _) (by omega)), nm_eq, o1]
        exact ⟨_, _, _, _, _, _, rfl, hc⟩
    obtain ⟨cu', ba', pl', la', lb', lc', r1, r2⟩ := inner
    rw [r1]
    exact ⟨_, _, _, _, _, _, ⟨rfl, lc', CI_s h1 h13 r2⟩, rfl⟩
  · rintro v cu ba pl la lb kq ⟨rfl, lc, hc⟩
    rw [mo_laysCuttings_B19, if_pos (nI_le (Nat.le_refl _) (by omega))]
    exact ⟨_, _, _, _, _, _, rfl, hc⟩
