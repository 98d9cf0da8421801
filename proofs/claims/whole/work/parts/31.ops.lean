/-! LAYER 2: back, feed, count -/
theorem nI_m1 {t : Nat} (h : 0 < t) : nI t - 1 = nI (t - 1) := by
  obtain ⟨k, rfl⟩ : ∃ k, t = k + 1 := ⟨t - 1, by omega⟩
  rw [nI_pred]; rfl
theorem mo_back_go {t : Nat} (ht : t < 10) (k : Nat → Int64) : ∀ (n d : Nat) (g : Nat → Int64), d ≤ 8 → 8 - d < n → fl2 (mo_back_B21 (nI t) k) n (nI d) g = some (nI t, nI t, fun i => if d ≤ i ∧ i < 8 then k (8 * t + i) else g i) := by
  intro n
  induction n with
  | zero => intro d g _ h; omega
  | succ n ih =>
    intro d g hd hn
    show mo_back_B21 (nI t) k (fl2 (mo_back_B21 (nI t) k) n) (nI d) g = _
    rw [mo_back_B21]
    by_cases q : d = 8
    · subst q
      rw [if_pos (show (8 : Int32) ≤ nI 8 from nI_le (a := 8) (b := 8) (by omega) (by omega))]
      congr 3
      funext i
      rw [if_neg (by omega)]
    · rw [if_neg (show ¬ (8 : Int32) ≤ nI d from nI_ge (a := d) (b := 8) (by omega) (by omega))]
      have e1 : (8 * nI t + nI d : Int32) = nI (8 * t + d) := by
        rw [show (8 : Int32) = nI 8 from rfl, pk_mul, nI_add]
      show ck (8 * nI t + nI d) 80 _ = _
      rw [e1, ck_n (by omega) (by omega), cl_n (by omega)]
      show ck (nI d) 8 _ = _
      rw [ck_n (show d < 8 by omega) (by omega), cl_n (by omega)]
      show fl2 (mo_back_B21 (nI t) k) n (nI d + nI 1) _ = _
      rw [nI_add, ih (d + 1) _ (by omega) (by omega)]
      congr 3
      funext i
      by_cases c1 : d + 1 ≤ i ∧ i < 8
      · rw [if_pos c1, if_pos (by omega)]
      · rw [if_neg c1, upL]
        by_cases c2 : i = d
        · rw [if_pos c2, if_pos (by omega), c2]
        · rw [if_neg c2, if_neg (by omega)]
theorem cf_back_in {t : Nat} (ht : t < 10) (g k : Nat → Int64) : cf_back (nI (t + 1)) g k = some (nI t, nI t, va_cpy k g (t * 8) 0 8) := by
  have e8 : nI t * 8 = nI (t * 8) := by rw [show (8 : Int32) = nI 8 from rfl, pk_mul]
  simp only [cf_back, nm]
  rw [if_pos (show (0 : Int32) < nI (t + 1) from nI_lt (a := 0) (b := t + 1) (by omega) (by omega)), nI_pred, e8, cl_n (by omega)]
  unfold cpk
  rw [if_pos]
  · rfl
  · refine ⟨nI_pos (by omega), by decide, by decide, ?_, by decide⟩
    rw [cl_n (by omega)]
    show t * 8 + 8 ≤ 80
    omega
theorem mo_back_in {t : Nat} (ht : t < 10) (h k2 : Nat → Int64) : mo_back (nI (t + 1)) h k2 = some (nI t, nI t, fun i => if 0 ≤ i ∧ i < 8 then k2 (8 * t + i) else h i) := by
  simp only [mo_back, nm]
  rw [if_neg (nI_ne0 (by omega) (by omega)), nI_pred, show (0 : Int32) = nI 0 from nI_0.symm]
  exact mo_back_go ht k2 FU 0 h (by omega) (FU_lt (by omega))
theorem opc_back {tk km : Int32} {g h k k2 : Nat → Int64} (hd : DR g h) (hk : KP tk km k k2) : ∃ r tk' g' km' h', cf_back tk g k = some (r, tk', g') ∧ mo_back km h k2 = some (r, km', h') ∧ KP tk' km' k k2 ∧ DR g' h' := by
  obtain ⟨t, ht, rfl, rfl, hp⟩ := hk
  cases t with
  | zero => exact ⟨-1, nI 0, g, nI 0, h, by unfold cf_back; rw [if_neg (by decide)], by unfold mo_back; rw [if_pos (by decide)], ⟨0, by omega, rfl, rfl, hp⟩, hd⟩
  | succ t =>
    refine ⟨_, _, _, _, _, cf_back_in (by omega) g k, mo_back_in (by omega) h k2, ⟨t, by omega, rfl, rfl, fun i hi => hp i (by omega)⟩, ?_⟩
    intro i hi
    have e1 : va_cpy k g (t * 8) 0 8 i = k (8 * t + i) := by
      unfold va_cpy; rw [if_pos (by omega)]; congr 1; omega
    show (va_cpy k g (t * 8) 0 8 i = (if 0 ≤ i ∧ i < 8 then k2 (8 * t + i) else h i) ∧ _)
    rw [e1, if_pos (by omega)]
    exact hp _ (by omega)
/-! feed -/
def wb (v : Int32) (s : Nat) : Int32 := vp_nar .byte (i8 (ui v (nI s)))
def up4 (g : Nat → Int32) (m : Nat) (v : Int32) : Nat → Int32 := upd (upd (upd (upd g m (wb v 24)) (m + 1) (wb v 16)) (m + 2) (wb v 8)) (m + 3) (wb v 0)
theorem sh32_l : ∀ n : Fin 32, ((nI n.val &&& 31).toBitVec.smod 32).toNat = n.val := by decide
theorem sh32_u : ∀ n : Fin 32, (((nI n.val).toUInt32 &&& Int32.toUInt32 31).toBitVec % 32).toNat = n.val := by decide
theorem i8_sh (v : Int32) {s : Nat} (hs : s ≤ 24) : i8 (ir v (nI s)) = i8 (ui v (nI s)) := by
  unfold i8
  congr 1
  apply Int8.toBitVec_inj.mp
  apply BitVec.eq_of_getLsbD_eq
  intro i hi
  have h1 : ∀ x : Int32, x.toInt8.toBitVec.getLsbD i = x.toBitVec.getLsbD i := by
    intro x
    show (x.toBitVec.signExtend 8).getLsbD i = _
    rw [BitVec.signExtend_eq_setWidth_of_le _ (by omega), BitVec.getLsbD_setWidth]
    simp [hi]
  rw [h1, h1]
  have e1 : (ui v (nI s)).toBitVec.getLsbD i = v.toBitVec.getLsbD (s + i) := by
    show (v.toUInt32 >>> ((nI s).toUInt32 &&& Int32.toUInt32 31)).toBitVec.getLsbD i = _
    rw [UInt32.toBitVec_shiftRight, BitVec.ushiftRight_eq', sh32_u ⟨s, by omega⟩, BitVec.getLsbD_ushiftRight]
    rfl
  have e2 : (ir v (nI s)).toBitVec.getLsbD i = v.toBitVec.getLsbD (s + i) := by
    show (v >>> (nI s &&& 31)).toBitVec.getLsbD i = _
    rw [Int32.toBitVec_shiftRight, BitVec.sshiftRight_eq', sh32_l ⟨s, by omega⟩, BitVec.getLsbD_sshiftRight]
    have a1 : ¬ 32 ≤ i := by omega
    have a2 : s + i < 32 := by omega
    simp [a1, a2]
  rw [e1, e2]
theorem cf_append_eq (v : Int32) (g : Nat → Int32) {m : Nat} (hm : m + 4 ≤ 120) : cf_append v (nI m) g = some (nI (m + 4), up4 g m v) := by
  have c : ∀ j, j < 120 → ¬ ((120 : Int32) ≤ nI j) := fun j hj => nI_ge (a := j) (b := 120) hj (by omega)
  have st : ∀ (n s j : Nat) (x : Nat → Int32), s ≤ 24 → j < 120 → fl3 (cf_append_B3 v) (n + 1) (nI s) (nI j) x = fl3 (cf_append_B3 v) n (nI s + Int32.ofInt (-8)) (nI (j + 1)) (upd x j (wb v s)) := by
    intro n s j x hs hj
    show cf_append_B3 v (fl3 (cf_append_B3 v) n) (nI s) (nI j) x = _
    rw [cf_append_B3, if_neg (nI_pos (by omega)), if_neg (c j hj)]
    simp only [nm, cf_append_J42, ck_n hj (show 120 < 2 ^ 31 by omega), cl_n (show j < 2 ^ 31 by omega), nI_1, wb]
  obtain ⟨q, hq⟩ := FU_s 5 (by omega)
  show fl3 (cf_append_B3 v) FU (nI 24) (nI m) g = _
  rw [hq]
  show fl3 (cf_append_B3 v) (q + 1 + 1 + 1 + 1 + 1) (nI 24) (nI m) g = _
  rw [st _ 24 m g (by omega) (by omega), show nI 24 + Int32.ofInt (-8) = nI 16 by decide, st _ 16 (m + 1) _ (by omega) (by omega), show nI 16 + Int32.ofInt (-8) = nI 8 by decide, st _ 8 (m + 1 + 1) _ (by omega) (by omega), show nI 8 + Int32.ofInt (-8) = nI 0 by decide, st _ 0 (m + 1 + 1 + 1) _ (by omega) (by omega)]
  show cf_append_B3 v _ (nI 0 + Int32.ofInt (-8)) _ _ = _
  rw [cf_append_B3, if_pos (by decide)]; rfl
theorem mo_typed4_eq (v : Int32) (g : Nat → Int32) {m : Nat} (hm : m + 4 ≤ 120) : mo_typed4 v (nI m) g = some (nI (m + 4), up4 g m v) := by
  have st : ∀ (n s j : Nat) (x : Nat → Int32), s ≤ 3 → j < 120 → fl3 (mo_typed4_B2 v) (n + 1) (nI s) (nI j) x = fl3 (mo_typed4_B2 v) n (nI s + Int32.ofInt (-1)) (nI (j + 1)) (upd x j (wb v (8 * s))) := by
    intro n s j x hs hj
    show mo_typed4_B2 v (fl3 (mo_typed4_B2 v) n) (nI s) (nI j) x = _
    rw [mo_typed4_B2, if_neg (nI_pos (by omega)), show (8 * nI s : Int32) = nI (8 * s) from by rw [show (8 : Int32) = nI 8 from rfl, pk_mul], i8_sh v (by omega)]
    simp only [nm, ck_n hj (show 120 < 2 ^ 31 by omega), cl_n (show j < 2 ^ 31 by omega), nI_1, wb]
  obtain ⟨q, hq⟩ := FU_s 5 (by omega)
  show fl3 (mo_typed4_B2 v) FU (nI 3) (nI m) g = _
  rw [hq]
  show fl3 (mo_typed4_B2 v) (q + 1 + 1 + 1 + 1 + 1) (nI 3) (nI m) g = _
  rw [st _ 3 m g (by omega) (by omega), show nI 3 + Int32.ofInt (-1) = nI 2 by decide, st _ 2 (m + 1) _ (by omega) (by omega), show nI 2 + Int32.ofInt (-1) = nI 1 by decide, st _ 1 (m + 1 + 1) _ (by omega) (by omega), show nI 1 + Int32.ofInt (-1) = nI 0 by decide, st _ 0 (m + 1 + 1 + 1) _ (by omega) (by omega)]
  show mo_typed4_B2 v _ (nI 0 + Int32.ofInt (-1)) _ _ = _
  rw [mo_typed4_B2, if_pos (by decide)]; rfl
theorem up4_eq {g h : Nat → Int32} {m : Nat} (v : Int32) (e : ∀ i, i < m → g i = h i) : ∀ i, i < m + 4 → up4 g m v i = up4 h m v i := by
  intro i hi
  unfold up4
  simp only [upI]
  by_cases a : i = m + 3
  · rw [if_pos a, if_pos a]
  · rw [if_neg a, if_neg a]
    by_cases b : i = m + 2
    · rw [if_pos b, if_pos b]
    · rw [if_neg b, if_neg b]
      by_cases c : i = m + 1
      · rw [if_pos c, if_pos c]
      · rw [if_neg c, if_neg c]
        by_cases d : i = m
        · rw [if_pos d, if_pos d]
        · rw [if_neg d, if_neg d]; exact e i (by omega)
theorem bd2_some {α β γ : Type} (a : α) (b : β) (k : α → β → Option γ) : bd2 (some (a, b)) k = k a b := rfl
theorem opc_feed (v0 v1 v2 v3 v4 : Int32) {fed tp : Int32} {g h : Nat → Int32} (ht : TP fed tp g h) : ∃ r fed' g' tp' h', cf_feed v0 v1 v2 v3 v4 fed g = some (r, fed', g') ∧ mo_feed v0 v1 v2 v3 v4 tp h = some (r, tp', h') ∧ TP fed' tp' g' h' := by
  obtain ⟨f, hf, rfl, rfl, e⟩ := ht
  have e20 : nI (20 * f) + 20 = nI (20 * f + 20) := by rw [show (20 : Int32) = nI 20 from rfl, nI_add]
  by_cases q : f = 6
  · subst q
    refine ⟨-1, _, g, _, h, ?_, ?_, 6, by omega, rfl, rfl, e⟩
    · unfold cf_feed; rw [e20, if_neg (by decide)]
    · unfold mo_feed; rw [e20, if_neg (by decide)]
  · have hle : nI (20 * f + 20) ≤ (120 : Int32) := nI_le (a := 20 * f + 20) (b := 120) (by omega) (by omega)
    refine ⟨nI (20 * f + 4 + 4 + 4 + 4 + 4), nI (20 * f + 4 + 4 + 4 + 4 + 4), up4 (up4 (up4 (up4 (up4 g (20 * f) v0) (20 * f + 4) v1) (20 * f + 4 + 4) v2) (20 * f + 4 + 4 + 4) v3) (20 * f + 4 + 4 + 4 + 4) v4, nI (20 * f + 4 + 4 + 4 + 4 + 4), up4 (up4 (up4 (up4 (up4 h (20 * f) v0) (20 * f + 4) v1) (20 * f + 4 + 4) v2) (20 * f + 4 + 4 + 4) v3) (20 * f + 4 + 4 + 4 + 4) v4, ?_, ?_, f + 1, by omega, by rw [show 20 * f + 4 + 4 + 4 + 4 + 4 = 20 * (f + 1) by omega], by rw [show 20 * f + 4 + 4 + 4 + 4 + 4 = 20 * (f + 1) by omega], ?_⟩
    · unfold cf_feed
      rw [e20, if_pos hle, cf_append_eq v0 g (by omega), bd2_some, cf_append_eq v1 _ (by omega), bd2_some, cf_append_eq v2 _ (by omega), bd2_some, cf_append_eq v3 _ (by omega), bd2_some, cf_append_eq v4 _ (by omega), bd2_some]
    · unfold mo_feed
      rw [e20, if_pos hle, mo_typed4_eq v0 h (by omega), bd2_some, mo_typed4_eq v1 _ (by omega), bd2_some, mo_typed4_eq v2 _ (by omega), bd2_some, mo_typed4_eq v3 _ (by omega), bd2_some, mo_typed4_eq v4 _ (by omega), bd2_some]
    · intro i hi
      exact up4_eq v4 (up4_eq v3 (up4_eq v2 (up4_eq v1 (up4_eq v0 e)))) i (by omega)
/-! count -/
theorem count_go (v fed : Int32) {g h : Nat → Int64} (hd : DR g h) (hv : v = 0 ∨ v = 2) : ∀ (n d : Nat) (a b : Int32), d ≤ 8 → 8 - d < n → fl3 (cf_count_B28 v fed g) n a b (nI d) = fl3 (mo_count_B7 v fed h) n a b (nI d) ∧ ∃ r, fl3 (mo_count_B7 v fed h) n a b (nI d) = some r := by
  intro n
  induction n with
  | zero => intro d a b _ h; omega
  | succ n ih =>
    intro d a b hd8 hn
    show cf_count_B28 v fed g (fl3 (cf_count_B28 v fed g) n) a b (nI d) = mo_count_B7 v fed h (fl3 (mo_count_B7 v fed h) n) a b (nI d) ∧ ∃ r, mo_count_B7 v fed h (fl3 (mo_count_B7 v fed h) n) a b (nI d) = some r
    rw [cf_count_B28, mo_count_B7]
    by_cases q : d = 8
    · subst q
      rw [if_pos (show (8 : Int32) ≤ nI 8 from nI_le (a := 8) (b := 8) (by omega) (by omega)), if_pos (show (8 : Int32) ≤ nI 8 from nI_le (a := 8) (b := 8) (by omega) (by omega))]
      rcases hv with rfl | rfl
      · exact ⟨rfl, a, rfl⟩
      · exact ⟨rfl, b, rfl⟩
    · have hd' : d < 8 := by omega
      have e := (hd d hd').1
      rw [if_neg (show ¬ (8 : Int32) ≤ nI d from nI_ge (a := d) (b := 8) (by omega) (by omega)), if_neg (show ¬ (8 : Int32) ≤ nI d from nI_ge (a := d) (b := 8) (by omega) (by omega)), ck_n hd' (by omega), ck_n hd' (by omega), cl_n (by omega), e]
      have j1 : ∀ t, cf_count_J56 (fl3 (cf_count_B28 v fed g) n) fed g v b (nI d) a t = fl3 (cf_count_B28 v fed g) n (a ||| t) (b + nI (cnt (g d))) (nI (d + 1)) := by
        intro t
        simp only [cf_count_J56, nm, ck_n hd' (show 8 < 2 ^ 31 by omega), cl_n (show d < 2 ^ 31 by omega), jl_bitCount_eq, bd1_some]
        rw [show Int32.ofInt 1 = nI 1 by decide, nI_add]
      have j2 : ∀ t, mo_count_J35 (fl3 (mo_count_B7 v fed h) n) fed h v b (nI d) a t = fl3 (mo_count_B7 v fed h) n (a ||| t) (b + nI (cnt (h d))) (nI (d + 1)) := by
        intro t
        simp only [mo_count_J35, nm, ck_n hd' (show 8 < 2 ^ 31 by omega), cl_n (show d < 2 ^ 31 by omega), mo_bits_eq, bd1_some]
        rw [show Int32.ofInt 1 = nI 1 by decide, nI_add]
      rw [j1, j1, j2, j2, e]
      by_cases c : h d = 0
      · rw [if_pos c, if_pos c]; exact ih (d + 1) _ _ (by omega) (by omega)
      · rw [if_neg c, if_neg c]; exact ih (d + 1) _ _ (by omega) (by omega)
theorem mo_count_go1 (v fed : Int32) {g h : Nat → Int64} (hd : DR g h) (r : Int32) (hv : (if v = 1 then fed else -1) = r) (h0 : v ≠ 0) (h2 : v ≠ 2) : ∀ (n d : Nat) (a b : Int32), d ≤ 8 → 8 - d < n → fl3 (mo_count_B7 v fed h) n a b (nI d) = some r := by
  intro n
  induction n with
  | zero => intro d a b _ h; omega
  | succ n ih =>
    intro d a b hd8 hn
    show mo_count_B7 v fed h (fl3 (mo_count_B7 v fed h) n) a b (nI d) = some r
    rw [mo_count_B7]
    by_cases q : d = 8
    · subst q
      rw [if_pos (show (8 : Int32) ≤ nI 8 from nI_le (a := 8) (b := 8) (by omega) (by omega)), if_neg h0, ← hv]
      by_cases c : v = 1
      · rw [if_pos c, if_pos c]
      · rw [if_neg c, if_neg c, if_neg h2]
    · have hd' : d < 8 := by omega
      rw [if_neg (show ¬ (8 : Int32) ≤ nI d from nI_ge (a := d) (b := 8) (by omega) (by omega)), ck_n hd' (by omega), cl_n (by omega)]
      have j2 : ∀ t, mo_count_J35 (fl3 (mo_count_B7 v fed h) n) fed h v b (nI d) a t = fl3 (mo_count_B7 v fed h) n (a ||| t) (b + nI (cnt (h d))) (nI (d + 1)) := by
        intro t
        simp only [mo_count_J35, nm, ck_n hd' (show 8 < 2 ^ 31 by omega), cl_n (show d < 2 ^ 31 by omega), mo_bits_eq, bd1_some]
        rw [show Int32.ofInt 1 = nI 1 by decide, nI_add]
      rw [j2, j2]
      split <;> exact ih (d + 1) _ _ (by omega) (by omega)
theorem opc_count (v : Int32) {fed tp : Int32} {t1 t2 : Nat → Int32} {g h : Nat → Int64} (hd : DR g h) (ht : TP fed tp t1 t2) : ∃ r, cf_count v fed g = some r ∧ mo_count v tp h = some r := by
  obtain ⟨f, _, rfl, rfl, _⟩ := ht
  by_cases h1 : v = 1
  · subst h1
    refine ⟨nI (20 * f), ?_, mo_count_go1 1 _ hd (nI (20 * f)) rfl (by decide) (by decide) FU 0 0 0 (by omega) (FU_lt (by omega))⟩
    unfold cf_count; rw [cf_within_eq, bd1_some]; rfl
  · cases hv : inr v 0 2 with
    | false =>
      have h0 : v ≠ 0 := fun e => by subst e; exact absurd hv (by decide)
      have h2 : v ≠ 2 := fun e => by subst e; exact absurd hv (by decide)
      refine ⟨-1, ?_, mo_count_go1 v _ hd (-1) (if_neg h1) h0 h2 FU 0 0 0 (by omega) (FU_lt (by omega))⟩
      unfold cf_count; rw [cf_within_eq, hv, bd1_some]; rfl
    | true =>
      obtain ⟨j, hj, e⟩ := inr_nI (n := 2) (by omega) hv
      have hv' : v = 0 ∨ v = 2 := by
        rcases (show j = 0 ∨ j = 1 ∨ j = 2 by omega) with q | q | q
        · exact Or.inl (by rw [e, q]; rfl)
        · exact absurd (by rw [e, q]; rfl) h1
        · exact Or.inr (by rw [e, q]; rfl)
      obtain ⟨a1, r, a2⟩ := count_go v (nI (20 * f)) hd hv' FU 0 0 0 (by omega) (FU_lt (by omega))
      refine ⟨r, ?_, a2⟩
      unfold cf_count
      rw [cf_within_eq, hv, bd1_some, if_neg (by decide), if_neg h1]
      exact a1.trans a2
