/-! the largest common part: the class -/
def PPt (e a : Int64) (u v : Int) (P : Int64) : Prop := sub P e ∧ CON P ∧ ∀ X Y, hB P X Y = true → hB a (X - u) (Y - v) = true
def gcU (q : Nat) : Int := ((q % 13 : Nat) : Int) - 6
def gcV (q : Nat) : Int := ((q / 13 % 13 : Nat) : Int) - 6
def GC (e : Int64) (A : Nat → Int64) (p c : Nat) : Prop := c ≤ 64 ∧ (∀ q, q < p → ∀ P, PPt e (A (q / 169)) (gcU q) (gcV q) P → cnt P ≤ c) ∧ (c = 0 ∨ ∃ q, q < p ∧ ∃ P, PPt e (A (q / 169)) (gcU q) (gcV q) P ∧ cnt P = c)
theorem GC_step {e : Int64} (he : F77 e) {A : Nat → Int64} {p c : Nat} (h : GC e A p c) : ∃ M c', gr_moved (A (p / 169)) (Int32.ofInt (gcU p)) (Int32.ofInt (gcV p)) = some M ∧ me_largestPart (e &&& M) (nI c) = some (nI c') ∧ GC e A (p + 1) c' := by
  obtain ⟨M, h1, h2⟩ := gr_moved_eq (A (p / 169)) (u := gcU p) (v := gcV p) (by unfold gcU; omega) (by unfold gcV; omega)
  obtain ⟨c64, hb, hx⟩ := h
  obtain ⟨L, l64, l1, l2, l3, l4⟩ := lpart_eq (H := e &&& M) (he.c7.sub (and_sub e M)) c64
  have key : ∀ P, (sub P (e &&& M) ∧ CON P) ↔ PPt e (A (p / 169)) (gcU p) (gcV p) P := by
    intro P
    constructor
    · rintro ⟨s, cn⟩
      refine ⟨fun i hi => and_sub e M i (s i hi), cn, fun X Y q => ?_⟩
      obtain ⟨x, y, hx, hy, rfl, rfl, hbt⟩ := hB_t.mp q
      have := s _ hbt
      rw [bt_and, Bool.and_eq_true, h2 _ (by omega), show (8 * y + x) % 8 = x by omega, show (8 * y + x) / 8 = y by omega] at this
      exact this.2
    · rintro ⟨s, cn, hh⟩
      refine ⟨fun i hi => ?_, cn⟩
      rw [bt_and, s i hi, h2 i (bt_lt hi), hh _ _ (hB_bt hi)]; rfl
  refine ⟨M, L, h1, l1, l64, fun q hq P hP => ?_, ?_⟩
  · rcases Nat.lt_or_ge q p with z | z
    · have := hb q z P hP; omega
    · have : q = p := by omega
      subst this
      have := (key P).mpr hP
      exact l3 P this.1 this.2
  · rcases l4 with z | ⟨P, p1, p2, p3⟩
    · rcases hx with y | ⟨q, q1, P, p1, p2⟩
      · exact Or.inl (by omega)
      · exact Or.inr ⟨q, by omega, P, p1, by omega⟩
    · exact Or.inr ⟨p, by omega, P, (key P).mp ⟨p1, p2⟩, p3⟩
theorem i6 (i : Nat) : Int32.ofInt ((i : Int) - 6) + Int32.ofInt 1 = Int32.ofInt (((i + 1 : Nat) : Int) - 6) := by
  rw [← Int32.ofInt_add]; congr 1; omega
theorem lcom_eq {e : Int64} (he : F77 e) {n : Nat} (hn : n ≤ 64) (A : Nat → Int64) : ∃ c, me_largestCommon e (nI n) A = some (nI c) ∧ GC e A (169 * n) c := by
  unfold me_largestCommon
  refine ivl2 (B := me_largestCommon_B5 e (nI n) A) (fun k a b => b = nI k ∧ ∃ c, a = nI c ∧ GC e A (169 * k) c) (fun o => ∃ c, o = some (nI c) ∧ GC e A (169 * n) c) n ?_ ?_ FU 0 _ _ (by omega) (FU_lt (by omega)) ⟨rfl, 0, rfl, by omega, fun q h => by omega, Or.inl rfl⟩
  · rintro k hk a b K ⟨rfl, c, rfl, hc⟩
    rw [me_largestCommon_B5, rw_size, bd1_some, if_neg (nI_ge hk (by omega))]
    refine ivl2 (B := me_largestCommon_B18 e (nI k) (nI n) A K) (fun j a b => b = Int32.ofInt ((j : Int) - 6) ∧ ∃ c, a = nI c ∧ GC e A (169 * k + 13 * j) c) (fun o => ∃ a' b', (b' = nI (k + 1) ∧ ∃ c, a' = nI c ∧ GC e A (169 * (k + 1)) c) ∧ o = K a' b') 13 ?_ ?_ FU 0 _ _ (by omega) (FU_lt (by omega)) ⟨rfl, c, rfl, hc⟩
    · rintro j hj a b K2 ⟨rfl, c, rfl, hc⟩
      rw [me_largestCommon_B18, if_neg (fun hh => by have := (iI_le (a := 7) (b := (j : Int) - 6) (by omega) (by omega)).mp hh; omega)]
      refine ivl2 (B := me_largestCommon_B29 e (nI k) (Int32.ofInt ((j : Int) - 6)) (nI n) A K K2) (fun i a b => b = Int32.ofInt ((i : Int) - 6) ∧ ∃ c, a = nI c ∧ GC e A (169 * k + 13 * j + i) c) (fun o => ∃ a' b', (b' = Int32.ofInt (((j + 1 : Nat) : Int) - 6) ∧ ∃ c, a' = nI c ∧ GC e A (169 * k + 13 * (j + 1)) c) ∧ o = K2 a' b') 13 ?_ ?_ FU 0 _ _ (by omega) (FU_lt (by omega)) ⟨rfl, c, rfl, hc⟩
      · rintro i hi a b k3 ⟨rfl, c, rfl, hc⟩
        obtain ⟨M, c', g1, g2, g3⟩ := GC_step he hc
        have d1 : (169 * k + 13 * j + i) / 169 = k := by omega
        have d2 : gcU (169 * k + 13 * j + i) = (i : Int) - 6 := by unfold gcU; omega
        have d3 : gcV (169 * k + 13 * j + i) = (j : Int) - 6 := by unfold gcV; omega
        rw [d1, d2, d3] at g1
        rw [me_largestCommon_B29, if_neg (fun hh => by have := (iI_le (a := 7) (b := (i : Int) - 6) (by omega) (by omega)).mp hh; omega), rw_at_eq hk hn, bd1_some, g1, bd1_some, nm_eq, g2, bd1_some, nm_eq, i6]
        exact ⟨_, _, ⟨rfl, c', rfl, g3⟩, rfl⟩
      · rintro a b k3 ⟨rfl, c, rfl, hc⟩
        rw [me_largestCommon_B29, if_pos (show (7 : Int32) ≤ Int32.ofInt (((13 : Nat) : Int) - 6) from by decide), nm_eq, i6]
        exact ⟨_, _, ⟨rfl, c, rfl, by rw [show 169 * k + 13 * (j + 1) = 169 * k + 13 * j + 13 by omega]; exact hc⟩, rfl⟩
    · rintro a b K2 ⟨rfl, c, rfl, hc⟩
      rw [me_largestCommon_B18, if_pos (show (7 : Int32) ≤ Int32.ofInt (((13 : Nat) : Int) - 6) from by decide), nm_eq, o1]
      exact ⟨_, _, ⟨rfl, c, rfl, by rw [show 169 * (k + 1) = 169 * k + 13 * 13 by omega]; exact hc⟩, rfl⟩
  · rintro a b K ⟨rfl, c, rfl, hc⟩
    rw [me_largestCommon_B5, rw_size, bd1_some, if_pos (nI_le (Nat.le_refl _) (by omega))]
    exact ⟨c, rfl, hc⟩
/-! the reference -/
def QL (f e : Int64) (s : Nat) : Prop := CON (brd f s) ∧ ∃ t, t < 8 ∧ 0 < lsS (tnd (stt (brd f s)) t) e 7
noncomputable def qlB (f e : Int64) (s : Nat) : Bool := @decide (QL f e s) (Classical.propDecidable _)
theorem qlB_t {f e : Int64} {s : Nat} : qlB f e s = true ↔ QL f e s := by unfold qlB; exact @decide_eq_true_iff _ (Classical.propDecidable _)
noncomputable def mxC (f e : Int64) : Nat → Nat
  | 0 => 0
  | i + 1 => if mxC f e i < pc (i + 1) ∧ qlB f e (i + 1) = true then pc (i + 1) else mxC f e i
theorem pc_le (s : Nat) : pc s ≤ 12 := fb_ct_le _ _
theorem mxC_le (f e : Int64) : ∀ i, mxC f e i ≤ 12
  | 0 => by show 0 ≤ 12; omega
  | i + 1 => by
    show (if mxC f e i < pc (i + 1) ∧ qlB f e (i + 1) = true then pc (i + 1) else mxC f e i) ≤ 12
    split
    · exact pc_le _
    · exact mxC_le f e i
theorem lsS_b (a g : Int64) : lsS a g 7 ≤ 49 := by
  unfold lsS
  have := fb_sm_le (f := fun v => lsR a g v 7) (g := fun _ => 7) (n := 7) (fun k _ => fb_ct_le _ _)
  rw [fb_sm_const] at this
  exact this
theorem com_in {f e : Int64} (hf : FIG f) (he : FIG e) {s : Nat} (hs : s < 4096) (hcon : CON (brd f s)) {i : Nat} (hi : i < 8) (D : Nat → Int64) (hD : D i = e) (m : Nat) (ca bi : Nat → Int32) (K : Int32 → Int32 → Option (Int32 × Int32 × (Nat → Int32) × (Nat → Int32))) : fl2 (mo_common_B105 (nI i) (nI m) (nI s) (brd f s) (nI (cnt f)) D ca bi K) FU 0 0 = K (nI (if qlB f e s = true then pc s else m)) (nI (s + 1)) := by
  have sp := stt_spec hf (brd_sub f s) hcon
  have j152_0 : mo_common_J152 K D (nI i) (nI m) (nI s) 0 (nI (cnt f)) ca bi = K (nI m) (nI (s + 1)) := by
    rw [mo_common_J152, if_pos rfl, mo_common_J167, mo_common_J168, nm_eq, o1]
  have j152_1 : mo_common_J152 K D (nI i) (nI m) (nI s) 1 (nI (cnt f)) ca bi = K (nI (pc s)) (nI (s + 1)) := by
    rw [mo_common_J152, if_neg (by decide), mo_bits_eq, cnt_nI hs, bd1_some, mo_common_J167, mo_common_J168, nm_eq, o1]
  have step : ∀ t, t < 8 → ∀ k, mo_common_B105 (nI i) (nI m) (nI s) (brd f s) (nI (cnt f)) D ca bi K k 0 (nI t) = k (boI (decide (0 < lsS (tnd (stt (brd f s)) t) e 7))) (nI (t + 1)) := by
    intro t ht k
    have lb := lsS_b (tnd (stt (brd f s)) t) e
    rw [mo_common_B105, if_neg (show ¬ (8 : Int32) ≤ nI t from nI_ge (a := t) (b := 8) ht (by omega)), if_pos rfl, sp.2.1, bd1_some, mo_turned_eq sp.2.2.1 ht, bd1_some, ck_n hi (by omega), cl_n (by omega), hD, mo_liesIn_eq (tnd_F sp.2.2.1 t) he, bd1_some, mo_common_J144, mo_common_J144, nm_eq, nm_eq, o1]
    by_cases q : 0 < lsS (tnd (stt (brd f s)) t) e 7
    · rw [if_neg (nI_nle q (by omega)), decide_eq_true q]; rfl
    · rw [if_pos ((nI_le0 (by omega)).mpr (by omega)), decide_eq_false q]; rfl
  by_cases hq : ∃ t, t < 8 ∧ 0 < lsS (tnd (stt (brd f s)) t) e 7
  · obtain ⟨t0, h8, hp, hfst⟩ := fb_first hq
    rw [if_pos (qlB_t.mpr ⟨hcon, t0, h8, hp⟩)]
    refine ivl2 (B := mo_common_B105 (nI i) (nI m) (nI s) (brd f s) (nI (cnt f)) D ca bi K) (fun t a b => b = nI t ∧ (t ≤ t0 → a = 0) ∧ (t0 < t → a = 1)) (fun o => o = K (nI (pc s)) (nI (s + 1))) (t0 + 1) ?_ ?_ FU 0 _ _ (by omega) (FU_lt (by omega)) ⟨rfl, fun _ => rfl, fun h => by omega⟩
    · rintro t ht a b k ⟨rfl, h1, -⟩
      rw [h1 (by omega), step t (by omega)]
      refine ⟨_, _, ⟨rfl, fun h => ?_, fun h => ?_⟩, rfl⟩
      · rw [decide_eq_false (hfst t (by omega))]; rfl
      · have : t = t0 := by omega
        subst this
        rw [decide_eq_true hp]; rfl
    · rintro a b k ⟨rfl, -, h2⟩
      rw [h2 (by omega), mo_common_B105, if_neg (show ¬ (1 : Int32) = 0 from by decide), j152_1, ite_self]
  · rw [if_neg (fun c => hq (qlB_t.mp c).2)]
    refine ivl2 (B := mo_common_B105 (nI i) (nI m) (nI s) (brd f s) (nI (cnt f)) D ca bi K) (fun t a b => b = nI t ∧ a = 0) (fun o => o = K (nI m) (nI (s + 1))) 8 ?_ ?_ FU 0 _ _ (by omega) (FU_lt (by omega)) ⟨rfl, rfl⟩
    · rintro t ht a b k ⟨rfl, rfl⟩
      rw [step t ht]
      refine ⟨_, _, ⟨rfl, ?_⟩, rfl⟩
      rw [decide_eq_false (fun c => hq ⟨t, ht, c⟩)]; rfl
    · rintro a b k ⟨rfl, rfl⟩
      rw [mo_common_B105, if_pos (show (8 : Int32) ≤ nI 8 from by decide), j152_0]
theorem mo_com_eq {f e : Int64} (hf : FIG f) (he : FIG e) {i : Nat} (hi : i < 8) (D : Nat → Int64) (hD : D i = e) {ca bi : Nat → Int32} (ha : CAt f (cnt f) ca) : fl2 (mo_common_B56 (nI i) (nI (cnt f)) D ca bi) FU 0 1 = some (nI (mxC f e (2 ^ cnt f - 1)), nI (cnt f), ca, bi) := by
  have n12 := hf.2.2.2.1
  have p12 := pw12 n12
  have p1 : 0 < 2 ^ cnt f := Nat.pow_pos (by omega)
  refine crs2 (B := mo_common_B56 (nI i) (nI (cnt f)) D ca bi) (fun k => nI (mxC f e k)) (fun k => nI (k + 1)) (2 ^ cnt f - 1) (fun k hk K => ?_) (fun K => ?_) FU (FU_lt (by omega))
  · have ml := mxC_le f e k
    have pl := pc_le (k + 1)
    have es : mxC f e (k + 1) = if mxC f e k < pc (k + 1) ∧ qlB f e (k + 1) = true then pc (k + 1) else mxC f e k := rfl
    rw [mo_common_B56, il_n ⟨cnt f, by omega⟩, if_neg (nI_ge (show k + 1 < 2 ^ cnt f by omega) (by omega)), mo_bits_eq, cnt_nI (by omega), bd1_some, mo_common_J168, nm_eq, o1]
    by_cases q : mxC f e k < pc (k + 1)
    · rw [if_pos (nI_lt q (by omega)), figureOf_eq hf ha (by omega), bd1_some, mo_hangs_b, bd1_some]
      cases hc : conB (brd f (k + 1)) with
      | false =>
        rw [if_pos (by decide), es, if_neg (fun c => by rw [conB_f] at hc; exact hc (qlB_t.mp c.2).1)]
      | true =>
        rw [if_neg (by decide), com_in hf he (by omega) (conB_t.mp hc) hi D hD, es]
        by_cases q2 : qlB f e (k + 1) = true
        · rw [if_pos q2, if_pos ⟨q, q2⟩]
        · rw [if_neg q2, if_neg (fun c => q2 c.2)]
    · rw [if_neg (nI_nlt (by omega) (by omega)), es, if_neg (fun c => q c.1)]
  · rw [mo_common_B56, il_n ⟨cnt f, by omega⟩, if_pos (nI_le (show 2 ^ cnt f ≤ 2 ^ cnt f - 1 + 1 by omega) (by omega))]
theorem mxC_ub (f e : Int64) : ∀ n s, 0 < s → s ≤ n → QL f e s → pc s ≤ mxC f e n
  | 0, s, h0, h, _ => by omega
  | n + 1, s, h0, h, hq => by
    show _ ≤ (if mxC f e n < pc (n + 1) ∧ qlB f e (n + 1) = true then pc (n + 1) else mxC f e n)
    rcases Nat.lt_or_ge s (n + 1) with z | z
    · have := mxC_ub f e n s h0 (by omega) hq
      split <;> omega
    · have : s = n + 1 := by omega
      subst this
      split
      · omega
      · rename_i hh
        have := qlB_t.mpr hq
        exact Nat.le_of_not_lt (fun c => hh ⟨c, this⟩)
theorem mxC_at (f e : Int64) : ∀ n, mxC f e n = 0 ∨ ∃ s, 0 < s ∧ s ≤ n ∧ QL f e s ∧ pc s = mxC f e n
  | 0 => Or.inl rfl
  | n + 1 => by
    have ih := mxC_at f e n
    have es : mxC f e (n + 1) = if mxC f e n < pc (n + 1) ∧ qlB f e (n + 1) = true then pc (n + 1) else mxC f e n := rfl
    rw [es]
    split
    · rename_i hh
      exact Or.inr ⟨n + 1, by omega, by omega, qlB_t.mp hh.2, rfl⟩
    · rcases ih with z | ⟨s, a, b, c, d⟩
      · exact Or.inl z
      · exact Or.inr ⟨s, a, by omega, c, d⟩
/-! both are one -/
theorem com_a {f e : Int64} (hf : FIG f) (he : FIG e) {s : Nat} (hs : s < 2 ^ cnt f) (h : QL f e s) : ∃ t, t < 8 ∧ ∃ mu mv : Int, (-6 ≤ mu ∧ mu ≤ 6) ∧ (-6 ≤ mv ∧ mv ≤ 6) ∧ ∃ P, PPt e (tnd f t) mu mv P ∧ cnt P = pc s := by
  obtain ⟨hc, t, ht, hl⟩ := h
  have sp := stt_spec hf (brd_sub f s) hc
  have ha := tnd_F sp.2.2.1 t
  have hfT := tnd_F hf t
  have ex : ∃ u v : Nat, LI (tnd (stt (brd f s)) t) e u v := by
    refine Classical.byContradiction (fun no => ?_)
    have : lsS (tnd (stt (brd f s)) t) e 7 = 0 := by
      unfold lsS
      rw [fb_sm_cong (f := fun v => lsR (tnd (stt (brd f s)) t) e v 7) (g := fun _ => 0) (fun v _ => fb_ct_zero.mpr (fun u _ => liB_f.mpr (fun c => no ⟨u, v, c⟩))), fb_sm_const]
    omega
  obtain ⟨u, v, li⟩ := ex
  have lb := LI_b ha he li
  have we := wdt_b he
  obtain ⟨α0, β0, h0⟩ := STL_tr sp.2.2.2.2
  have sb : SBT (stt (brd f s)) f := ⟨α0, β0, fun X Y q => by
    rw [h0] at q
    obtain ⟨x, y, hx, hy, ex, ey, hb⟩ := hB_t.mp q
    rw [ex, ey, hB_n f hx hy]
    exact brd_sub f s _ hb⟩
  obtain ⟨α, β, h1⟩ := SBT_tnd sp.2.2.1 hf sb t
  have hsl := hB_sl ha (u := u) (v := v) (by omega) (by omega)
  obtain ⟨x3, _, h3⟩ := ha.2.1
  have c3 := hB_bt h3
  have c4 := hB_wh he (li _ _ c3)
  have c5 := hB_wh hfT (h1 _ _ c3)
  have wf := wdt_b hfT
  refine ⟨t, ht, (u : Int) - α, (v : Int) - β, by omega, by omega, sl (tnd (stt (brd f s)) t) (nI (8 * v + u)), ⟨?_, ?_, ?_⟩, ?_⟩
  · intro i hi
    have := hB_bt hi
    rw [hsl] at this
    have := li _ _ this
    rw [show ((i % 8 : Nat) : Int) - u + (u : Int) = ((i % 8 : Nat) : Int) by omega, show ((i / 8 : Nat) : Int) - v + (v : Int) = ((i / 8 : Nat) : Int) by omega, hB_b e (bt_lt hi)] at this
    exact this
  · exact CON_tr (a := -(u : Int)) (b := -(v : Int)) (fun X Y => by rw [hsl]; congr 1) ha.2.2.2.2
  · intro X Y q
    rw [hsl] at q
    have := h1 _ _ q
    rw [show X - ((u : Int) - α) = X - u + α by omega, show Y - ((v : Int) - β) = Y - v + β by omega]
    exact this
  · rw [cnt_tr (f := tnd (stt (brd f s)) t) (a := -(u : Int)) (b := -(v : Int)) (fun X Y => by rw [hsl]; congr 1), tnd_cnt sp.2.2.1, sp.2.2.2.1, brd_cnt hf hs]
theorem com_b {f e : Int64} (hf : FIG f) (he : FIG e) {t : Nat} (ht : t < 8) {mu mv : Int} {P : Int64} (h : PPt e (tnd f t) mu mv P) : ∃ s, 0 < s ∧ s < 2 ^ cnt f ∧ QL f e s ∧ pc s = cnt P := by
  obtain ⟨h1, h2, h3⟩ := h
  have sp := stt_spec he h1 h2
  have hfT := tnd_F hf t
  obtain ⟨α, β, h0⟩ := STL_tr sp.2.2.2.2
  have sb : SBT (stt P) (tnd f t) := ⟨α - mu, β - mv, fun X Y q => by
    rw [h0] at q
    have := h3 _ _ q
    rw [show X + (α - mu) = X + α - mu by omega, show Y + (β - mv) = Y + β - mv by omega]
    exact this⟩
  have hF := bck_F sp.2.2.1 t
  have sb2 := bck_S sp.2.2.1 hfT sb t
  rw [bck_tnd hf ht] at sb2
  obtain ⟨γ, δ, h4⟩ := sb2
  obtain ⟨s, s1, s2⟩ := ex_bits (fun i => hB (bck (stt P) t) (((ith f i % 8 : Nat) : Int) - γ) (((ith f i / 8 : Nat) : Int) - δ)) (cnt f)
  have hb : ∀ X Y, hB (brd f s) X Y = hB (bck (stt P) t) (X + -γ) (Y + -δ) := by
    intro X Y
    apply bool_iff
    constructor
    · intro q
      obtain ⟨x, y, hx, hy, rfl, rfl, hbt⟩ := hB_t.mp q
      obtain ⟨i, a, b, c⟩ := brd_bt.mp hbt
      rw [s2 i a, c, show (8 * y + x) % 8 = x by omega, show (8 * y + x) / 8 = y by omega] at b
      exact b
    · intro q
      have q2 := h4 _ _ q
      rw [show X + -γ + γ = X by omega, show Y + -δ + δ = Y by omega] at q2
      obtain ⟨x, y, hx, hy, rfl, rfl, hbt⟩ := hB_t.mp q2
      obtain ⟨i, a, c⟩ := ith_all hbt
      rw [hB_n _ hx hy]
      refine brd_bt.mpr ⟨i, a, ?_, c⟩
      rw [s2 i a, c, show (8 * y + x) % 8 = x by omega, show (8 * y + x) / 8 = y by omega]
      exact q
  have st := settle_tr hF hb
  have hcon : CON (brd f s) := CON_tr hb hF.2.2.2.2
  have e1 : stt (brd f s) = bck (stt P) t := by unfold stt; rw [st.1]; rfl
  have cn : pc s = cnt P := by
    rw [← brd_cnt hf s1, cnt_tr hb, ← sp.2.2.2.1]
    have := tnd_cnt hF t
    rw [tnd_bck sp.2.2.1 ht] at this
    exact this.symm
  have s0 : 0 < s := by
    rcases Nat.eq_zero_or_pos s with z | z
    · subst z
      have : pc 0 = 0 := fb_ct_zero.mpr (fun i _ => Nat.zero_testBit i)
      have := cnt_pos h2.1
      omega
    · exact z
  refine ⟨s, s0, s1, ⟨hcon, t, ht, ?_⟩, cn⟩
  rw [e1, tnd_bck sp.2.2.1 ht]
  have li : LI (stt P) e α β := fun X Y q => by
    rw [h0] at q
    obtain ⟨x, y, hx, hy, ex, ey, hbt⟩ := hB_t.mp q
    rw [ex, ey, hB_n e hx hy]
    exact h1 _ hbt
  have lb := LI_b sp.2.2.1 he li
  have wp := wdt_b sp.2.2.1
  have we := wdt_b he
  obtain ⟨u, rfl⟩ := Int.eq_ofNat_of_zero_le lb.1
  obtain ⟨v, rfl⟩ := Int.eq_ofNat_of_zero_le lb.2.2.1
  have r1 : 0 < lsR (stt P) e v 7 := fb_ct_pos.mpr ⟨u, by omega, liB_t.mpr li⟩
  have := fb_sm_part (fun v => lsR (stt P) e v 7) (i := v) (n := 7) (by omega)
  have this' : fb_sm (fun v => lsR (stt P) e v 7) v + lsR (stt P) e v 7 ≤ lsS (stt P) e 7 := this
  omega
theorem opc_common (v w : Int32) {g h : Nat → Int64} (hd : DR g h) (rs : Int32) (A : Nat → Int64) (yc : Int32) (ca bi : Nat → Int32) : ∃ r rs' A' yc' ca' bi', cf_common v w g rs A = some (r, rs', A') ∧ mo_common v w yc h ca bi = some (r, yc', ca', bi') := by
  cases hv : inr v 0 7 with
  | false =>
    simp only [cf_common, mo_common, cf_isDrawer_eq, mo_isDrawer_eq, hv, bd1_some, bf0, if_true]
    exact ⟨-1, _, _, _, _, _, rfl, rfl⟩
  | true =>
    cases hw : inr w 0 7 with
    | false =>
      simp only [cf_common, mo_common, cf_isDrawer_eq, mo_isDrawer_eq, hv, hw, bd1_some, bf0, bt0, if_true, if_false]
      exact ⟨-1, _, _, _, _, _, rfl, rfl⟩
    | true =>
      obtain ⟨j, hj, rfl⟩ := inr_dr hv
      obtain ⟨i, hi, rfl⟩ := inr_dr hw
      have e := (hd j hj).1
      have e2 := (hd i hi).1
      simp only [cf_common, mo_common, cf_isDrawer_eq, mo_isDrawer_eq, hv, hw, bd1_some, bt0, if_false, ck_n hj (show 8 < 2 ^ 31 by omega), cl_n (show j < 2 ^ 31 by omega), ck_n hi (show 8 < 2 ^ 31 by omega), cl_n (show i < 2 ^ 31 by omega), e, e2, rw_clear]
      by_cases h0 : h j = 0
      · rw [if_pos h0, if_pos h0]; exact ⟨-2, _, _, _, _, _, rfl, rfl⟩
      · rw [if_neg h0, if_neg h0]
        by_cases h1 : h i = 0
        · rw [if_pos h1, if_pos h1]; exact ⟨-2, _, _, _, _, _, rfl, rfl⟩
        · rw [if_neg h1, if_neg h1]
          have fj := DRf hd hj h0
          have fi := DRf hd hi h1
          obtain ⟨n, A', a1, a2⟩ := inside_rows fj (Or.inr rfl) A
          have n8 := a2.2.1
          obtain ⟨c, c1, c2, c3, c4⟩ := lcom_eq fi.1 (show n ≤ 64 by omega) A'
          obtain ⟨ca', bi', m1, m2, m3⟩ := mo_laysCells_eq fj yc ca bi
          rw [a1, bd2_some, c1, bd1_some, m1, bd3_some, mo_com_eq fj fi hi h rfl m2]
          have p1 : 0 < 2 ^ cnt (h j) := Nat.pow_pos (by omega)
          have eq : c = mxC (h j) (h i) (2 ^ cnt (h j) - 1) := by
            apply Nat.le_antisymm
            · rcases c4 with z | ⟨q, q1, P, q2, q3⟩
              · omega
              · obtain ⟨t, t1, t2, t3⟩ := (a2.2.2 (A' (q / 169))).mp ⟨q / 169, Nat.zero_le _, by omega, rfl⟩
                rw [t3] at q2
                obtain ⟨s, s0, s1, s2, s3⟩ := com_b fj fi t1 q2
                have := mxC_ub (h j) (h i) (2 ^ cnt (h j) - 1) s s0 (by omega) s2
                omega
            · rcases mxC_at (h j) (h i) (2 ^ cnt (h j) - 1) with z | ⟨s, s0, s1, s2, s3⟩
              · omega
              · obtain ⟨t, ht, mu, mv, u1, v1, P, pp, pn⟩ := com_a fj fi (show s < 2 ^ cnt (h j) by omega) s2
                obtain ⟨k, _, k2, k3⟩ := (a2.2.2 (tnd (h j) t)).mpr ⟨t, ht, by unfold fmP; simp, rfl⟩
                obtain ⟨U, hU⟩ := Int.eq_ofNat_of_zero_le (show 0 ≤ mu + 6 by omega)
                obtain ⟨V, hV⟩ := Int.eq_ofNat_of_zero_le (show 0 ≤ mv + 6 by omega)
                have d1 : (169 * k + 13 * V + U) / 169 = k := by omega
                have d2 : gcU (169 * k + 13 * V + U) = mu := by unfold gcU; omega
                have d3 : gcV (169 * k + 13 * V + U) = mv := by unfold gcV; omega
                have := c3 (169 * k + 13 * V + U) (by omega) P (by rw [d1, d2, d3, k3]; exact pp)
                omega
          rw [eq]
          exact ⟨_, _, _, _, _, _, rfl, rfl⟩
