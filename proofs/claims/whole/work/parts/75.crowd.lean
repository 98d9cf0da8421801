/-! traits of at most seven cells stay below sixty -/
theorem cnt_sl (f : Int64) {s : Nat} (hs : s < 64) : cnt (sl f (nI s)) ≤ cnt f := cnt_img (fun j => j + s) (fun i hi => by
  have i64 := bt_lt hi
  rw [bt_sl f hs i64, Bool.and_eq_true, decide_eq_true_eq] at hi
  exact ⟨i - s, hi.2, by omega⟩)
theorem cnt_su (f : Int64) {s : Nat} (hs : s < 64) : cnt (su f (nI s)) ≤ cnt f := cnt_img (fun j => j - s) (fun i hi => by
  rw [bt_su f hs] at hi
  exact ⟨s + i, hi, by omega⟩)
theorem cnt_orl (a b : Int64) : cnt (a ||| b) ≤ cnt a + cnt b := by
  unfold cnt
  rw [fb_ct_cong (q := fun k => bt a k || bt b k) (fun k _ => bt_or a b k)]
  exact ct_or_le _ _ 64
theorem cnt_xol (a b : Int64) : cnt (a ^^^ b) ≤ cnt a + cnt b := by
  refine Nat.le_trans (cnt_mono (b := a ||| b) (fun i hi => ?_)) (cnt_orl a b)
  rw [bt_xor] at hi
  rw [bt_or]
  cases h1 : bt a i <;> cases h2 : bt b i <;> rw [h1, h2] at hi <;> simp_all
theorem cnt_anl (a b : Int64) : cnt (a &&& b) ≤ cnt a := cnt_mono (and_sub a b)
theorem tr_60 {f : Int64} (hf : FIG f) (h7c : cnt f ≤ 7) {w : Nat} (hw : w ≤ 14) : ∃ r, tr_of f (nI w) = some (nI r) ∧ r < 60 := by
  have h7 := hf.1.c7
  have wb := wdt_b hf
  obtain ⟨cn, hcn, cc1, _⟩ := cutCells_ok hf
  obtain ⟨rn, hrn, _, rr2⟩ := rowWhole_ok hf
  obtain ⟨wn, hwn, _, ww2⟩ := columnWhole_ok hf
  have l1 := cnt_sl f (s := 1) (by omega)
  have l8 := cnt_sl f (s := 8) (by omega)
  have l9 := cnt_sl f (s := 9) (by omega)
  have u1 := cnt_su f (s := 1) (by omega)
  have u8 := cnt_su f (s := 8) (by omega)
  rw [show nI 1 = (1 : Int32) from rfl] at l1 u1
  rw [show nI 8 = (8 : Int32) from rfl] at l8 u8
  rw [show nI 9 = (9 : Int32) from rfl] at l9
  have t1 : two f ≤ 14 := by unfold two; have := cnt_anl f (su f 1); have := cnt_anl f (su f 8); omega
  have hh : cnt (hlw f) ≤ 49 := by
    have s1 : sub (hlw f) 35887507618889599 := fun i hi => by
      have := (((hlw_spec f).2 i).mp hi).1
      have b := bt_fre.mp this
      rw [k_77 (bt_lt hi), decide_eq_true_eq]
      exact ⟨b.1, b.2.1⟩
    have e : cnt 35887507618889599 = 49 := by decide +kernel
    have := cnt_mono s1
    omega
  have hn : fb_ct (mnH (hlw f)) 64 ≤ cnt (hlw f) := fb_ct_sub (fun k _ hk => (mnH_t.mp hk).1)
  have p0 : ptS f 0 8 < 60 := by
    rw [pt_out h7]
    have o1 : cnt (oddL f) ≤ 28 := by
      unfold oddL
      have a := cnt_xol ((f ^^^ sl f 1) ^^^ sl f 8) (sl f 9)
      have b := cnt_xol (f ^^^ sl f 1) (sl f 8)
      have c := cnt_xol f (sl f 1)
      omega
    have o2 := cnt_anl (oddL f) (thrL f ^^^ (-1))
    have o3 : cnt (aslL f) ≤ 14 := by
      unfold aslL
      have a := cnt_orl ((f &&& sl f 9) &&& ((sl f 1 ||| sl f 8) ^^^ (-1))) ((sl f 1 &&& sl f 8) &&& ((f ||| sl f 9) ^^^ (-1)))
      have b := cnt_anl (f &&& sl f 9) ((sl f 1 ||| sl f 8) ^^^ (-1))
      have c := cnt_anl f (sl f 9)
      have d := cnt_anl (sl f 1 &&& sl f 8) ((f ||| sl f 9) ^^^ (-1))
      have e := cnt_anl (sl f 1) (sl f 8)
      omega
    omega
  have p1 : ptS f 1 8 < 60 := by
    rw [pt_thr h7]
    unfold thrL
    have a := cnt_orl ((f &&& sl f 1) &&& (sl f 8 ^^^ sl f 9)) ((sl f 8 &&& sl f 9) &&& (f ^^^ sl f 1))
    have b := cnt_anl (f &&& sl f 1) (sl f 8 ^^^ sl f 9)
    have c := cnt_anl f (sl f 1)
    have d := cnt_anl (sl f 8 &&& sl f 9) (f ^^^ sl f 1)
    have e := cnt_anl (sl f 8) (sl f 9)
    omega
  have p3 : ptS f 3 8 < 60 := by
    rw [pt_sqr h7]
    unfold sqrL
    have a := cnt_anl ((f &&& sl f 1) &&& sl f 8) (sl f 9)
    have b := cnt_anl (f &&& sl f 1) (sl f 8)
    have c := cnt_anl f (sl f 1)
    omega
  have bs : besS f 9 < 60 := by
    rw [besS_eq hf.1]
    have g : cnt (gar f) ≤ 28 := by
      unfold gar
      have a := cnt_orl (((sl f 1) ||| (su f 1)) ||| (sl f 8)) (su f 8)
      have b := cnt_orl ((sl f 1) ||| (su f 1)) (sl f 8)
      have c := cnt_orl (sl f 1) (su f 1)
      omega
    have b1 := cnt_anl (gar f &&& (f ^^^ (-1))) 35887507618889599
    have b2 := cnt_anl (gar f) (f ^^^ (-1))
    have b3 : cnt (besB f) ≤ 28 := by unfold besB; omega
    have := cnt_mono (and_sub f 72340172838076673)
    have := cnt_mono (and_sub f 4629771061636907072)
    have := cnt_mono (and_sub f 255)
    have := cnt_mono (and_sub f 71776119061217280)
    omega
  have sm8 : smC f 8 ≤ 8 := fb_ct_le _ _
  have sd : (4 * nI (cnt f) - 2 * nI (two f) : Int32) = nI (4 * cnt f - 2 * two f) := by
    rw [show (4 : Int32) = nI 4 from rfl, show (2 : Int32) = nI 2 from rfl, pk_mul, pk_mul, pk_sub ?_]
    have a1 := cnt_mono (and_sub f (su f 1))
    have a2 := cnt_mono (and_sub f (su f 8))
    unfold two
    omega
  unfold tr_of
  rcases (show w = 0 ∨ w = 1 ∨ w = 2 ∨ w = 3 ∨ w = 4 ∨ w = 5 ∨ w = 6 ∨ w = 7 ∨ w = 8 ∨ w = 9 ∨ w = 10 ∨ w = 11 ∨ w = 12 ∨ w = 13 ∨ w = 14 by omega) with rfl | rfl | rfl | rfl | rfl | rfl | rfl | rfl | rfl | rfl | rfl | rfl | rfl | rfl | rfl
  · refine ⟨cnt f, ?_, by omega⟩
    rw [if_pos (by decide), jl_bitCount_eq]; rfl
  · refine ⟨wdt f, ?_, by omega⟩
    rw [if_neg (by decide), if_pos (by decide), gr_width_eq]; rfl
  · refine ⟨hgt f, ?_, by omega⟩
    rw [if_neg (by decide), if_neg (by decide), if_pos (by decide), gr_height_eq]; rfl
  · refine ⟨4 * cnt f - 2 * two f, ?_, by omega⟩
    rw [if_neg (by decide), if_neg (by decide), if_neg (by decide), if_pos (by decide), tr_sides_eq, sd]; rfl
  · refine ⟨fb_ct (mnH (hlw f)) 64, ?_, by omega⟩
    rw [if_neg (by decide), if_neg (by decide), if_neg (by decide), if_neg (by decide), if_pos (by decide), tr_holes_eq f]; rfl
  · refine ⟨cnt (hlw f), ?_, by omega⟩
    rw [if_neg (by decide), if_neg (by decide), if_neg (by decide), if_neg (by decide), if_neg (by decide), if_pos (by decide), (hlw_spec f).1, bd1_some, jl_bitCount_eq]; rfl
  · refine ⟨cn, ?_, by omega⟩
    simp only [show nI 6 = 6 from rfl, show ¬ (6 : Int32) = 0 by decide, show ¬ (6 : Int32) = 1 by decide, show ¬ (6 : Int32) = 2 by decide, show ¬ (6 : Int32) = 3 by decide, show ¬ (6 : Int32) = 4 by decide, show ¬ (6 : Int32) = 5 by decide, if_false, if_true, cc1, bd1_some]
  · refine ⟨besS f 9, ?_, by omega⟩
    rw [if_neg (by decide), if_neg (by decide), if_neg (by decide), if_neg (by decide), if_neg (by decide), if_neg (by decide), if_neg (by decide), if_pos (by decide), tr_beside_eq hf.1]; rfl
  · refine ⟨ptS f 0 8, ?_, by omega⟩
    rw [if_neg (by decide), if_neg (by decide), if_neg (by decide), if_neg (by decide), if_neg (by decide), if_neg (by decide), if_neg (by decide), if_neg (by decide), if_pos (by decide), tr_outer_eq h7]; rfl
  · refine ⟨ptS f 1 8, ?_, by omega⟩
    rw [if_neg (by decide), if_neg (by decide), if_neg (by decide), if_neg (by decide), if_neg (by decide), if_neg (by decide), if_neg (by decide), if_neg (by decide), if_neg (by decide), if_pos (by decide), tr_threes_eq, bd1_some, jl_bitCount_eq, pt_thr h7]; rfl
  · refine ⟨ptS f 3 8, ?_, by omega⟩
    rw [if_neg (by decide), if_neg (by decide), if_neg (by decide), if_neg (by decide), if_neg (by decide), if_neg (by decide), if_neg (by decide), if_neg (by decide), if_neg (by decide), if_neg (by decide), if_pos (by decide), tr_squares_eq h7]; rfl
  · refine ⟨rn, ?_, by omega⟩
    rw [if_neg (by decide), if_neg (by decide), if_neg (by decide), if_neg (by decide), if_neg (by decide), if_neg (by decide), if_neg (by decide), if_neg (by decide), if_neg (by decide), if_neg (by decide), if_neg (by decide), if_pos (by decide), rr2, bd1_some]
    rcases (show rn = 0 ∨ rn = 1 by omega) with rfl | rfl
    · rw [if_pos nI_0, nI_0]
    · rw [if_neg (by decide)]; rfl
  · refine ⟨wn, ?_, by omega⟩
    rw [if_neg (by decide), if_neg (by decide), if_neg (by decide), if_neg (by decide), if_neg (by decide), if_neg (by decide), if_neg (by decide), if_neg (by decide), if_neg (by decide), if_neg (by decide), if_neg (by decide), if_neg (by decide), if_pos (by decide), ww2, bd1_some]
    rcases (show wn = 0 ∨ wn = 1 by omega) with rfl | rfl
    · rw [if_pos nI_0, nI_0]
    · rw [if_neg (by decide)]; rfl
  · refine ⟨smC f 8, ?_, by omega⟩
    rw [if_neg (by decide), if_neg (by decide), if_neg (by decide), if_neg (by decide), if_neg (by decide), if_neg (by decide), if_neg (by decide), if_neg (by decide), if_neg (by decide), if_neg (by decide), if_neg (by decide), if_neg (by decide), if_neg (by decide), if_pos (by decide), tr_same_eq hf]; rfl
  · refine ⟨two f, ?_, by omega⟩
    rw [if_neg (by decide), if_neg (by decide), if_neg (by decide), if_neg (by decide), if_neg (by decide), if_neg (by decide), if_neg (by decide), if_neg (by decide), if_neg (by decide), if_neg (by decide), if_neg (by decide), if_neg (by decide), if_neg (by decide), if_neg (by decide), if_pos (by decide), tr_twos_eq]; rfl
theorem trN_60 {f : Int64} (hf : FIG f) (h7c : cnt f ≤ 7) {w : Nat} (hw : w ≤ 14) : trN f w < 60 := by
  obtain ⟨r, h1, h2⟩ := tr_60 hf h7c hw
  have := trN_ok hf hw
  rw [h1] at this
  have e : r = trN f w := (nI_eq (by omega) (by omega)).mp (Option.some.inj this.1)
  omega
/-! crowds -/
noncomputable def crC (n k w : Nat) (v t : Nat) : Nat := fb_ct (fun s => decide (trN (Lf (mbr n k s)) w = v)) t
theorem crC_s (n k w v t : Nat) : crC n k w v (t + 1) = crC n k w v t + (if trN (Lf (mbr n k t)) w = v then 1 else 0) := by
  unfold crC
  rw [fb_ct_succ]
  by_cases q : trN (Lf (mbr n k t)) w = v <;> simp [q]
/-- the greatest, and how many unlike -/
def mxV (c : Nat → Nat) : Nat → Nat
  | 0 => 0
  | v + 1 => max (mxV c v) (c v)
def unV (c : Nat → Nat) (n : Nat) : Nat := fb_ct (fun v => decide (0 < c v)) n
theorem mxV_le {c : Nat → Nat} {v : Nat} : ∀ {n : Nat}, v < n → c v ≤ mxV c n
  | 0, h => by omega
  | n + 1, h => by
    show c v ≤ max (mxV c n) (c n)
    rcases Nat.lt_or_ge v n with q | q
    · have := mxV_le (c := c) q; omega
    · have : v = n := by omega
      subst this; omega
theorem mxV_b {c : Nat → Nat} {B : Nat} : ∀ {n : Nat}, (∀ v, v < n → c v ≤ B) → mxV c n ≤ B
  | 0, _ => Nat.zero_le _
  | n + 1, h => by
    have a := mxV_b (c := c) (B := B) (n := n) (fun v hv => h v (by omega))
    have b := h n (by omega)
    show max (mxV c n) (c n) ≤ B
    omega
theorem mxV_cong {c d : Nat → Nat} : ∀ {n : Nat}, (∀ v, v < n → c v = d v) → mxV c n = mxV d n
  | 0, _ => rfl
  | n + 1, h => by
    show max (mxV c n) (c n) = max (mxV d n) (d n)
    rw [mxV_cong (fun v hv => h v (by omega)), h n (by omega)]
theorem mxV_set {c d : Nat → Nat} {v n : Nat} (hv : v < n) (h1 : d v = c v + 1) (h2 : ∀ u, u ≠ v → d u = c u) : mxV d n = max (mxV c n) (d v) := by
  apply Nat.le_antisymm
  · refine mxV_b (fun u hu => ?_)
    by_cases q : u = v
    · subst q; omega
    · have := mxV_le (c := c) hu
      rw [h2 u q]; omega
  · have a := mxV_le (c := d) hv
    have b : mxV c n ≤ mxV d n := mxV_b (fun u hu => by
      have := mxV_le (c := d) hu
      by_cases q : u = v
      · subst q; omega
      · rw [h2 u q] at this; exact this)
    omega
theorem mxV_64 {c : Nat → Nat} (h : ∀ v, 60 ≤ v → c v = 0) : mxV c 64 = mxV c 60 := by
  show max (max (max (max (mxV c 60) (c 60)) (c 61)) (c 62)) (c 63) = _
  rw [h 60 (by omega), h 61 (by omega), h 62 (by omega), h 63 (by omega)]
  omega
theorem crC_60 {n k w : Nat} (hn : 1 ≤ n ∧ n ≤ 7) (hw : w ≤ 14) {t : Nat} (ht : t ≤ eK k n - eK k (n - 1)) {v : Nat} (hv : 60 ≤ v) : crC n k w v t = 0 := fb_ct_zero.mpr (fun s hs => by
  obtain ⟨j1, j2, j3, j4⟩ := mbr_s (k := k) hn (show s < eK k n - eK k (n - 1) by omega)
  have b := eN_b hn.2
  have c := Lf_cnt (show mbr n k s < 1067 by omega)
  have g := gn_b (show mbr n k s < 1067 by omega)
  have := trN_60 (Lf_FIG (show mbr n k s < 1067 by omega)) (by omega) hw
  exact decide_eq_false (by omega))
theorem crowds_eq {tl : Int64 → Nat} {m : Nat} {nu : Nat → Int64} {os fr en : Nat → Int32} (hc : CL m nu os fr en) (hm : m ≤ 7) {M : Nat → Int64} (hM : MK tl M) {n k w : Nat} (hk : k ≤ 2) (h1 : 1 ≤ n) (hn : n ≤ m) (hw : w ≤ 14) (s1 s2 s3 s4 s5 s6 s7 : Int32) (le : Nat → Int32) (mo : Int32) (C : Nat → Int32) : ∃ M' C', ca_crowds (nI n) (nI k) (nI w) mo s1 s2 s3 s4 s5 s6 s7 le nu os fr en M C = some (if mo = 0 then nI (unV (fun v => crC n k w v (eK k n - eK k (n - 1))) 64) else nI (mxV (fun v => crC n k w v (eK k n - eK k (n - 1))) 64), s1, s2, s3, s4, s5, s6, s7, le, M', C') ∧ MK tl M' := by
  have n7 : n ≤ 7 := by omega
  have ek := eK_1067 (k := k) n7
  unfold ca_crowds
  refine ivl2 (B := ca_crowds_B3 (nI n) (nI k) (nI w) mo s1 s2 s3 s4 s5 s6 s7 le nu os fr en M) (fun t a C => a = nI t ∧ ∀ v, v < t → C v = 0) (fun o => ∃ M' C', o = some (if mo = 0 then nI (unV (fun v => crC n k w v (eK k n - eK k (n - 1))) 64) else nI (mxV (fun v => crC n k w v (eK k n - eK k (n - 1))) 64), s1, s2, s3, s4, s5, s6, s7, le, M', C') ∧ MK tl M') 64 ?_ ?_ FU 0 _ _ (by omega) (FU_lt (by omega)) ⟨rfl, fun v h => by omega⟩
  · rintro t ht a C K ⟨rfl, hC⟩
    rw [ca_crowds_B3, if_neg (show ¬ (64 : Int32) ≤ nI t from nI_ge (a := t) (b := 64) ht (by omega)), ck_n ht (by omega), nm_eq, nm_eq, cl_n (by omega), o1]
    refine ⟨_, _, ⟨rfl, fun v hv => ?_⟩, rfl⟩
    by_cases q : v = t
    · rw [q, pk_us]
    · rw [pk_un q]; exact hC v (by omega)
  · rintro a C K ⟨rfl, hC⟩
    rw [ca_crowds_B3, if_pos (show (64 : Int32) ≤ nI 64 from by decide), csize hc hm hk h1 hn, bd1_some]
    refine ivl13 (B := ca_crowds_B44 (nI n) (nI k) (nI w) mo (nI (eK k n - eK k (n - 1))) nu os fr en) (fun t a b c c1 c2 c3 c4 c5 c6 c7 c8 M C => a = nI (mxV (fun v => crC n k w v t) 64) ∧ b = nI (unV (fun v => crC n k w v t) 64) ∧ c = nI t ∧ c1 = s1 ∧ c2 = s2 ∧ c3 = s3 ∧ c4 = s4 ∧ c5 = s5 ∧ c6 = s6 ∧ c7 = s7 ∧ c8 = le ∧ MK tl M ∧ ∀ v, v < 64 → C v = nI (crC n k w v t)) (fun o => ∃ M' C', o = some (if mo = 0 then nI (unV (fun v => crC n k w v (eK k n - eK k (n - 1))) 64) else nI (mxV (fun v => crC n k w v (eK k n - eK k (n - 1))) 64), s1, s2, s3, s4, s5, s6, s7, le, M', C') ∧ MK tl M') (eK k n - eK k (n - 1)) ?_ ?_ FU 0 _ _ _ _ _ _ _ _ _ _ _ _ _ (by omega) (FU_lt (by omega)) ⟨?_, ?_, rfl, rfl, rfl, rfl, rfl, rfl, rfl, rfl, rfl, hM, fun v hv => ?_⟩
    · rintro t ht a b c c1 c2 c3 c4 c5 c6 c7 c8 M C kq ⟨rfl, rfl, rfl, rfl, rfl, rfl, rfl, rfl, rfl, rfl, rfl, hM, hC⟩
      obtain ⟨j1, j2, j3, j4⟩ := mbr_s (k := k) ⟨h1, n7⟩ ht
      have b := eN_b n7
      have g := gn_b (show mbr n k t < 1067 by omega)
      have cc := Lf_cnt (show mbr n k t < 1067 by omega)
      have r60 := trN_60 (Lf_FIG (show mbr n k t < 1067 by omega)) (by omega) hw
      obtain ⟨M', e1, e2⟩ := trait_eq (tl := tl) hc hm hM hk h1 hn j2 j3 j4 hw c1 c2 c3 c4 c5 c6 c7 c8
      have crs := crC_s n k w
      generalize er : trN (Lf (mbr n k t)) w = r at *
      have i1 : inr (nI r) 0 (64 - 1) = true := by
        unfold inr
        rw [Bool.and_eq_true, decide_eq_true_eq, decide_eq_true_eq]
        exact ⟨nI_pos' (by omega), nI_le (a := r) (b := 63) (by omega) (by omega)⟩
      have ct : ∀ v, crC n k w v t ≤ t := fun v => fb_ct_le _ _
      have cv : ∀ v, crC n k w v (t + 1) = crC n k w v t + (if r = v then 1 else 0) := fun v => by rw [crs v t, er]
      have cr := ct r
      have crr : crC n k w r (t + 1) = crC n k w r t + 1 := by rw [cv r, if_pos rfl]
      have mb : mxV (fun v => crC n k w v t) 64 ≤ t := mxV_b (fun v _ => ct v)
      have c64 : ∀ {β : Type} (k : Option β), ck (nI r) 64 k = k := fun k => ck_n (show r < 64 by omega) (by omega) k
      have mset := mxV_set (c := fun v => crC n k w v t) (d := fun v => crC n k w v (t + 1)) (v := r) (n := 64) (by omega) crr (fun u hu => by show crC n k w u (t + 1) = _; rw [cv u, if_neg (fun e => hu e.symm)]; rfl)
      have un : unV (fun v => crC n k w v (t + 1)) 64 = unV (fun v => crC n k w v t) 64 + (if crC n k w r t = 0 then 1 else 0) := by
        show fb_ct (fun v => decide (0 < crC n k w v (t + 1))) 64 = fb_ct (fun v => decide (0 < crC n k w v t)) 64 + _
        have e := fb_ct_upd (fun v => decide (0 < crC n k w v t)) true (i := r) (n := 64) (by omega)
        have e3 : fb_ct (fun v => decide (0 < crC n k w v (t + 1))) 64 = fb_ct (fun k' => if k' = r then true else decide (0 < crC n k w k' t)) 64 := fb_ct_cong (fun v _ => by
          by_cases q : v = r
          · rw [if_pos q, q, crr, decide_eq_true (by omega)]
          · rw [if_neg q, cv v, if_neg (fun e => q e.symm), Nat.add_zero])
        rw [e3]
        rw [if_pos rfl] at e
        by_cases q : crC n k w r t = 0
        · have d : decide (0 < crC n k w r t) = false := decide_eq_false (by omega)
          rw [d, if_neg (by decide)] at e
          rw [if_pos q]
          omega
        · rw [if_neg q]
          have : decide (0 < crC n k w r t) = true := decide_eq_true (by omega)
          rw [this, if_pos rfl] at e
          omega
      rw [ca_crowds_B44, if_neg (nI_ge ht (by omega)), e1, bd10_some, cf_within_eq, bd1_some, i1, if_neg (by decide), c64, cl_n (show r < 2 ^ 31 by omega), hC r (by omega)]
      have fin : ∀ z : Nat, unV (fun v => crC n k w v (t + 1)) 64 = unV (fun v => crC n k w v t) 64 + z → ∃ b1 b2 b3 b4 b5 b6 b7 b8 b9 b10 b11 b12 b13, (b1 = nI (mxV (fun v => crC n k w v (t + 1)) 64) ∧ b2 = nI (unV (fun v => crC n k w v (t + 1)) 64) ∧ b3 = nI (t + 1) ∧ b4 = c1 ∧ b5 = c2 ∧ b6 = c3 ∧ b7 = c4 ∧ b8 = c5 ∧ b9 = c6 ∧ b10 = c7 ∧ b11 = c8 ∧ MK tl b12 ∧ ∀ v, v < 64 → b13 v = nI (crC n k w v (t + 1))) ∧ ca_crowds_J95 kq nu os fr en (nI n) (nI k) (nI w) mo (nI (eK k n - eK k (n - 1))) (nI (mxV (fun v => crC n k w v t) 64)) (nI t) (nI r) c1 c2 c3 c4 c5 c6 c7 c8 M' C (nI (unV (fun v => crC n k w v t) 64)) (nI z) = kq b1 b2 b3 b4 b5 b6 b7 b8 b9 b10 b11 b12 b13 := by
        intro z hz
        rw [ca_crowds_J95, nm_eq, c64, nm_eq, c64, nm_eq, c64, nm_eq, cl_n (show r < 2 ^ 31 by omega), pk_us, hC r (by omega), nI_1, nI_add, mx_n (by omega) (by omega), ca_crowds_J123, nm_eq, o1]
        refine ⟨_, _, _, _, _, _, _, _, _, _, _, _, _, ⟨?_, by rw [hz], rfl, rfl, rfl, rfl, rfl, rfl, rfl, rfl, rfl, e2, fun v hv => ?_⟩, rfl⟩
        · rw [mset]
          show nI (max (mxV (fun v => crC n k w v t) 64) (crC n k w r t + 1)) = nI (max (mxV (fun v => crC n k w v t) 64) (crC n k w r (t + 1)))
          rw [crr]
        · by_cases q : v = r
          · rw [q, pk_us, crr]
          · rw [pk_un q, hC v hv, cv v, if_neg (fun e => q e.symm)]; rfl
      by_cases q : crC n k w r t = 0
      · rw [if_pos (by rw [q]; rfl)]
        rw [if_pos q] at un
        exact fin 1 un
      · rw [if_neg (nI_ne0 (by omega) (by omega))]
        rw [if_neg q] at un
        exact fin 0 un
    · rintro a b c c1 c2 c3 c4 c5 c6 c7 c8 M C kq ⟨rfl, rfl, rfl, rfl, rfl, rfl, rfl, rfl, rfl, rfl, rfl, hM, hC⟩
      rw [ca_crowds_B44, if_pos (nI_le (Nat.le_refl _) (by omega))]
      refine ⟨M, C, ?_, hM⟩
      by_cases q : mo = 0
      · rw [if_pos q, if_pos q]
      · rw [if_neg q, if_neg q]
    · have : mxV (fun v => crC n k w v 0) 64 ≤ 0 := mxV_b (fun v _ => Nat.le_refl _)
      rw [show mxV (fun v => crC n k w v 0) 64 = 0 by omega]; rfl
    · have : unV (fun v => crC n k w v 0) 64 = 0 := fb_ct_zero.mpr (fun v _ => decide_eq_false (by show ¬ 0 < 0; omega))
      rw [this]; rfl
    · rw [hC v hv]; rfl
