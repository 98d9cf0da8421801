/-! how long the line is -/
theorem ct_anot (p q : Nat → Bool) : ∀ n, fb_ct (fun k => p k && !q k) n + fb_ct (fun k => p k && q k) n = fb_ct p n
  | 0 => rfl
  | n + 1 => by
    rw [fb_ct_succ, fb_ct_succ, fb_ct_succ]
    have := ct_anot p q n
    cases p n <;> cases q n <;> simp <;> omega
theorem cnt_sh (f : Int64) {s : Nat} (hs : s < 64) : cnt (f &&& sl f (nI s)) = cnt (f &&& su f (nI s)) := by
  unfold cnt
  have a := fb_ct_split (bt (f &&& sl f (nI s))) s (64 - s)
  have b := fb_ct_split (bt (f &&& su f (nI s))) (64 - s) s
  rw [show s + (64 - s) = 64 by omega] at a
  rw [show 64 - s + s = 64 by omega] at b
  have z1 : fb_ct (bt (f &&& sl f (nI s))) s = 0 := fb_ct_zero.mpr (fun k hk => by
    rw [bt_and, bt_sl f hs (show k < 64 by omega), decide_eq_false (by omega), Bool.false_and, Bool.and_false])
  have z2 : fb_ct (fun k => bt (f &&& su f (nI s)) (64 - s + k)) s = 0 := fb_ct_zero.mpr (fun k hk => by
    show bt (f &&& su f (nI s)) (64 - s + k) = false
    rw [bt_and, bt_su f hs, bt_big (show 64 ≤ s + (64 - s + k) by omega), Bool.and_false])
  have c : fb_ct (fun k => bt (f &&& sl f (nI s)) (s + k)) (64 - s) = fb_ct (bt (f &&& su f (nI s))) (64 - s) := fb_ct_cong (fun k hk => by
    show bt (f &&& sl f (nI s)) (s + k) = bt (f &&& su f (nI s)) k
    rw [bt_and, bt_and, bt_sl f hs (show s + k < 64 by omega), bt_su f hs, decide_eq_true (show s ≤ s + k by omega), Bool.true_and, show s + k - s = k by omega, Bool.and_comm])
  omega
def cxN : Nat → Nat
  | 0 => 0
  | 3 => 0
  | _ => 1
def cyN : Nat → Nat
  | 0 => 0
  | 1 => 0
  | _ => 1
/-- sides by their cell and letter -/
def scB (f : Int64) (c : Nat) : Bool := sdB f (((c % 64 % 8 : Nat) : Int) + (cxN (c / 64) : Int)) (((c % 64 / 8 : Nat) : Int) + (cyN (c / 64) : Int)) (c / 64)
theorem sc_0 {f : Int64} {k : Nat} (hk : k < 64) : scB f k = (bt f k && !bt (sl f 8) k) := by
  unfold scB
  rw [show k / 64 = 0 by omega, show k % 64 = k by omega, sd_0]
  rw [show (((k % 8 : Nat) : Int) + ((cxN 0 : Nat) : Int)) = ((k % 8 : Nat) : Int) from Int.add_zero _, show (((k / 8 : Nat) : Int) + ((cyN 0 : Nat) : Int)) = ((k / 8 : Nat) : Int) from Int.add_zero _, hB_b f hk, hB_u (f := f) (x := k % 8) (y := k / 8) (by omega) (by omega), show 8 * (k / 8) + k % 8 = k by omega]
theorem sc_1 {f : Int64} (hf : C7 f) {k : Nat} (hk : k < 64) : scB f (64 + k) = (bt f k && !bt (su f 1) k) := by
  unfold scB
  rw [show (64 + k) / 64 = 1 by omega, show (64 + k) % 64 = k by omega, sd_1]
  rw [show (((k % 8 : Nat) : Int) + ((cxN 1 : Nat) : Int)) = ((k % 8 : Nat) : Int) + 1 from rfl, show (((k / 8 : Nat) : Int) + ((cyN 1 : Nat) : Int)) = ((k / 8 : Nat) : Int) from Int.add_zero _, show ((k % 8 : Nat) : Int) + 1 - 1 = ((k % 8 : Nat) : Int) by omega, hB_b f hk]
  cases q : bt f k with
  | false => rfl
  | true =>
    have k7 := hf k q
    rw [show ((k % 8 : Nat) : Int) + 1 = ((k % 8 + 1 : Nat) : Int) by omega, hB_n f (show k % 8 + 1 < 8 by omega) (show k / 8 < 8 by omega), show (1 : Int32) = nI 1 from rfl, bt_su f (by omega), show 8 * (k / 8) + (k % 8 + 1) = 1 + k by omega]
theorem sc_2 {f : Int64} {k : Nat} (hk : k < 64) : scB f (128 + k) = (bt f k && !bt (su f 8) k) := by
  unfold scB
  rw [show (128 + k) / 64 = 2 by omega, show (128 + k) % 64 = k by omega, sd_2]
  rw [show (((k % 8 : Nat) : Int) + ((cxN 2 : Nat) : Int)) = ((k % 8 : Nat) : Int) + 1 from rfl, show (((k / 8 : Nat) : Int) + ((cyN 2 : Nat) : Int)) = ((k / 8 : Nat) : Int) + 1 from rfl, show ((k % 8 : Nat) : Int) + 1 - 1 = ((k % 8 : Nat) : Int) by omega, show ((k / 8 : Nat) : Int) + 1 - 1 = ((k / 8 : Nat) : Int) by omega, hB_b f hk, show (8 : Int32) = nI 8 from rfl, bt_su f (by omega)]
  by_cases q : k / 8 + 1 < 8
  · rw [show ((k / 8 : Nat) : Int) + 1 = ((k / 8 + 1 : Nat) : Int) by omega, hB_n f (show k % 8 < 8 by omega) q, show 8 * (k / 8 + 1) + k % 8 = 8 + k by omega]
  · rw [hB_o f (by omega), bt_big (show 64 ≤ 8 + k by omega)]
theorem sc_3 {f : Int64} (hf : C7 f) {k : Nat} (hk : k < 64) : scB f (192 + k) = (bt f k && !bt (sl f 1) k) := by
  unfold scB
  rw [show (192 + k) / 64 = 3 by omega, show (192 + k) % 64 = k by omega, sd_3]
  rw [show (((k % 8 : Nat) : Int) + ((cxN 3 : Nat) : Int)) = ((k % 8 : Nat) : Int) from Int.add_zero _, show (((k / 8 : Nat) : Int) + ((cyN 3 : Nat) : Int)) = ((k / 8 : Nat) : Int) + 1 from rfl, show ((k / 8 : Nat) : Int) + 1 - 1 = ((k / 8 : Nat) : Int) by omega, hB_b f hk, hB_l hf (x := k % 8) (y := k / 8) (by omega) (by omega), show 8 * (k / 8) + k % 8 = k by omega]
theorem sc_ct {f : Int64} (hf : C7 f) : fb_ct (scB f) 256 + 2 * two f = 4 * cnt f := by
  have a1 := fb_ct_split (scB f) 64 192
  have a2 := fb_ct_split (fun k => scB f (64 + k)) 64 128
  have a3 := fb_ct_split (fun k => scB f (64 + (64 + k))) 64 64
  have b0 := ct_anot (bt f) (bt (sl f 8)) 64
  have b1 := ct_anot (bt f) (bt (su f 1)) 64
  have b2 := ct_anot (bt f) (bt (su f 8)) 64
  have b3 := ct_anot (bt f) (bt (sl f 1)) 64
  have c0 : fb_ct (scB f) 64 = fb_ct (fun k => bt f k && !bt (sl f 8) k) 64 := fb_ct_cong (fun k hk => sc_0 hk)
  have c1 : fb_ct (fun k => scB f (64 + k)) 64 = fb_ct (fun k => bt f k && !bt (su f 1) k) 64 := fb_ct_cong (fun k hk => sc_1 hf hk)
  have c2 : fb_ct (fun k => scB f (64 + (64 + k))) 64 = fb_ct (fun k => bt f k && !bt (su f 8) k) 64 := fb_ct_cong (fun k hk => by
    show scB f (64 + (64 + k)) = _
    rw [show 64 + (64 + k) = 128 + k by omega]; exact sc_2 hk)
  have c3 : fb_ct (fun k => scB f (64 + (64 + (64 + k)))) 64 = fb_ct (fun k => bt f k && !bt (sl f 1) k) 64 := fb_ct_cong (fun k hk => by
    show scB f (64 + (64 + (64 + k))) = _
    rw [show 64 + (64 + (64 + k)) = 192 + k by omega]; exact sc_3 hf hk)
  have d0 : fb_ct (fun k => bt f k && bt (sl f 8) k) 64 = cnt (f &&& sl f 8) := fb_ct_cong (fun k _ => (bt_and f _ k).symm)
  have d1 : fb_ct (fun k => bt f k && bt (su f 1) k) 64 = cnt (f &&& su f 1) := fb_ct_cong (fun k _ => (bt_and f _ k).symm)
  have d2 : fb_ct (fun k => bt f k && bt (su f 8) k) 64 = cnt (f &&& su f 8) := fb_ct_cong (fun k _ => (bt_and f _ k).symm)
  have d3 : fb_ct (fun k => bt f k && bt (sl f 1) k) 64 = cnt (f &&& sl f 1) := fb_ct_cong (fun k _ => (bt_and f _ k).symm)
  have e8 : cnt (f &&& sl f 8) = cnt (f &&& su f 8) := cnt_sh f (s := 8) (by omega)
  have e1 : cnt (f &&& sl f 1) = cnt (f &&& su f 1) := cnt_sh f (s := 1) (by omega)
  have cf : fb_ct (bt f) 64 = cnt f := rfl
  have tw : two f = cnt (f &&& su f 1) + cnt (f &&& su f 8) := rfl
  have a1' : fb_ct (scB f) 256 = fb_ct (scB f) 64 + fb_ct (fun k => scB f (64 + k)) 192 := a1
  have a2' : fb_ct (fun k => scB f (64 + k)) 192 = fb_ct (fun k => scB f (64 + k)) 64 + fb_ct (fun k => scB f (64 + (64 + k))) 128 := a2
  have a3' : fb_ct (fun k => scB f (64 + (64 + k))) 128 = fb_ct (fun k => scB f (64 + (64 + k))) 64 + fb_ct (fun k => scB f (64 + (64 + (64 + k)))) 64 := a3
  omega
/-- a count by a numbering -/
theorem ct_bij {p : Nat → Bool} {N L : Nat} {e : Nat → Nat} (h1 : ∀ i, i < L → e i < N ∧ p (e i) = true) (h2 : ∀ i j, i < j → j < L → e i ≠ e j) (h3 : ∀ c, c < N → p c = true → ∃ i, i < L ∧ e i = c) : fb_ct p N = L := by
  have rk_lt : ∀ c, c < N → p c = true → fb_ct p c < fb_ct p N := fun c hc hp => by
    have s := fb_ct_succ p c
    rw [hp, if_pos rfl] at s
    have := fb_ct_mono p (show c + 1 ≤ N by omega)
    omega
  have a : L ≤ fb_ct p N := fb_holes _ L (fun i => fb_ct p (e i)) (fun i hi => rk_lt _ (h1 i hi).1 (h1 i hi).2) (fun i j hij hj q => h2 i j hij hj (fb_ct_kth_one (h1 i (by omega)).2 (h1 j hj).2 q))
  have ex : ∀ k, ∃ i, k < fb_ct p N → i < L ∧ fb_ct p (e i) = k := fun k => by
    by_cases hk : k < fb_ct p N
    · obtain ⟨c, c1, c2, c3⟩ := fb_ct_kth hk
      obtain ⟨i, i1, i2⟩ := h3 c c1 c2
      exact ⟨i, fun _ => ⟨i1, by rw [i2]; exact c3⟩⟩
    · exact ⟨0, fun h => absurd h hk⟩
  have b : fb_ct p N ≤ L := fb_holes L _ (fun k => Classical.choose (ex k)) (fun k hk => (Classical.choose_spec (ex k) hk).1) (fun k j hkj hj q => by
    have x := (Classical.choose_spec (ex k) (by omega)).2
    have y := (Classical.choose_spec (ex j) hj).2
    have q' : Classical.choose (ex k) = Classical.choose (ex j) := q
    rw [q'] at x
    omega)
  omega
theorem len_ct {f : Int64} {x0 L : Nat} (h : LNs f x0) (hL : LEN f x0 L) : fb_ct (scB f) 256 = L := by
  have c1 : ∀ l, l < 4 → cxN l ≤ 1 ∧ cyN l ≤ 1 := fun l hl => by rcases l4 hl with rfl | rfl | rfl | rfl <;> decide
  have cell : ∀ i, ((cxN (wL f x0 i) : Int) ≤ wX f x0 i ∧ wX f x0 i - (cxN (wL f x0 i) : Int) ≤ 6) ∧ ((cyN (wL f x0 i) : Int) ≤ wY f x0 i ∧ wY f x0 i - (cyN (wL f x0 i) : Int) ≤ 6) := fun i => by
    obtain ⟨s, hl⟩ := wk_sd h i
    have k : ∀ {u v : Int}, hB f u v = true → 0 ≤ u ∧ u < 7 ∧ 0 ≤ v ∧ v < 7 := fun {u v} hu => by
      by_cases q : 0 ≤ u ∧ u < 7 ∧ 0 ≤ v ∧ v < 7
      · exact q
      · rw [hB_77 h.1.1 q] at hu; simp at hu
    rcases l4 hl with e | e | e | e
    · rw [e, sd_0, Bool.and_eq_true] at s
      rw [e, show ((cxN 0 : Nat) : Int) = 0 from rfl, show ((cyN 0 : Nat) : Int) = 0 from rfl]
      have := k s.1; omega
    · rw [e, sd_1, Bool.and_eq_true] at s
      rw [e, show ((cxN 1 : Nat) : Int) = 1 from rfl, show ((cyN 1 : Nat) : Int) = 0 from rfl]
      have := k s.1; omega
    · rw [e, sd_2, Bool.and_eq_true] at s
      rw [e, show ((cxN 2 : Nat) : Int) = 1 from rfl, show ((cyN 2 : Nat) : Int) = 1 from rfl]
      have := k s.1; omega
    · rw [e, sd_3, Bool.and_eq_true] at s
      rw [e, show ((cxN 3 : Nat) : Int) = 0 from rfl, show ((cyN 3 : Nat) : Int) = 1 from rfl]
      have := k s.1; omega
  have dec : ∀ i, ((64 * wL f x0 i + (8 * (wY f x0 i - (cyN (wL f x0 i) : Int)) + (wX f x0 i - (cxN (wL f x0 i) : Int))).toNat) / 64 = wL f x0 i) ∧ ((((64 * wL f x0 i + (8 * (wY f x0 i - (cyN (wL f x0 i) : Int)) + (wX f x0 i - (cxN (wL f x0 i) : Int))).toNat) % 64 % 8 : Nat) : Int) = wX f x0 i - (cxN (wL f x0 i) : Int)) ∧ ((((64 * wL f x0 i + (8 * (wY f x0 i - (cyN (wL f x0 i) : Int)) + (wX f x0 i - (cxN (wL f x0 i) : Int))).toNat) % 64 / 8 : Nat) : Int) = wY f x0 i - (cyN (wL f x0 i) : Int)) ∧ (64 * wL f x0 i + (8 * (wY f x0 i - (cyN (wL f x0 i) : Int)) + (wX f x0 i - (cxN (wL f x0 i) : Int))).toNat) < 256 := fun i => by
    have a := cell i
    have l := (wk_sd h i).2
    generalize (cxN (wL f x0 i) : Int) = cx at *
    generalize (cyN (wL f x0 i) : Int) = cy at *
    generalize wL f x0 i = l' at *
    generalize wX f x0 i = X at *
    generalize wY f x0 i = Y at *
    refine ⟨by omega, by omega, by omega, by omega⟩
  refine ct_bij (e := fun i => 64 * wL f x0 i + (8 * (wY f x0 i - (cyN (wL f x0 i) : Int)) + (wX f x0 i - (cxN (wL f x0 i) : Int))).toNat) (fun i hi => ?_) (fun i j hij hj q => ?_) (fun c hc hp => ?_)
  · obtain ⟨d1, d2, d3, d4⟩ := dec i
    refine ⟨d4, ?_⟩
    show scB f (64 * wL f x0 i + (8 * (wY f x0 i - (cyN (wL f x0 i) : Int)) + (wX f x0 i - (cxN (wL f x0 i) : Int))).toNat) = true
    unfold scB
    rw [d1, d2, d3, show wX f x0 i - (cxN (wL f x0 i) : Int) + (cxN (wL f x0 i) : Int) = wX f x0 i by omega, show wY f x0 i - (cyN (wL f x0 i) : Int) + (cyN (wL f x0 i) : Int) = wY f x0 i by omega]
    exact (wk_sd h i).1
  · obtain ⟨a1, a2, a3, a4⟩ := dec i
    obtain ⟨b1, b2, b3, b4⟩ := dec j
    have q' : 64 * wL f x0 i + (8 * (wY f x0 i - (cyN (wL f x0 i) : Int)) + (wX f x0 i - (cxN (wL f x0 i) : Int))).toNat = 64 * wL f x0 j + (8 * (wY f x0 j - (cyN (wL f x0 j) : Int)) + (wX f x0 j - (cxN (wL f x0 j) : Int))).toNat := q
    rw [q'] at a1 a2 a3
    have el : wL f x0 i = wL f x0 j := by rw [← a1, b1]
    rw [el] at a2 a3
    exact wk_inj h hL hij hj ⟨by omega, by omega⟩
  · unfold scB at hp
    have l4' : c / 64 < 4 := by omega
    obtain ⟨i, i1, i2, i3, i4⟩ := on_line h hL l4' hp
    refine ⟨i, i1, ?_⟩
    show 64 * wL f x0 i + (8 * (wY f x0 i - (cyN (wL f x0 i) : Int)) + (wX f x0 i - (cxN (wL f x0 i) : Int))).toNat = c
    rw [i4, i2, i3]
    have := c1 _ l4'
    generalize cxN (c / 64) = cx at *
    generalize cyN (c / 64) = cy at *
    omega
theorem two_more {g : Int64} {a b : Nat} (ha : bt g a = true) (hb : bt g b = false) (hb64 : b < 64) (hab : adj a b) : two g + 1 ≤ two (g ||| sl 1 (nI b)) := by
  have a64 := bt_lt ha
  have mono : ∀ {s : Nat}, s < 64 → sub (g &&& su g (nI s)) ((g ||| sl 1 (nI b)) &&& su (g ||| sl 1 (nI b)) (nI s)) := fun {s} hs i hi => by
    rw [bt_and, Bool.and_eq_true, bt_su _ hs] at hi
    rw [bt_and, Bool.and_eq_true, bt_su _ hs, bt_or, bt_or, hi.1, hi.2]
    exact ⟨rfl, rfl⟩
  have gb : bt (g ||| sl 1 (nI b)) b = true := by rw [bt_or, (bt_one hb64).mpr rfl, Bool.or_true]
  have ga : bt (g ||| sl 1 (nI b)) a = true := by rw [bt_or, ha, Bool.true_or]
  have str : ∀ {s k : Nat}, s < 64 → bt ((g ||| sl 1 (nI b)) &&& su (g ||| sl 1 (nI b)) (nI s)) k = true → bt (g &&& su g (nI s)) k = false → cnt (g &&& su g (nI s)) + 1 ≤ cnt ((g ||| sl 1 (nI b)) &&& su (g ||| sl 1 (nI b)) (nI s)) := fun {s k} hs h1 h2 => by
    have := cnt_lt (mono hs) (fun e => by rw [e, h1] at h2; simp at h2)
    omega
  have m1 := cnt_mono (mono (s := 1) (by omega))
  have m8 := cnt_mono (mono (s := 8) (by omega))
  show cnt (g &&& su g (nI 1)) + cnt (g &&& su g (nI 8)) + 1 ≤ cnt ((g ||| sl 1 (nI b)) &&& su (g ||| sl 1 (nI b)) (nI 1)) + cnt ((g ||| sl 1 (nI b)) &&& su (g ||| sl 1 (nI b)) (nI 8))
  unfold adj at hab
  rcases hab with ⟨r1, r2 | r2⟩ | ⟨r1, r2 | r2⟩
  · have := str (s := 1) (k := a) (by omega) (by rw [bt_and, bt_su _ (by omega), show 1 + a = b by omega, ga, gb]; rfl) (by rw [bt_and, bt_su _ (by omega), show 1 + a = b by omega, hb, Bool.and_false])
    omega
  · have := str (s := 1) (k := b) (by omega) (by rw [bt_and, bt_su _ (by omega), show 1 + b = a by omega, ga, gb]; rfl) (by rw [bt_and, hb, Bool.false_and])
    omega
  · have := str (s := 8) (k := a) (by omega) (by rw [bt_and, bt_su _ (by omega), show 8 + a = b by omega, ga, gb]; rfl) (by rw [bt_and, bt_su _ (by omega), show 8 + a = b by omega, hb, Bool.and_false])
    omega
  · have := str (s := 8) (k := b) (by omega) (by rw [bt_and, bt_su _ (by omega), show 8 + b = a by omega, ga, gb]; rfl) (by rw [bt_and, hb, Bool.false_and])
    omega
theorem sub_two {f : Int64} (hf : CON f) : ∀ m, 0 < m → m ≤ cnt f → ∃ g, sub g f ∧ CON g ∧ cnt g = m ∧ m ≤ two g + 1
  | 0, h, _ => by omega
  | 1, _, h => by
    obtain ⟨g, g1, g2, g3⟩ := sub_con hf 1 (by omega) h
    exact ⟨g, g1, g2, g3, by omega⟩
  | m + 2, _, h => by
    obtain ⟨g, g1, g2, g3, g4⟩ := sub_two hf (m + 1) (by omega) (by omega)
    obtain ⟨a, b, h1, h2, h3, h4⟩ := more_cell hf g1 g2 (fun e => by rw [e] at g3; omega)
    have b64 := bt_lt h2
    have t := two_more h1 h3 b64 h4
    have c1 : ∀ t : Fin 64, cnt (sl 1 (nI t.val)) = 1 := by decide +kernel
    have cc : cnt (g ||| sl 1 (nI b)) = cnt g + cnt (sl 1 (nI b)) := cnt_or (fun j hj => by
      cases q : bt (sl 1 (nI b)) j with
      | false => rfl
      | true => rw [(bt_one b64).mp q, h3] at hj; simp at hj)
    have c1b : cnt (sl 1 (nI b)) = 1 := c1 ⟨b, b64⟩
    refine ⟨g ||| sl 1 (nI b), fun i hi => ?_, CON_more g2 h1 b64 h4, by omega, by omega⟩
    rw [bt_or, Bool.or_eq_true] at hi
    rcases hi with hi | hi
    · exact g1 i hi
    · rw [(bt_one b64).mp hi]; exact h2
theorem two_con {f : Int64} (hf : CON f) : cnt f ≤ two f + 1 := by
  obtain ⟨g, g1, g2, g3, g4⟩ := sub_two hf (cnt f) (cnt_pos hf.1) (Nat.le_refl _)
  have e : g = f := by
    by_cases q : g = f
    · exact q
    · have := cnt_lt g1 q; omega
  rw [e] at g4
  exact g4
theorem len_eq {f : Int64} {x0 L : Nat} (h : LNs f x0) (hL : LEN f x0 L) : L + 2 * two f = 4 * cnt f ∧ L ≤ 26 ∧ L % 2 = 0 := by
  have a := sc_ct h.1.1.c7
  rw [len_ct h hL] at a
  have b := two_con h.1.2.2.2.2
  have c := h.1.2.2.2.1
  omega
