/-! LAYER 2: images of figures, moved figures, turns of class and reference -/
theorem cnt_img {f g : Int64} (τ : Nat → Nat) (h : ∀ i, bt g i = true → ∃ j, bt f j = true ∧ i = τ j) : cnt g ≤ cnt f := by
  have hch : ∀ k, ∃ j, k < cnt g → (bt f j = true ∧ bt g (τ j) = true ∧ fb_ct (bt g) (τ j) = k) := by
    intro k
    by_cases hk : k < cnt g
    · obtain ⟨i, _, h2, h3⟩ := fb_ct_kth (p := bt g) (n := 64) hk
      obtain ⟨j, h4, h5⟩ := h i h2
      subst h5
      exact ⟨j, fun _ => ⟨h4, h2, h3⟩⟩
    · exact ⟨0, fun h => absurd h hk⟩
  obtain ⟨F, hF⟩ := Classical.axiomOfChoice hch
  refine fb_holes (cnt f) (cnt g) (fun k => fb_ct (bt f) (F k)) (fun k hk => ?_) (fun a b hab hb e => ?_)
  · have h1 := (hF k hk).1
    have h2 := fb_ct_succ (bt f) (F k)
    rw [h1, if_pos rfl] at h2
    have h3 := fb_ct_mono (bt f) (show F k + 1 ≤ 64 from bt_lt h1)
    show fb_ct (bt f) (F k) < fb_ct (bt f) 64
    omega
  · have ha := hF a (by omega)
    have hb' := hF b hb
    have e2 : F a = F b := fb_ct_kth_one ha.1 hb'.1 e
    have : a = b := by rw [← ha.2.2, ← hb'.2.2, e2]
    omega
theorem CON_img {f g : Int64} (τ : Nat → Nat) (h1 : ∀ i, bt g i = true ↔ ∃ j, bt f j = true ∧ i = τ j) (h2 : ∀ a b, bt f a = true → bt f b = true → adj a b → adj (τ a) (τ b)) (hf : CON f) : CON g := by
  obtain ⟨h0, hc⟩ := hf
  obtain ⟨k, hk⟩ := low_ex h0
  refine ⟨fun e => ?_, fun T ⟨a, ha, hTa⟩ hcl b hb => ?_⟩
  · have : bt g (τ k) = true := (h1 _).mpr ⟨k, hk.2.1, rfl⟩
    rw [e, bt_zero] at this; cases this
  · obtain ⟨j, hj, rfl⟩ := (h1 a).mp ha
    obtain ⟨i, hi, rfl⟩ := (h1 b).mp hb
    exact hc (fun z => T (τ z)) ⟨j, hj, hTa⟩ (fun x y hx hy hxy hT => hcl _ _ ((h1 _).mpr ⟨x, hx, rfl⟩) ((h1 _).mpr ⟨y, hy, rfl⟩) (h2 x y hx hy hxy) hT) i hi
def STL (b R : Int64) : Prop := ∃ k c, low b k ∧ colp b c ∧ R = su b (nI (8 * (k / 8) + c))
theorem colp_le {b : Int64} {c : Nat} (hc : colp b c) {i : Nat} (h : bt b i = true) : c ≤ i % 8 := by
  rcases Nat.lt_or_ge (i % 8) c with q | q
  · have := hc.2.2 (i % 8) q (i / 8)
    rw [show 8 * (i / 8) + i % 8 = i by omega, h] at this; cases this
  · exact q
theorem STL_img {b R : Int64} (h : STL b R) : ∃ r c, (∃ y, bt b (8 * y + c) = true) ∧ (∃ x, x < 8 ∧ bt b (8 * r + x) = true) ∧ c < 8 ∧ (∀ i, bt b i = true → r ≤ i / 8 ∧ c ≤ i % 8) ∧ ∀ i, bt R i = true ↔ ∃ j, bt b j = true ∧ i = 8 * (j / 8 - r) + (j % 8 - c) := by
  obtain ⟨k, c, hk, hc, rfl⟩ := h
  have hk64 := hk.1
  have hc8 := hc.1
  have hb : ∀ i, bt b i = true → k / 8 ≤ i / 8 ∧ c ≤ i % 8 := fun i hi => ⟨by have := low_row hk hi; omega, colp_le hc hi⟩
  refine ⟨k / 8, c, hc.2.1, ⟨k % 8, by omega, by rw [show 8 * (k / 8) + k % 8 = k by omega]; exact hk.2.1⟩, hc8, hb, fun i => ?_⟩
  rw [bt_su _ (by omega)]
  constructor
  · intro h
    have := hb _ h
    refine ⟨_, h, ?_⟩
    omega
  · rintro ⟨j, hj, rfl⟩
    have := hb j hj
    rw [show 8 * (k / 8) + c + (8 * (j / 8 - k / 8) + (j % 8 - c)) = j by omega]
    exact hj
theorem FIG_STL {b R : Int64} (h : STL b R) (hcon : CON b) (hcnt : cnt b ≤ 12) (hw : ∀ i j, bt b i = true → bt b j = true → i % 8 ≤ j % 8 + 6) (hh : ∀ i j, bt b i = true → bt b j = true → i / 8 ≤ j / 8 + 6) : FIG R ∧ cnt R = cnt b := by
  obtain ⟨r, c, ⟨y, hy⟩, ⟨x, hx, hxb⟩, hc8, hb, hR⟩ := STL_img h
  have hy8 := hb _ hy
  have hx8 := hb _ hxb
  have c1 : cnt R ≤ cnt b := cnt_img (fun j => 8 * (j / 8 - r) + (j % 8 - c)) (fun i hi => (hR i).mp hi)
  have c2 : cnt b ≤ cnt R := cnt_img (fun i => 8 * (i / 8 + r) + (i % 8 + c)) (fun j hj => by
    have := hb j hj
    exact ⟨8 * (j / 8 - r) + (j % 8 - c), (hR _).mpr ⟨j, hj, rfl⟩, by omega⟩)
  refine ⟨⟨fun i hi => ?_, ⟨x - c, ?_, (hR _).mpr ⟨8 * r + x, hxb, ?_⟩⟩, ⟨y - r, ?_, (hR _).mpr ⟨8 * y + c, hy, ?_⟩⟩, by omega, CON_img (fun j => 8 * (j / 8 - r) + (j % 8 - c)) hR (fun a b' ha hb' hab => ?_) hcon⟩, by omega⟩
  · obtain ⟨j, hj, rfl⟩ := (hR i).mp hi
    have a1 := hb j hj
    have a2 := hw j _ hj hy
    have a3 := hh j _ hj hxb
    omega
  · have a2 := hw _ _ hxb hy
    omega
  · omega
  · have a3 := hh _ _ hy hxb
    omega
  · omega
  · have a1 := hb a ha
    have a2 := hb b' hb'
    unfold adj at hab ⊢
    omega
theorem shift_settle {b g : Int64} (hb : b ≠ 0) (h0 : ∀ y, bt b (8 * y) = false) (hg : ∀ j, bt g j = true ↔ bt b (1 + j) = true) : ∃ R, STL b R ∧ gr_settled b = some R ∧ mo_moved g = some R := by
  obtain ⟨k, hk⟩ := low_ex hb
  obtain ⟨c, hc⟩ := colp_ex hb
  have hk64 := hk.1
  have hc8 := hc.1
  have k8 : 1 ≤ k % 8 := by
    rcases Nat.eq_zero_or_pos (k % 8) with q | q
    · have := h0 (k / 8)
      rw [show 8 * (k / 8) = k by omega, hk.2.1] at this; cases this
    · exact q
  have c1 : 1 ≤ c := by
    rcases Nat.eq_zero_or_pos c with q | q
    · obtain ⟨y, hy⟩ := hc.2.1
      rw [q, Nat.add_zero, h0 y] at hy; cases hy
    · exact q
  have gf : ∀ j, bt b (1 + j) = false → bt g j = false := fun j h => by
    cases hb : bt g j with
    | false => rfl
    | true => rw [(hg j).mp hb] at h; cases h
  have hk2 : low g (k - 1) := ⟨by omega, (hg _).mpr (by rw [show 1 + (k - 1) = k by omega]; exact hk.2.1), fun i hi => gf i (hk.2.2 _ (by omega))⟩
  have hc2 : colp g (c - 1) := by
    refine ⟨by omega, ?_, fun c' hc' y => gf _ ?_⟩
    · obtain ⟨y, hy⟩ := hc.2.1
      exact ⟨y, (hg _).mpr (by rw [show 1 + (8 * y + (c - 1)) = 8 * y + c by omega]; exact hy)⟩
    · rw [show 1 + (8 * y + c') = 8 * y + (1 + c') by omega]
      exact hc.2.2 _ (by omega) y
  refine ⟨_, ⟨k, c, hk, hc, rfl⟩, gr_settled_eq hk hc, ?_⟩
  rw [mo_moved_eq hk2 hc2]
  have e : g = su b (nI 1) := bt_ext (fun i hi => by
    rw [bt_su _ (by omega)]
    cases hb : bt b (1 + i) with
    | true => exact (hg i).mpr hb
    | false => exact gf i hb)
  rw [e, su_su _ (by omega)]
  congr 3; omega
theorem flp_img {f : Int64} : ∀ i, bt (flp f) i = true ↔ ∃ j, bt f j = true ∧ i = 8 * (j / 8) + (7 - j % 8) := by
  intro i
  constructor
  · intro h
    have h64 := bt_lt h
    rw [bt_flp f h64] at h
    exact ⟨_, h, by omega⟩
  · rintro ⟨j, hj, rfl⟩
    have := bt_lt hj
    rw [bt_flp f (by omega), show 8 * ((8 * (j / 8) + (7 - j % 8)) / 8) + (7 - (8 * (j / 8) + (7 - j % 8)) % 8) = j by omega]
    exact hj
theorem trp_img {f : Int64} : ∀ i, bt (trp f) i = true ↔ ∃ j, bt f j = true ∧ i = 8 * (j % 8) + j / 8 := by
  intro i
  constructor
  · intro h
    have h64 := bt_lt h
    rw [bt_trp f h64] at h
    exact ⟨_, h, by omega⟩
  · rintro ⟨j, hj, rfl⟩
    have := bt_lt hj
    rw [bt_trp f (by omega), show 8 * ((8 * (j % 8) + j / 8) % 8) + (8 * (j % 8) + j / 8) / 8 = j by omega]
    exact hj
theorem CON_flp {f : Int64} (h : CON f) : CON (flp f) := CON_img _ flp_img (fun a b ha hb hab => by unfold adj at hab ⊢; omega) h
theorem CON_trp {f : Int64} (h : CON f) : CON (trp f) := CON_img _ trp_img (fun a b ha hb hab => by have := bt_lt ha; have := bt_lt hb; unfold adj at hab ⊢; omega) h
theorem cnt_flp (f : Int64) : cnt (flp f) = cnt f := by
  apply Nat.le_antisymm
  · exact cnt_img _ (fun i hi => (flp_img i).mp hi)
  · exact cnt_img (fun j => 8 * (j / 8) + (7 - j % 8)) (fun i hi => ⟨8 * (i / 8) + (7 - i % 8), (flp_img _).mpr ⟨i, hi, rfl⟩, by omega⟩)
theorem cnt_trp (f : Int64) : cnt (trp f) = cnt f := by
  apply Nat.le_antisymm
  · exact cnt_img _ (fun i hi => (trp_img i).mp hi)
  · exact cnt_img (fun j => 8 * (j % 8) + j / 8) (fun i hi => ⟨8 * (i % 8) + i / 8, (trp_img _).mpr ⟨i, hi, rfl⟩, by have := bt_lt hi; omega⟩)
theorem FIG.ne {f : Int64} (h : FIG f) : f ≠ 0 := h.2.2.2.2.1
/-- mirrored: class and reference -/
theorem mirrored_eq {f : Int64} (hf : FIG f) : ∃ R, gr_mirrored f = some R ∧ mo_mirrored f = some R ∧ FIG R ∧ cnt R = cnt f ∧ STL (flp f) R := by
  obtain ⟨g, hg, hm⟩ := mo_mirrored_ex f
  have h77 := hf.1
  have hcon := CON_flp hf.2.2.2.2
  have hc : ∀ y, bt (flp f) (8 * y) = false := fun y => by
    cases hb : bt (flp f) (8 * y) with
    | false => rfl
    | true =>
      obtain ⟨j, hj, e⟩ := (flp_img _).mp hb
      have := h77 j hj
      omega
  obtain ⟨R, h1, h2, h3⟩ := shift_settle (g := g) hcon.1 hc (fun j => by
    rw [hg j, flp_img]
    constructor
    · rintro ⟨x, y, hx, hy, hb, rfl⟩
      exact ⟨_, hb, by omega⟩
    · rintro ⟨z, hz, e⟩
      have := h77 z hz
      exact ⟨z % 8, z / 8, by omega, by omega, by rw [show 8 * (z / 8) + z % 8 = z by omega]; exact hz, by omega⟩)
  have hF := FIG_STL h1 hcon (by rw [cnt_flp]; exact hf.2.2.2.1) (fun i j hi hj => by
    obtain ⟨a, ha, rfl⟩ := (flp_img i).mp hi
    obtain ⟨b, hb, rfl⟩ := (flp_img j).mp hj
    have := h77 a ha
    have := h77 b hb
    omega) (fun i j hi hj => by
    obtain ⟨a, ha, rfl⟩ := (flp_img i).mp hi
    obtain ⟨b, hb, rfl⟩ := (flp_img j).mp hj
    have := h77 a ha
    have := h77 b hb
    omega)
  refine ⟨R, ?_, hm.trans h3, hF.1, by rw [hF.2, cnt_flp], h1⟩
  unfold gr_mirrored
  rw [gr_flipped_eq, bd1_some, h2, bd1_some]
theorem quarter_img {f : Int64} : ∀ i, bt (flp (trp f)) i = true ↔ ∃ j, bt f j = true ∧ i = 8 * (j % 8) + (7 - j / 8) := by
  intro i
  rw [flp_img]
  constructor
  · rintro ⟨a, ha, rfl⟩
    obtain ⟨b, hb, rfl⟩ := (trp_img a).mp ha
    have := bt_lt hb
    exact ⟨b, hb, by omega⟩
  · rintro ⟨b, hb, rfl⟩
    have := bt_lt hb
    exact ⟨_, (trp_img _).mpr ⟨b, hb, rfl⟩, by omega⟩
theorem quarter_eq {f : Int64} (hf : FIG f) : ∃ R, gr_quarter f = some R ∧ mo_quarter f = some R ∧ FIG R ∧ cnt R = cnt f ∧ STL (flp (trp f)) R := by
  obtain ⟨g, hg, hm⟩ := mo_quarter_ex f
  have h77 := hf.1
  have hcon := CON_flp (CON_trp hf.2.2.2.2)
  have hc : ∀ y, bt (flp (trp f)) (8 * y) = false := fun y => by
    cases hb : bt (flp (trp f)) (8 * y) with
    | false => rfl
    | true =>
      obtain ⟨j, hj, e⟩ := (quarter_img _).mp hb
      have := h77 j hj
      omega
  obtain ⟨R, h1, h2, h3⟩ := shift_settle (g := g) hcon.1 hc (fun j => by
    rw [hg j, quarter_img]
    constructor
    · rintro ⟨x, y, hx, hy, hb, rfl⟩
      exact ⟨_, hb, by omega⟩
    · rintro ⟨z, hz, e⟩
      have := h77 z hz
      exact ⟨z % 8, z / 8, by omega, by omega, by rw [show 8 * (z / 8) + z % 8 = z by omega]; exact hz, by omega⟩)
  have hF := FIG_STL h1 hcon (by rw [cnt_flp, cnt_trp]; exact hf.2.2.2.1) (fun i j hi hj => by
    obtain ⟨a, ha, rfl⟩ := (quarter_img i).mp hi
    obtain ⟨b, hb, rfl⟩ := (quarter_img j).mp hj
    have := h77 a ha
    have := h77 b hb
    omega) (fun i j hi hj => by
    obtain ⟨a, ha, rfl⟩ := (quarter_img i).mp hi
    obtain ⟨b, hb, rfl⟩ := (quarter_img j).mp hj
    have := h77 a ha
    have := h77 b hb
    omega)
  refine ⟨R, ?_, hm.trans h3, hF.1, by rw [hF.2, cnt_flp, cnt_trp], h1⟩
  unfold gr_quarter
  rw [gr_transposed_eq, bd1_some]
  show bd1 (gr_flipped (trp f)) _ = _
  rw [gr_flipped_eq, bd1_some, h2, bd1_some]
