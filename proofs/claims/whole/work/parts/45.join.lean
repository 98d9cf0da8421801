/-! LAYER 2: moved, united, join, change -/
theorem mk_p : ∀ u : Fin 8, ∀ i : Fin 64, bt (su 255 (nI u.val) * 72340172838076673) i.val = decide (i.val % 8 + u.val < 8) := by decide +kernel
theorem mk_n : ∀ u : Fin 8, ∀ i : Fin 64, bt ((sl 255 (nI u.val) &&& 255) * 72340172838076673) i.val = decide (u.val ≤ i.val % 8) := by decide +kernel
theorem iI_lt0 {z : Int} (h : -1000 < z ∧ z < 1000) : Int32.ofInt z < 0 ↔ z < 0 := by
  rw [Int32.lt_iff_toInt_lt, fb_ofI (by omega) (by omega), show (0 : Int32).toInt = 0 from rfl]
theorem acr_p (f : Int64) {a : Nat} (ha : a < 8) {i : Nat} (hi : i < 64) : bt (sl (f &&& (su 255 (nI a) * 72340172838076673)) (nI a)) i = hB f (((i % 8 : Nat) : Int) - a) ((i / 8 : Nat) : Int) := by
  rw [bt_sl _ (by omega) hi]
  by_cases q : a ≤ i % 8
  · have m := mk_p ⟨a, ha⟩ ⟨i - a, by omega⟩
    rw [decide_eq_true (show a ≤ i by omega), bt_and, show bt (su 255 (nI a) * 72340172838076673) (i - a) = decide ((i - a) % 8 + a < 8) from m, decide_eq_true (show (i - a) % 8 + a < 8 by omega), show ((i % 8 : Nat) : Int) - a = ((i % 8 - a : Nat) : Int) by omega, hB_n f (by omega) (by omega), show 8 * (i / 8) + (i % 8 - a) = i - a by omega]; simp
  · rw [hB_o f (by omega)]
    by_cases c : a ≤ i
    · have m := mk_p ⟨a, ha⟩ ⟨i - a, by omega⟩
      rw [bt_and, show bt (su 255 (nI a) * 72340172838076673) (i - a) = decide ((i - a) % 8 + a < 8) from m, decide_eq_false (show ¬ (i - a) % 8 + a < 8 by omega)]; simp
    · rw [decide_eq_false c]; rfl
theorem acr_n (f : Int64) {a : Nat} (ha : a < 8) {i : Nat} (hi : i < 64) : bt (su (f &&& ((sl 255 (nI a) &&& 255) * 72340172838076673)) (nI a)) i = hB f (((i % 8 : Nat) : Int) + a) ((i / 8 : Nat) : Int) := by
  rw [bt_su _ (by omega)]
  by_cases q : i % 8 + a < 8
  · have m := mk_n ⟨a, ha⟩ ⟨a + i, by omega⟩
    rw [bt_and, show bt ((sl 255 (nI a) &&& 255) * 72340172838076673) (a + i) = decide (a ≤ (a + i) % 8) from m, decide_eq_true (show a ≤ (a + i) % 8 by omega), show ((i % 8 : Nat) : Int) + a = ((i % 8 + a : Nat) : Int) by omega, hB_n f (by omega) (by omega), show 8 * (i / 8) + (i % 8 + a) = a + i by omega]; simp
  · rw [hB_o f (by omega)]
    rcases Nat.lt_or_ge (a + i) 64 with c | c
    · have m := mk_n ⟨a, ha⟩ ⟨a + i, c⟩
      rw [bt_and, show bt ((sl 255 (nI a) &&& 255) * 72340172838076673) (a + i) = decide (a ≤ (a + i) % 8) from m, decide_eq_false (show ¬ a ≤ (a + i) % 8 by omega)]; simp
    · exact bt_big c
theorem ver_eq (f A : Int64) (X : Nat → Int) {v : Int} (hv : -7 ≤ v ∧ v ≤ 7) (hA : ∀ i, i < 64 → bt A i = hB f (X (i % 8)) ((i / 8 : Nat) : Int)) : ∃ R, gr_moved_J63 (Int32.ofInt v) A = some R ∧ ∀ i, i < 64 → bt R i = hB f (X (i % 8)) (((i / 8 : Nat) : Int) - v) := by
  unfold gr_moved_J63
  by_cases q : v < 0
  · rw [if_pos ((iI_lt0 (by omega)).mpr q)]
    obtain ⟨b, hb, rfl⟩ : ∃ b : Nat, b < 8 ∧ v = -(b : Int) := ⟨(-v).toNat, by omega, by omega⟩
    rw [show ((-8) * Int32.ofInt (-(b : Int)) : Int32) = nI (8 * b) by
      rw [show (-8 : Int32) = Int32.ofInt (-8) by decide, ← Int32.ofInt_mul, nI_iI]; congr 1; omega]
    refine ⟨_, rfl, fun i hi => ?_⟩
    rw [bt_su _ (by omega)]
    rcases Nat.lt_or_ge (8 * b + i) 64 with c | c
    · rw [hA _ c, show (8 * b + i) % 8 = i % 8 by omega]; congr 1; omega
    · rw [bt_big c, hB_o f (by omega)]
  · rw [if_neg (fun h => q ((iI_lt0 (by omega)).mp h))]
    obtain ⟨b, hb, rfl⟩ : ∃ b : Nat, b < 8 ∧ v = (b : Int) := ⟨v.toNat, by omega, by omega⟩
    rw [show (8 * Int32.ofInt (b : Int) : Int32) = nI (8 * b) by rw [← nI_iI, show (8 : Int32) = nI 8 from rfl, pk_mul]]
    refine ⟨_, rfl, fun i hi => ?_⟩
    rw [bt_sl _ (by omega) hi]
    by_cases c : 8 * b ≤ i
    · rw [decide_eq_true c, Bool.true_and, hA _ (by omega), show (i - 8 * b) % 8 = i % 8 by omega]; congr 1; omega
    · rw [decide_eq_false c, hB_o f (by omega)]; rfl
theorem gr_moved_eq (f : Int64) {u v : Int} (hu : -7 ≤ u ∧ u ≤ 7) (hv : -7 ≤ v ∧ v ≤ 7) : ∃ R, gr_moved f (Int32.ofInt u) (Int32.ofInt v) = some R ∧ ∀ i, i < 64 → bt R i = hB f (((i % 8 : Nat) : Int) - u) (((i / 8 : Nat) : Int) - v) := by
  have i1 : inr (Int32.ofInt u) (-7) 7 = true := by
    have := inr_i (z := u) (lo := -7) (hi := 7) (by omega) (by omega) (by omega)
    rw [decide_eq_true hu] at this; exact this
  have i2 : inr (Int32.ofInt v) (-7) 7 = true := by
    have := inr_i (z := v) (lo := -7) (hi := 7) (by omega) (by omega) (by omega)
    rw [decide_eq_true hv] at this; exact this
  unfold gr_moved
  rw [cf_within_eq, bd1_some, i1, if_neg (by decide), cf_within_eq, bd1_some, i2, if_neg (by decide)]
  by_cases q : u < 0
  · rw [if_pos ((iI_lt0 (by omega)).mpr q)]
    obtain ⟨a, ha, rfl⟩ : ∃ a : Nat, a < 8 ∧ u = -(a : Int) := ⟨(-u).toNat, by omega, by omega⟩
    rw [show (-Int32.ofInt (-(a : Int)) : Int32) = nI a by rw [← Int32.ofInt_neg, Int.neg_neg]; rfl]
    obtain ⟨R, h1, h2⟩ := ver_eq f (su (f &&& ((sl 255 (nI a) &&& 255) * 72340172838076673)) (nI a)) (fun x => (x : Int) + a) hv (fun i hi => acr_n f ha hi)
    refine ⟨R, h1, fun i hi => ?_⟩
    rw [h2 i hi]; congr 1; omega
  · rw [if_neg (fun h => q ((iI_lt0 (by omega)).mp h))]
    obtain ⟨a, ha, rfl⟩ : ∃ a : Nat, a < 8 ∧ u = (a : Int) := ⟨u.toNat, by omega, by omega⟩
    obtain ⟨R, h1, h2⟩ := ver_eq f (sl (f &&& (su 255 (nI a) * 72340172838076673)) (nI a)) (fun x => (x : Int) - a) hv (fun i hi => acr_p f ha hi)
    exact ⟨R, h1, h2⟩
theorem pt_hB (f : Int64) (X Y : Int) : pt f X Y ↔ hB f X Y = true := by
  constructor
  · rintro ⟨j, hj, rfl, rfl⟩
    have := bt_lt hj
    rw [hB_n f (by omega) (by omega), show 8 * (j / 8) + j % 8 = j by omega]; exact hj
  · intro h
    by_cases q : 0 ≤ X ∧ X < 8 ∧ 0 ≤ Y ∧ Y < 8
    · obtain ⟨x, rfl⟩ : ∃ x : Nat, X = x := ⟨X.toNat, by omega⟩
      obtain ⟨y, rfl⟩ : ∃ y : Nat, Y = y := ⟨Y.toNat, by omega⟩
      rw [hB_n f (by omega) (by omega)] at h
      exact ⟨_, h, by omega, by omega⟩
    · rw [hB_o f q] at h; cases h
theorem hB_wh {f : Int64} (hf : FIG f) {X Y : Int} (h : hB f X Y = true) : 0 ≤ X ∧ X < wdt f ∧ 0 ≤ Y ∧ Y < hgt f := by
  obtain ⟨j, hj, rfl, rfl⟩ := (pt_hB f X Y).mpr h
  have := bt_wh hf hj
  omega
theorem settled_0 : gr_settled 0 = some 0 := by unfold gr_settled; rw [if_pos rfl]
theorem set_core (S : Int → Int → Prop) (F : Nat → Int32) (hF : ∀ k, k < 576 → (F k ≠ 0 ↔ S (((k % 24 : Nat) : Int) - 8) (((k / 24 : Nat) : Int) - 8))) (hS : ∀ X Y, S X Y → -8 ≤ X ∧ X ≤ 15 ∧ -8 ≤ Y ∧ Y ≤ 15) (B : Int64) (a b : Int) (hB' : ∀ X Y, pt B X Y ↔ S (X - a) (Y - b)) (hsp : ∀ X Y X' Y', S X Y → S X' Y' → X ≤ X' + 6 ∧ Y ≤ Y' + 6) : ∃ R, gr_settled B = some R ∧ mo_taken F = some (if figB R then R else 0) := by
  have tk := mo_taken_eq F
  by_cases hb : B = 0
  · refine ⟨0, by rw [hb]; exact settled_0, ?_⟩
    rw [figB_0]
    refine tk.1 (fun k hk => Classical.byContradiction (fun h => ?_))
    have := (hF k hk).mp h
    obtain ⟨j, hj, _⟩ := (hB' (((k % 24 : Nat) : Int) - 8 + a) (((k / 24 : Nat) : Int) - 8 + b)).mpr (by rw [Int.add_sub_cancel, Int.add_sub_cancel]; exact this)
    rw [hb, bt_zero] at hj; cases hj
  · obtain ⟨k0, hk0⟩ := low_ex hb
    obtain ⟨c0, hc0⟩ := colp_ex hb
    refine ⟨_, gr_settled_eq hk0 hc0, ?_⟩
    obtain ⟨r, c, ⟨y, hy⟩, ⟨x, hx, hxb⟩, hc8, hmin, hR⟩ := STL_img (b := B) ⟨k0, c0, hk0, hc0, rfl⟩
    generalize su B (nI (8 * (k0 / 8) + c0)) = R at hR ⊢
    -- a point of the board as a place of the field
    have toF : ∀ j, bt B j = true → ∃ k, k < 576 ∧ F k ≠ 0 ∧ ((k % 24 : Nat) : Int) = ((j % 8 : Nat) : Int) - a + 8 ∧ ((k / 24 : Nat) : Int) = ((j / 8 : Nat) : Int) - b + 8 := by
      intro j hj
      have h1 := (hB' ((j % 8 : Nat) : Int) ((j / 8 : Nat) : Int)).mp ⟨j, hj, rfl, rfl⟩
      have h2 := hS _ _ h1
      have e1 : (((24 * (((j / 8 : Nat) : Int) - b + 8) + (((j % 8 : Nat) : Int) - a + 8)).toNat % 24 : Nat) : Int) = ((j % 8 : Nat) : Int) - a + 8 := by omega
      have e2 : (((24 * (((j / 8 : Nat) : Int) - b + 8) + (((j % 8 : Nat) : Int) - a + 8)).toNat / 24 : Nat) : Int) = ((j / 8 : Nat) : Int) - b + 8 := by omega
      refine ⟨(24 * (((j / 8 : Nat) : Int) - b + 8) + (((j % 8 : Nat) : Int) - a + 8)).toNat, by omega, ?_, e1, e2⟩
      refine (hF _ (by omega)).mpr ?_
      rw [e1, e2, show ((j % 8 : Nat) : Int) - a + 8 - 8 = ((j % 8 : Nat) : Int) - a by omega, show ((j / 8 : Nat) : Int) - b + 8 - 8 = ((j / 8 : Nat) : Int) - b by omega]
      exact h1
    have toB : ∀ k, k < 576 → F k ≠ 0 → ∃ j, bt B j = true ∧ ((j % 8 : Nat) : Int) = ((k % 24 : Nat) : Int) - 8 + a ∧ ((j / 8 : Nat) : Int) = ((k / 24 : Nat) : Int) - 8 + b := by
      intro k hk h
      exact (hB' _ _).mpr (by rw [Int.add_sub_cancel, Int.add_sub_cancel]; exact (hF k hk).mp h)
    obtain ⟨kw, hkw, hkw2, _⟩ := toF _ hxb
    obtain ⟨L, T, ⟨kL, l1, l2, l3⟩, ⟨kT, t1, t2, t3⟩, hmn, _, hgood⟩ := tk.2 ⟨kw, hkw, hkw2⟩
    have eL : (c : Int) = (L : Int) - 8 + a := by
      obtain ⟨j, j1, j2, _⟩ := toB kL l1 l2
      have := (hmin j j1).2
      obtain ⟨k, k1, k2, k3, _⟩ := toF _ hy
      have := (hmn k k1 k2).1
      omega
    have eT : (r : Int) = (T : Int) - 8 + b := by
      obtain ⟨j, j1, _, j2⟩ := toB kT t1 t2
      have := (hmin j j1).1
      obtain ⟨k, k1, k2, _, k3⟩ := toF _ hxb
      have := (hmn k k1 k2).2
      omega
    obtain ⟨f, f1, f2⟩ := hgood (fun k hk h => by
      have s1 := (hF k hk).mp h
      have a1 := hsp _ _ _ _ s1 ((hF kL l1).mp l2)
      have a2 := hsp _ _ _ _ s1 ((hF kT t1).mp t2)
      omega)
    have e : f = R := by
      have key : ∀ i, bt f i = true ↔ bt R i = true := by
        intro i
        rw [f1 i, hR i]
        constructor
        · rintro ⟨k, k1, k2, rfl⟩
          obtain ⟨j, j1, j2, j3⟩ := toB k k1 k2
          have m1 := hmin j j1
          have m2 := hmn k k1 k2
          exact ⟨j, j1, by omega⟩
        · rintro ⟨j, j1, rfl⟩
          obtain ⟨k, k1, k2, k3, k4⟩ := toF j j1
          have m1 := hmin j j1
          have m2 := hmn k k1 k2
          exact ⟨k, k1, k2, by omega⟩
      apply bt_ext
      intro i _
      cases hb : bt R i with
      | true => exact (key i).mpr hb
      | false => exact bf_of (fun h => by rw [(key i).mp h] at hb; cases hb)
    rw [f2, e]
def jnF (d e : Int64) (u v : Int) (b : Int32) (F : Nat → Int32) : Nat → Int32 := layF e u v b (layF d 0 0 1 (fun k => if k < 576 then 0 else F k))
theorem jnF_1 (d e : Int64) (u v : Int) (F : Nat → Int32) {k : Nat} (hk : k < 576) : jnF d e u v 1 F k ≠ 0 ↔ (hB d (((k % 24 : Nat) : Int) - 8) (((k / 24 : Nat) : Int) - 8) = true ∨ hB e (((k % 24 : Nat) : Int) - 8 - u) (((k / 24 : Nat) : Int) - 8 - v) = true) := by
  unfold jnF layF
  simp only [Int.sub_zero, hk, if_true]
  cases hB e (((k % 24 : Nat) : Int) - 8 - u) (((k / 24 : Nat) : Int) - 8 - v) <;> cases hB d (((k % 24 : Nat) : Int) - 8) (((k / 24 : Nat) : Int) - 8) <;> simp
theorem jnF_0 (d e : Int64) (u v : Int) (F : Nat → Int32) {k : Nat} (hk : k < 576) : jnF d e u v 0 F k ≠ 0 ↔ (hB d (((k % 24 : Nat) : Int) - 8) (((k / 24 : Nat) : Int) - 8) = true ∧ ¬ hB e (((k % 24 : Nat) : Int) - 8 - u) (((k / 24 : Nat) : Int) - 8 - v) = true) := by
  unfold jnF layF
  simp only [Int.sub_zero, hk, if_true]
  cases hB e (((k % 24 : Nat) : Int) - 8 - u) (((k / 24 : Nat) : Int) - 8 - v) <;> cases hB d (((k % 24 : Nat) : Int) - 8) (((k / 24 : Nat) : Int) - 8) <;> simp
theorem less_core {d e : Int64} (hd : FIG d) {u v : Int} (hu : -7 ≤ u ∧ u ≤ 7) (hv : -7 ≤ v ∧ v ≤ 7) (F : Nat → Int32) : ∃ M R, gr_moved e (Int32.ofInt u) (Int32.ofInt v) = some M ∧ gr_settled (d &&& (M ^^^ (-1))) = some R ∧ mo_taken (jnF d e u v 0 F) = some (if figB R then R else 0) := by
  obtain ⟨M, h1, h2⟩ := gr_moved_eq e hu hv
  have wb := wdt_b hd
  obtain ⟨R, r1, r2⟩ := set_core (fun X Y => hB d X Y = true ∧ ¬ hB e (X - u) (Y - v) = true) (jnF d e u v 0 F) (fun k hk => jnF_0 d e u v F hk) (fun X Y h => by have := hB_wh hd h.1; omega) (d &&& (M ^^^ (-1))) 0 0 (fun X Y => by
    rw [Int.sub_zero, Int.sub_zero]
    constructor
    · rintro ⟨j, hj, rfl, rfl⟩
      have h64 := bt_lt hj
      rw [bt_and, bt_xor, bt_m1 h64, Bool.and_eq_true, h2 j h64] at hj
      rw [← pt_hB]
      refine ⟨⟨j, hj.1, rfl, rfl⟩, fun h => ?_⟩
      rw [h] at hj; exact absurd hj.2 (by decide)
    · rintro ⟨a, b⟩
      obtain ⟨j, hj, rfl, rfl⟩ := (pt_hB d X Y).mpr a
      have h64 := bt_lt hj
      refine ⟨j, ?_, rfl, rfl⟩
      rw [bt_and, bt_xor, bt_m1 h64, h2 j h64, hj]
      cases hc : hB e (((j % 8 : Nat) : Int) - u) (((j / 8 : Nat) : Int) - v) with
      | false => rfl
      | true => exact absurd hc b) (fun X Y X' Y' h h' => by have := hB_wh hd h.1; have := hB_wh hd h'.1; omega)
  exact ⟨M, R, h1, r1, r2⟩
theorem iI_lt {a b : Int} (ha : -1000 < a ∧ a < 1000) (hb : -1000 < b ∧ b < 1000) : Int32.ofInt a < Int32.ofInt b ↔ a < b := by
  rw [Int32.lt_iff_toInt_lt, fb_ofI (by omega) (by omega), fb_ofI (by omega) (by omega)]
theorem iI_le {a b : Int} (ha : -1000 < a ∧ a < 1000) (hb : -1000 < b ∧ b < 1000) : Int32.ofInt a ≤ Int32.ofInt b ↔ a ≤ b := by
  rw [Int32.le_iff_toInt_le, fb_ofI (by omega) (by omega), fb_ofI (by omega) (by omega)]
theorem mxI_i {a b : Int} (ha : -1000 < a ∧ a < 1000) (hb : -1000 < b ∧ b < 1000) : mxI (Int32.ofInt a) (Int32.ofInt b) = Int32.ofInt (max a b) := by
  unfold mxI
  by_cases q : a < b
  · rw [if_pos ((iI_lt ha hb).mpr q), Int.max_eq_right (by omega)]
  · rw [if_neg (fun h => q ((iI_lt ha hb).mp h)), Int.max_eq_left (by omega)]
theorem more_core {d e : Int64} (hd : FIG d) (he : FIG e) {u v : Int} (hu : -7 ≤ u ∧ u ≤ 7) (hv : -7 ≤ v ∧ v ≤ 7) (F : Nat → Int32) : ∃ B R, gr_united d e (Int32.ofInt u) (Int32.ofInt v) = some B ∧ gr_settled B = some R ∧ mo_taken (jnF d e u v 1 F) = some (if figB R then R else 0) := by
  have wd := wdt_b hd
  have we := wdt_b he
  have eneg : ∀ z : Int, -Int32.ofInt z = Int32.ofInt (-z) := fun z => (Int32.ofInt_neg z).symm
  unfold gr_united
  simp only [nm_eq, eneg, show (0 : Int32) = Int32.ofInt 0 from rfl, mxI_i (show -1000 < (0 : Int) ∧ (0 : Int) < 1000 by omega) (show -1000 < -u ∧ -u < 1000 by omega), mxI_i (show -1000 < (0 : Int) ∧ (0 : Int) < 1000 by omega) (show -1000 < -v ∧ -v < 1000 by omega), gr_width_eq, gr_height_eq, bd1_some, nI_iI, ← Int32.ofInt_add]
  generalize hl : max 0 (-u) = l
  generalize ht : max 0 (-v) = t
  have l1 : 0 ≤ l ∧ l ≤ 7 ∧ 0 ≤ l + u ∧ l + u ≤ 7 ∧ (l = 0 ∨ l = -u) := by omega
  have t1 : 0 ≤ t ∧ t ≤ 7 ∧ 0 ≤ t + v ∧ t + v ≤ 7 ∧ (t = 0 ∨ t = -v) := by omega
  rw [mxI_i (by omega) (by omega), mxI_i (by omega) (by omega)]
  generalize hr : max (l + (wdt d : Int)) (l + u + (wdt e : Int)) = r
  generalize hb : max (t + (hgt d : Int)) (t + v + (hgt e : Int)) = b
  have tk := (mo_taken_eq (jnF d e u v 1 F)).2
  have inF : ∀ X Y : Int, (hB d X Y = true ∨ hB e (X - u) (Y - v) = true) → ∃ k, k < 576 ∧ jnF d e u v 1 F k ≠ 0 ∧ ((k % 24 : Nat) : Int) = X + 8 ∧ ((k / 24 : Nat) : Int) = Y + 8 := by
    intro X Y h
    have hb' : -7 ≤ X ∧ X ≤ 13 ∧ -7 ≤ Y ∧ Y ≤ 13 := by
      rcases h with h | h
      · have := hB_wh hd h; omega
      · have := hB_wh he h; omega
    have e1 : (((24 * (Y + 8) + (X + 8)).toNat % 24 : Nat) : Int) = X + 8 := by omega
    have e2 : (((24 * (Y + 8) + (X + 8)).toNat / 24 : Nat) : Int) = Y + 8 := by omega
    refine ⟨(24 * (Y + 8) + (X + 8)).toNat, by omega, ?_, e1, e2⟩
    refine (jnF_1 d e u v F (by omega)).mpr ?_
    rw [e1, e2, Int.add_sub_cancel, Int.add_sub_cancel]; exact h
  -- cells at the four rims
  obtain ⟨dy0, _, d0⟩ := hd.2.2.1
  obtain ⟨dx0, _, d1⟩ := hd.2.1
  obtain ⟨ey0, _, e0⟩ := he.2.2.1
  obtain ⟨ex0, _, e1⟩ := he.2.1
  obtain ⟨dy1, d2⟩ := (FIG_w hd (x := wdt d - 1) (by omega)).mpr (by omega)
  obtain ⟨dx1, _, d3⟩ := (FIG_h hd (y := hgt d - 1) (by omega)).mpr (by omega)
  obtain ⟨ey1, e2⟩ := (FIG_w he (x := wdt e - 1) (by omega)).mpr (by omega)
  obtain ⟨ex1, _, e3⟩ := (FIG_h he (y := hgt e - 1) (by omega)).mpr (by omega)
  have P : ∀ (f : Int64) (j : Nat), bt f j = true → hB f ((j % 8 : Nat) : Int) ((j / 8 : Nat) : Int) = true := fun f j hj => (pt_hB f _ _).mp ⟨j, hj, rfl, rfl⟩
  have Q : ∀ (f : Int64) (j : Nat) (p q : Int), bt f j = true → hB f (((j % 8 : Nat) : Int) + p - p) (((j / 8 : Nat) : Int) + q - q) = true := fun f j p q hj => by rw [Int.add_sub_cancel, Int.add_sub_cancel]; exact P f j hj
  have bad : (7 < r ∨ 7 < b) → mo_taken (jnF d e u v 1 F) = some 0 := by
    intro hbad
    obtain ⟨kd, kd1, kd2, kd3, kd4⟩ := inF _ _ (Or.inl (P d _ d0))
    obtain ⟨L, T, _, _, hmn, hb1, _⟩ := tk ⟨kd, kd1, kd2⟩
    apply hb1
    obtain ⟨ke, ke1, ke2, ke3, ke4⟩ := inF _ _ (Or.inr (Q e _ u v e0))
    obtain ⟨kf, kf1, kf2, kf3, kf4⟩ := inF _ _ (Or.inl (P d _ d1))
    obtain ⟨kg, kg1, kg2, kg3, kg4⟩ := inF _ _ (Or.inr (Q e _ u v e1))
    have m1 := hmn kd kd1 kd2
    have m2 := hmn ke ke1 ke2
    have m3 := hmn kf kf1 kf2
    have m4 := hmn kg kg1 kg2
    have mL : (L : Int) ≤ 8 - l := by omega
    have mT : (T : Int) ≤ 8 - t := by omega
    rcases hbad with q | q
    · rcases (show r = l + (wdt d : Int) ∨ r = l + u + (wdt e : Int) by omega) with rr | rr
      · obtain ⟨k, k1, k2, k3, _⟩ := inF _ _ (Or.inl (P d _ d2))
        exact ⟨k, k1, k2, Or.inl (by omega)⟩
      · obtain ⟨k, k1, k2, k3, _⟩ := inF _ _ (Or.inr (Q e _ u v e2))
        exact ⟨k, k1, k2, Or.inl (by omega)⟩
    · rcases (show b = t + (hgt d : Int) ∨ b = t + v + (hgt e : Int) by omega) with rr | rr
      · obtain ⟨k, k1, k2, _, k3⟩ := inF _ _ (Or.inl (P d _ d3))
        exact ⟨k, k1, k2, Or.inr (by omega)⟩
      · obtain ⟨k, k1, k2, _, k3⟩ := inF _ _ (Or.inr (Q e _ u v e3))
        exact ⟨k, k1, k2, Or.inr (by omega)⟩
  have c1 : (7 : Int32) < Int32.ofInt r ↔ 7 < r := iI_lt (a := 7) (b := r) (by omega) (by omega)
  have c2 : Int32.ofInt b ≤ (7 : Int32) ↔ b ≤ 7 := iI_le (a := b) (b := 7) (by omega) (by omega)
  by_cases q1 : 7 < r
  · rw [if_pos (c1.mpr q1)]
    exact ⟨0, 0, rfl, settled_0, by rw [bad (Or.inl q1), figB_0]; rfl⟩
  · rw [if_neg (fun h => q1 (c1.mp h))]
    by_cases q2 : b ≤ 7
    · rw [if_pos (c2.mpr q2)]
      obtain ⟨M1, a1, a2⟩ := gr_moved_eq d (u := l) (v := t) (by omega) (by omega)
      obtain ⟨M2, b1, b2⟩ := gr_moved_eq e (u := l + u) (v := t + v) (by omega) (by omega)
      rw [a1, bd1_some, b1, bd1_some]
      obtain ⟨R, r1, r2⟩ := set_core (fun X Y => hB d X Y = true ∨ hB e (X - u) (Y - v) = true) (jnF d e u v 1 F) (fun k hk => jnF_1 d e u v F hk) (fun X Y h => by
        rcases h with h | h
        · have := hB_wh hd h; omega
        · have := hB_wh he h; omega) (M1 ||| M2) l t (fun X Y => by
        constructor
        · rintro ⟨j, hj, rfl, rfl⟩
          have h64 := bt_lt hj
          rw [bt_or, Bool.or_eq_true, a2 j h64, b2 j h64] at hj
          rcases hj with h | h
          · exact Or.inl h
          · right
            rw [show ((j % 8 : Nat) : Int) - l - u = ((j % 8 : Nat) : Int) - (l + u) by omega, show ((j / 8 : Nat) : Int) - t - v = ((j / 8 : Nat) : Int) - (t + v) by omega]; exact h
        · intro h
          have hr' : 0 ≤ X ∧ X < 8 ∧ 0 ≤ Y ∧ Y < 8 := by
            rcases h with h | h
            · have := hB_wh hd h; omega
            · have := hB_wh he h; omega
          obtain ⟨x, rfl⟩ : ∃ x : Nat, X = x := ⟨X.toNat, by omega⟩
          obtain ⟨y, rfl⟩ : ∃ y : Nat, Y = y := ⟨Y.toNat, by omega⟩
          refine ⟨8 * y + x, ?_, by omega, by omega⟩
          rw [bt_or, a2 _ (by omega), b2 _ (by omega), show (8 * y + x) % 8 = x by omega, show (8 * y + x) / 8 = y by omega, Bool.or_eq_true]
          rcases h with h | h
          · exact Or.inl h
          · right
            rw [show (x : Int) - (l + u) = (x : Int) - l - u by omega, show (y : Int) - (t + v) = (y : Int) - t - v by omega]; exact h) (fun X Y X' Y' h h' => by
        have g1 : -l ≤ X ∧ X < r - l ∧ -t ≤ Y ∧ Y < b - t := by
          rcases h with h | h
          · have := hB_wh hd h; omega
          · have := hB_wh he h; omega
        have g2 : -l ≤ X' ∧ X' < r - l ∧ -t ≤ Y' ∧ Y' < b - t := by
          rcases h' with h | h
          · have := hB_wh hd h; omega
          · have := hB_wh he h; omega
        omega)
      exact ⟨_, R, rfl, r1, r2⟩
    · rw [if_neg (fun h => q2 (c2.mp h))]
      exact ⟨0, 0, rfl, settled_0, by rw [bad (Or.inr (by omega)), figB_0]; rfl⟩
theorem store_eq {j : Nat} (hj : j < 8) {B R : Int64} (g : Nat → Int64) (hR : gr_settled B = some R) : cf_store (nI j) B g = if figB R then some (nI (cnt R), vp_updL g j R) else some (-3, g) := by
  unfold cf_store
  rw [hR, bd1_some, gr_isFigure_b, bd1_some]
  cases figB R with
  | false => rfl
  | true => rw [if_neg (by decide), ck_n hj (by omega), nm_eq, cl_n (by omega), jl_bitCount_eq]; rfl
theorem inr_s {v : Int32} {lo hi : Int} (hl : -1000 < lo ∧ lo < 1000) (hh : -1000 < hi ∧ hi < 1000) (h : inr v (Int32.ofInt lo) (Int32.ofInt hi) = true) : ∃ z : Int, lo ≤ z ∧ z ≤ hi ∧ v = Int32.ofInt z := by
  unfold inr at h
  rw [Bool.and_eq_true, decide_eq_true_eq, decide_eq_true_eq, Int32.le_iff_toInt_le, Int32.le_iff_toInt_le, fb_ofI (by omega) (by omega), fb_ofI (by omega) (by omega)] at h
  exact ⟨v.toInt, h.1, h.2, (fb_asI v).symm⟩
theorem inr_77 {v : Int32} (h : inr v (-7) 7 = true) : ∃ z : Int, -7 ≤ z ∧ z ≤ 7 ∧ v = Int32.ofInt z := inr_s (lo := -7) (hi := 7) (by omega) (by omega) (by rw [show Int32.ofInt (-7) = -7 by decide, show Int32.ofInt 7 = 7 by decide]; exact h)
theorem inr_17 {v : Int32} (h : inr v (-1) 7 = true) : ∃ z : Int, -1 ≤ z ∧ z ≤ 7 ∧ v = Int32.ofInt z := inr_s (lo := -1) (hi := 7) (by omega) (by omega) (by rw [show Int32.ofInt (-1) = -1 by decide, show Int32.ofInt 7 = 7 by decide]; exact h)
theorem opc_join (v w x y m : Int32) (hm : m = 0 ∨ m = 1) {g h : Nat → Int64} (hd : DR g h) (F : Nat → Int32) : ∃ r g' h' F', cf_join v w x y m g = some (r, g') ∧ mo_join v w x y m h F = some (r, h', F') ∧ DR g' h' := by
  cases hv : inr v 0 7 with
  | false =>
    simp only [cf_join, mo_join, cf_isDrawer_eq, mo_isDrawer_eq, hv, bd1_some, bf0, if_true]
    exact ⟨-1, g, h, F, rfl, rfl, hd⟩
  | true =>
    cases hw : inr w 0 7 with
    | false =>
      simp only [cf_join, mo_join, cf_isDrawer_eq, mo_isDrawer_eq, hv, hw, bd1_some, bf0, bt0, if_true, if_false]
      exact ⟨-1, g, h, F, rfl, rfl, hd⟩
    | true =>
      cases hx : inr x (-7) 7 with
      | false =>
        simp only [cf_join, mo_join, cf_isDrawer_eq, mo_isDrawer_eq, cf_isMove_eq, mo_in_eq, hv, hw, hx, Bool.false_and, bd1_some, bf0, bt0, if_true, if_false]
        exact ⟨-1, g, h, F, rfl, rfl, hd⟩
      | true =>
        cases hy : inr y (-7) 7 with
        | false =>
          simp only [cf_join, mo_join, cf_isDrawer_eq, mo_isDrawer_eq, cf_isMove_eq, mo_in_eq, hv, hw, hx, hy, Bool.and_false, bd1_some, bf0, bt0, if_true, if_false]
          exact ⟨-1, g, h, F, rfl, rfl, hd⟩
        | true =>
          obtain ⟨j, hj, rfl⟩ := inr_dr hv
          obtain ⟨i, hi, rfl⟩ := inr_dr hw
          obtain ⟨u, u1, u2, rfl⟩ := inr_77 hx
          obtain ⟨t, t1, t2, rfl⟩ := inr_77 hy
          have e := (hd j hj).1
          have e2 := (hd i hi).1
          simp only [cf_join, mo_join, cf_isDrawer_eq, mo_isDrawer_eq, cf_isMove_eq, mo_in_eq, hv, hw, hx, hy, Bool.and_true, bd1_some, bt0, if_false, ck_n hj (show 8 < 2 ^ 31 by omega), cl_n (show j < 2 ^ 31 by omega), ck_n hi (show 8 < 2 ^ 31 by omega), cl_n (show i < 2 ^ 31 by omega), e, e2, mo_clears_eq]
          by_cases h0 : h j = 0
          · rw [if_pos h0, if_pos h0]; exact ⟨-2, g, h, F, rfl, rfl, hd⟩
          · rw [if_neg h0, if_neg h0]
            by_cases h1 : h i = 0
            · rw [if_pos h1, if_pos h1]; exact ⟨-2, g, h, F, rfl, rfl, hd⟩
            · rw [if_neg h1, if_neg h1]
              have fj := DRf hd hj h0
              have fi := DRf hd hi h1
              have l1 := mo_lays_eq fj.1 (u := 0) (v := 0) (b := 1) (by omega) (by omega) (Or.inr rfl) (fun k => if k < 576 then 0 else F k)
              rw [show (Int32.ofInt 0) = 0 from rfl] at l1
              rw [l1, bd1_some, mo_lays_eq fi.1 (u := u) (v := t) ⟨u1, u2⟩ ⟨t1, t2⟩ hm, bd1_some]
              have fin : ∀ R, mo_taken (layF (h i) u t m (layF (h j) 0 0 1 (fun k => if k < 576 then 0 else F k))) = some (if figB R then R else 0) → ∃ r g' h' F', (if figB R then some (nI (cnt R), vp_updL g j R) else some (-3, g)) = some (r, g') ∧ (bd1 (mo_taken (layF (h i) u t m (layF (h j) 0 0 1 (fun k => if k < 576 then 0 else F k)))) fun r_15 => if r_15 = 0 then some (-3, h, layF (h i) u t m (layF (h j) 0 0 1 (fun k => if k < 576 then 0 else F k))) else nm (vp_updL h j r_15) fun a => bd1 (mo_bits r_15) fun r_18 => some (r_18, a, layF (h i) u t m (layF (h j) 0 0 1 (fun k => if k < 576 then 0 else F k)))) = some (r, h', F') ∧ DR g' h' := by
                intro R ht
                rw [ht, bd1_some]
                cases hR : figB R with
                | false => exact ⟨-3, g, h, _, rfl, rfl, hd⟩
                | true =>
                  have hF := figB_t.mp hR
                  simp only [if_true]
                  rw [if_neg hF.ne, nm_eq, mo_bits_eq]
                  exact ⟨_, _, _, _, rfl, rfl, DR_set hd (Or.inr hF)⟩
              rcases hm with rfl | rfl
              · rw [if_pos rfl]
                obtain ⟨M, R, c1, c2, c3⟩ := less_core (e := h i) fj ⟨u1, u2⟩ ⟨t1, t2⟩ F
                rw [c1, bd1_some, store_eq hj g c2]
                obtain ⟨r, g', h', F', z1, z2, z3⟩ := fin R c3
                rw [z1]
                exact ⟨r, g', h', F', rfl, z2, z3⟩
              · rw [if_neg (by decide)]
                obtain ⟨B, R, c1, c2, c3⟩ := more_core fj fi ⟨u1, u2⟩ ⟨t1, t2⟩ F
                rw [c1, bd1_some, store_eq hj g c2]
                obtain ⟨r, g', h', F', z1, z2, z3⟩ := fin R c3
                rw [z1]
                exact ⟨r, g', h', F', rfl, z2, z3⟩
theorem bt_1 {i : Nat} : bt 1 i = true ↔ i = 0 := by
  have := bt_one (m := 0) (by omega) (j := i)
  rwa [show sl 1 (nI 0) = 1 by decide] at this
theorem FIG_1 : FIG 1 := by
  refine ⟨fun i hi => by rw [bt_1.mp hi]; omega, ⟨0, by omega, bt_1.mpr rfl⟩, ⟨0, by omega, bt_1.mpr rfl⟩, by decide +kernel, by decide, fun T ⟨a, ha, hT⟩ _ b hb => by rw [bt_1.mp hb]; rw [bt_1.mp ha] at hT; exact hT⟩
theorem layF_1 {u v : Int} (hu : -1 ≤ u ∧ u ≤ 7) (hv : -1 ≤ v ∧ v ≤ 7) (b : Int32) (F : Nat → Int32) : ∃ k, k < 576 ∧ ((24 * (Int32.ofInt v + 8) + Int32.ofInt u) + 8 : Int32) = nI k ∧ upd F k b = layF 1 u v b F := by
  refine ⟨(24 * (v + 8) + (u + 8)).toNat, by omega, ?_, ?_⟩
  · rw [nI_iI, show (8 : Int32) = Int32.ofInt 8 from rfl, show (24 : Int32) = Int32.ofInt 24 from rfl, ← Int32.ofInt_add, ← Int32.ofInt_mul, ← Int32.ofInt_add, ← Int32.ofInt_add]
    congr 1; omega
  · funext k
    rw [upI]
    unfold layF
    have key : hB 1 (((k % 24 : Nat) : Int) - 8 - u) (((k / 24 : Nat) : Int) - 8 - v) = true ↔ k = (24 * (v + 8) + (u + 8)).toNat := by
      rw [← pt_hB]
      constructor
      · rintro ⟨j, hj, a, c⟩
        have := bt_1.mp hj
        subst this
        omega
      · intro e
        exact ⟨0, bt_1.mpr rfl, by omega, by omega⟩
    by_cases q : k = (24 * (v + 8) + (u + 8)).toNat
    · rw [if_pos q, if_pos (key.mpr q)]
    · rw [if_neg q, if_neg (fun h => q (key.mp h))]
theorem opc_change (v x y m : Int32) (hm : m = 0 ∨ m = 1) {g h : Nat → Int64} (hd : DR g h) (F : Nat → Int32) : ∃ r g' h' F', cf_change v x y m g = some (r, g') ∧ mo_change v x y m h F = some (r, h', F') ∧ DR g' h' := by
  cases hv : inr v 0 7 with
  | false =>
    simp only [cf_change, mo_change, cf_isDrawer_eq, mo_isDrawer_eq, hv, bd1_some, bf0, if_true]
    exact ⟨-1, g, h, F, rfl, rfl, hd⟩
  | true =>
    cases hx : inr x (-1) 7 with
    | false =>
      simp only [cf_change, mo_change, cf_isDrawer_eq, mo_isDrawer_eq, cf_within_eq, mo_in_eq, hv, hx, bd1_some, bf0, bt0, if_true, if_false]
      exact ⟨-1, g, h, F, rfl, rfl, hd⟩
    | true =>
      cases hy : inr y (-1) 7 with
      | false =>
        simp only [cf_change, mo_change, cf_isDrawer_eq, mo_isDrawer_eq, cf_within_eq, mo_in_eq, hv, hx, hy, bd1_some, bf0, bt0, if_true, if_false]
        exact ⟨-1, g, h, F, rfl, rfl, hd⟩
      | true =>
        obtain ⟨j, hj, rfl⟩ := inr_dr hv
        obtain ⟨u, u1, u2, rfl⟩ := inr_17 hx
        obtain ⟨t, t1, t2, rfl⟩ := inr_17 hy
        have e := (hd j hj).1
        simp only [cf_change, mo_change, cf_isDrawer_eq, mo_isDrawer_eq, cf_within_eq, mo_in_eq, hv, hx, hy, bd1_some, bt0, if_false, ck_n hj (show 8 < 2 ^ 31 by omega), cl_n (show j < 2 ^ 31 by omega), e, mo_clears_eq, gr_has_eq, mo_isCell_eq]
        by_cases h0 : h j = 0
        · rw [if_pos h0, if_pos h0]; exact ⟨-2, g, h, F, rfl, rfl, hd⟩
        · rw [if_neg h0, if_neg h0]
          by_cases hs : boI (hasB (h j) (Int32.ofInt u) (Int32.ofInt t)) = m
          · rw [if_pos hs, if_pos hs]; exact ⟨-3, g, h, F, rfl, rfl, hd⟩
          · rw [if_neg hs, if_neg hs]
            have fj := DRf hd hj h0
            have l1 := mo_lays_eq fj.1 (u := 0) (v := 0) (b := 1) (by omega) (by omega) (Or.inr rfl) (fun k => if k < 576 then 0 else F k)
            rw [show (Int32.ofInt 0) = 0 from rfl] at l1
            have hmn : vp_nar .boolean m = m := by
              rcases hm with rfl | rfl
              · exact nar0
              · exact nar1
            obtain ⟨k, k1, k2, k3⟩ := layF_1 ⟨u1, u2⟩ ⟨t1, t2⟩ m (layF (h j) 0 0 1 (fun k => if k < 576 then 0 else F k))
            rw [l1, bd1_some, nm_eq, k2, ck_n k1 (by omega), nm_eq, cl_n (by omega), hmn, k3]
            have fin : ∀ R, mo_taken (layF 1 u t m (layF (h j) 0 0 1 (fun k => if k < 576 then 0 else F k))) = some (if figB R then R else 0) → ∃ r g' h' F', (if figB R then some (nI (cnt R), vp_updL g j R) else some (-3, g)) = some (r, g') ∧ (bd1 (mo_taken (layF 1 u t m (layF (h j) 0 0 1 (fun k => if k < 576 then 0 else F k)))) fun r_15 => if r_15 = 0 then some (-3, h, layF 1 u t m (layF (h j) 0 0 1 (fun k => if k < 576 then 0 else F k))) else nm (vp_updL h j r_15) fun a => bd1 (mo_bits r_15) fun r_18 => some (r_18, a, layF 1 u t m (layF (h j) 0 0 1 (fun k => if k < 576 then 0 else F k)))) = some (r, h', F') ∧ DR g' h' := by
              intro R ht
              rw [ht, bd1_some]
              cases hR : figB R with
              | false => exact ⟨-3, g, h, _, rfl, rfl, hd⟩
              | true =>
                have hF := figB_t.mp hR
                simp only [if_true]
                rw [if_neg hF.ne, nm_eq, mo_bits_eq]
                exact ⟨_, _, _, _, rfl, rfl, DR_set hd (Or.inr hF)⟩
            rcases hm with rfl | rfl
            · rw [if_pos rfl]
              obtain ⟨M, R, c1, c2, c3⟩ := less_core (e := 1) fj (u := u) (v := t) (by omega) (by omega) F
              rw [c1, bd1_some, store_eq hj g c2]
              obtain ⟨r, g', h', F', z1, z2, z3⟩ := fin R c3
              rw [z1]
              exact ⟨r, g', h', F', rfl, z2, z3⟩
            · rw [if_neg (by decide)]
              obtain ⟨B, R, c1, c2, c3⟩ := more_core fj FIG_1 (u := u) (v := t) (by omega) (by omega) F
              rw [c1, bd1_some, store_eq hj g c2]
              obtain ⟨r, g', h', F', z1, z2, z3⟩ := fin R c3
              rw [z1]
              exact ⟨r, g', h', F', rfl, z2, z3⟩
