/-! copies of a figure that tiles are on all places -/
theorem dX_op : ∀ l : Fin 4, dX ((l.val + 2) % 4) = -dX l.val ∧ dY ((l.val + 2) % 4) = -dY l.val := by decide
def lxN : Nat → Int
  | 0 => 0
  | 1 => 0
  | _ => 1
def lyN : Nat → Int
  | 0 => 1
  | 3 => 1
  | _ => 0
def rxN : Nat → Int
  | 0 => 0
  | 3 => 0
  | _ => 1
def ryN : Nat → Int
  | 0 => 0
  | 1 => 0
  | _ => 1
theorem sd_rg {f : Int64} {x y : Int} {l : Nat} (hl : l < 4) (h : sdB f x y l = true) : hB f (x - rxN l) (y - ryN l) = true := by
  rcases l4 hl with rfl | rfl | rfl | rfl
  · rw [sd_0, Bool.and_eq_true] at h
    rw [show x - rxN 0 = x by rw [show rxN 0 = 0 from rfl]; omega, show y - ryN 0 = y by rw [show ryN 0 = 0 from rfl]; omega]; exact h.1
  · rw [sd_1, Bool.and_eq_true] at h
    rw [show x - rxN 1 = x - 1 from rfl, show y - ryN 1 = y by rw [show ryN 1 = 0 from rfl]; omega]; exact h.1
  · rw [sd_2, Bool.and_eq_true] at h
    exact h.1
  · rw [sd_3, Bool.and_eq_true] at h
    rw [show x - rxN 3 = x by rw [show rxN 3 = 0 from rfl]; omega, show y - ryN 3 = y - 1 from rfl]; exact h.1
theorem rev_c : ∀ l : Fin 4, dX l.val - rxN ((l.val + 2) % 4) = -lxN l.val ∧ dY l.val - ryN ((l.val + 2) % 4) = -lyN l.val ∧ dX ((l.val + 2) % 4) - rxN l.val = -lxN ((l.val + 2) % 4) ∧ dY ((l.val + 2) % 4) - ryN l.val = -lyN ((l.val + 2) % 4) := by decide
/-- half a line on a stretch stands again, turned and moved -/
theorem opp_tr {f : Int64} {x0 h st sz : Nat} (hl : LNs f x0) (op : opP (wL f x0) h st sz) : ∀ i, i ≤ sz → wX f x0 (st + h + i) = wX f x0 (st + sz - i) + mvX f x0 (st + sz) (st + h) ∧ wY f x0 (st + h + i) = wY f x0 (st + sz - i) + mvY f x0 (st + sz) (st + h) := by
  intro i
  induction i with
  | zero =>
    intro _
    rw [show st + h + 0 = st + h from rfl, show st + sz - 0 = st + sz from rfl]
    unfold mvX mvY
    omega
  | succ i ih =>
    intro hi
    obtain ⟨a, b⟩ := ih (by omega)
    have o := op i (by omega)
    have w4 := (wk_sd hl (st + sz - 1 - i)).2
    have d := dX_op ⟨wL f x0 (st + sz - 1 - i), w4⟩
    have d1 : dX ((wL f x0 (st + sz - 1 - i) + 2) % 4) = -dX (wL f x0 (st + sz - 1 - i)) := d.1
    have d2 : dY ((wL f x0 (st + sz - 1 - i) + 2) % 4) = -dY (wL f x0 (st + sz - 1 - i)) := d.2
    have e1 := wX_s f x0 (st + sz - 1 - i)
    have e2 := wY_s f x0 (st + sz - 1 - i)
    rw [show st + sz - 1 - i + 1 = st + sz - i by omega] at e1 e2
    rw [show st + sz - (i + 1) = st + sz - 1 - i by omega, show st + h + (i + 1) = st + h + i + 1 by omega, wX_s, wY_s, o, d1, d2]
    omega
/-- what lies beyond a side of the stretch is a cell, moved; and the other way round -/
theorem opp_nb {f : Int64} {x0 h st sz : Nat} (hl : LNs f x0) (op : opP (wL f x0) h st sz) {j : Nat} (hj : st ≤ j ∧ j < st + sz) : hB f (wX f x0 j - lxN (wL f x0 j) + mvX f x0 (st + sz) (st + h)) (wY f x0 j - lyN (wL f x0 j) + mvY f x0 (st + sz) (st + h)) = true := by
  obtain ⟨a, b⟩ := opp_tr hl op (st + sz - 1 - j) (by omega)
  rw [show st + sz - (st + sz - 1 - j) = j + 1 by omega] at a b
  have o := op (st + sz - 1 - j) (by omega)
  rw [show st + sz - 1 - (st + sz - 1 - j) = j by omega] at o
  obtain ⟨s, s4⟩ := wk_sd hl (st + h + (st + sz - 1 - j))
  have r := sd_rg s4 s
  have w4 := (wk_sd hl j).2
  have c := rev_c ⟨wL f x0 j, w4⟩
  have c1 : dX (wL f x0 j) - rxN ((wL f x0 j + 2) % 4) = -lxN (wL f x0 j) := c.1
  have c2 : dY (wL f x0 j) - ryN ((wL f x0 j + 2) % 4) = -lyN (wL f x0 j) := c.2.1
  rw [o, a, b, wX_s, wY_s] at r
  rw [show wX f x0 j - lxN (wL f x0 j) + mvX f x0 (st + sz) (st + h) = wX f x0 j + dX (wL f x0 j) + mvX f x0 (st + sz) (st + h) - rxN ((wL f x0 j + 2) % 4) by omega, show wY f x0 j - lyN (wL f x0 j) + mvY f x0 (st + sz) (st + h) = wY f x0 j + dY (wL f x0 j) + mvY f x0 (st + sz) (st + h) - ryN ((wL f x0 j + 2) % 4) by omega]
  exact r
theorem opp_nb' {f : Int64} {x0 h st sz : Nat} (hl : LNs f x0) (op : opP (wL f x0) h st sz) {j : Nat} (hj : st + h ≤ j ∧ j < st + h + sz) : hB f (wX f x0 j - lxN (wL f x0 j) - mvX f x0 (st + sz) (st + h)) (wY f x0 j - lyN (wL f x0 j) - mvY f x0 (st + sz) (st + h)) = true := by
  obtain ⟨a, b⟩ := opp_tr hl op (j - (st + h)) (by omega)
  rw [show st + h + (j - (st + h)) = j by omega] at a b
  have o := op (j - (st + h)) (by omega)
  rw [show st + h + (j - (st + h)) = j by omega] at o
  obtain ⟨s, s4⟩ := wk_sd hl (st + sz - 1 - (j - (st + h)))
  have r := sd_rg s4 s
  have c := rev_c ⟨wL f x0 (st + sz - 1 - (j - (st + h))), s4⟩
  have d := dX_op ⟨wL f x0 (st + sz - 1 - (j - (st + h))), s4⟩
  have e1 := wX_s f x0 (st + sz - 1 - (j - (st + h)))
  have e2 := wY_s f x0 (st + sz - 1 - (j - (st + h)))
  rw [show st + sz - 1 - (j - (st + h)) + 1 = st + sz - (j - (st + h)) by omega] at e1 e2
  rw [o, a, b, e1, e2]
  generalize wL f x0 (st + sz - 1 - (j - (st + h))) = m at *
  have c1 : dX ((m + 2) % 4) - rxN m = -lxN ((m + 2) % 4) := c.2.2.1
  have c2 : dY ((m + 2) % 4) - ryN m = -lyN ((m + 2) % 4) := c.2.2.2
  have d1 : dX ((m + 2) % 4) = -dX m := d.1
  have d2 : dY ((m + 2) % 4) = -dY m := d.2
  generalize mvX f x0 (st + sz) (st + h) = T at *
  generalize mvY f x0 (st + sz) (st + h) = U at *
  generalize wX f x0 (st + sz - 1 - (j - (st + h))) = X at *
  generalize wY f x0 (st + sz - 1 - (j - (st + h))) = Y at *
  rw [show X + dX m + T - lxN ((m + 2) % 4) - T = X - rxN m by omega, show Y + dY m + U - lyN ((m + 2) % 4) - U = Y - ryN m by omega]
  exact r
/-- a place on a copy -/
def onC (f : Int64) (p q u w x y : Int) : Prop := ∃ m n : Int, hB f (x - m * p - n * u) (y - m * q - n * w) = true
theorem side_nb {f : Int64} {x0 h s a b : Nat} (hl : LNs f x0) (hL : LEN f x0 (2 * h)) (ct : ctP (wL f x0) h s a b) {i : Nat} (hi : i < 2 * h) : onC f (mvX f x0 s (s + (a + b))) (mvY f x0 s (s + (a + b))) (mvX f x0 (s + a) (s + h)) (mvY f x0 (s + a) (s + h)) (wX f x0 i - lxN (wL f x0 i)) (wY f x0 i - lyN (wL f x0 i)) := by
  obtain ⟨hs, a1, b1, hab, oA, oB, oC⟩ := ct
  obtain ⟨j, j1, j2, e1, e2, e3⟩ : ∃ j, s ≤ j ∧ j < s + 2 * h ∧ wX f x0 i = wX f x0 j ∧ wY f x0 i = wY f x0 j ∧ wL f x0 i = wL f x0 j := by
    by_cases q : s ≤ i
    · exact ⟨i, q, by omega, rfl, rfl, rfl⟩
    · obtain ⟨p1, p2, p3⟩ := wk_per hl hL i
      exact ⟨i + 2 * h, by omega, by omega, p1.symm, p2.symm, p3.symm⟩
  rw [e1, e2, e3]
  have tA := opp_tr hl oA a (Nat.le_refl _)
  have tB := opp_tr hl oB b (Nat.le_refl _)
  rw [show s + h + a = s + a + h by omega, show s + a - a = s by omega] at tA
  rw [show s + a + h + b = s + a + b + h by omega, show s + a + b - b = s + a by omega] at tB
  have kA := fun hj => @opp_nb f x0 h s a hl oA j hj
  have kB := fun hj => @opp_nb f x0 h (s + a) b hl oB j hj
  have kC := fun hj => @opp_nb f x0 h (s + a + b) (h - a - b) hl oC j hj
  have kA' := fun hj => @opp_nb' f x0 h s a hl oA j hj
  have kB' := fun hj => @opp_nb' f x0 h (s + a) b hl oB j hj
  have kC' := fun hj => @opp_nb' f x0 h (s + a + b) (h - a - b) hl oC j hj
  rw [show s + a + b + (h - a - b) = s + h by omega] at kC kC'
  have V2x : mvX f x0 (s + a + b) (s + a + h) = mvX f x0 (s + a) (s + h) - mvX f x0 s (s + (a + b)) := by
    have := tA.1
    unfold mvX at *
    rw [show s + (a + b) = s + a + b by omega]
    omega
  have V2y : mvY f x0 (s + a + b) (s + a + h) = mvY f x0 (s + a) (s + h) - mvY f x0 s (s + (a + b)) := by
    have := tA.2
    unfold mvY at *
    rw [show s + (a + b) = s + a + b by omega]
    omega
  have V3x : mvX f x0 (s + h) (s + a + b + h) = -mvX f x0 s (s + (a + b)) := by
    have := tB.1
    rw [V2x] at this
    unfold mvX at *
    omega
  have V3y : mvY f x0 (s + h) (s + a + b + h) = -mvY f x0 s (s + (a + b)) := by
    have := tB.2
    rw [V2y] at this
    unfold mvY at *
    omega
  rw [V2x, V2y] at kB kB'
  rw [V3x, V3y] at kC kC'
  generalize wX f x0 j - lxN (wL f x0 j) = X at *
  generalize wY f x0 j - lyN (wL f x0 j) = Y at *
  generalize mvX f x0 s (s + (a + b)) = p at *
  generalize mvY f x0 s (s + (a + b)) = q at *
  generalize mvX f x0 (s + a) (s + h) = u at *
  generalize mvY f x0 (s + a) (s + h) = w at *
  rcases (show (s ≤ j ∧ j < s + a) ∨ (s + a ≤ j ∧ j < s + a + b) ∨ (s + a + b ≤ j ∧ j < s + h) ∨ (s + h ≤ j ∧ j < s + h + a) ∨ (s + a + h ≤ j ∧ j < s + a + h + b) ∨ (s + a + b + h ≤ j ∧ j < s + a + b + h + (h - a - b)) by omega) with c | c | c | c | c | c
  · refine ⟨0, -1, ?_⟩
    rw [show X - 0 * p - -1 * u = X + u by omega, show Y - 0 * q - -1 * w = Y + w by omega]; exact kA c
  · refine ⟨1, -1, ?_⟩
    rw [show X - 1 * p - -1 * u = X + (u - p) by omega, show Y - 1 * q - -1 * w = Y + (w - q) by omega]; exact kB c
  · refine ⟨1, 0, ?_⟩
    rw [show X - 1 * p - 0 * u = X + -p by omega, show Y - 1 * q - 0 * w = Y + -q by omega]; exact kC c
  · refine ⟨0, 1, ?_⟩
    rw [show X - 0 * p - 1 * u = X - u by omega, show Y - 0 * q - 1 * w = Y - w by omega]; exact kA' c
  · refine ⟨-1, 1, ?_⟩
    rw [show X - -1 * p - 1 * u = X - (u - p) by omega, show Y - -1 * q - 1 * w = Y - (w - q) by omega]; exact kB' c
  · refine ⟨-1, 0, ?_⟩
    rw [show X - -1 * p - 0 * u = X - -p by omega, show Y - -1 * q - 0 * w = Y - -q by omega]; exact kC' c
theorem onC_add {f : Int64} {p q u w X Y m n x y : Int} (hx : X = x - m * p - n * u) (hy : Y = y - m * q - n * w) (h : onC f p q u w X Y) : onC f p q u w x y := by
  obtain ⟨m', n', h⟩ := h
  refine ⟨m + m', n + n', ?_⟩
  rw [Int.add_mul, Int.add_mul, Int.add_mul, Int.add_mul]
  rw [hx, hy] at h
  rw [show x - (m * p + m' * p) - (n * u + n' * u) = x - m * p - n * u - m' * p - n' * u by omega, show y - (m * q + m' * q) - (n * w + n' * w) = y - m * q - n * w - m' * q - n' * w by omega]
  exact h
theorem onC_nb {f : Int64} {x0 h s a b : Nat} (hl : LNs f x0) (hL : LEN f x0 (2 * h)) (ct : ctP (wL f x0) h s a b) {x y x' y' : Int} (hab : adjI x y x' y') (hc : onC f (mvX f x0 s (s + (a + b))) (mvY f x0 s (s + (a + b))) (mvX f x0 (s + a) (s + h)) (mvY f x0 (s + a) (s + h)) x y) : onC f (mvX f x0 s (s + (a + b))) (mvY f x0 s (s + (a + b))) (mvX f x0 (s + a) (s + h)) (mvY f x0 (s + a) (s + h)) x' y' := by
  have sn := fun {X Y : Int} {l : Nat} (h4 : l < 4) (hs : sdB f X Y l = true) => (by
    obtain ⟨i, i1, i2, i3, i4⟩ := on_line hl hL h4 hs
    have := side_nb hl hL ct i1
    rw [i2, i3, i4] at this
    exact this : onC f (mvX f x0 s (s + (a + b))) (mvY f x0 s (s + (a + b))) (mvX f x0 (s + a) (s + h)) (mvY f x0 (s + a) (s + h)) (X - lxN l) (Y - lyN l))
  obtain ⟨m, n, hc⟩ := hc
  generalize mvX f x0 s (s + (a + b)) = p at *
  generalize mvY f x0 s (s + (a + b)) = q at *
  generalize mvX f x0 (s + a) (s + h) = u at *
  generalize mvY f x0 (s + a) (s + h) = w at *
  have cell : ∀ {X Y : Int}, X = x' - m * p - n * u → Y = y' - m * q - n * w → (hB f X Y = false → onC f p q u w X Y) → onC f p q u w x' y' := fun {X Y} hX hY k => by
    cases z : hB f X Y with
    | false => exact onC_add hX hY (k z)
    | true => exact ⟨m, n, by rw [← hX, ← hY]; exact z⟩
  generalize hCx : x - m * p - n * u = cx at *
  generalize hCy : y - m * q - n * w = cy at *
  rcases hab with ⟨r1, r2 | r2⟩ | ⟨r1, r2 | r2⟩
  · refine cell (X := cx + 1) (Y := cy) (by omega) (by omega) (fun z => ?_)
    have := sn (X := cx + 1) (Y := cy) (l := 1) (by omega) (by rw [sd_1, show cx + 1 - 1 = cx by omega, hc, z]; rfl)
    rw [show cx + 1 - lxN 1 = cx + 1 by rw [show lxN 1 = 0 from rfl]; omega, show cy - lyN 1 = cy by rw [show lyN 1 = 0 from rfl]; omega] at this
    exact this
  · refine cell (X := cx - 1) (Y := cy) (by omega) (by omega) (fun z => ?_)
    have := sn (X := cx) (Y := cy + 1) (l := 3) (by omega) (by rw [sd_3, show cy + 1 - 1 = cy by omega, hc, z]; rfl)
    rw [show cx - lxN 3 = cx - 1 from rfl, show cy + 1 - lyN 3 = cy by rw [show lyN 3 = 1 from rfl]; omega] at this
    exact this
  · refine cell (X := cx) (Y := cy + 1) (by omega) (by omega) (fun z => ?_)
    have := sn (X := cx + 1) (Y := cy + 1) (l := 2) (by omega) (by rw [sd_2, show cx + 1 - 1 = cx by omega, show cy + 1 - 1 = cy by omega, hc, z]; rfl)
    rw [show cx + 1 - lxN 2 = cx by rw [show lxN 2 = 1 from rfl]; omega, show cy + 1 - lyN 2 = cy + 1 by rw [show lyN 2 = 0 from rfl]; omega] at this
    exact this
  · refine cell (X := cx) (Y := cy - 1) (by omega) (by omega) (fun z => ?_)
    have := sn (X := cx) (Y := cy) (l := 0) (by omega) (by rw [sd_0, hc, z]; rfl)
    rw [show cx - lxN 0 = cx by rw [show lxN 0 = 0 from rfl]; omega, show cy - lyN 0 = cy - 1 from rfl] at this
    exact this
theorem all_I {P : Int → Prop} {a : Int} (h0 : P a) (h1 : ∀ x, P x → P (x + 1)) (h2 : ∀ x, P x → P (x - 1)) (x : Int) : P x := by
  have u : ∀ k : Nat, P (a + k) := fun k => by
    induction k with
    | zero => rw [show a + ((0 : Nat) : Int) = a by omega]; exact h0
    | succ k ih => have := h1 _ ih; rw [show a + ((k + 1 : Nat) : Int) = a + k + 1 by omega]; exact this
  have d : ∀ k : Nat, P (a - k) := fun k => by
    induction k with
    | zero => rw [show a - ((0 : Nat) : Int) = a by omega]; exact h0
    | succ k ih => have := h2 _ ih; rw [show a - ((k + 1 : Nat) : Int) = a - k - 1 by omega]; exact this
  by_cases q : a ≤ x
  · have := u (x - a).toNat
    rw [show a + (((x - a).toNat : Nat) : Int) = x by omega] at this; exact this
  · have := d (a - x).toNat
    rw [show a - (((a - x).toNat : Nat) : Int) = x by omega] at this; exact this
theorem onC_all {f : Int64} {x0 h s a b : Nat} (hl : LNs f x0) (hL : LEN f x0 (2 * h)) (ct : ctP (wL f x0) h s a b) (x y : Int) : onC f (mvX f x0 s (s + (a + b))) (mvY f x0 s (s + (a + b))) (mvX f x0 (s + a) (s + h)) (mvY f x0 (s + a) (s + h)) x y := by
  have st := hB_bt hl.2.2.2.2
  generalize ((x0 % 8 : Nat) : Int) = cx at *
  generalize ((x0 / 8 : Nat) : Int) = cy at *
  have nb := @onC_nb f x0 h s a b hl hL ct
  refine all_I (P := fun x => onC f (mvX f x0 s (s + (a + b))) (mvY f x0 s (s + (a + b))) (mvX f x0 (s + a) (s + h)) (mvY f x0 (s + a) (s + h)) x y) (a := cx) ?_ (fun x hx => nb (Or.inl ⟨rfl, Or.inl rfl⟩) hx) (fun x hx => nb (Or.inl ⟨rfl, Or.inr (by omega)⟩) hx) x
  refine all_I (P := fun y => onC f (mvX f x0 s (s + (a + b))) (mvY f x0 s (s + (a + b))) (mvX f x0 (s + a) (s + h)) (mvY f x0 (s + a) (s + h)) cx y) (a := cy) ?_ (fun x hx => nb (Or.inr ⟨rfl, Or.inl rfl⟩) hx) (fun x hx => nb (Or.inr ⟨rfl, Or.inr (by omega)⟩) hx) y
  exact ⟨0, 0, by rw [Int.zero_mul, Int.zero_mul, Int.zero_mul, Int.zero_mul, Int.sub_zero, Int.sub_zero, Int.sub_zero, Int.sub_zero]; exact st⟩
theorem mul7 {P c : Int} (hc : 0 ≤ c ∧ c ≤ 7) : P * c ≤ 7 * (P * P) := by
  rcases (show 0 < P ∨ P ≤ 0 by omega) with z | z
  · have a : P * c ≤ P * 7 := Int.mul_le_mul_of_nonneg_left hc.2 (by omega)
    have b : P * 1 ≤ P * P := Int.mul_le_mul_of_nonneg_left (by omega) (by omega)
    omega
  · have a : P * c ≤ 0 := Int.mul_nonpos_of_nonpos_of_nonneg z hc.1
    have b : 0 ≤ P * P := Int.mul_nonneg_of_nonpos_of_nonpos z z
    omega
theorem sq_pos {P : Int} (h : P ≠ 0) : 1 ≤ P * P := by
  rcases (show 0 < P ∨ P ≤ 0 by omega) with z | z
  · have b : P * 1 ≤ P * P := Int.mul_le_mul_of_nonneg_left (by omega) (by omega)
    omega
  · have b : (-P) * 1 ≤ (-P) * (-P) := Int.mul_le_mul_of_nonneg_left (by omega) (by omega)
    rw [Int.neg_mul_neg] at b
    omega
theorem sq_nn (P : Int) : 0 ≤ P * P := by
  by_cases q : P = 0
  · rw [q]; decide
  · have := sq_pos q; omega
/-- no number is the same on all cells and their copies -/
theorem no_fun {f : Int64} {p q u w : Int} (hall : ∀ x y, onC f p q u w x y) {P Q : Int} (h1 : P * p + Q * q = 0) (h2 : P * u + Q * w = 0) : P = 0 ∧ Q = 0 := by
  obtain ⟨m, n, hc⟩ := hall (8 * P) (8 * Q)
  obtain ⟨x, y, hx, hy, e1, e2, _⟩ := hB_t.mp hc
  have a := mul7 (P := P) (c := (x : Int)) (by omega)
  have b := mul7 (P := Q) (c := (y : Int)) (by omega)
  have e : P * (x : Int) + Q * (y : Int) = 8 * (P * P) + 8 * (Q * Q) := by
    rw [← e1, ← e2, Int.mul_sub, Int.mul_sub, Int.mul_sub, Int.mul_sub]
    have t1 : P * (m * p) + Q * (m * q) = 0 := by
      rw [Int.mul_left_comm P m p, Int.mul_left_comm Q m q, ← Int.mul_add, h1, Int.mul_zero]
    have t2 : P * (n * u) + Q * (n * w) = 0 := by
      rw [Int.mul_left_comm P n u, Int.mul_left_comm Q n w, ← Int.mul_add, h2, Int.mul_zero]
    rw [Int.mul_left_comm P 8 P, Int.mul_left_comm Q 8 Q]
    omega
  have pp := sq_nn P
  have qq := sq_nn Q
  constructor
  · by_cases z : P = 0
    · exact z
    · have := sq_pos z; omega
  · by_cases z : Q = 0
    · exact z
    · have := sq_pos z; omega
theorem area_ne {f : Int64} {p q u w : Int} (hall : ∀ x y, onC f p q u w x y) : p * w - q * u ≠ 0 := by
  intro e
  have a := no_fun hall (P := -q) (Q := p) (by rw [Int.neg_mul, Int.mul_comm q p]; omega) (by rw [Int.neg_mul]; omega)
  have b := no_fun hall (P := -w) (Q := u) (by rw [Int.neg_mul, Int.mul_comm w p, Int.mul_comm u q]; omega) (by rw [Int.neg_mul, Int.mul_comm w u]; omega)
  have c := no_fun hall (P := 1) (Q := 0) (by omega) (by omega)
  omega
/-- the cell of the copy, by its numbers -/
theorem own_ex {f : Int64} {p q u w : Int} (hall : ∀ x y, onC f p q u w x y) (x y : Int) : ∃ k : Nat, k < 64 ∧ bt f k = true ∧ ∃ m n : Int, (x - ((k % 8 : Nat) : Int)) * w - (y - ((k / 8 : Nat) : Int)) * u = m * (p * w - q * u) ∧ p * (y - ((k / 8 : Nat) : Int)) - q * (x - ((k % 8 : Nat) : Int)) = n * (p * w - q * u) := by
  obtain ⟨m, n, hc⟩ := hall x y
  obtain ⟨c, d, hc8, hd8, e1, e2, hb⟩ := hB_t.mp hc
  refine ⟨8 * d + c, by omega, hb, m, n, ?_, ?_⟩
  · rw [show (8 * d + c) % 8 = c by omega, show (8 * d + c) / 8 = d by omega, show x - (c : Int) = m * p + n * u by omega, show y - (d : Int) = m * q + n * w by omega]
    rw [Int.add_mul, Int.add_mul, Int.mul_sub, Int.mul_assoc m p w, Int.mul_assoc m q u, Int.mul_assoc n u w, Int.mul_assoc n w u, Int.mul_comm w u]
    omega
  · rw [show (8 * d + c) % 8 = c by omega, show (8 * d + c) / 8 = d by omega, show x - (c : Int) = m * p + n * u by omega, show y - (d : Int) = m * q + n * w by omega]
    rw [Int.mul_add, Int.mul_add, Int.mul_sub, Int.mul_left_comm p m q, Int.mul_left_comm q m p, Int.mul_left_comm p n w, Int.mul_left_comm q n u, Int.mul_comm q p]
    omega
