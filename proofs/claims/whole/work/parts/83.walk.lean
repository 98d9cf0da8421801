/-! the line round a figure: points, sides, the walk -/
def dX : Nat → Int
  | 0 => 1
  | 2 => -1
  | _ => 0
def dY : Nat → Int
  | 1 => 1
  | 3 => -1
  | _ => 0
def rg4 (a b c d : Bool) : Nat → Bool
  | 0 => d
  | 1 => c
  | 2 => a
  | _ => b
def lf4 (a b c d : Bool) : Nat → Bool
  | 0 => b
  | 1 => d
  | 2 => c
  | _ => a
def in4 (a b c d : Bool) : Nat → Bool
  | 0 => c && !a
  | 1 => a && !b
  | 2 => b && !d
  | _ => d && !c
def sd4 (a b c d : Bool) (l : Nat) : Bool := rg4 a b c d l && !lf4 a b c d l
def nl4 (a b c d : Bool) (l : Nat) : Nat := if lf4 a b c d l then (l + 3) % 4 else if rg4 a b c d l then l else (l + 1) % 4
def na4 (a b c d : Bool) : Bool := !((a == d) && (b == c) && (a != b))
theorem nl4_sd : ∀ a b c d : Bool, ∀ l : Fin 4, na4 a b c d = true → in4 a b c d l.val = true → sd4 a b c d (nl4 a b c d l.val) = true ∧ nl4 a b c d l.val < 4 := by decide
theorem sd4_one : ∀ a b c d : Bool, ∀ l m : Fin 4, na4 a b c d = true → sd4 a b c d l.val = true → sd4 a b c d m.val = true → l = m := by decide
theorem in4_one : ∀ a b c d : Bool, ∀ l m : Fin 4, na4 a b c d = true → in4 a b c d l.val = true → in4 a b c d m.val = true → l = m := by decide
def sdB (f : Int64) (x y : Int) (l : Nat) : Bool := sd4 (hB f (x - 1) (y - 1)) (hB f x (y - 1)) (hB f (x - 1) y) (hB f x y) l
def inB (f : Int64) (x y : Int) (l : Nat) : Bool := in4 (hB f (x - 1) (y - 1)) (hB f x (y - 1)) (hB f (x - 1) y) (hB f x y) l
def nlB (f : Int64) (x y : Int) (l : Nat) : Nat := nl4 (hB f (x - 1) (y - 1)) (hB f x (y - 1)) (hB f (x - 1) y) (hB f x y) l
def NAs (f : Int64) : Prop := ∀ x y : Int, na4 (hB f (x - 1) (y - 1)) (hB f x (y - 1)) (hB f (x - 1) y) (hB f x y) = true
theorem sd_0 (f : Int64) (x y : Int) : sdB f x y 0 = (hB f x y && !hB f x (y - 1)) := rfl
theorem sd_1 (f : Int64) (x y : Int) : sdB f x y 1 = (hB f (x - 1) y && !hB f x y) := rfl
theorem sd_2 (f : Int64) (x y : Int) : sdB f x y 2 = (hB f (x - 1) (y - 1) && !hB f (x - 1) y) := rfl
theorem sd_3 (f : Int64) (x y : Int) : sdB f x y 3 = (hB f x (y - 1) && !hB f (x - 1) (y - 1)) := rfl
theorem l4 {l : Nat} (h : l < 4) : l = 0 ∨ l = 1 ∨ l = 2 ∨ l = 3 := by omega
theorem in_sd (f : Int64) (x y : Int) {l : Nat} (hl : l < 4) : inB f (x + dX l) (y + dY l) l = sdB f x y l := by
  rcases l4 hl with rfl | rfl | rfl | rfl
  · show (hB f (x + 1 - 1) (y + 0) && !hB f (x + 1 - 1) (y + 0 - 1)) = (hB f x y && !hB f x (y - 1))
    rw [Int.add_zero, show x + 1 - 1 = x by omega]
  · show (hB f (x + 0 - 1) (y + 1 - 1) && !hB f (x + 0) (y + 1 - 1)) = (hB f (x - 1) y && !hB f x y)
    rw [Int.add_zero, show y + 1 - 1 = y by omega]
  · show (hB f (x + -1) (y + 0 - 1) && !hB f (x + -1) (y + 0)) = (hB f (x - 1) (y - 1) && !hB f (x - 1) y)
    rw [Int.add_zero, show x + -1 = x - 1 by omega]
  · show (hB f (x + 0) (y + -1) && !hB f (x + 0 - 1) (y + -1)) = (hB f x (y - 1) && !hB f (x - 1) (y - 1))
    rw [Int.add_zero, show y + -1 = y - 1 by omega]
noncomputable def wk (f : Int64) (x0 : Nat) : Nat → Int × Int × Nat
  | 0 => ((x0 : Int), 0, 0)
  | i + 1 => ((wk f x0 i).1 + dX (wk f x0 i).2.2, (wk f x0 i).2.1 + dY (wk f x0 i).2.2, nlB f ((wk f x0 i).1 + dX (wk f x0 i).2.2) ((wk f x0 i).2.1 + dY (wk f x0 i).2.2) (wk f x0 i).2.2)
noncomputable def wX (f : Int64) (x0 i : Nat) : Int := (wk f x0 i).1
noncomputable def wY (f : Int64) (x0 i : Nat) : Int := (wk f x0 i).2.1
noncomputable def wL (f : Int64) (x0 i : Nat) : Nat := (wk f x0 i).2.2
theorem wX_s (f : Int64) (x0 i : Nat) : wX f x0 (i + 1) = wX f x0 i + dX (wL f x0 i) := rfl
theorem wY_s (f : Int64) (x0 i : Nat) : wY f x0 (i + 1) = wY f x0 i + dY (wL f x0 i) := rfl
theorem wL_s (f : Int64) (x0 i : Nat) : wL f x0 (i + 1) = nlB f (wX f x0 (i + 1)) (wY f x0 (i + 1)) (wL f x0 i) := rfl
theorem wX_0 (f : Int64) (x0 : Nat) : wX f x0 0 = (x0 : Int) := rfl
theorem wY_0 (f : Int64) (x0 : Nat) : wY f x0 0 = 0 := rfl
theorem wL_0 (f : Int64) (x0 : Nat) : wL f x0 0 = 0 := rfl
/-- a figure with a line, and a cell of its first row -/
def LNs (f : Int64) (x0 : Nat) : Prop := FIG f ∧ NAs f ∧ hlw f = 0 ∧ x0 < 7 ∧ bt f x0 = true
theorem wk_sd {f : Int64} {x0 : Nat} (h : LNs f x0) : ∀ i, sdB f (wX f x0 i) (wY f x0 i) (wL f x0 i) = true ∧ wL f x0 i < 4 := by
  intro i
  induction i with
  | zero =>
    refine ⟨?_, by rw [wL_0]; omega⟩
    rw [wX_0, wY_0, wL_0, sd_0]
    have a : hB f ((x0 : Nat) : Int) ((0 : Nat) : Int) = bt f (8 * 0 + x0) := hB_n f (by have := h.2.2.2.1; omega) (by omega)
    rw [show ((0 : Nat) : Int) = 0 from rfl, show 8 * 0 + x0 = x0 by omega, h.2.2.2.2] at a
    rw [a, hB_o f (x := (x0 : Int)) (y := 0 - 1) (by omega)]
    rfl
  | succ i ih =>
    have q : inB f (wX f x0 (i + 1)) (wY f x0 (i + 1)) (wL f x0 i) = true := by
      rw [wX_s, wY_s, in_sd f _ _ ih.2]; exact ih.1
    have r := nl4_sd _ _ _ _ ⟨wL f x0 i, ih.2⟩ (h.2.1 (wX f x0 (i + 1)) (wY f x0 (i + 1))) q
    rw [wL_s]
    exact r
theorem sd_rng {f : Int64} (hf : F77 f) {x y : Int} {l : Nat} (hl : l < 4) (h : sdB f x y l = true) : 0 ≤ x ∧ x ≤ 7 ∧ 0 ≤ y ∧ y ≤ 7 := by
  have k : ∀ {u v : Int}, hB f u v = true → 0 ≤ u ∧ u < 7 ∧ 0 ≤ v ∧ v < 7 := fun {u v} hu => by
    by_cases q : 0 ≤ u ∧ u < 7 ∧ 0 ≤ v ∧ v < 7
    · exact q
    · rw [hB_77 hf q] at hu; simp at hu
  rcases l4 hl with rfl | rfl | rfl | rfl
  · rw [sd_0, Bool.and_eq_true] at h; have := k h.1; omega
  · rw [sd_1, Bool.and_eq_true] at h; have := k h.1; omega
  · rw [sd_2, Bool.and_eq_true] at h; have := k h.1; omega
  · rw [sd_3, Bool.and_eq_true] at h; have := k h.1; omega
theorem wk_rng {f : Int64} {x0 : Nat} (h : LNs f x0) (i : Nat) : 0 ≤ wX f x0 i ∧ wX f x0 i ≤ 7 ∧ 0 ≤ wY f x0 i ∧ wY f x0 i ≤ 7 := sd_rng h.1.1 (wk_sd h i).2 (wk_sd h i).1
theorem wk_let {f : Int64} {x0 : Nat} (h : LNs f x0) {i j : Nat} (hx : wX f x0 i = wX f x0 j) (hy : wY f x0 i = wY f x0 j) : wL f x0 i = wL f x0 j := by
  have a := wk_sd h i
  have b := wk_sd h j
  rw [← hx, ← hy] at b
  exact congrArg Fin.val (sd4_one _ _ _ _ ⟨wL f x0 i, a.2⟩ ⟨wL f x0 j, b.2⟩ (h.2.1 (wX f x0 i) (wY f x0 i)) a.1 b.1)
theorem sd_let {f : Int64} (hn : NAs f) {x y : Int} {l m : Nat} (hl : l < 4) (hm : m < 4) (a : sdB f x y l = true) (b : sdB f x y m = true) : l = m := congrArg Fin.val (sd4_one _ _ _ _ ⟨l, hl⟩ ⟨m, hm⟩ (hn x y) a b)
theorem wk_back {f : Int64} {x0 : Nat} (h : LNs f x0) {i j : Nat} (hx : wX f x0 (i + 1) = wX f x0 (j + 1)) (hy : wY f x0 (i + 1) = wY f x0 (j + 1)) : wX f x0 i = wX f x0 j ∧ wY f x0 i = wY f x0 j := by
  have a := wk_sd h i
  have b := wk_sd h j
  have a1 : inB f (wX f x0 (i + 1)) (wY f x0 (i + 1)) (wL f x0 i) = true := by rw [wX_s, wY_s, in_sd f _ _ a.2]; exact a.1
  have b1 : inB f (wX f x0 (i + 1)) (wY f x0 (i + 1)) (wL f x0 j) = true := by rw [hx, hy, wX_s, wY_s, in_sd f _ _ b.2]; exact b.1
  have e : wL f x0 i = wL f x0 j := congrArg Fin.val (in4_one _ _ _ _ ⟨wL f x0 i, a.2⟩ ⟨wL f x0 j, b.2⟩ (h.2.1 (wX f x0 (i + 1)) (wY f x0 (i + 1))) a1 b1)
  rw [wX_s, wX_s, e] at hx
  rw [wY_s, wY_s, e] at hy
  exact ⟨by omega, by omega⟩
theorem wk_down {f : Int64} {x0 : Nat} (h : LNs f x0) : ∀ i d, wX f x0 i = wX f x0 (i + d) → wY f x0 i = wY f x0 (i + d) → wX f x0 0 = wX f x0 d ∧ wY f x0 0 = wY f x0 d := by
  intro i
  induction i with
  | zero => intro d hx hy; rw [Nat.zero_add] at hx hy; exact ⟨hx, hy⟩
  | succ i ih =>
    intro d hx hy
    rw [show i + 1 + d = i + d + 1 by omega] at hx hy
    obtain ⟨a, b⟩ := wk_back h hx hy
    exact ih d a b
/-- the line's length -/
def LEN (f : Int64) (x0 L : Nat) : Prop := 1 ≤ L ∧ L ≤ 64 ∧ wX f x0 L = (x0 : Int) ∧ wY f x0 L = 0 ∧ ∀ j, 1 ≤ j → j < L → ¬ (wX f x0 j = (x0 : Int) ∧ wY f x0 j = 0)
theorem LEN_ex {f : Int64} {x0 : Nat} (h : LNs f x0) : ∃ L, LEN f x0 L := by
  obtain ⟨i, j, ij, j65, e⟩ := fb_twice (m := 64) (n := 65) (f := fun i => (8 * wY f x0 i + wX f x0 i).toNat) (fun i _ => by
    have := wk_rng h i
    show (8 * wY f x0 i + wX f x0 i).toNat < 64
    omega) (by omega)
  have e' : (8 * wY f x0 i + wX f x0 i).toNat = (8 * wY f x0 j + wX f x0 j).toNat := e
  have ri := wk_rng h i
  have rj := wk_rng h j
  obtain ⟨d1, d2⟩ := wk_down h i (j - i) (by rw [show i + (j - i) = j by omega]; omega) (by rw [show i + (j - i) = j by omega]; omega)
  have dp : DecidablePred (fun d => 1 ≤ d ∧ wX f x0 d = (x0 : Int) ∧ wY f x0 d = 0) := fun t => Classical.propDecidable _
  obtain ⟨L, l1, l2, l3⟩ := @fb_first (fun d => 1 ≤ d ∧ wX f x0 d = (x0 : Int) ∧ wY f x0 d = 0) dp 65 ⟨j - i, by omega, by omega, by rw [← d1, wX_0], by rw [← d2, wY_0]⟩
  exact ⟨L, l2.1, by omega, l2.2.1, l2.2.2, fun k k1 k2 k3 => l3 k k2 ⟨k1, k3⟩⟩
theorem wk_per {f : Int64} {x0 L : Nat} (h : LNs f x0) (hL : LEN f x0 L) : ∀ i, wX f x0 (i + L) = wX f x0 i ∧ wY f x0 (i + L) = wY f x0 i ∧ wL f x0 (i + L) = wL f x0 i := by
  obtain ⟨_, _, e1, e2, _⟩ := hL
  intro i
  induction i with
  | zero =>
    rw [Nat.zero_add]
    have a : wX f x0 L = wX f x0 0 := by rw [e1, wX_0]
    have b : wY f x0 L = wY f x0 0 := by rw [e2, wY_0]
    exact ⟨a, b, wk_let h a b⟩
  | succ i ih =>
    rw [show i + 1 + L = i + L + 1 by omega]
    have a : wX f x0 (i + L + 1) = wX f x0 (i + 1) := by rw [wX_s, wX_s, ih.1, ih.2.2]
    have b : wY f x0 (i + L + 1) = wY f x0 (i + 1) := by rw [wY_s, wY_s, ih.2.1, ih.2.2]
    exact ⟨a, b, wk_let h a b⟩
theorem wk_inj {f : Int64} {x0 L : Nat} (h : LNs f x0) (hL : LEN f x0 L) {i j : Nat} (hij : i < j) (hj : j < L) : ¬ (wX f x0 i = wX f x0 j ∧ wY f x0 i = wY f x0 j) := by
  rintro ⟨a, b⟩
  obtain ⟨d1, d2⟩ := wk_down h i (j - i) (by rw [show i + (j - i) = j by omega]; exact a) (by rw [show i + (j - i) = j by omega]; exact b)
  exact hL.2.2.2.2 (j - i) (by omega) (by omega) ⟨by rw [← d1, wX_0], by rw [← d2, wY_0]⟩
