/-! LAYER 2: rising rows -/
def SLt (A : Nat → Int64) (a e : Nat) : Prop := ∀ i j, a ≤ i → i < j → j < e → A i < A j
def Mm (A : Nat → Int64) (a e : Nat) (x : Int64) : Prop := ∃ i, a ≤ i ∧ i < e ∧ A i = x
def insA (A : Nat → Int64) (p e : Nat) (x : Int64) : Nat → Int64 := fun i => if p < i ∧ i ≤ e then A (i - 1) else if i = p then x else A i
def Lb (A : Nat → Int64) (a e p : Nat) (x : Int64) : Prop := a ≤ p ∧ p ≤ e ∧ (∀ i, a ≤ i → i < p → A i < x) ∧ (∀ i, p ≤ i → i < e → x ≤ A i)
theorem l_irr (x : Int64) : ¬ x < x := by rw [Int64.lt_iff_toInt_lt]; omega
theorem l_nlt {x y : Int64} : ¬ x < y ↔ y ≤ x := by rw [Int64.lt_iff_toInt_lt, Int64.le_iff_toInt_le]; omega
theorem l_nle {x y : Int64} : ¬ x ≤ y ↔ y < x := by rw [Int64.lt_iff_toInt_lt, Int64.le_iff_toInt_le]; omega
theorem l_tr {x y z : Int64} (h : x < y) (h2 : y < z) : x < z := by rw [Int64.lt_iff_toInt_lt] at *; omega
theorem l_ltle {x y z : Int64} (h : x < y) (h2 : y ≤ z) : x < z := by rw [Int64.lt_iff_toInt_lt] at *; rw [Int64.le_iff_toInt_le] at h2; omega
theorem l_lelt {x y z : Int64} (h : x ≤ y) (h2 : y < z) : x < z := by rw [Int64.lt_iff_toInt_lt] at *; rw [Int64.le_iff_toInt_le] at h; omega
theorem l_lene {x y : Int64} (h : x ≤ y) (h2 : y ≠ x) : x < y := by
  rw [Int64.le_iff_toInt_le] at h
  rw [Int64.lt_iff_toInt_lt]
  have : y.toInt ≠ x.toInt := fun e => h2 (Int64.toInt_inj.mp e)
  omega
theorem SLt_inj {A : Nat → Int64} {a e i j : Nat} (h : SLt A a e) (hi : a ≤ i) (hi2 : i < e) (hj : a ≤ j) (hj2 : j < e) (he : A i = A j) : i = j := by
  rcases Nat.lt_trichotomy i j with q | q | q
  · have := h i j hi q hj2; rw [he] at this; exact absurd this (l_irr _)
  · exact q
  · have := h j i hj q hi2; rw [he] at this; exact absurd this (l_irr _)
theorem SLt_le {A : Nat → Int64} {a e i j : Nat} (h : SLt A a e) (hi : a ≤ i) (hij : i ≤ j) (hj : j < e) : A i ≤ A j := by
  rcases Nat.eq_or_lt_of_le hij with q | q
  · rw [q, Int64.le_iff_toInt_le]; omega
  · have := h i j hi q hj
    rw [Int64.lt_iff_toInt_lt] at this
    rw [Int64.le_iff_toInt_le]; omega
theorem Lb_mem {A : Nat → Int64} {a e p : Nat} {x : Int64} (h : Lb A a e p x) (hs : SLt A a e) : Mm A a e x ↔ p < e ∧ A p = x := by
  obtain ⟨h1, h2, h3, h4⟩ := h
  constructor
  · rintro ⟨i, i1, i2, i3⟩
    have hp : p ≤ i := by
      rcases Nat.lt_or_ge i p with q | q
      · have := h3 i i1 q; rw [i3] at this; exact absurd this (l_irr _)
      · exact q
    refine ⟨by omega, ?_⟩
    rcases Nat.eq_or_lt_of_le hp with q | q
    · rw [q]; exact i3
    · have a1 := hs p i h1 q i2
      have a2 := h4 p (Nat.le_refl _) (by omega)
      rw [i3] at a1
      exact absurd a1 (l_nlt.mpr a2)
  · rintro ⟨a1, a2⟩; exact ⟨p, h1, a1, a2⟩
theorem ins_ok {A : Nat → Int64} {a e p : Nat} {x : Int64} (h : Lb A a e p x) (hs : SLt A a e) (hn : ¬ (p < e ∧ A p = x)) : SLt (insA A p e x) a (e + 1) ∧ (∀ y, Mm (insA A p e x) a (e + 1) y ↔ Mm A a e y ∨ y = x) ∧ (∀ i, i < a ∨ e < i → insA A p e x i = A i) := by
  have hmem := Lb_mem h hs
  obtain ⟨h1, h2, h3, h4⟩ := h
  have lo : ∀ i, i < p → insA A p e x i = A i := fun i hi => by unfold insA; rw [if_neg (by omega), if_neg (by omega)]
  have at' : insA A p e x p = x := by unfold insA; rw [if_neg (by omega), if_pos rfl]
  have hi' : ∀ i, p < i → i ≤ e → insA A p e x i = A (i - 1) := fun i a1 a2 => by unfold insA; rw [if_pos ⟨a1, a2⟩]
  have gt : ∀ i, p ≤ i → i < e → x < A i := fun i a1 a2 => l_lene (h4 i a1 a2) (fun e1 => hn (hmem.mp ⟨i, by omega, a2, e1⟩))
  refine ⟨fun i j hi hij hj => ?_, fun y => ⟨?_, ?_⟩, fun i hi => ?_⟩
  · rcases Nat.lt_trichotomy j p with q | q | q
    · rw [lo i (by omega), lo j q]; exact hs i j hi hij (by omega)
    · rw [q, at', lo i (by omega)]; exact h3 i hi (by omega)
    · rw [hi' j q (by omega)]
      rcases Nat.lt_trichotomy i p with r | r | r
      · rw [lo i r]; exact hs i (j - 1) hi (by omega) (by omega)
      · rw [r, at']; exact gt (j - 1) (by omega) (by omega)
      · rw [hi' i r (by omega)]; exact hs (i - 1) (j - 1) (by omega) (by omega) (by omega)
  · rintro ⟨i, i1, i2, i3⟩
    rcases Nat.lt_trichotomy i p with r | r | r
    · rw [lo i r] at i3; exact Or.inl ⟨i, i1, by omega, i3⟩
    · rw [r, at'] at i3; exact Or.inr i3.symm
    · rw [hi' i r (by omega)] at i3; exact Or.inl ⟨i - 1, by omega, by omega, i3⟩
  · rintro (⟨i, i1, i2, i3⟩ | hy)
    · rcases Nat.lt_or_ge i p with r | r
      · exact ⟨i, i1, by omega, by rw [lo i r]; exact i3⟩
      · exact ⟨i + 1, by omega, by omega, by rw [hi' (i + 1) (by omega) (by omega)]; exact i3⟩
    · exact ⟨p, h1, by omega, by rw [at', hy]⟩
  · unfold insA
    rw [if_neg (by omega)]
    by_cases q : i = p
    · exfalso; omega
    · rw [if_neg q]
/-- two rising rows with the same members are the same -/
theorem SLt_uniq {A B : Nat → Int64} {a e b d : Nat} (hA : SLt A a e) (hB : SLt B b d) (ha : a ≤ e) (hb : b ≤ d) (h : ∀ y, Mm A a e y ↔ Mm B b d y) : e - a = d - b ∧ ∀ i, i < e - a → A (a + i) = B (b + i) := by
  have half : ∀ {A B : Nat → Int64} {a e b d : Nat}, SLt A a e → SLt B b d → (∀ y, Mm A a e y → Mm B b d y) → (∀ y, Mm B b d y → Mm A a e y) → ∀ i, i < e - a → i < d - b ∧ A (a + i) = B (b + i) := by
    intro A B a e b d hA hB h1 h2 i
    induction i using Nat.strongRecOn with
    | ind i ih =>
      intro hi
      obtain ⟨j, j1, j2, j3⟩ := h1 (A (a + i)) ⟨a + i, by omega, by omega, rfl⟩
      have hj : b + i ≤ j := by
        rcases Nat.lt_or_ge j (b + i) with q | q
        · have := ih (j - b) (by omega) (by omega)
          rw [show b + (j - b) = j by omega, j3] at this
          have := SLt_inj hA (by omega) (by omega) (by omega) (by omega) this.2
          omega
        · exact q
      refine ⟨by omega, ?_⟩
      rcases Nat.eq_or_lt_of_le hj with q | q
      · rw [q, j3]
      · exfalso
        obtain ⟨m, m1, m2, m3⟩ := h2 (B (b + i)) ⟨b + i, by omega, by omega, rfl⟩
        have hlt := hB (b + i) j (by omega) q j2
        rw [j3] at hlt
        have hm : m < a + i := by
          rcases Nat.lt_or_ge m (a + i) with r | r
          · exact r
          · have := SLt_le hA (show a ≤ a + i by omega) r m2
            rw [m3] at this
            exact absurd hlt (l_nlt.mpr this)
        have := ih (m - a) (by omega) (by omega)
        rw [show a + (m - a) = m by omega, m3] at this
        have := SLt_inj hB (by omega) (by omega) (by omega) (by omega) this.2
        omega
  have x1 := half hA hB (fun y => (h y).mp) (fun y => (h y).mpr)
  have x2 := half hB hA (fun y => (h y).mpr) (fun y => (h y).mp)
  refine ⟨?_, fun i hi => (x1 i hi).2⟩
  rcases Nat.lt_trichotomy (e - a) (d - b) with q | q | q
  · have := (x2 (e - a) q).1; omega
  · exact q
  · have := (x1 (d - b) q).1; omega
theorem half_n {a b : Nat} (ha : a < 2 ^ 29) (hb : b < 2 ^ 29) : ((nI a + nI b) / 2 : Int32) = nI ((a + b) / 2) := by
  rw [nI_add, show (2 : Int32) = nI 2 from rfl, pk_div (by omega) (by omega) (by omega)]

theorem mkin_sh {A : Nat → Int64} {p e : Nat} {x : Int64} (hp : p ≤ e) (he : e < 400) : mo_comesIn_mkin_J64 (nI e) x (nI p) A = some (nI (e + 1), insA A p e x) := by
  unfold mo_comesIn_mkin_J64
  rw [show fl2 (mo_comesIn_mkin_B67 (nI e) x (nI p)) FU (nI e) A = fl2 (mo_comesIn_mkin_B67 (nI e) x (nI p)) FU (nI (e - 0)) (fun i => if e - 0 < i ∧ i ≤ e then A (i - 1) else A i) by
    congr 1
    funext i
    rw [if_neg (by omega)]]
  refine crs2 (B := mo_comesIn_mkin_B67 (nI e) x (nI p)) (fun t => nI (e - t)) (fun t i => if e - t < i ∧ i ≤ e then A (i - 1) else A i) (e - p) (fun t ht k => ?_) (fun k => ?_) FU (FU_lt (by omega))
  · rw [mo_comesIn_mkin_B67, if_neg (nI_ge (by omega) (by omega)), nI_m1 (by omega), nm_eq, ck_n (by omega) (by omega), nm_eq, ck_n (by omega) (by omega), nm_eq, nm_eq, cl_n (by omega), cl_n (by omega)]
    rw [if_neg (by omega), show nI (e - t) + Int32.ofInt (-1) = nI (e - (t + 1)) by
      have := pk_m1 (e - (t + 1))
      rw [show e - (t + 1) + 1 = e - t by omega] at this
      rw [show Int32.ofInt (-1) = -1 by decide, this]]
    congr 1
    funext i
    rw [upL]
    by_cases q : i = e - t
    · rw [if_pos q, if_pos (by omega), q]
    · rw [if_neg q]
      by_cases r : e - t < i ∧ i ≤ e
      · rw [if_pos r, if_pos (by omega)]
      · rw [if_neg r, if_neg (by omega)]
  · rw [mo_comesIn_mkin_B67, if_pos (nI_le (by omega) (by omega)), ck_n (by omega) (by omega), nm_eq, cl_n (by omega), nI_1]
    congr 2
    funext i
    rw [upL]
    unfold insA
    rw [show e - (e - p) = p by omega]
    by_cases q : i = p
    · rw [if_pos q, if_neg (by omega), if_pos q]
    · rw [if_neg q, if_neg q]
theorem mkin_go {A : Nat → Int64} {a e : Nat} {x : Int64} (hs : SLt A a e) (he : e < 400) : ∀ (n lo hi : Nat), a ≤ lo → lo ≤ hi → hi ≤ e → hi - lo < n → (∀ i, a ≤ i → i < lo → A i < x) → (∀ i, hi ≤ i → i < e → x ≤ A i) → ∃ p, Lb A a e p x ∧ fl2 (mo_comesIn_mkin_B6 (nI e) x A) n (nI lo) (nI hi) = if p < e ∧ A p = x then some (nI e, A) else some (nI (e + 1), insA A p e x) := by
  intro n
  induction n with
  | zero => intro lo hi _ _ _ h; omega
  | succ n ih =>
    intro lo hi h1 h2 h3 h4 h5 h6
    show ∃ p, _ ∧ mo_comesIn_mkin_B6 (nI e) x A (fl2 (mo_comesIn_mkin_B6 (nI e) x A) n) (nI lo) (nI hi) = _
    rw [mo_comesIn_mkin_B6]
    rcases Nat.eq_or_lt_of_le h2 with q | q
    · subst q
      refine ⟨lo, ⟨h1, h3, h5, h6⟩, ?_⟩
      rw [if_pos (nI_le (Nat.le_refl _) (by omega))]
      by_cases c : lo < e
      · rw [if_neg (nI_ge c (by omega)), ck_n (by omega) (by omega), cl_n (by omega)]
        by_cases d : A lo = x
        · rw [if_pos d, if_pos ⟨c, d⟩]
        · rw [if_neg d, if_neg (fun h => d h.2), mkin_sh h3 he]
      · rw [if_pos (nI_le (by omega) (by omega)), if_neg (fun h => c h.1), mkin_sh h3 he]
    · rw [if_neg (nI_ge q (by omega)), dzI_n (by decide), half_n (by omega) (by omega), nm_eq, ck_n (show (lo + hi) / 2 < 400 by omega) (by omega), cl_n (by omega)]
      by_cases c : x ≤ A ((lo + hi) / 2)
      · rw [if_pos c]
        refine ih lo ((lo + hi) / 2) h1 (by omega) (by omega) (by omega) h5 (fun i i1 i2 => ?_)
        have := SLt_le hs (show a ≤ (lo + hi) / 2 by omega) i1 i2
        rw [Int64.le_iff_toInt_le] at *; omega
      · rw [if_neg c, nm_eq, nI_1]
        refine ih ((lo + hi) / 2 + 1) hi (by omega) (by omega) h3 (by omega) (fun i i1 i2 => ?_) h6
        have := SLt_le hs i1 (show i ≤ (lo + hi) / 2 by omega) (by omega)
        exact l_lelt this (l_nle.mp c)
theorem mkin_eq {A : Nat → Int64} {a e : Nat} (x : Int64) (hs : SLt A a e) (ha : a ≤ e) (he : e < 400) : ∃ e' A', mo_comesIn_mkin (nI a) (nI e) x A = some (nI e', A') ∧ SLt A' a e' ∧ (∀ y, Mm A' a e' y ↔ Mm A a e y ∨ y = x) ∧ e ≤ e' ∧ e' ≤ e + 1 ∧ ∀ i, i < a ∨ e < i → A' i = A i := by
  obtain ⟨p, hp, h⟩ := mkin_go (x := x) hs he FU a e (Nat.le_refl _) ha (Nat.le_refl _) (FU_lt (by omega)) (fun i _ _ => by omega) (fun i _ _ => by omega)
  have hm := Lb_mem hp hs
  unfold mo_comesIn_mkin
  rw [h]
  by_cases c : p < e ∧ A p = x
  · rw [if_pos c]
    refine ⟨e, A, rfl, hs, fun y => ⟨Or.inl, ?_⟩, Nat.le_refl _, by omega, fun _ _ => rfl⟩
    rintro (h | h)
    · exact h
    · rw [h]; exact hm.mpr c
  · rw [if_neg c]
    obtain ⟨c1, c2, c3⟩ := ins_ok hp hs c
    exact ⟨e + 1, _, rfl, c1, c2, by omega, by omega, c3⟩

theorem tried_sh {A : Nat → Int64} {p e : Nat} {x : Int64} (hp : p ≤ e) (he : e < 64) : mo_comesIn_tried_J64 (nI e) x (nI p) A = some (nI (e + 1), insA A p e x) := by
  unfold mo_comesIn_tried_J64
  rw [show fl2 (mo_comesIn_tried_B67 (nI e) x (nI p)) FU (nI e) A = fl2 (mo_comesIn_tried_B67 (nI e) x (nI p)) FU (nI (e - 0)) (fun i => if e - 0 < i ∧ i ≤ e then A (i - 1) else A i) by
    congr 1
    funext i
    rw [if_neg (by omega)]]
  refine crs2 (B := mo_comesIn_tried_B67 (nI e) x (nI p)) (fun t => nI (e - t)) (fun t i => if e - t < i ∧ i ≤ e then A (i - 1) else A i) (e - p) (fun t ht k => ?_) (fun k => ?_) FU (FU_lt (by omega))
  · rw [mo_comesIn_tried_B67, if_neg (nI_ge (by omega) (by omega)), nI_m1 (by omega), nm_eq, ck_n (by omega) (by omega), nm_eq, ck_n (by omega) (by omega), nm_eq, nm_eq, cl_n (by omega), cl_n (by omega)]
    rw [if_neg (by omega), show nI (e - t) + Int32.ofInt (-1) = nI (e - (t + 1)) by
      have := pk_m1 (e - (t + 1))
      rw [show e - (t + 1) + 1 = e - t by omega] at this
      rw [show Int32.ofInt (-1) = -1 by decide, this]]
    congr 1
    funext i
    rw [upL]
    by_cases q : i = e - t
    · rw [if_pos q, if_pos (by omega), q]
    · rw [if_neg q]
      by_cases r : e - t < i ∧ i ≤ e
      · rw [if_pos r, if_pos (by omega)]
      · rw [if_neg r, if_neg (by omega)]
  · rw [mo_comesIn_tried_B67, if_pos (nI_le (by omega) (by omega)), ck_n (by omega) (by omega), nm_eq, cl_n (by omega), nI_1]
    congr 2
    funext i
    rw [upL]
    unfold insA
    rw [show e - (e - p) = p by omega]
    by_cases q : i = p
    · rw [if_pos q, if_neg (by omega), if_pos q]
    · rw [if_neg q, if_neg q]
theorem tried_go {A : Nat → Int64} {a e : Nat} {x : Int64} (hs : SLt A a e) (he : e < 64) : ∀ (n lo hi : Nat), a ≤ lo → lo ≤ hi → hi ≤ e → hi - lo < n → (∀ i, a ≤ i → i < lo → A i < x) → (∀ i, hi ≤ i → i < e → x ≤ A i) → ∃ p, Lb A a e p x ∧ fl2 (mo_comesIn_tried_B6 (nI e) x A) n (nI lo) (nI hi) = if p < e ∧ A p = x then some (nI e, A) else some (nI (e + 1), insA A p e x) := by
  intro n
  induction n with
  | zero => intro lo hi _ _ _ h; omega
  | succ n ih =>
    intro lo hi h1 h2 h3 h4 h5 h6
    show ∃ p, _ ∧ mo_comesIn_tried_B6 (nI e) x A (fl2 (mo_comesIn_tried_B6 (nI e) x A) n) (nI lo) (nI hi) = _
    rw [mo_comesIn_tried_B6]
    rcases Nat.eq_or_lt_of_le h2 with q | q
    · subst q
      refine ⟨lo, ⟨h1, h3, h5, h6⟩, ?_⟩
      rw [if_pos (nI_le (Nat.le_refl _) (by omega))]
      by_cases c : lo < e
      · rw [if_neg (nI_ge c (by omega)), ck_n (by omega) (by omega), cl_n (by omega)]
        by_cases d : A lo = x
        · rw [if_pos d, if_pos ⟨c, d⟩]
        · rw [if_neg d, if_neg (fun h => d h.2), tried_sh h3 he]
      · rw [if_pos (nI_le (by omega) (by omega)), if_neg (fun h => c h.1), tried_sh h3 he]
    · rw [if_neg (nI_ge q (by omega)), dzI_n (by decide), half_n (by omega) (by omega), nm_eq, ck_n (show (lo + hi) / 2 < 64 by omega) (by omega), cl_n (by omega)]
      by_cases c : x ≤ A ((lo + hi) / 2)
      · rw [if_pos c]
        refine ih lo ((lo + hi) / 2) h1 (by omega) (by omega) (by omega) h5 (fun i i1 i2 => ?_)
        have := SLt_le hs (show a ≤ (lo + hi) / 2 by omega) i1 i2
        rw [Int64.le_iff_toInt_le] at *; omega
      · rw [if_neg c, nm_eq, nI_1]
        refine ih ((lo + hi) / 2 + 1) hi (by omega) (by omega) h3 (by omega) (fun i i1 i2 => ?_) h6
        have := SLt_le hs i1 (show i ≤ (lo + hi) / 2 by omega) (by omega)
        exact l_lelt this (l_nle.mp c)
theorem tried_eq {A : Nat → Int64} {a e : Nat} (x : Int64) (hs : SLt A a e) (ha : a ≤ e) (he : e < 64) : ∃ e' A', mo_comesIn_tried (nI a) (nI e) x A = some (nI e', A') ∧ SLt A' a e' ∧ (∀ y, Mm A' a e' y ↔ Mm A a e y ∨ y = x) ∧ e ≤ e' ∧ e' ≤ e + 1 ∧ ∀ i, i < a ∨ e < i → A' i = A i := by
  obtain ⟨p, hp, h⟩ := tried_go (x := x) hs he FU a e (Nat.le_refl _) ha (Nat.le_refl _) (FU_lt (by omega)) (fun i _ _ => by omega) (fun i _ _ => by omega)
  have hm := Lb_mem hp hs
  unfold mo_comesIn_tried
  rw [h]
  by_cases c : p < e ∧ A p = x
  · rw [if_pos c]
    refine ⟨e, A, rfl, hs, fun y => ⟨Or.inl, ?_⟩, Nat.le_refl _, by omega, fun _ _ => rfl⟩
    rintro (h | h)
    · exact h
    · rw [h]; exact hm.mpr c
  · rw [if_neg c]
    obtain ⟨c1, c2, c3⟩ := ins_ok hp hs c
    exact ⟨e + 1, _, rfl, c1, c2, by omega, by omega, c3⟩

theorem listed_sh {A : Nat → Int64} {p e : Nat} {x : Int64} (hp : p ≤ e) (he : e < 1600) : mo_comesIn_listed_J64 (nI e) x (nI p) A = some (nI (e + 1), insA A p e x) := by
  unfold mo_comesIn_listed_J64
  rw [show fl2 (mo_comesIn_listed_B67 (nI e) x (nI p)) FU (nI e) A = fl2 (mo_comesIn_listed_B67 (nI e) x (nI p)) FU (nI (e - 0)) (fun i => if e - 0 < i ∧ i ≤ e then A (i - 1) else A i) by
    congr 1
    funext i
    rw [if_neg (by omega)]]
  refine crs2 (B := mo_comesIn_listed_B67 (nI e) x (nI p)) (fun t => nI (e - t)) (fun t i => if e - t < i ∧ i ≤ e then A (i - 1) else A i) (e - p) (fun t ht k => ?_) (fun k => ?_) FU (FU_lt (by omega))
  · rw [mo_comesIn_listed_B67, if_neg (nI_ge (by omega) (by omega)), nI_m1 (by omega), nm_eq, ck_n (by omega) (by omega), nm_eq, ck_n (by omega) (by omega), nm_eq, nm_eq, cl_n (by omega), cl_n (by omega)]
    rw [if_neg (by omega), show nI (e - t) + Int32.ofInt (-1) = nI (e - (t + 1)) by
      have := pk_m1 (e - (t + 1))
      rw [show e - (t + 1) + 1 = e - t by omega] at this
      rw [show Int32.ofInt (-1) = -1 by decide, this]]
    congr 1
    funext i
    rw [upL]
    by_cases q : i = e - t
    · rw [if_pos q, if_pos (by omega), q]
    · rw [if_neg q]
      by_cases r : e - t < i ∧ i ≤ e
      · rw [if_pos r, if_pos (by omega)]
      · rw [if_neg r, if_neg (by omega)]
  · rw [mo_comesIn_listed_B67, if_pos (nI_le (by omega) (by omega)), ck_n (by omega) (by omega), nm_eq, cl_n (by omega), nI_1]
    congr 2
    funext i
    rw [upL]
    unfold insA
    rw [show e - (e - p) = p by omega]
    by_cases q : i = p
    · rw [if_pos q, if_neg (by omega), if_pos q]
    · rw [if_neg q, if_neg q]
theorem listed_go {A : Nat → Int64} {a e : Nat} {x : Int64} (hs : SLt A a e) (he : e < 1600) : ∀ (n lo hi : Nat), a ≤ lo → lo ≤ hi → hi ≤ e → hi - lo < n → (∀ i, a ≤ i → i < lo → A i < x) → (∀ i, hi ≤ i → i < e → x ≤ A i) → ∃ p, Lb A a e p x ∧ fl2 (mo_comesIn_listed_B6 (nI e) x A) n (nI lo) (nI hi) = if p < e ∧ A p = x then some (nI e, A) else some (nI (e + 1), insA A p e x) := by
  intro n
  induction n with
  | zero => intro lo hi _ _ _ h; omega
  | succ n ih =>
    intro lo hi h1 h2 h3 h4 h5 h6
    show ∃ p, _ ∧ mo_comesIn_listed_B6 (nI e) x A (fl2 (mo_comesIn_listed_B6 (nI e) x A) n) (nI lo) (nI hi) = _
    rw [mo_comesIn_listed_B6]
    rcases Nat.eq_or_lt_of_le h2 with q | q
    · subst q
      refine ⟨lo, ⟨h1, h3, h5, h6⟩, ?_⟩
      rw [if_pos (nI_le (Nat.le_refl _) (by omega))]
      by_cases c : lo < e
      · rw [if_neg (nI_ge c (by omega)), ck_n (by omega) (by omega), cl_n (by omega)]
        by_cases d : A lo = x
        · rw [if_pos d, if_pos ⟨c, d⟩]
        · rw [if_neg d, if_neg (fun h => d h.2), listed_sh h3 he]
      · rw [if_pos (nI_le (by omega) (by omega)), if_neg (fun h => c h.1), listed_sh h3 he]
    · rw [if_neg (nI_ge q (by omega)), dzI_n (by decide), half_n (by omega) (by omega), nm_eq, ck_n (show (lo + hi) / 2 < 1600 by omega) (by omega), cl_n (by omega)]
      by_cases c : x ≤ A ((lo + hi) / 2)
      · rw [if_pos c]
        refine ih lo ((lo + hi) / 2) h1 (by omega) (by omega) (by omega) h5 (fun i i1 i2 => ?_)
        have := SLt_le hs (show a ≤ (lo + hi) / 2 by omega) i1 i2
        rw [Int64.le_iff_toInt_le] at *; omega
      · rw [if_neg c, nm_eq, nI_1]
        refine ih ((lo + hi) / 2 + 1) hi (by omega) (by omega) h3 (by omega) (fun i i1 i2 => ?_) h6
        have := SLt_le hs i1 (show i ≤ (lo + hi) / 2 by omega) (by omega)
        exact l_lelt this (l_nle.mp c)
theorem listed_eq {A : Nat → Int64} {a e : Nat} (x : Int64) (hs : SLt A a e) (ha : a ≤ e) (he : e < 1600) : ∃ e' A', mo_comesIn_listed (nI a) (nI e) x A = some (nI e', A') ∧ SLt A' a e' ∧ (∀ y, Mm A' a e' y ↔ Mm A a e y ∨ y = x) ∧ e ≤ e' ∧ e' ≤ e + 1 ∧ ∀ i, i < a ∨ e < i → A' i = A i := by
  obtain ⟨p, hp, h⟩ := listed_go (x := x) hs he FU a e (Nat.le_refl _) ha (Nat.le_refl _) (FU_lt (by omega)) (fun i _ _ => by omega) (fun i _ _ => by omega)
  have hm := Lb_mem hp hs
  unfold mo_comesIn_listed
  rw [h]
  by_cases c : p < e ∧ A p = x
  · rw [if_pos c]
    refine ⟨e, A, rfl, hs, fun y => ⟨Or.inl, ?_⟩, Nat.le_refl _, by omega, fun _ _ => rfl⟩
    rintro (h | h)
    · exact h
    · rw [h]; exact hm.mpr c
  · rw [if_neg c]
    obtain ⟨c1, c2, c3⟩ := ins_ok hp hs c
    exact ⟨e + 1, _, rfl, c1, c2, by omega, by omega, c3⟩

/-! the class's row -/
theorem rw_go {A : Nat → Int64} {n : Nat} {x : Int64} (hs : SLt A 0 n) (hn : n ≤ 64) : ∀ (f m : Nat), m ≤ n → m < f → (∀ i, m ≤ i → i < n → x ≤ A i) → ∃ p, Lb A 0 n p x ∧ fl2 (rw_add_B13 x (nI n) A) f (nI m) (Int32.ofInt ((m : Int) - 1)) = rw_add_J39 x (nI p) (nI n) A := by
  intro f
  induction f with
  | zero => intro m _ h; omega
  | succ f ih =>
    intro m hm hf h
    show ∃ p, _ ∧ rw_add_B13 x (nI n) A (fl2 (rw_add_B13 x (nI n) A) f) (nI m) (Int32.ofInt ((m : Int) - 1)) = _
    rw [rw_add_B13]
    cases m with
    | zero =>
      rw [if_pos (by decide)]
      exact ⟨0, ⟨Nat.le_refl _, by omega, fun i _ _ => by omega, fun i _ hi => h i (by omega) hi⟩, rfl⟩
    | succ m =>
      have em : Int32.ofInt (((m + 1 : Nat) : Int) - 1) = nI m := by rw [nI_iI]; congr 1; omega
      have em2 : nI m + Int32.ofInt (-1) = Int32.ofInt ((m : Int) - 1) := by rw [nI_iI, ← Int32.ofInt_add]; congr 1
      rw [em, if_neg (nI_pos (by omega)), ck_n (show m < 64 by omega) (by omega), cl_n (by omega)]
      by_cases c : A m < x
      · rw [if_pos c]
        refine ⟨m + 1, ⟨by omega, hm, fun i _ hi => ?_, h⟩, rfl⟩
        exact l_lelt (SLt_le hs (by omega) (show i ≤ m by omega) (by omega)) c
      · rw [if_neg c, nm_eq, em2]
        refine ih m (by omega) (by omega) (fun i i1 i2 => ?_)
        rcases Nat.eq_or_lt_of_le i1 with q | q
        · rw [← q]; exact l_nlt.mp c
        · exact h i (by omega) i2
theorem rw_J58 {A : Nat → Int64} {n p : Nat} {x : Int64} (hp : p ≤ n) (hn : n < 64) : rw_add_J58 x (nI p) (nI n) A = some (nI (n + 1), insA A p n x) := by
  unfold rw_add_J58
  rw [if_pos (show nI n < (64 : Int32) from nI_lt (a := n) (b := 64) hn (by omega)), nI_1, pk_sub hp, cl_n (by omega), cl_n (by omega), cl_n (by omega), nI_1]
  unfold cpk
  rw [if_pos ⟨nI_pos (by omega), nI_pos (by omega), nI_pos (by omega), by rw [cl_n (by omega), cl_n (by omega)]; omega, by rw [cl_n (by omega), cl_n (by omega)]; omega⟩, nm_eq, ck_n (by omega) (by omega), nm_eq, nm_eq]
  congr 2
  funext i
  rw [upL]
  unfold insA va_cpy
  by_cases q : i = p
  · rw [if_pos q, if_neg (by omega), if_pos q]
  · rw [if_neg q]
    by_cases r : p < i ∧ i ≤ n
    · rw [if_pos (by omega), if_pos r]; congr 1; omega
    · rw [if_neg (by omega), if_neg r, if_neg q]
theorem rw_add_eq {A : Nat → Int64} {n : Nat} (x : Int64) (hs : SLt A 0 n) (hn : n < 64) : ∃ n' A', rw_add x (nI n) A = some (nI n', A') ∧ SLt A' 0 n' ∧ (∀ y, Mm A' 0 n' y ↔ Mm A 0 n y ∨ y = x) ∧ n ≤ n' ∧ n' ≤ n + 1 := by
  obtain ⟨p, hp, h⟩ := rw_go (x := x) hs (by omega) FU n (Nat.le_refl _) (FU_lt (by omega)) (fun i _ _ => by omega)
  have hm := Lb_mem hp hs
  have e0 : (nI n - 1 : Int32) = Int32.ofInt ((n : Int) - 1) := by rw [nI_iI, iO]
  unfold rw_add
  rw [nm_eq, e0, h]
  unfold rw_add_J39
  by_cases q : n ≤ p
  · rw [if_pos (nI_le q (by have := hp.2.1; omega)), rw_J58 hp.2.1 hn]
    obtain ⟨c1, c2, c3⟩ := ins_ok hp hs (fun h => by omega)
    exact ⟨n + 1, _, rfl, c1, c2, by omega, by omega⟩
  · rw [if_neg (nI_ge (by omega) (by omega)), ck_n (by omega) (by omega), cl_n (by omega)]
    by_cases c : A p = x
    · rw [if_pos c]
      refine ⟨n, A, rfl, hs, fun y => ⟨Or.inl, ?_⟩, Nat.le_refl _, by omega⟩
      rintro (h | h)
      · exact h
      · rw [h]; exact hm.mpr ⟨by omega, c⟩
    · rw [if_neg c, rw_J58 hp.2.1 hn]
      obtain ⟨c1, c2, c3⟩ := ins_ok hp hs (fun h => c h.2)
      exact ⟨n + 1, _, rfl, c1, c2, by omega, by omega⟩
theorem rw_at_eq {A : Nat → Int64} {n k : Nat} (hk : k < n) (hn : n ≤ 64) : rw_at (nI k) (nI n) A = some (A k) := by
  unfold rw_at
  have : inr (nI k) 0 (nI n - 1) = true := by
    unfold inr
    rw [nI_m1 (by omega), decide_eq_true (nI_pos' (by omega)), decide_eq_true (nI_le (by omega) (by omega))]; rfl
  rw [cf_within_eq, this, bd1_some, if_neg (by decide), ck_n (by omega) (by omega), cl_n (by omega)]
