/-! the reference's steps: breadth first -/
def BFb (n k0 k g : Nat) (q d : Nat → Nat) (A Q : Nat → Int32) : Prop := k ≤ g ∧ 0 < g ∧ q 0 = k0 ∧ (∀ i, i < g → Q i = nI (q i) ∧ q i < nF n ∧ A (q i) = nI (d i) ∧ Dst n k0 (d i) (q i)) ∧ (∀ j, j < nF n → A j = -1 ∨ ∃ i, i < g ∧ q i = j) ∧ (∀ i j, i ≤ j → j < g → d i ≤ d j) ∧ (∀ i, i < g → k < g → d i ≤ d k + 1) ∧ (∀ i, i < k → ∀ j, STP n (q i) j → ∃ m, m < g ∧ q m = j) ∧ g = fb_ct (fun j => decide (¬ A j = -1)) (nF n)
def BFi (n k0 k c e : Nat) (S : Nat → Prop) (g : Nat) (A Q : Nat → Int32) : Prop := ∃ q d, BFb n k0 k g q d A Q ∧ k < g ∧ q k = c ∧ d k = e ∧ ∀ j, S j → ∃ m, m < g ∧ q m = j
theorem bf_lev {n k0 k g : Nat} {q d : Nat → Nat} {A Q : Nat → Int32} (h : BFb n k0 k g q d A Q) (hk : k < g) : ∀ t, t < d k → ∀ i, Dst n k0 t i → ∃ m, m < k ∧ q m = i := by
  obtain ⟨_, g0, q0, h1, _, h3, _, h5, _⟩ := h
  intro t
  induction t with
  | zero =>
    intro ht i hi
    have e : i = k0 := hi.1
    have d0 : d 0 = 0 := Dst_one (h1 0 g0).2.2.2 (by rw [q0]; exact ⟨rfl, fun u hu => by omega⟩)
    refine ⟨0, ?_, by rw [q0, e]⟩
    rcases Nat.lt_or_ge 0 k with z | z
    · exact z
    · rw [show k = 0 by omega, d0] at ht; omega
  | succ t ih =>
    intro ht i hi
    obtain ⟨⟨i', a, b⟩, _⟩ := Dst_s.mp hi
    obtain ⟨m, m1, m2⟩ := ih (by omega) i' a
    rw [← m2] at b
    obtain ⟨m', m3, m4⟩ := h5 m m1 i b
    have e : d m' = t + 1 := Dst_one (h1 m' m3).2.2.2 (by rw [m4]; exact hi)
    refine ⟨m', ?_, m4⟩
    rcases Nat.lt_or_ge m' k with z | z
    · exact z
    · have := h3 k m' z m3; omega
theorem bf_dst {n k0 k g : Nat} {q d : Nat → Nat} {A Q : Nat → Int32} (h : BFb n k0 k g q d A Q) (hk : k < g) {j : Nat} (hs : STP n (q k) j) (hn : ∀ m, m < g → q m ≠ j) : Dst n k0 (d k + 1) j := by
  have lev := bf_lev h hk
  obtain ⟨_, g0, q0, h1, _, h3, _, h5, _⟩ := h
  refine Dst_s.mpr ⟨⟨q k, (h1 k hk).2.2.2, hs⟩, fun hb => ?_⟩
  obtain ⟨u, u1, u2⟩ := Dst_ex _ hb
  match u, u1, u2 with
  | 0, _, u2 =>
    have : j = k0 := u2.1
    exact hn 0 g0 (by rw [q0, this])
  | u + 1, u1, u2 =>
    obtain ⟨⟨i, a, b⟩, _⟩ := Dst_s.mp u2
    obtain ⟨m, m1, m2⟩ := lev u (by omega) i a
    rw [← m2] at b
    obtain ⟨m', m3, m4⟩ := h5 m m1 j b
    exact hn m' m3 m4
theorem bf_add {n k0 k c e : Nat} {S : Nat → Prop} {g : Nat} {A Q : Nat → Int32} (hn : 1 ≤ n ∧ n ≤ 6) (hk0 : k0 < nF n) (h : BFi n k0 k c e S g A Q) {j : Nat} (hj : j < nF n) (hs : STP n c j) (ha : A j = -1) : BFi n k0 k c e (fun x => S x ∨ x = j) (g + 1) (upd A j (nI (e + 1))) (upd Q g (nI j)) := by
  obtain ⟨q, d, hb, kg, qk, dk, hS⟩ := h
  have hb' := hb
  obtain ⟨_, g0, q0, h1, h2, h3, h4, h5, h6⟩ := hb
  have d34 : ∀ i, i < g → d i ≤ 34 := fun i hi => Dst_34 hn hk0 ⟨_, (h1 i hi).2.2.2⟩
  have nq : ∀ m, m < g → q m ≠ j := fun m hm e' => by
    have a := (h1 m hm).2.2.1
    rw [e', ha] at a
    exact nI_ne1 (by have := d34 m hm; omega) a.symm
  have dst : Dst n k0 (e + 1) j := by
    have := bf_dst hb' kg (j := j) (by rw [qk]; exact hs) nq
    rw [dk] at this; exact this
  have d35 := Dst_34 hn hk0 ⟨_, dst⟩
  have ol : ∀ i, i < g → (if i = g then j else q i) = q i := fun i hi => if_neg (by omega)
  have od : ∀ i, i < g → (if i = g then e + 1 else d i) = d i := fun i hi => if_neg (by omega)
  refine ⟨fun i => if i = g then j else q i, fun i => if i = g then e + 1 else d i, ⟨by omega, by omega, ?_, ?_, ?_, ?_, ?_, ?_, ?_⟩, by omega, ?_, ?_, ?_⟩
  · show (if 0 = g then j else q 0) = k0
    rw [ol 0 g0, q0]
  · intro i hi
    show upd Q g (nI j) i = nI (if i = g then j else q i) ∧ (if i = g then j else q i) < nF n ∧ upd A j (nI (e + 1)) (if i = g then j else q i) = nI (if i = g then e + 1 else d i) ∧ Dst n k0 (if i = g then e + 1 else d i) (if i = g then j else q i)
    by_cases z : i = g
    · subst z
      rw [if_pos rfl, if_pos rfl]
      exact ⟨by rw [upI, if_pos rfl], hj, by rw [upI, if_pos rfl], dst⟩
    · have il : i < g := by omega
      rw [ol i il, od i il]
      obtain ⟨b1, b2, b3, b4⟩ := h1 i il
      exact ⟨by rw [upI, if_neg z]; exact b1, b2, by rw [upI, if_neg (nq i il)]; exact b3, b4⟩
  · intro x hx
    by_cases z : x = j
    · exact Or.inr ⟨g, by omega, by show (if g = g then j else q g) = x; rw [if_pos rfl, z]⟩
    · rcases h2 x hx with a | ⟨i, i1, i2⟩
      · exact Or.inl (by rw [upI, if_neg z]; exact a)
      · exact Or.inr ⟨i, by omega, by show (if i = g then j else q i) = x; rw [ol i i1]; exact i2⟩
  · intro i i' hii hi'
    show (if i = g then e + 1 else d i) ≤ (if i' = g then e + 1 else d i')
    by_cases z : i' = g
    · rw [if_pos z]
      by_cases w : i = g
      · rw [if_pos w]; exact Nat.le_refl _
      · rw [if_neg w]; have := h4 i (by omega) kg; omega
    · rw [if_neg z, if_neg (show ¬ i = g by omega)]
      exact h3 i i' hii (by omega)
  · intro i hi _
    show (if i = g then e + 1 else d i) ≤ (if k = g then e + 1 else d k) + 1
    rw [od k kg, dk]
    by_cases w : i = g
    · rw [if_pos w]; exact Nat.le_refl _
    · rw [if_neg w]; have := h4 i (by omega) kg; omega
  · intro i hi x hx
    have hx' : STP n (if i = g then j else q i) x := hx
    rw [ol i (by omega)] at hx'
    obtain ⟨m, m1, m2⟩ := h5 i hi x hx'
    exact ⟨m, by omega, by show (if m = g then j else q m) = x; rw [ol m m1]; exact m2⟩
  · have up := fb_ct_upd (fun x => decide (¬ A x = -1)) true hj
    rw [show decide (¬ A j = -1) = false from by rw [ha]; rfl, if_pos rfl, if_neg (by decide), ← h6] at up
    have cg : fb_ct (fun x => decide (¬ upd A j (nI (e + 1)) x = -1)) (nF n) = fb_ct (fun x => if x = j then true else decide (¬ A x = -1)) (nF n) := fb_ct_cong (fun x _ => by
      by_cases z : x = j
      · rw [if_pos z, upI, if_pos z]
        exact decide_eq_true (nI_ne1 (by omega))
      · rw [if_neg z, upI, if_neg z])
    rw [cg]
    exact up.symm
  · show (if k = g then j else q k) = c
    rw [ol k kg, qk]
  · show (if k = g then e + 1 else d k) = e
    rw [od k kg, dk]
  · intro x hx
    rcases hx with hx | rfl
    · obtain ⟨m, m1, m2⟩ := hS x hx
      exact ⟨m, by omega, by show (if m = g then j else q m) = x; rw [ol m m1]; exact m2⟩
    · exact ⟨g, by omega, by show (if g = g then x else q g) = x; rw [if_pos rfl]⟩
theorem bf_in {n k0 k c e : Nat} {S : Nat → Prop} {g : Nat} {A Q : Nat → Int32} (h : BFi n k0 k c e S g A Q) {j : Nat} (hj : j < nF n) (ha : ¬ A j = -1) : BFi n k0 k c e (fun x => S x ∨ x = j) g A Q := by
  obtain ⟨q, d, hb, kg, qk, dk, hS⟩ := h
  refine ⟨q, d, hb, kg, qk, dk, fun x hx => ?_⟩
  rcases hx with hx | rfl
  · exact hS x hx
  · rcases hb.2.2.2.2.1 x hj with a | a
    · exact absurd a ha
    · exact a
theorem bf_w {n k0 k c e : Nat} {S S' : Nat → Prop} {g : Nat} {A Q : Nat → Int32} (h : BFi n k0 k c e S g A Q) (hs : ∀ j, S' j → S j) : BFi n k0 k c e S' g A Q := by
  obtain ⟨q, d, hb, kg, qk, dk, hS⟩ := h
  exact ⟨q, d, hb, kg, qk, dk, fun x hx => hS x (hs x hx)⟩
theorem bf_g {n k0 k c e : Nat} {S : Nat → Prop} {g : Nat} {A Q : Nat → Int32} (hn : n ≤ 6) (h : BFi n k0 k c e S g A Q) : g ≤ 35 := by
  obtain ⟨q, d, hb, _⟩ := h
  have := hb.2.2.2.2.2.2.2.2
  have l := fb_ct_le (fun j => decide (¬ A j = -1)) (nF n)
  have := nF_b hn
  omega
theorem reaches_eq {li : Nat → Int64} {fm : Nat → Int32} (hl : MLm 7 li fm) {n : Nat} (hn : 1 ≤ n ∧ n ≤ 6) {b g : Int64} (hb : CON b) (hm : mo_moved b = some g) (hg : FIG g) (hc : cnt g = n) (so : Int32) {y : Nat} (hy : y < 110) (A Q : Nat → Int32) : mo_reaches b (nI n) so (nI y) li fm A Q = if A (fI g) = -1 then some (nI (y + 1), upd A (fI g) so, upd Q y (nI (fI g))) else some (nI y, A, Q) := by
  have mo2 := mo_ownOf_eq hg (k := 2) (by omega)
  have mb := mbeg hl (n := n) (k := 2) ⟨hn.1, by omega⟩ (by omega)
  rw [show nI 2 = (2 : Int32) from rfl] at mo2 mb
  have fl := fI_lt hg (by omega)
  have k35 := nF_b hn.2
  obtain ⟨j, a1, a2, a3, a4, a5⟩ := fI_s hg (by omega)
  rw [hc] at a1 a2 a5 fl
  rw [mo_reaches, (mo_hangs_eq b).1 hb, bd1_some, if_neg (by decide), hm, bd1_some, mo2, bd1_some, mb, bd1_some, a4]
  have n7 : 1 ≤ n ∧ n ≤ 7 := ⟨hn.1, by omega⟩
  have ek := eK_1067 (k := 2) (n := n) n7.2
  have rj := rk_in a2 a3
  have r0 : eK 2 (n - 1) ≤ rk 2 j := rk_le a1
  have bb := bK_b (n := n) (k := 2 + 1) n7.2
  have sz := sz_eq n7.1 n7.2 (show 2 ≤ 2 by omega)
  have bn := eN_b n7.2
  refine crs1 (B := mo_reaches_B26 (nI n) so (Lf j) (nI y) li fm A Q) (fun t => nI (bK n 2 + t)) (rk 2 j - eK 2 (n - 1)) (fun t ht K => ?_) (fun K => ?_) FU (FU_lt (by omega))
  · obtain ⟨i, i1, i2, i3, i4⟩ := kth (n := n) (k := 2) (t := t) n7 (by omega)
    have := hl.2 n 2 i n7.1 n7.2 (by omega) i1 i2 i3
    rw [i4, show eK 2 (n - 1) + t - eK 2 (n - 1) = t by omega] at this
    rw [mo_reaches_B26, ck_n (show bK n 2 + t < 1600 by omega) (by omega), cl_n (by omega), this, if_neg (fun c => by
      have := Lf_inj (show i < 1067 by omega) (show j < 1067 by omega) c
      subst this
      omega), nm_eq, nI_1]
    rfl
  · have := hl.2 n 2 j n7.1 n7.2 (by omega) a1 a2 a3
    rw [mo_reaches_B26, ck_n (show bK n 2 + (rk 2 j - eK 2 (n - 1)) < 1600 by omega) (by omega), cl_n (by omega), this, if_pos rfl, mb, bd1_some, nm_eq, pk_sub (by omega), show bK n 2 + (rk 2 j - eK 2 (n - 1)) - bK n 2 = fI g by omega, ck_n (show fI g < 110 by omega) (by omega), cl_n (show fI g < 2 ^ 31 by omega)]
    by_cases q : A (fI g) = -1
    · rw [if_pos q, if_pos q, ck_n (show fI g < 110 by omega) (by omega), nm_eq, ck_n hy (by omega), nm_eq, nm_eq, cl_n (show y < 2 ^ 31 by omega), nI_1]
    · rw [if_neg q, if_neg q]
theorem reaches_no {li : Nat → Int64} {fm : Nat → Int32} {b : Int64} (hb : ¬ CON b) (v so y : Int32) (A Q : Nat → Int32) : mo_reaches b v so y li fm A Q = some (y, A, Q) := by
  rw [mo_reaches, (mo_hangs_eq b).2 hb, bd1_some, if_pos rfl]
theorem bf_reach {li : Nat → Int64} {fm : Nat → Int32} (hl : MLm 7 li fm) {n k0 k c e g : Nat} {S : Nat → Prop} {A Q : Nat → Int32} (hn : 1 ≤ n ∧ n ≤ 6) (hk0 : k0 < nF n) (h : BFi n k0 k c e S g A Q) {b w : Int64} (hb : CON b → mo_moved b = some w ∧ FIG w ∧ cnt w = n ∧ STP n c (fI w)) : ∃ g' A' Q', mo_reaches b (nI n) (nI (e + 1)) (nI g) li fm A Q = some (nI g', A', Q') ∧ BFi n k0 k c e (fun x => S x ∨ (CON b ∧ fI w = x)) g' A' Q' := by
  have g35 := bf_g hn.2 h
  by_cases hc : CON b
  · obtain ⟨h1, h2, h3, h4⟩ := hb hc
    have fl := fI_lt h2 (by omega)
    rw [h3] at fl
    rw [reaches_eq hl hn hc h1 h2 h3 (nI (e + 1)) (show g < 110 by omega) A Q]
    by_cases q : A (fI w) = -1
    · rw [if_pos q]
      refine ⟨_, _, _, rfl, bf_w (bf_add hn hk0 h fl h4 q) (fun x hx => ?_)⟩
      rcases hx with hx | ⟨_, rfl⟩
      · exact Or.inl hx
      · exact Or.inr rfl
    · rw [if_neg q]
      refine ⟨_, _, _, rfl, bf_w (bf_in h fl q) (fun x hx => ?_)⟩
      rcases hx with hx | ⟨_, rfl⟩
      · exact Or.inl hx
      · exact Or.inr rfl
  · rw [reaches_no hc]
    refine ⟨_, _, _, rfl, bf_w h (fun x hx => ?_)⟩
    rcases hx with hx | ⟨hx, _⟩
    · exact hx
    · exact absurd hx hc
