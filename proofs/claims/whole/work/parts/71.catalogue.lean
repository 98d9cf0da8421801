/-! the class's catalogue -/
theorem upd_fun {α : Type} {P : Prop} (a : Nat → Int32) (n : Nat) (v : Int32) : upd a n v = fun k => if k = n then v else a k := by
  funext k
  by_cases q : k = n
  · rw [if_pos q, q, pk_us]
  · rw [if_neg q, pk_un q]
theorem ui1 {n : Nat} (h : n < 2 ^ 31) : ui (nI n) 1 = nI (n / 2) := by
  unfold ui
  exact pk_ushrN (n := n) (by omega) 1 1 (by decide)
theorem RWs_ins {a e e' : Nat} {A A' : Nat → Int64} {P : Int64 → Prop} {x : Int64} (h : RWs a e A P) (h1 : SLt A' a e') (h2 : ∀ y, Mm A' a e' y ↔ Mm A a e y ∨ y = x) (h3 : e ≤ e') : RWs a e' A' (fun y => P y ∨ y = x) :=
  ⟨h1, Nat.le_trans h.2.1 h3, fun y => by rw [h2 y, h.2.2 y]⟩
theorem RWs_cong {a e : Nat} {A : Nat → Int64} {P Q : Int64 → Prop} (h : RWs a e A P) (hPQ : ∀ y, P y ↔ Q y) : RWs a e A Q := ⟨h.1, h.2.1, fun y => by rw [h.2.2 y, hPQ y]⟩
theorem ca_go {A : Nat → Int64} {a e : Nat} {x : Int64} (hs : SLt A a e) (he : e ≤ 1067) (n1 : Int32) (en : Nat → Int32) : ∀ (f lo hi t : Nat), a ≤ lo → lo ≤ hi → hi ≤ e → hi - lo < f → (hi - lo) * 2 ^ t ≤ 2047 → (∀ i, a ≤ i → i < lo → A i < x) → (∀ i, hi ≤ i → i < e → x ≤ A i) → ∃ p, Lb A a e p x ∧ fl3 (ca_insert_B25 n1 x (nI e) A en) f (nI lo) (nI hi) (nI t) = ca_insert_J79 n1 x (nI p) (nI e) A en := by
  intro f
  induction f with
  | zero => intro lo hi t _ _ _ h; omega
  | succ f ih =>
    intro lo hi t h1 h2 h3 h4 h7 h5 h6
    show ∃ p, _ ∧ ca_insert_B25 n1 x (nI e) A en (fl3 (ca_insert_B25 n1 x (nI e) A en) f) (nI lo) (nI hi) (nI t) = _
    rw [ca_insert_B25]
    rcases Nat.eq_or_lt_of_le h2 with q | q
    · subst q
      refine ⟨lo, ⟨h1, h3, h5, h6⟩, ?_⟩
      rw [if_pos (nI_le (Nat.le_refl lo) (by omega)), ite_self]
    · have t11 : t < 11 := by
        rcases Nat.lt_or_ge t 11 with z | z
        · exact z
        · have p : 2 ^ 11 ≤ 2 ^ t := Nat.pow_le_pow_right (n := 2) (by omega) z
          have : 1 * 2 ^ t ≤ (hi - lo) * 2 ^ t := Nat.mul_le_mul_right _ (by omega)
          omega
      rw [if_neg (show ¬ (32 : Int32) ≤ nI t from nI_ge (a := t) (b := 32) (by omega) (by omega)), if_neg (nI_ge q (by omega)), nI_add, ui1 (by omega), nm_eq, ck_n (show (lo + hi) / 2 < 1067 by omega) (by omega), cl_n (by omega), nm_eq]
      have half : ∀ d, d ≤ (hi - lo) / 2 → d * 2 ^ (t + 1) ≤ 2047 := by
        intro d hd
        have : d * 2 ^ (t + 1) ≤ (hi - lo) * 2 ^ t := by
          rw [Nat.pow_succ, Nat.mul_comm (2 ^ t) 2, ← Nat.mul_assoc]
          exact Nat.mul_le_mul_right _ (by omega)
        omega
      by_cases c : x ≤ A ((lo + hi) / 2)
      · rw [if_pos c, ca_insert_J73, nm_eq, o1]
        refine ih lo ((lo + hi) / 2) (t + 1) h1 (by omega) (by omega) (by omega) (half _ (by omega)) h5 (fun i i1 i2 => ?_)
        have := SLt_le hs (show a ≤ (lo + hi) / 2 by omega) i1 i2
        exact le_tr c this
      · rw [if_neg c, nI_1, ca_insert_J73, nm_eq, o1]
        refine ih ((lo + hi) / 2 + 1) hi (t + 1) (by omega) (by omega) h3 (by omega) (half _ (by omega)) (fun i i1 i2 => ?_) h6
        have := SLt_le hs i1 (show i ≤ (lo + hi) / 2 by omega) (by omega)
        exact l_lelt this (l_nle.mp c)
theorem ca_J98 {A : Nat → Int64} {e p n : Nat} {x : Int64} (hp : p ≤ e) (he : e < 1067) (hn : n ≤ 7) (en : Nat → Int32) : ca_insert_J98 (nI n) x (nI p) (nI e) A en = some (insA A p e x, fun k => if k = n then nI (e + 1) else en k) := by
  unfold ca_insert_J98
  rw [if_pos (show nI e < (1067 : Int32) from nI_lt (a := e) (b := 1067) he (by omega)), nI_1, pk_sub hp, cl_n (by omega), cl_n (by omega), cl_n (by omega), nI_1]
  unfold cpk
  rw [if_pos ⟨nI_pos (by omega), nI_pos (by omega), nI_pos (by omega), by rw [cl_n (by omega), cl_n (by omega)]; omega, by rw [cl_n (by omega), cl_n (by omega)]; omega⟩, nm_eq, ck_n (by omega) (by omega), nm_eq, nm_eq, ck_n (show n < 24 by omega) (by omega), nm_eq, cl_n (show n < 2 ^ 31 by omega), upd_fun (P := True) (α := Nat)]
  congr 2
  funext i
  rw [upL]
  unfold insA va_cpy
  by_cases q : i = p
  · rw [if_pos q, if_neg (by omega), if_pos q]
  · rw [if_neg q]
    by_cases r : p < i ∧ i ≤ e
    · rw [if_pos (by omega), if_pos r]; congr 1; omega
    · rw [if_neg (by omega), if_neg r, if_neg q]
theorem ca_insert_eq {A : Nat → Int64} {en : Nat → Int32} {a e n : Nat} (hn : 1 ≤ n ∧ n ≤ 7) (h1 : en (n - 1) = nI a) (h2 : en n = nI e) (hs : SLt A a e) (ha : a ≤ e) (he : e ≤ 1067) (x : Int64) (hx : ¬ Mm A a e x → e < 1067) : ∃ e' A', ca_insert (nI n) x A en = some (A', fun k => if k = n then nI e' else en k) ∧ SLt A' a e' ∧ (∀ y, Mm A' a e' y ↔ Mm A a e y ∨ y = x) ∧ e ≤ e' ∧ e' ≤ 1067 ∧ ∀ i, i < a → A' i = A i := by
  obtain ⟨p, hp, h⟩ := ca_go (x := x) hs he (nI n) en FU a e 0 (Nat.le_refl _) ha (Nat.le_refl _) (FU_lt (by omega)) (by omega) (fun i _ _ => by omega) (fun i _ _ => by omega)
  have hm := Lb_mem hp hs
  have pe := hp.2.1
  rw [ca_insert, nm_eq, nI_m1 (by omega), ck_n (show n - 1 < 24 by omega) (by omega), nm_eq, cl_n (show n - 1 < 2 ^ 31 by omega), h1, ck_n (show n < 24 by omega) (by omega), nm_eq, cl_n (show n < 2 ^ 31 by omega), h2, show (0 : Int32) = nI 0 from nI_0.symm, h, ca_insert_J79]
  have same : en = fun k => if k = n then nI e else en k := by
    funext k
    by_cases q : k = n
    · rw [if_pos q, q, h2]
    · rw [if_neg q]
  have put : ¬ (p < e ∧ A p = x) → ∃ e' A', ca_insert_J98 (nI n) x (nI p) (nI e) A en = some (A', fun k => if k = n then nI e' else en k) ∧ SLt A' a e' ∧ (∀ y, Mm A' a e' y ↔ Mm A a e y ∨ y = x) ∧ e ≤ e' ∧ e' ≤ 1067 ∧ ∀ i, i < a → A' i = A i := by
    intro c
    have el := hx (fun m => c (hm.mp m))
    obtain ⟨c1, c2, c3⟩ := ins_ok hp hs c
    rw [ca_J98 pe el hn.2]
    exact ⟨e + 1, _, rfl, c1, c2, by omega, by omega, fun i hi => c3 i (Or.inl hi)⟩
  by_cases q : e ≤ p
  · rw [if_pos (nI_le q (by omega))]
    exact put (fun c => by omega)
  · rw [if_neg (nI_ge (by omega) (by omega)), ck_n (show p < 1067 by omega) (by omega), cl_n (by omega)]
    by_cases c : A p = x
    · rw [if_pos c]
      refine ⟨e, A, ?_, hs, fun y => ⟨Or.inl, ?_⟩, Nat.le_refl _, he, fun _ _ => rfl⟩
      · rw [← same]
      · rintro (h | h)
        · exact h
        · rw [h]; exact hm.mpr ⟨by omega, c⟩
    · rw [if_neg c]
      exact put (fun d => c d.2)
/-- grown from the first places of a group -/
def Pg (n p : Nat) (y : Int64) : Prop := ∃ i q, eN (n - 1) ≤ i ∧ i < p ∧ q < 81 ∧ PLq (Lf i) q = true ∧ y = wtq (Lf i) q
theorem n_307 {n i : Nat} (hn : n ≤ 6) (h : i < eN n) : i < 307 := by
  have : ∀ n : Fin 7, eN n.val ≤ 307 := by decide
  have : eN n ≤ 307 := this ⟨n, by omega⟩
  omega
theorem Pg_in {n p : Nat} (hn : 1 ≤ n ∧ n ≤ 6) (hp : p ≤ eN n) {y : Int64} (h : Pg n p y) : inG n y := by
  obtain ⟨i, q, h1, h2, h3, h4, rfl⟩ := h
  have i3 := n_307 hn.2 (show i < eN n by omega)
  obtain ⟨j, j1, j2, j3⟩ := Lf_grow i3 h3 h4
  have g : gn i = n - 1 + 1 := gn_of (m := n - 1) (by omega) h1 (by rw [show n - 1 + 1 = n by omega]; omega)
  rw [g, show n - 1 + 1 = n by omega] at j1 j2
  exact ⟨j, j1, j2, j3⟩
theorem Pg_all {n : Nat} (hn : 1 ≤ n ∧ n ≤ 6) (y : Int64) : Pg n (eN n) y ↔ inG n y := by
  refine ⟨Pg_in hn (Nat.le_refl _), ?_⟩
  rintro ⟨j, j1, j2, rfl⟩
  have jb := eN_b (n := n + 1) (by omega)
  have e0 : 0 < j := by
    have : ∀ n : Fin 8, 1 ≤ n.val → 0 < eN n.val := by decide
    have : 0 < eN n := this ⟨n, by omega⟩ hn.1
    omega
  obtain ⟨p, q, p1, p2, p3, p4, p5⟩ := Lf_par e0 (show j < 1067 by omega)
  have g : gn j = n + 1 := gn_of (by omega) j1 j2
  have gp : gn p = n := by omega
  have pb := gn_b (i := p) (by omega)
  rw [gp] at pb
  exact ⟨p, q, pb.2.2.1, pb.2.2.2, p3, p4, p5.symm⟩
theorem grown_in {n : Nat} (hn : 1 ≤ n ∧ n ≤ 6) {i : Nat} (h1 : eN (n - 1) ≤ i) (h2 : i < eN n) {A : Nat → Int64} {en : Nat → Int32} {e : Nat} (e1 : en n = nI (eN n)) (e2 : en (n + 1) = nI e) (hr : RWs (eN n) e A (Pg n i)) (hA : ∀ t, t < eN n → A t = Lf t) : ∃ e' A', ca_insertGrown (nI (n + 1)) (A i) A en = some (A', fun k => if k = n + 1 then nI e' else en k) ∧ RWs (eN n) e' A' (Pg n (i + 1)) ∧ ∀ t, t < eN n → A' t = Lf t := by
  have i3 := n_307 hn.2 h2
  have hf := Lf_FIG (i := i) (by omega)
  have gi : gn i = n - 1 + 1 := gn_of (m := n - 1) (by omega) h1 (by rw [show n - 1 + 1 = n by omega]; omega)
  have c12 : cnt (Lf i) < 12 := by rw [Lf_cnt (by omega)]; omega
  have h64 := cnt_le (stL (Lf i))
  have en1 := eN_b (n := n + 1) (by omega)
  have ens := eN_s (n := n) (by omega)
  rw [ca_insertGrown, hA i h2, gr_roomed_eq, bd1_some]
  show ∃ e' A', (bd1 (gr_sites (Lf i) (rmL (Lf i))) fun r_11 => bd1 (jl_bitCount r_11) fun r_13 => fl4 (ca_insertGrown_B24 (nI (n + 1)) (rmL (Lf i)) r_13) FU r_11 0 A en) = _ ∧ _
  rw [gr_sites_eq, bd1_some, jl_bitCount_eq, bd1_some]
  have stG : ∀ m, m < cnt (stL (Lf i)) → ∃ q, q < 81 ∧ PLq (Lf i) q = true ∧ stq (Lf i) m = wtq (Lf i) q := by
    intro m hm
    obtain ⟨s1, s2, s3, s4⟩ := site_at hf hm
    exact ⟨_, s1, s2, s4.symm⟩
  have inn : ∀ m, m ≤ cnt (stL (Lf i)) → ∀ y, (Pg n i y ∨ ∃ q, q < m ∧ y = stq (Lf i) q) → inG n y := by
    rintro m hm y (h | ⟨q, q1, rfl⟩)
    · exact Pg_in hn (by omega) h
    · obtain ⟨q', a, b, c⟩ := stG q (by omega)
      exact Pg_in hn (p := i + 1) (by omega) ⟨i, q', h1, by omega, a, b, c⟩
  refine ivl4 (B := ca_insertGrown_B24 (nI (n + 1)) (rmL (Lf i)) (nI (cnt (stL (Lf i))))) (fun m x y B ee => x = itr (stL (Lf i)) m ∧ y = nI m ∧ (∀ t, t < eN n → B t = Lf t) ∧ ∃ e', ee = (fun k => if k = n + 1 then nI e' else en k) ∧ RWs (eN n) e' B (fun y => Pg n i y ∨ ∃ q, q < m ∧ y = stq (Lf i) q)) (fun o => ∃ e' A', o = some (A', fun k => if k = n + 1 then nI e' else en k) ∧ RWs (eN n) e' A' (Pg n (i + 1)) ∧ ∀ t, t < eN n → A' t = Lf t) (cnt (stL (Lf i))) ?_ ?_ FU 0 _ _ _ _ (by omega) (FU_lt (by omega)) ⟨rfl, rfl, hA, e, ?_, RWs_cong hr (fun y => ⟨Or.inl, fun h => h.elim id (fun ⟨q, h, _⟩ => by omega)⟩)⟩
  · rintro m hm x y B ee K ⟨rfl, rfl, hB, e', rfl, hr'⟩
    have ss := site_settle hf c12 (ith_bt hm)
    have len := RWs_len hr' (inn m (by omega))
    have ge := hr'.2.1
    have xin : inG n (stq (Lf i) m) := inn (m + 1) (by omega) _ (Or.inr ⟨m, by omega, rfl⟩)
    obtain ⟨e2', A2, i1, i2, i3, i4, i5, i6⟩ := ca_insert_eq (n := n + 1) (en := fun k => if k = n + 1 then nI e' else en k) (A := B) (a := eN n) (e := e') (by omega) (by rw [if_neg (by omega), show n + 1 - 1 = n by omega]; exact e1) (if_pos rfl) hr'.1 ge (by omega) (stq (Lf i) m) (fun nm => by have := RWs_room hr' (inn m (by omega)) xin nm; omega)
    have i1' : ca_insert (nI (n + 1)) (wth (Lf i) (((ith (stL (Lf i)) m % 8 : Nat) : Int) - rxI (Lf i)) (((ith (stL (Lf i)) m / 8 : Nat) : Int) - ryI (Lf i))) B (fun k => if k = n + 1 then nI e' else en k) = some (A2, fun k => if k = n + 1 then nI e2' else (if k = n + 1 then nI e' else en k)) := i1
    rw [ca_insertGrown_B24, if_neg (nI_ge hm (by omega)), nm_eq, nm_eq, xor_low, low_sl (ith_low hm), ss, bd1_some, i1', bd2_some, nm_eq, o1]
    refine ⟨_, _, _, _, ⟨rfl, rfl, fun t ht => by rw [i6 t ht]; exact hB t ht, e2', ?_, ?_⟩, rfl⟩
    · funext k
      by_cases q : k = n + 1
      · rw [if_pos q, if_pos q]
      · rw [if_neg q, if_neg q, if_neg q]
    · refine RWs_cong (RWs_ins hr' i2 i3 i4) (fun y => ?_)
      constructor
      · rintro ((h | ⟨q, a, b⟩) | h)
        · exact Or.inl h
        · exact Or.inr ⟨q, by omega, b⟩
        · exact Or.inr ⟨m, by omega, h⟩
      · rintro (h | ⟨q, a, b⟩)
        · exact Or.inl (Or.inl h)
        · rcases Nat.lt_or_ge q m with z | z
          · exact Or.inl (Or.inr ⟨q, z, b⟩)
          · have : q = m := by omega
            subst this; exact Or.inr b
  · rintro x y B ee K ⟨rfl, rfl, hB, e', rfl, hr'⟩
    rw [ca_insertGrown_B24, if_pos (nI_le (Nat.le_refl _) (by omega))]
    refine ⟨e', B, rfl, RWs_cong hr' (fun y => ?_), hB⟩
    constructor
    · rintro (⟨i', q, a, b, c⟩ | ⟨q, a, b⟩)
      · exact ⟨i', q, a, by omega, c⟩
      · obtain ⟨q', c1, c2, c3⟩ := stG q a
        exact ⟨i, q', h1, by omega, c1, c2, b.trans c3⟩
    · rintro ⟨i', q, a, b, c, d, rfl⟩
      rcases Nat.lt_or_ge i' i with z | z
      · exact Or.inl ⟨i', q, a, z, c, d, rfl⟩
      · have : i' = i := by omega
        subst this
        right
        obtain ⟨s, hs, rfl⟩ := PLq_onto hf c d
        obtain ⟨m, m1, m2⟩ := ith_all hs
        refine ⟨m, m1, ?_⟩
        rw [wtq_sgm]
        unfold stq
        rw [m2]
  · funext k
    by_cases q : k = n + 1
    · rw [if_pos q, q, e2]
    · rw [if_neg q]
/-- the lists made up to a size -/
def CL (m : Nat) (nu : Nat → Int64) (os fr en : Nat → Int32) : Prop := (∀ i, i < eN m → nu i = Lf i) ∧ (∀ i, i < eN m → l1B i = true → os (rk 1 i) = nI i) ∧ (∀ i, i < eN m → l2B i = true → fr (rk 2 i) = nI i) ∧ ∀ k n, k ≤ 2 → n ≤ m → en (8 * k + n) = nI (eK k n)
theorem eK0 (n : Nat) : eK 0 n = eN n := rk0 _
theorem makeFixed_eq {m : Nat} (hm : m < 7) {nu : Nat → Int64} {os fr en : Nat → Int32} (h : CL m nu os fr en) : ∃ nu', ca_makeFixed (nI (m + 1)) nu en = some (nu', fun k => if k = m + 1 then nI (eN (m + 1)) else en k) ∧ ∀ i, i < eN (m + 1) → nu' i = Lf i := by
  obtain ⟨h1, h2, h3, h4⟩ := h
  have em : en m = nI (eN m) := by have := h4 0 m (by omega) (Nat.le_refl _); rw [eK0] at this; rw [← this]; congr 1; omega
  have b1 := eN_b (n := m + 1) (by omega)
  have es := eN_s hm
  rw [ca_makeFixed, nm_eq, nI_m1 (by omega), show m + 1 - 1 = m by omega, ck_n (show m < 24 by omega) (by omega), nm_eq, cl_n (show m < 2 ^ 31 by omega), em, ck_n (show m + 1 < 24 by omega) (by omega), nm_eq, cl_n (show m + 1 < 2 ^ 31 by omega), upd_fun (P := True) (α := Nat)]
  rcases Nat.eq_zero_or_pos m with z | z
  · subst z
    rw [if_pos (show nI (0 + 1) = (1 : Int32) from rfl)]
    obtain ⟨e', A', i1, i2, i3, i4, i5, i6⟩ := ca_insert_eq (n := 1) (en := fun k => if k = 0 + 1 then nI (eN 0) else en k) (A := nu) (a := 0) (e := 0) (by omega) (by rw [if_neg (by omega)]; exact em) (if_pos rfl) (fun i j _ _ h => by omega) (Nat.le_refl _) (by omega) 1 (fun _ => by omega)
    have L0 : Lf 0 = 1 := by unfold Lf; decide +kernel
    have fl := RWs_full (n := 0) (P := inG 0) (by omega) (a := 0) (e := e') (A := A') ⟨i2, i4, fun y => by
      rw [i3 y]
      constructor
      · rintro (⟨i, a, b, _⟩ | h)
        · omega
        · exact ⟨0, by decide, by decide, by rw [L0]; exact h⟩
      · rintro ⟨j, a, b, c⟩
        have b' : j < 1 := b
        have : j = 0 := by omega
        subst this
        right; rw [c, L0]⟩ (fun y => Iff.rfl)
    have i1' : ca_insert 1 1 nu (fun k => if k = 0 + 1 then nI (eN 0) else en k) = _ := i1
    rw [i1', bd2_some]
    refine ⟨A', ?_, fun i hi => ?_⟩
    · congr 2
      funext k
      by_cases q : k = 1
      · rw [if_pos q, if_pos q]
        have := fl.1
        have e1 : e' = 1 := by
          have t : e' - 0 = 1 - 0 := this
          omega
        rw [e1]; rfl
      · rw [if_neg q, if_neg q, if_neg q]
    · have hi' : i < 1 := hi
      have := fl.2 i (by show i < 1 - 0; omega)
      rw [Nat.zero_add] at this
      rw [this]
      show Lf (0 + i) = Lf i
      rw [Nat.zero_add]
  · have em1 : en (m - 1) = nI (eN (m - 1)) := by have := h4 0 (m - 1) (by omega) (by omega); rw [eK0] at this; rw [← this]; congr 1; omega
    have bm := eN_b (n := m) (by omega)
    have bm1 := eN_s (n := m - 1) (by omega)
    rw [show m - 1 + 1 = m by omega] at bm1
    rw [if_neg (show ¬ nI (m + 1) = (1 : Int32) from fun c => by have := (nI_eq (a := m + 1) (b := 1) (by omega) (by omega)).mp c; omega), nm_eq, show (nI (m + 1) - 2 : Int32) = nI (m - 1) by rw [show (2 : Int32) = nI 2 from rfl, pk_sub (by omega)]; congr 1, ck_n (show m - 1 < 24 by omega) (by omega), nm_eq, cl_n (show m - 1 < 2 ^ 31 by omega), show (fun k => if k = m + 1 then nI (eN m) else en k) (m - 1) = nI (eN (m - 1)) from (show (if m - 1 = m + 1 then nI (eN m) else en (m - 1)) = nI (eN (m - 1)) by rw [if_neg (by omega)]; exact em1)]
    refine ivl3 (B := ca_makeFixed_B35 (nI (m + 1))) (fun t x B ee => x = nI (eN (m - 1) + t) ∧ (∀ i, i < eN m → B i = Lf i) ∧ ∃ e', ee = (fun k => if k = m + 1 then nI e' else en k) ∧ RWs (eN m) e' B (Pg m (eN (m - 1) + t))) (fun o => ∃ nu', o = some (nu', fun k => if k = m + 1 then nI (eN (m + 1)) else en k) ∧ ∀ i, i < eN (m + 1) → nu' i = Lf i) (eN m - eN (m - 1)) ?_ ?_ FU 0 _ _ _ (by omega) (FU_lt (by omega)) ⟨rfl, h1, eN m, rfl, ⟨fun i j _ _ h => by omega, Nat.le_refl _, fun y => ⟨fun ⟨i, a, b, _⟩ => by omega, fun ⟨i, q, a, b, _⟩ => by omega⟩⟩⟩
    · rintro t ht x B ee K ⟨rfl, hB, e', rfl, hr⟩
      rw [ca_makeFixed_B35, nm_eq, nI_m1 (by omega), show m + 1 - 1 = m by omega, ck_n (show m < 24 by omega) (by omega), cl_n (show m < 2 ^ 31 by omega), if_neg (show ¬ m = m + 1 by omega), em, if_neg (nI_ge (show eN (m - 1) + t < eN m by omega) (by omega)), if_neg (show ¬ (1067 : Int32) ≤ nI (eN (m - 1) + t) from nI_ge (a := eN (m - 1) + t) (b := 1067) (by omega) (by omega)), ck_n (show eN (m - 1) + t < 1067 by omega) (by omega), cl_n (show eN (m - 1) + t < 2 ^ 31 by omega)]
      obtain ⟨e2, A2, g1, g2, g3⟩ := grown_in (n := m) (by omega) (i := eN (m - 1) + t) (by omega) (by omega) (A := B) (en := fun k => if k = m + 1 then nI e' else en k) (e := e') (by rw [if_neg (by omega)]; exact em) (if_pos rfl) hr hB
      rw [g1, bd2_some, nm_eq, o1]
      refine ⟨_, _, _, ⟨rfl, g3, e2, ?_, g2⟩, rfl⟩
      funext k
      by_cases q : k = m + 1
      · rw [if_pos q, if_pos q]
      · rw [if_neg q, if_neg q, if_neg q]
    · rintro x B ee K ⟨rfl, hB, e', rfl, hr⟩
      rw [show eN (m - 1) + (eN m - eN (m - 1)) = eN m by omega] at *
      have fl := RWs_full hm hr (Pg_all (n := m) (by omega))
      have ge := hr.2.1
      rw [ca_makeFixed_B35, nm_eq, nI_m1 (by omega), show m + 1 - 1 = m by omega, ck_n (show m < 24 by omega) (by omega), cl_n (show m < 2 ^ 31 by omega), if_neg (show ¬ m = m + 1 by omega), em, if_pos (nI_le (Nat.le_refl _) (by omega))]
      refine ⟨B, by rw [show e' = eN (m + 1) by omega], fun i hi => ?_⟩
      rcases Nat.lt_or_ge i (eN m) with q | q
      · exact hB i q
      · have := fl.2 (i - eN m) (by omega)
        rw [show eN m + (i - eN m) = i by omega] at this
        exact this
theorem ca_end_eq {m : Nat} {nu : Nat → Int64} {os fr en : Nat → Int32} {k n : Nat} (hk : k ≤ 2) (hn : n ≤ 7) (h : en (8 * k + n) = nI (eK k n)) : ca_end (nI n) (nI k) en = some (nI (eK k n)) := by
  have i1 : inr (nI (8 * k + n)) 0 (24 - 1) = true := by
    unfold inr
    rw [Bool.and_eq_true, decide_eq_true_eq, decide_eq_true_eq]
    exact ⟨nI_pos' (by omega), nI_le (a := 8 * k + n) (b := 23) (by omega) (by omega)⟩
  rw [ca_end, nm_eq, show (nI k * 8 + nI n : Int32) = nI (8 * k + n) by rw [show (8 : Int32) = nI 8 from rfl, pk_mul, nI_add, Nat.mul_comm], cf_within_eq, bd1_some, i1, if_neg (by decide), ck_n (show 8 * k + n < 24 by omega) (by omega), cl_n (by omega), h]
theorem sortKinds_eq {m : Nat} (hm : m < 7) {nu : Nat → Int64} {os fr en : Nat → Int32} (h1 : ∀ i, i < eN (m + 1) → nu i = Lf i) (h2 : ∀ i, i < eN m → l1B i = true → os (rk 1 i) = nI i) (h3 : ∀ i, i < eN m → l2B i = true → fr (rk 2 i) = nI i) (h4 : ∀ k n, k ≤ 2 → n ≤ m → en (8 * k + n) = nI (eK k n)) (h5 : en (m + 1) = nI (eN (m + 1))) : ∃ os' fr' en', ca_sortKinds (nI (m + 1)) nu os fr en = some (os', fr', en') ∧ CL (m + 1) nu os' fr' en' := by
  have b1 := eN_b (n := m + 1) (by omega)
  have es := eN_s hm
  have em : en m = nI (eN m) := by have := h4 0 m (by omega) (Nat.le_refl _); rw [eK0] at this; rw [← this]; congr 1; omega
  have e1 : ca_end (nI m) (nI 1) en = some (nI (eK 1 m)) := ca_end_eq (m := m) (nu := nu) (os := os) (fr := fr) (by omega) (by omega) (h4 1 m (by omega) (Nat.le_refl _))
  have e2 : ca_end (nI m) (nI 2) en = some (nI (eK 2 m)) := ca_end_eq (m := m) (nu := nu) (os := os) (fr := fr) (by omega) (by omega) (h4 2 m (by omega) (Nat.le_refl _))
  rw [ca_sortKinds, nI_m1 (by omega), show m + 1 - 1 = m by omega, show (1 : Int32) = nI 1 from rfl, e1, bd1_some, show (2 : Int32) = nI 2 from rfl, e2, bd1_some, nm_eq, ck_n (show m < 24 by omega) (by omega), nm_eq, cl_n (show m < 2 ^ 31 by omega), em]
  refine ivl5 (B := ca_sortKinds_B28 (nI (m + 1)) nu en) (fun t a b c x y => a = nI (rk 1 (eN m + t)) ∧ b = nI (rk 2 (eN m + t)) ∧ c = nI (eN m + t) ∧ (∀ i, i < eN m + t → l1B i = true → x (rk 1 i) = nI i) ∧ ∀ i, i < eN m + t → l2B i = true → y (rk 2 i) = nI i) (fun o => ∃ os' fr' en', o = some (os', fr', en') ∧ CL (m + 1) nu os' fr' en') (eN (m + 1) - eN m) ?_ ?_ FU 0 _ _ _ _ _ (by omega) (FU_lt (by omega)) ⟨rfl, rfl, rfl, h2, h3⟩
  · rintro t ht a b c x y K ⟨rfl, rfl, rfl, hx, hy⟩
    generalize ei : eN m + t = i at *
    have ei2 : eN m + (t + 1) = i + 1 := by omega
    rw [ei2]
    have iN : i < eN (m + 1) := by omega
    have i67 : i < 1067 := by omega
    have r1 := rk1_b (i := i) (by omega)
    have r2 := rk2_b (i := i) (by omega)
    have r1' := rk1_b (i := i + 1) (by omega)
    have r2' := rk2_b (i := i + 1) (by omega)
    have s1 := rk_s 1 i
    have s2 := rk_s 2 i
    have lb1 : lB 1 i = l1B i := rfl
    have lb2 : lB 2 i = l2B i := rfl
    rw [lb1] at s1
    rw [lb2] at s2
    have c24 : ∀ {β : Type} (k : Option β), ck (nI (m + 1)) 24 k = k := fun k => ck_n (show m + 1 < 24 by omega) (by omega) k
    have ci : ∀ {β : Type} (k : Option β), ck (nI i) 1067 k = k := fun k => ck_n i67 (by omega) k
    have skip1 : l1B i = false → ∃ a' b' c' d' e', (a' = nI (rk 1 (i + 1)) ∧ b' = nI (rk 2 (i + 1)) ∧ c' = nI (i + 1) ∧ (∀ i', i' < i + 1 → l1B i' = true → d' (rk 1 i') = nI i') ∧ ∀ i', i' < i + 1 → l2B i' = true → e' (rk 2 i') = nI i') ∧ ca_sortKinds_J111 K nu (nI (m + 1)) (nI (rk 1 i)) (nI (rk 2 i)) (nI i) x y en = K a' b' c' d' e' := by
      intro z
      have z2 : l2B i = false := by
        cases hl : l2B i with
        | false => rfl
        | true => rw [l2_l1 hl] at z; cases z
      rw [z, if_neg (by decide)] at s1
      rw [z2, if_neg (by decide)] at s2
      rw [ca_sortKinds_J111, nm_eq, o1]
      refine ⟨_, _, _, _, _, ⟨by rw [s1]; rfl, by rw [s2]; rfl, rfl, fun i' hi' hl => ?_, fun i' hi' hl => ?_⟩, rfl⟩
      · rcases Nat.lt_or_ge i' i with q | q
        · exact hx i' q hl
        · have : i' = i := by omega
          rw [this, z] at hl; cases hl
      · rcases Nat.lt_or_ge i' i with q | q
        · exact hy i' q hl
        · have : i' = i := by omega
          rw [this, z2] at hl; cases hl
    rw [ca_sortKinds_B28, c24, cl_n (show m + 1 < 2 ^ 31 by omega), h5, if_neg (nI_ge iN (by omega)), if_neg (show ¬ (1067 : Int32) ≤ nI i from nI_ge (a := i) (b := 1067) i67 (by omega))]
    by_cases q285 : 285 ≤ rk 1 i
    · rw [if_pos (show (285 : Int32) ≤ nI (rk 1 i) from nI_le (a := 285) (b := rk 1 i) q285 (by omega))]
      apply skip1
      cases hl : l1B i with
      | false => rfl
      | true => rw [hl, if_pos rfl] at s1; omega
    · rw [if_neg (show ¬ (285 : Int32) ≤ nI (rk 1 i) from nI_ge (a := rk 1 i) (b := 285) (by omega) (by omega)), ci, cl_n (show i < 2 ^ 31 by omega), h1 i iN, (isLeast_Lf i67).1, bd1_some]
      cases hl : l1B i with
      | false => rw [if_pos (by decide)]; exact skip1 hl
      | true =>
        rw [hl, if_pos rfl] at s1
        have hx' : ∀ i', i' < i + 1 → l1B i' = true → upd x (rk 1 i) (nI i) (rk 1 i') = nI i' := by
          intro i' hi' hl'
          rcases Nat.lt_or_ge i' i with q | q
          · have : rk 1 i' < rk 1 i := by
              have a1 := rk_s 1 i'
              rw [show lB 1 i' = l1B i' from rfl, hl', if_pos rfl] at a1
              have a2 := rk_le (k := 1) (show i' + 1 ≤ i from q)
              omega
            rw [pk_un (by omega)]; exact hx i' q hl'
          · have : i' = i := by omega
            rw [this, pk_us]
        rw [if_neg (by decide), ck_n (show rk 1 i < 285 by omega) (by omega), nm_eq, nm_eq, cl_n (show rk 1 i < 2 ^ 31 by omega), o1]
        have skip2 : l2B i = false → ∃ a' b' c' d' e', (a' = nI (rk 1 (i + 1)) ∧ b' = nI (rk 2 (i + 1)) ∧ c' = nI (i + 1) ∧ (∀ i', i' < i + 1 → l1B i' = true → d' (rk 1 i') = nI i') ∧ ∀ i', i' < i + 1 → l2B i' = true → e' (rk 2 i') = nI i') ∧ ca_sortKinds_J111 K nu (nI (m + 1)) (nI (rk 1 i + 1)) (nI (rk 2 i)) (nI i) (upd x (rk 1 i) (nI i)) y en = K a' b' c' d' e' := by
          intro z2
          rw [z2, if_neg (by decide)] at s2
          rw [ca_sortKinds_J111, nm_eq, o1]
          refine ⟨_, _, _, _, _, ⟨by rw [s1], by rw [s2]; rfl, rfl, hx', fun i' hi' hl' => ?_⟩, rfl⟩
          rcases Nat.lt_or_ge i' i with q | q
          · exact hy i' q hl'
          · have : i' = i := by omega
            rw [this, z2] at hl'; cases hl'
        by_cases q164 : 164 ≤ rk 2 i
        · rw [if_pos (show (164 : Int32) ≤ nI (rk 2 i) from nI_le (a := 164) (b := rk 2 i) q164 (by omega))]
          apply skip2
          cases hl2 : l2B i with
          | false => rfl
          | true => rw [hl2, if_pos rfl] at s2; omega
        · rw [if_neg (show ¬ (164 : Int32) ≤ nI (rk 2 i) from nI_ge (a := rk 2 i) (b := 164) (by omega) (by omega)), ci, (isLeast_Lf i67).2, bd1_some]
          cases hl2 : l2B i with
          | false => rw [if_pos (by decide)]; exact skip2 hl2
          | true =>
            rw [hl2, if_pos rfl] at s2
            rw [if_neg (by decide), ck_n (show rk 2 i < 164 by omega) (by omega), nm_eq, nm_eq, cl_n (show rk 2 i < 2 ^ 31 by omega), o1, ca_sortKinds_J111, nm_eq, o1]
            refine ⟨_, _, _, _, _, ⟨by rw [s1], by rw [s2], rfl, hx', fun i' hi' hl' => ?_⟩, rfl⟩
            rcases Nat.lt_or_ge i' i with q | q
            · have : rk 2 i' < rk 2 i := by
                have a1 := rk_s 2 i'
                rw [show lB 2 i' = l2B i' from rfl, hl', if_pos rfl] at a1
                have a2 := rk_le (k := 2) (show i' + 1 ≤ i from q)
                omega
              rw [pk_un (by omega)]; exact hy i' q hl'
            · have : i' = i := by omega
              rw [this, pk_us]
  · rintro a b c x y K ⟨rfl, rfl, rfl, hx, hy⟩
    rw [show eN m + (eN (m + 1) - eN m) = eN (m + 1) by omega] at *
    rw [ca_sortKinds_B28, ck_n (show m + 1 < 24 by omega) (by omega), cl_n (show m + 1 < 2 ^ 31 by omega), h5, if_pos (nI_le (Nat.le_refl _) (by omega)), ca_sortKinds_J117, nm_eq, show (8 + nI (m + 1) : Int32) = nI (8 + (m + 1)) by rw [show (8 : Int32) = nI 8 from rfl, nI_add], ck_n (show 8 + (m + 1) < 24 by omega) (by omega), nm_eq, cl_n (show 8 + (m + 1) < 2 ^ 31 by omega), nm_eq, show (16 + nI (m + 1) : Int32) = nI (16 + (m + 1)) by rw [show (16 : Int32) = nI 16 from rfl, nI_add], ck_n (show 16 + (m + 1) < 24 by omega) (by omega), nm_eq, cl_n (show 16 + (m + 1) < 2 ^ 31 by omega)]
    refine ⟨_, _, _, rfl, h1, hx, hy, fun k n hk hn => ?_⟩
    match k, hk with
    | 0, _ =>
      rw [show 8 * 0 + n = n by omega, pk_un (by omega), pk_un (by omega), eK0]
      rcases Nat.lt_or_ge n (m + 1) with q | q
      · have := h4 0 n (by omega) (by omega)
        rw [show 8 * 0 + n = n by omega, eK0] at this
        exact this
      · have : n = m + 1 := by omega
        rw [this]; exact h5
    | 1, _ =>
      rw [pk_un (by omega)]
      rcases Nat.lt_or_ge n (m + 1) with q | q
      · rw [pk_un (by omega)]; exact h4 1 n (by omega) (by omega)
      · have : n = m + 1 := by omega
        rw [this, show 8 * 1 + (m + 1) = 8 + (m + 1) by omega, pk_us]; rfl
    | 2, _ =>
      rcases Nat.lt_or_ge n (m + 1) with q | q
      · rw [pk_un (by omega), pk_un (by omega)]; exact h4 2 n (by omega) (by omega)
      · have : n = m + 1 := by omega
        rw [this, show 8 * 2 + (m + 1) = 16 + (m + 1) by omega, pk_us]; rfl
    | k + 3, h => omega
theorem ivl6 {α β γ δ ε ζ ρ : Type} {B : (α → β → γ → δ → ε → ζ → Option ρ) → α → β → γ → δ → ε → ζ → Option ρ} (P : Nat → α → β → γ → δ → ε → ζ → Prop) (Q : Option ρ → Prop) (N : Nat) (hs : ∀ i, i < N → ∀ a b c d e f k, P i a b c d e f → ∃ a' b' c' d' e' f', P (i + 1) a' b' c' d' e' f' ∧ B k a b c d e f = k a' b' c' d' e' f') (he : ∀ a b c d e f k, P N a b c d e f → Q (B k a b c d e f)) : ∀ (n i : Nat) (a : α) (b : β) (c : γ) (d : δ) (e : ε) (f : ζ), i ≤ N → N - i < n → P i a b c d e f → Q (fl6 B n a b c d e f) := by
  intro n
  induction n with
  | zero => intro i a b c d e f _ h; omega
  | succ n ih =>
    intro i a b c d e f hi hn hp
    show Q (B (fl6 B n) a b c d e f)
    rcases Nat.lt_or_ge i N with q | q
    · obtain ⟨a', b', c', d', e', f', h1, h2⟩ := hs i q a b c d e f (fl6 B n) hp
      rw [h2]; exact ih (i + 1) a' b' c' d' e' f' q (by omega) h1
    · have e : i = N := by omega
      subst e; exact he a b c d _ _ _ hp
def CLs (x : Int32) (nu : Nat → Int64) (os fr en : Nat → Int32) : Prop := ∃ m, m ≤ 7 ∧ x = nI m ∧ CL m nu os fr en
theorem prepare_eq {x : Int32} {nu : Nat → Int64} {os fr en : Nat → Int32} (h : CLs x nu os fr en) {n : Nat} (hn : n ≤ 7) : ∃ m nu' os' fr' en', n ≤ m ∧ m ≤ 7 ∧ ca_prepare (nI n) x nu os fr en = some (nI m, nu', os', fr', en') ∧ CL m nu' os' fr' en' := by
  obtain ⟨m, hm, rfl, hc⟩ := h
  rw [ca_prepare, nm_eq, nI_1]
  refine ivl6 (B := ca_prepare_B7 (nI n)) (fun t a b nu os fr en => a = nI (m + t + 1) ∧ b = nI (m + t) ∧ CL (m + t) nu os fr en) (fun o => ∃ m nu' os' fr' en', n ≤ m ∧ m ≤ 7 ∧ o = some (nI m, nu', os', fr', en') ∧ CL m nu' os' fr' en') (n - m) ?_ ?_ FU 0 _ _ _ _ _ _ (by omega) (FU_lt (by omega)) ⟨rfl, rfl, hc⟩
  · rintro t ht a b nu os fr en K ⟨rfl, rfl, hc⟩
    obtain ⟨nu', f1, f2⟩ := makeFixed_eq (m := m + t) (by omega) hc
    obtain ⟨os', fr', en', s1, s2⟩ := sortKinds_eq (m := m + t) (by omega) (nu := nu') (os := os) (fr := fr) (en := fun k => if k = m + t + 1 then nI (eN (m + t + 1)) else en k) f2 hc.2.1 hc.2.2.1 (fun k n hk hn => by
      rw [if_neg (show ¬ 8 * k + n = m + t + 1 by
        intro e
        have : k = 0 := by omega
        subst this
        omega)]
      exact hc.2.2.2 k n hk hn) (if_pos rfl)
    rw [ca_prepare_B7, if_neg (nI_nlt (by omega) (by omega)), if_neg (show ¬ (8 : Int32) ≤ nI (m + t + 1) from nI_ge (a := m + t + 1) (b := 8) (by omega) (by omega)), f1, bd2_some, s1, bd3_some, nm_eq, o1]
    exact ⟨_, _, _, _, _, _, ⟨rfl, rfl, s2⟩, rfl⟩
  · rintro a b nu os fr en K ⟨rfl, rfl, hc⟩
    rw [ca_prepare_B7, if_pos (nI_lt (by omega) (by omega))]
    exact ⟨m + (n - m), _, _, _, _, by omega, by omega, rfl, hc⟩
