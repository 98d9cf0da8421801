/-! LAYER 2: the reference's holes -/
def adj9 (a b : Nat) : Prop := (a / 9 = b / 9 ∧ (a % 9 + 1 = b % 9 ∨ b % 9 + 1 = a % 9)) ∨ (a % 9 = b % 9 ∧ (a / 9 + 1 = b / 9 ∨ b / 9 + 1 = a / 9))
abbrev Fr (f : Int64) (p : Nat) : Prop := p < 81 ∧ hB f (((p % 9 : Nat) : Int) - 1) (((p / 9 : Nat) : Int) - 1) = false
def Cn (f : Int64) (k p : Nat) : Prop := Fr f k ∧ Fr f p ∧ ∀ T : Nat → Prop, T k → (∀ a b, Fr f a → Fr f b → adj9 a b → T a → T b) → T p
theorem adj9_symm {a b : Nat} (h : adj9 a b) : adj9 b a := by unfold adj9 at h ⊢; omega
theorem Cn_refl {f : Int64} {k : Nat} (h : Fr f k) : Cn f k k := ⟨h, h, fun _ t _ => t⟩
theorem Cn_step {f : Int64} {k p q : Nat} (h : Cn f k p) (hq : Fr f q) (ha : adj9 p q) : Cn f k q := ⟨h.1, hq, fun T t0 t => t p q h.2.1 hq ha (h.2.2 T t0 t)⟩
theorem Cn_trans {f : Int64} {k p q : Nat} (h : Cn f k p) (h2 : Cn f p q) : Cn f k q := ⟨h.1, h2.2.1, fun T t0 t => h2.2.2 T (h.2.2 T t0 t) t⟩
theorem Cn_symm {f : Int64} {k p : Nat} (h : Cn f k p) : Cn f p k := h.2.2 (fun x => Cn f x k) (Cn_refl h.1) (fun _ _ ha hb hab hak => Cn_trans (Cn_step (Cn_refl hb) ha (adj9_symm hab)) hak)
theorem inr_i {z lo hi : Int} (hz : -1000 < z ∧ z < 1000) (hl : -1000 < lo ∧ lo < 1000) (hh : -1000 < hi ∧ hi < 1000) : inr (Int32.ofInt z) (Int32.ofInt lo) (Int32.ofInt hi) = decide (lo ≤ z ∧ z ≤ hi) := by
  unfold inr
  rw [← Bool.decide_and]
  congr 1
  rw [Int32.le_iff_toInt_le, Int32.le_iff_toInt_le, fb_ofI (by omega) (by omega), fb_ofI (by omega) (by omega), fb_ofI (by omega) (by omega)]
theorem comes_out (f : Int64) {x y : Int} (hx : -10 < x ∧ x < 20) (hy : -10 < y ∧ y < 20) (h : ¬ (0 ≤ x ∧ x ≤ 8 ∧ 0 ≤ y ∧ y ≤ 8)) (b g : Int32) (fl go : Nat → Int32) : mo_comes f (Int32.ofInt x) (Int32.ofInt y) b g fl go = some (g, fl, go) := by
  unfold mo_comes
  rw [mo_in_eq, bd1_some, mo_in_eq, show (0 : Int32) = Int32.ofInt 0 from rfl, show (8 : Int32) = Int32.ofInt 8 from rfl, inr_i (by omega) (by omega) (by omega), inr_i (by omega) (by omega) (by omega)]
  by_cases q : 0 ≤ x ∧ x ≤ 8
  · rw [decide_eq_true q, decide_eq_false (show ¬ (0 ≤ y ∧ y ≤ 8) by omega)]; rfl
  · rw [decide_eq_false q]; rfl
theorem comes_in (f : Int64) {X Y : Nat} (hx : X ≤ 8) (hy : Y ≤ 8) (b : Int32) {g : Nat} (hg : g ≤ 81) (fl go : Nat → Int32) : mo_comes f (nI X) (nI Y) b (nI g) fl go = if fl (9 * Y + X) = -1 ∧ Fr f (9 * Y + X) then ck (nI g) 81 (some (nI (g + 1), upd fl (9 * Y + X) b, upd go g (nI (9 * Y + X)))) else some (nI g, fl, go) := by
  unfold mo_comes
  have e9 : (9 * nI Y + nI X : Int32) = nI (9 * Y + X) := by rw [show (9 : Int32) = nI 9 from rfl, pk_mul, nI_add]
  have i1 : inr (nI X) 0 8 = true := by
    have := inr_i (z := X) (lo := 0) (hi := 8) (by omega) (by omega) (by omega)
    rw [decide_eq_true (by omega)] at this; exact this
  have i2 : inr (nI Y) 0 8 = true := by
    have := inr_i (z := Y) (lo := 0) (hi := 8) (by omega) (by omega) (by omega)
    rw [decide_eq_true (by omega)] at this; exact this
  have c := mo_isCell_i f (x := (X : Int) - 1) (y := (Y : Int) - 1) (by omega) (by omega)
  rw [← iO, ← iO, ← nI_iI, ← nI_iI] at c
  have eF : Fr f (9 * Y + X) ↔ hB f ((X : Int) - 1) ((Y : Int) - 1) = false := by
    unfold Fr
    rw [show (9 * Y + X) % 9 = X by omega, show (9 * Y + X) / 9 = Y by omega]
    exact ⟨fun h => h.2, fun h => ⟨by omega, h⟩⟩
  simp only [mo_in_eq, i1, i2, bd1_some, bt0, if_false, nm_eq, e9, ck_n (show 9 * Y + X < 81 by omega) (show 81 < 2 ^ 31 by omega), cl_n (show 9 * Y + X < 2 ^ 31 by omega), cl_n (show g < 2 ^ 31 by omega), c, nI_1]
  by_cases q : fl (9 * Y + X) = -1
  · rw [if_pos q]
    cases hb : hB f ((X : Int) - 1) ((Y : Int) - 1) with
    | false => rw [if_pos (by decide), if_pos ⟨q, eF.mpr hb⟩]
    | true => rw [if_neg (by decide), if_neg (fun h => by have := eF.mp h.2; rw [hb] at this; cases this)]
  · rw [if_neg q, if_neg (fun h => q h.1)]
def BQ (f : Int64) (k : Nat) (b : Int32) (fl0 : Nat → Int32) (g i : Nat) (fl go : Nat → Int32) : Prop :=
  i ≤ g ∧ (∀ m, m < g → ∃ p, p < 81 ∧ go m = nI p ∧ fl0 p = -1 ∧ fl p = b ∧ Cn f k p) ∧ (∀ a c, a < c → c < g → go a ≠ go c) ∧ (∀ p, p < 81 → fl p = fl0 p ∨ ∃ m, m < g ∧ go m = nI p) ∧ (∀ m, m < i → ∀ p q, p < 81 → go m = nI p → Fr f q → adj9 p q → fl q ≠ -1)
theorem BQ_le {f : Int64} {k : Nat} {b : Int32} {fl0 fl go : Nat → Int32} {g i : Nat} (h : BQ f k b fl0 g i fl go) : g ≤ 81 := by
  obtain ⟨_, h1, h2, _, _⟩ := h
  refine fb_holes 81 g (fun m => (go m).toNatClampNeg) (fun m hm => ?_) (fun a c hac hc e => ?_)
  · obtain ⟨p, hp, e, _⟩ := h1 m hm
    show (go m).toNatClampNeg < 81
    rw [e, cl_n (by omega)]; exact hp
  · obtain ⟨p, hp, e1, _⟩ := h1 a (by omega)
    obtain ⟨q, hq, e2, _⟩ := h1 c hc
    have e' : (go a).toNatClampNeg = (go c).toNatClampNeg := e
    rw [e1, e2, cl_n (by omega), cl_n (by omega)] at e'
    exact h2 a c hac hc (by rw [e1, e2, e'])
theorem BQ_comes {f : Int64} {k : Nat} {b : Int32} {fl0 fl go : Nat → Int32} {g i : Nat} (hb : b ≠ -1) (h : BQ f k b fl0 g i fl go) {x y : Int} (hx : -10 < x ∧ x < 20) (hy : -10 < y ∧ y < 20) (hk : ∀ X Y : Nat, x = X → y = Y → X ≤ 8 → Y ≤ 8 → Fr f (9 * Y + X) → Cn f k (9 * Y + X)) : ∃ g' fl' go', mo_comes f (Int32.ofInt x) (Int32.ofInt y) b (nI g) fl go = some (nI g', fl', go') ∧ BQ f k b fl0 g' i fl' go' ∧ (∀ X Y : Nat, x = X → y = Y → X ≤ 8 → Y ≤ 8 → Fr f (9 * Y + X) → fl' (9 * Y + X) ≠ -1) ∧ (∀ p, fl p ≠ -1 → fl' p ≠ -1) ∧ g ≤ g' ∧ ∀ m, m < g → go' m = go m := by
  have hg := BQ_le h
  by_cases q : 0 ≤ x ∧ x ≤ 8 ∧ 0 ≤ y ∧ y ≤ 8
  · obtain ⟨X, rfl⟩ : ∃ X : Nat, x = X := ⟨x.toNat, by omega⟩
    obtain ⟨Y, rfl⟩ : ∃ Y : Nat, y = Y := ⟨y.toNat, by omega⟩
    have hX : X ≤ 8 := by omega
    have hY : Y ≤ 8 := by omega
    rw [← nI_iI, ← nI_iI, comes_in f hX hY b hg]
    by_cases c : fl (9 * Y + X) = -1 ∧ Fr f (9 * Y + X)
    · rw [if_pos c]
      have hC := hk X Y rfl rfl hX hY c.2
      obtain ⟨h0, h1, h2, h3, h4⟩ := h
      have hnot : ∀ m, m < g → go m ≠ nI (9 * Y + X) := fun m hm e => by
        obtain ⟨p, hp, e1, _, e2, _⟩ := h1 m hm
        rw [e1] at e
        have := (nI_eq (by omega) (by omega)).mp e
        subst this
        rw [c.1] at e2; exact hb e2.symm
      have hfl0 : fl0 (9 * Y + X) = -1 := by
        rcases h3 _ c.2.1 with q1 | ⟨m, hm, e⟩
        · rw [← q1]; exact c.1
        · exact absurd e (hnot m hm)
      have hB : BQ f k b fl0 (g + 1) i (upd fl (9 * Y + X) b) (upd go g (nI (9 * Y + X))) := by
        refine ⟨by omega, fun m hm => ?_, fun a d had hd => ?_, fun p hp => ?_, fun m hm p r hp e hr ha => ?_⟩
        · rcases Nat.lt_or_ge m g with q2 | q2
          · obtain ⟨p, hp, e1, e2, e3, e4⟩ := h1 m q2
            refine ⟨p, hp, by rw [upI, if_neg (by omega)]; exact e1, e2, ?_, e4⟩
            rw [upI]; split
            · rfl
            · exact e3
          · refine ⟨9 * Y + X, c.2.1, by rw [upI, if_pos (by omega)], hfl0, by rw [upI, if_pos rfl], hC⟩
        · rw [upI, if_neg (by omega), upI]
          split
          · exact hnot a (by omega)
          · exact h2 a d had (by omega)
        · by_cases e : p = 9 * Y + X
          · exact Or.inr ⟨g, by omega, by rw [upI, if_pos rfl, e]⟩
          · rcases h3 p hp with q1 | ⟨m, hm, e1⟩
            · exact Or.inl (by rw [upI, if_neg e]; exact q1)
            · exact Or.inr ⟨m, by omega, by rw [upI, if_neg (by omega)]; exact e1⟩
        · rw [upI, if_neg (by omega)] at e
          rw [upI]
          split
          · exact hb
          · exact h4 m hm p r hp e hr ha
      have hg1 := BQ_le hB
      rw [ck_n (by omega) (by omega)]
      refine ⟨g + 1, _, _, rfl, hB, fun X' Y' e1 e2 _ _ _ => ?_, fun p hp => ?_, by omega, fun m hm => by rw [upI, if_neg (by omega)]⟩
      · rw [show X' = X by omega, show Y' = Y by omega, upI, if_pos rfl]; exact hb
      · rw [upI]; split
        · exact hb
        · exact hp
    · rw [if_neg c]
      refine ⟨g, fl, go, rfl, h, fun X' Y' e1 e2 _ _ hF e => c ?_, fun _ hp => hp, Nat.le_refl _, fun _ _ => rfl⟩
      rw [show X' = X by omega, show Y' = Y by omega] at e hF
      exact ⟨e, hF⟩
  · rw [comes_out f hx hy q]
    exact ⟨g, fl, go, rfl, h, fun X' Y' e1 e2 a1 a2 _ => absurd (by omega) q, fun _ hp => hp, Nat.le_refl _, fun _ _ => rfl⟩
theorem rem9 : ∀ p : Fin 81, remI (nI p.val) 9 = nI (p.val % 9) := by decide +kernel
theorem div9 : ∀ p : Fin 81, nI p.val / 9 = nI (p.val / 9) := by decide +kernel
theorem bfs_go {f : Int64} {k c : Nat} {fl0 : Nat → Int32} (hb : nI c ≠ -1) (kk : Int32) (K : Int32 → Int32 → Int32 → (Nat → Int32) → (Nat → Int32) → Option (Int32 × Int32 × (Nat → Int32) × (Nat → Int32))) : ∀ (n i g : Nat) (fl go : Nat → Int32), BQ f k (nI c) fl0 g i fl go → 81 - i < n → ∃ g' fl' go', fl4 (mo_laysHoles_B67 f (nI c) kk K) n (nI i) (nI g) fl go = mo_laysHoles_J158 K f (nI (c + 1)) kk (nI g') fl' go' ∧ BQ f k (nI c) fl0 g' g' fl' go' ∧ g ≤ g' ∧ ∀ m, m < g → go' m = go m := by
  intro n
  induction n with
  | zero => intro i g fl go _ h; omega
  | succ n ih =>
    intro i g fl go h hn
    have hg := BQ_le h
    have hi := h.1
    show ∃ g' fl' go', mo_laysHoles_B67 f (nI c) kk K (fl4 (mo_laysHoles_B67 f (nI c) kk K) n) (nI i) (nI g) fl go = _ ∧ _
    rw [mo_laysHoles_B67]
    by_cases q : i = g
    · subst q
      rw [if_pos (nI_le (Nat.le_refl _) (by omega)), nm_eq, nI_1]
      exact ⟨i, fl, go, rfl, h, Nat.le_refl _, fun _ _ => rfl⟩
    · rw [if_neg (nI_ge (by omega) (by omega))]
      obtain ⟨p, hp, e1, _, e3, hC⟩ := h.2.1 i (by omega)
      simp only [ck_n (show i < 81 by omega) (show 81 < 2 ^ 31 by omega), dzI_n (show ¬ (9 : Int32) = 0 by decide), cl_n (show i < 2 ^ 31 by omega), e1, rem9 ⟨p, hp⟩, div9 ⟨p, hp⟩, nm_eq]
      have key : ∀ X Y : Nat, X ≤ 8 → Y ≤ 8 → adj9 p (9 * Y + X) → Fr f (9 * Y + X) → Cn f k (9 * Y + X) := fun X Y _ _ ha hF => Cn_step hC hF ha
      obtain ⟨g1, fl1, go1, s1, B1, v1, m1, l1, r1⟩ := BQ_comes (x := ((p % 9 : Nat) : Int) + 1) (y := ((p / 9 : Nat) : Int)) hb h (by omega) (by omega) (fun X Y a1 a2 a3 a4 => key X Y a3 a4 (by unfold adj9; omega))
      rw [← iP, ← nI_iI, ← nI_iI] at s1
      rw [s1]
      obtain ⟨g2, fl2', go2, s2, B2, v2, m2, l2, r2⟩ := BQ_comes (x := ((p % 9 : Nat) : Int) - 1) (y := ((p / 9 : Nat) : Int)) hb B1 (by omega) (by omega) (fun X Y a1 a2 a3 a4 => key X Y a3 a4 (by unfold adj9; omega))
      rw [← iO, ← nI_iI, ← nI_iI] at s2
      show ∃ g' fl' go', bd3 (mo_comes f (nI (p % 9) - 1) (nI (p / 9)) (nI c) (nI g1) fl1 go1) _ = _ ∧ _
      rw [s2]
      obtain ⟨g3, fl3', go3, s3, B3, v3, m3, l3, r3⟩ := BQ_comes (x := ((p % 9 : Nat) : Int)) (y := ((p / 9 : Nat) : Int) + 1) hb B2 (by omega) (by omega) (fun X Y a1 a2 a3 a4 => key X Y a3 a4 (by unfold adj9; omega))
      rw [← iP, ← nI_iI, ← nI_iI] at s3
      show ∃ g' fl' go', bd3 (mo_comes f (nI (p % 9)) (nI (p / 9) + 1) (nI c) (nI g2) fl2' go2) _ = _ ∧ _
      rw [s3]
      obtain ⟨g4, fl4', go4, s4, B4, v4, m4, l4, r4⟩ := BQ_comes (x := ((p % 9 : Nat) : Int)) (y := ((p / 9 : Nat) : Int) - 1) hb B3 (by omega) (by omega) (fun X Y a1 a2 a3 a4 => key X Y a3 a4 (by unfold adj9; omega))
      rw [← iO, ← nI_iI, ← nI_iI] at s4
      show ∃ g' fl' go', bd3 (mo_comes f (nI (p % 9)) (nI (p / 9) - 1) (nI c) (nI g3) fl3' go3) _ = _ ∧ _
      rw [s4]
      show ∃ g' fl' go', nm (nI i + Int32.ofInt 1) (fun v => fl4 (mo_laysHoles_B67 f (nI c) kk K) n v (nI g4) fl4' go4) = _ ∧ _
      rw [nm_eq, o1]
      have B5 : BQ f k (nI c) fl0 g4 (i + 1) fl4' go4 := by
        obtain ⟨b0, b1, b2, b3, b4⟩ := B4
        refine ⟨by omega, b1, b2, b3, fun m hm p' r hp' e hr ha => ?_⟩
        rcases Nat.lt_or_ge m i with q2 | q2
        · exact b4 m q2 p' r hp' e hr ha
        · have em : m = i := by omega
          subst em
          have e5 : go4 m = go m := by rw [r4 m (by omega), r3 m (by omega), r2 m (by omega), r1 m (by omega)]
          rw [e5, e1] at e
          have e6 := (nI_eq (by omega) (by omega)).mp e
          subst e6
          have hr81 := hr.1
          have er : 9 * (r / 9) + r % 9 = r := by omega
          unfold adj9 at ha
          rcases ha with ⟨a1, a2 | a2⟩ | ⟨a1, a2 | a2⟩
          · have := v1 (r % 9) (r / 9) (by omega) (by omega) (by omega) (by omega) (by rw [er]; exact hr)
            rw [er] at this
            exact m4 _ (m3 _ (m2 _ this))
          · have := v2 (r % 9) (r / 9) (by omega) (by omega) (by omega) (by omega) (by rw [er]; exact hr)
            rw [er] at this
            exact m4 _ (m3 _ this)
          · have := v3 (r % 9) (r / 9) (by omega) (by omega) (by omega) (by omega) (by rw [er]; exact hr)
            rw [er] at this
            exact m4 _ this
          · have := v4 (r % 9) (r / 9) (by omega) (by omega) (by omega) (by omega) (by rw [er]; exact hr)
            rw [er] at this
            exact this
      obtain ⟨g', fl', go', t1, t2, t3, t4⟩ := ih (i + 1) g4 fl4' go4 B5 (by omega)
      exact ⟨g', fl', go', t1, t2, by omega, fun m hm => by rw [t4 m (by omega), r4 m (by omega), r3 m (by omega), r2 m (by omega), r1 m (by omega)]⟩
noncomputable def mn9 (f : Int64) (p : Nat) : Bool := @decide (Fr f p ∧ ∀ q, q < p → ¬ Cn f q p) (Classical.propDecidable _)
theorem mn9_t {f : Int64} {p : Nat} : mn9 f p = true ↔ (Fr f p ∧ ∀ q, q < p → ¬ Cn f q p) := by unfold mn9; exact @decide_eq_true_iff _ (Classical.propDecidable _)
def OUT (f : Int64) (kk c : Nat) (fl : Nat → Int32) : Prop :=
  (∀ p, p < 81 → fl p = -1 ∨ ∃ e, e < c ∧ fl p = nI e) ∧ (∀ p, p < 81 → fl p ≠ -1 → Fr f p ∧ ∃ q, q < kk ∧ Cn f q p) ∧ (∀ a b, Fr f a → Fr f b → adj9 a b → fl a ≠ -1 → fl b = fl a) ∧ (∀ p, p < kk → Fr f p → fl p ≠ -1) ∧ c = fb_ct (mn9 f) kk ∧ (∀ p, p < 81 → fl p ≠ -1 → (fl p = 0 ↔ Cn f 0 p))
theorem nI_ne1 {c : Nat} (h : c < 2 ^ 31) : nI c ≠ -1 := fun e => by
  have := congrArg Int32.toInt e
  rw [nI_toInt h] at this
  have h2 : (-1 : Int32).toInt = -1 := by decide
  omega
theorem OUT_old {f : Int64} {kk c : Nat} {fl : Nat → Int32} (h : OUT f kk c fl) (hk : ¬ (fl kk = -1 ∧ Fr f kk)) : OUT f (kk + 1) c fl := by
  obtain ⟨h1, h2, h3, h4, h5, h6⟩ := h
  refine ⟨h1, fun p hp hn => ?_, h3, fun p hp hF => ?_, ?_, h6⟩
  · obtain ⟨a, q, b, d⟩ := h2 p hp hn
    exact ⟨a, q, by omega, d⟩
  · rcases Nat.lt_or_ge p kk with q | q
    · exact h4 p q hF
    · have : p = kk := by omega
      subst this
      exact fun e => hk ⟨e, hF⟩
  · rw [fb_ct_succ, ← h5]
    have : mn9 f kk = false := by
      cases hm : mn9 f kk with
      | false => rfl
      | true =>
        obtain ⟨a, b⟩ := mn9_t.mp hm
        have hne : fl kk ≠ -1 := fun e => hk ⟨e, a⟩
        obtain ⟨_, q, c1, c2⟩ := h2 kk a.1 hne
        exact absurd c2 (b q c1)
    rw [this]; rfl
theorem OUT_new {f : Int64} {kk c : Nat} {fl fl' : Nat → Int32} (h : OUT f kk c fl) (hk : fl kk = -1 ∧ Fr f kk) (hc : c ≤ 81) (n1 : ∀ p, Cn f kk p → fl' p = nI c) (n2 : ∀ p, p < 81 → ¬ Cn f kk p → fl' p = fl p) : OUT f (kk + 1) (c + 1) fl' := by
  obtain ⟨h1, h2, h3, h4, h5, h6⟩ := h
  have hne := nI_ne1 (c := c) (by omega)
  have vis : ∀ q, q < kk → ¬ Cn f q kk := fun q hq hC => by
    exact hC.2.2 (fun x => fl x ≠ -1) (h4 q hq hC.1) (fun a b ha hb hab hx => by rw [h3 a b ha hb hab hx]; exact hx) hk.1
  refine ⟨fun p hp => ?_, fun p hp hn => ?_, fun a b ha hb hab hx => ?_, fun p hp hF => ?_, ?_, fun p hp hn => ?_⟩
  · by_cases q : Cn f kk p
    · exact Or.inr ⟨c, by omega, n1 p q⟩
    · rw [n2 p hp q]
      rcases h1 p hp with q1 | ⟨e, q1, q2⟩
      · exact Or.inl q1
      · exact Or.inr ⟨e, by omega, q2⟩
  · by_cases q : Cn f kk p
    · exact ⟨q.2.1, kk, by omega, q⟩
    · rw [n2 p hp q] at hn
      obtain ⟨a, r, b, d⟩ := h2 p hp hn
      exact ⟨a, r, by omega, d⟩
  · by_cases q : Cn f kk a
    · rw [n1 a q, n1 b (Cn_step q hb hab)]
    · have q2 : ¬ Cn f kk b := fun h => q (Cn_step h ha (adj9_symm hab))
      rw [n2 a ha.1 q] at hx ⊢
      rw [n2 b hb.1 q2]
      exact h3 a b ha hb hab hx
  · by_cases q : Cn f kk p
    · rw [n1 p q]; exact hne
    · rw [n2 p hF.1 q]
      rcases Nat.lt_or_ge p kk with q2 | q2
      · exact h4 p q2 hF
      · have : p = kk := by omega
        subst this
        exact absurd (Cn_refl hF) q
  · rw [fb_ct_succ, ← h5, mn9_t.mpr ⟨hk.2, vis⟩]; rfl
  · by_cases q : Cn f kk p
    · rw [n1 p q]
      have e0 : nI c = 0 ↔ c = 0 := ⟨fun e => (nI_eq (by omega) (by omega)).mp (e.trans nI_0.symm), fun e => by rw [e]; exact nI_0⟩
      rw [e0]
      constructor
      · intro hc0
        rcases Nat.eq_zero_or_pos kk with z | z
        · rw [z] at q; exact q
        · exfalso
          have hF0 : Fr f 0 := ⟨by omega, hB_o f (by omega)⟩
          have h0 : mn9 f 0 = true := mn9_t.mpr ⟨hF0, fun q hq => by omega⟩
          have := fb_ct_pos.mpr ⟨0, z, h0⟩
          omega
      · intro h0
        rcases Nat.eq_zero_or_pos kk with z | z
        · rw [h5, z]; rfl
        · exact absurd (Cn_trans h0 (Cn_symm q)) (vis 0 z)
    · rw [n2 p hp q] at hn ⊢
      exact h6 p hp hn
theorem out_go {f : Int64} : ∀ (n kk c : Nat) (g : Int32) (fl go : Nat → Int32), kk ≤ 81 → 81 - kk < n → OUT f kk c fl → ∃ c' g' fl' go', fl5 (mo_laysHoles_B26 f) n (nI c) (nI kk) g fl go = some (nI c' - 1, g', fl', go') ∧ OUT f 81 c' fl' := by
  intro n
  induction n with
  | zero => intro kk c g fl go _ h; omega
  | succ n ih =>
    intro kk c g fl go hkk hn h
    show ∃ c' g' fl' go', mo_laysHoles_B26 f (fl5 (mo_laysHoles_B26 f) n) (nI c) (nI kk) g fl go = _ ∧ _
    rw [mo_laysHoles_B26]
    by_cases q : kk = 81
    · subst q
      rw [if_pos (show (81 : Int32) ≤ nI 81 from nI_le (a := 81) (b := 81) (by omega) (by omega))]
      exact ⟨c, g, fl, go, rfl, h⟩
    · have hk81 : kk < 81 := by omega
      have hc : c ≤ 81 := by have := fb_ct_le (mn9 f) kk; have := h.2.2.2.2.1; omega
      rw [if_neg (show ¬ (81 : Int32) ≤ nI kk from nI_ge (a := kk) (b := 81) hk81 (by omega)), dzI_n (by decide), dzI_n (by decide), rem9 ⟨kk, hk81⟩, div9 ⟨kk, hk81⟩, show (0 : Int32) = nI 0 from nI_0.symm, comes_in f (by omega) (by omega) (nI c) (by omega)]
      show ∃ c' g' fl' go', bd3 (if fl (9 * (kk / 9) + kk % 9) = -1 ∧ Fr f (9 * (kk / 9) + kk % 9) then _ else _) _ = _ ∧ _
      rw [show 9 * (kk / 9) + kk % 9 = kk by omega]
      by_cases cnd : fl kk = -1 ∧ Fr f kk
      · rw [if_pos cnd, ck_n (by omega) (by omega)]
        show ∃ c' g' fl' go', (if nI (0 + 1) = nI 0 then mo_laysHoles_J158 (fl5 (mo_laysHoles_B26 f) n) f (nI c) (nI kk) (nI (0 + 1)) (upd fl kk (nI c)) (upd go 0 (nI kk)) else fl4 (mo_laysHoles_B67 f (nI c) (nI kk) (fl5 (mo_laysHoles_B26 f) n)) FU (nI 0) (nI (0 + 1)) (upd fl kk (nI c)) (upd go 0 (nI kk))) = _ ∧ _
        rw [if_neg (by decide)]
        have hne := nI_ne1 (c := c) (by omega)
        have hB : BQ f kk (nI c) fl (0 + 1) 0 (upd fl kk (nI c)) (upd go 0 (nI kk)) := by
          refine ⟨by omega, fun m hm => ⟨kk, hk81, ?_, cnd.1, by rw [upI, if_pos rfl], Cn_refl cnd.2⟩, fun a d _ _ => by omega, fun p hp => ?_, fun m hm => by omega⟩
          · rw [show m = 0 by omega, upI, if_pos rfl]
          · by_cases e : p = kk
            · exact Or.inr ⟨0, by omega, by rw [upI, if_pos rfl, e]⟩
            · exact Or.inl (by rw [upI, if_neg e])
        obtain ⟨g', fl', go', t1, t2, t3, t4⟩ := bfs_go hne (nI kk) (fl5 (mo_laysHoles_B26 f) n) FU 0 (0 + 1) _ _ hB (FU_lt (by omega))
        rw [t1]
        unfold mo_laysHoles_J158
        rw [nm_eq, o1]
        refine ih (kk + 1) (c + 1) (nI g') fl' go' (by omega) (by omega) ?_
        obtain ⟨b0, b1, b2, b3, b4⟩ := t2
        have inq : ∀ p, Cn f kk p → ∃ m, m < g' ∧ go' m = nI p := fun p hp => hp.2.2 (fun x => ∃ m, m < g' ∧ go' m = nI x) ⟨0, by omega, by rw [t4 0 (by omega), upI, if_pos rfl]⟩ (fun a b ha hb hab ⟨m, hm, e⟩ => by
          have hx := b4 m hm a b ha.1 e hb hab
          rcases b3 b hb.1 with q1 | q1
          · exfalso
            rw [q1] at hx
            have hcl := h.2.2.1 b a hb ha (adj9_symm hab) hx
            obtain ⟨p', hp', e1, e2, _⟩ := b1 m hm
            rw [e] at e1
            have e3 := (nI_eq (by have := ha.1; omega) (by omega)).mp e1
            rw [← e3, hcl] at e2
            exact hx e2
          · exact q1)
        refine OUT_new h cnd hc (fun p hp => ?_) (fun p hp hnp => ?_)
        · obtain ⟨m, hm, e⟩ := inq p hp
          obtain ⟨p', hp', e1, _, e2, _⟩ := b1 m hm
          rw [e] at e1
          have := (nI_eq (by have := hp.2.1.1; omega) (by omega)).mp e1
          rw [this]; exact e2
        · rcases b3 p hp with q1 | ⟨m, hm, e⟩
          · exact q1
          · exfalso
            obtain ⟨p', hp', e1, _, _, e2⟩ := b1 m hm
            rw [e] at e1
            have := (nI_eq (by omega) (by omega)).mp e1
            rw [this] at hnp
            exact hnp e2
      · rw [if_neg cnd]
        show ∃ c' g' fl' go', (if nI 0 = nI 0 then mo_laysHoles_J158 (fl5 (mo_laysHoles_B26 f) n) f (nI c) (nI kk) (nI 0) fl go else fl4 (mo_laysHoles_B67 f (nI c) (nI kk) (fl5 (mo_laysHoles_B26 f) n)) FU (nI 0) (nI 0) fl go) = _ ∧ _
        rw [if_pos rfl]
        unfold mo_laysHoles_J158
        rw [nm_eq, o1]
        exact ih (kk + 1) c _ fl go (by omega) (by omega) (OUT_old h cnd)
noncomputable def pts9 (f : Int64) : Nat := fb_ct (mn9 f) 81
theorem mo_laysHoles_eq (f : Int64) (g : Int32) (fl go : Nat → Int32) : ∃ g' fl' go', mo_laysHoles f g fl go = some (nI (pts9 f) - 1, g', fl', go') ∧ OUT f 81 (pts9 f) fl' := by
  have key : mo_laysHoles f g fl go = fl5 (mo_laysHoles_B26 f) FU 0 0 g (fun p => if p < 81 then -1 else fl p) go := by
    unfold mo_laysHoles
    rw [show fl2 (mo_laysHoles_B2 f g go) FU 0 fl = fl2 (mo_laysHoles_B2 f g go) FU (nI 0) (fun p => if p < 0 then -1 else fl p) by
      rw [nI_0]; congr 1]
    refine crs2 (B := mo_laysHoles_B2 f g go) nI (fun i p => if p < i then -1 else fl p) 81 (fun i hi k => ?_) (fun k => ?_) FU (FU_lt (by omega))
    · rw [mo_laysHoles_B2, if_neg (show ¬ (81 : Int32) ≤ nI i from nI_ge (a := i) (b := 81) hi (by omega)), ck_n hi (by omega), nm_eq, nm_eq, o1, cl_n (by omega)]
      congr 1
      funext p
      rw [upI]
      by_cases a : p = i
      · rw [if_pos a, if_pos (by omega)]
      · rw [if_neg a]
        by_cases b : p < i
        · rw [if_pos b, if_pos (by omega)]
        · rw [if_neg b, if_neg (by omega)]
    · rw [mo_laysHoles_B2, if_pos (show (81 : Int32) ≤ nI 81 from nI_le (a := 81) (b := 81) (by omega) (by omega))]
  rw [key, show (0 : Int32) = nI 0 from nI_0.symm]
  obtain ⟨c', g', fl', go', h1, h2⟩ := out_go (f := f) FU 0 0 g (fun p => if p < 81 then -1 else fl p) go (by omega) (FU_lt (by omega)) ⟨fun p hp => Or.inl (if_pos hp), fun p hp hn => absurd (if_pos hp) hn, fun a b ha _ _ hn => absurd (if_pos ha.1) hn, fun p hp => by omega, rfl, fun p hp hn => absurd (if_pos hp) hn⟩
  have e : c' = pts9 f := h2.2.2.2.2.1
  rw [e] at h1 h2
  exact ⟨g', fl', go', h1, h2⟩
