/-! the moves of the first cutting -/
theorem ltr_c {f : Int64} {x0 h : Nat} {le : Nat → Int32} (h13 : h ≤ 13) (hle : ∀ i, i < 4 * h → le i = nI (wL f x0 i)) {a : Nat} (ha : a < 4 * h) : ol_letter (nI a) le = some (nI (wL f x0 a)) := by
  have i1 : inr (nI a) 0 51 = true := by
    unfold inr
    rw [Bool.and_eq_true, decide_eq_true_eq, decide_eq_true_eq]
    exact ⟨nI_pos' (by omega), nI_le (a := a) (b := 51) (by omega) (by omega)⟩
  rw [ol_letter, cf_within_eq, bd1_some, i1, if_neg (by decide), ck_n (show a < 52 by omega) (by omega), cl_n (by omega), hle a ha]
noncomputable def mvX (f : Int64) (x0 p q : Nat) : Int := wX f x0 q - wX f x0 p
noncomputable def mvY (f : Int64) (x0 p q : Nat) : Int := wY f x0 q - wY f x0 p
theorem mvX_s (f : Int64) (x0 p q : Nat) : Int32.ofInt (mvX f x0 p q) + Int32.ofInt (dX (wL f x0 q)) = Int32.ofInt (mvX f x0 p (q + 1)) := by
  unfold mvX
  rw [← Int32.ofInt_add, wX_s, show wX f x0 q - wX f x0 p + dX (wL f x0 q) = wX f x0 q + dX (wL f x0 q) - wX f x0 p by omega]
theorem mvY_s (f : Int64) (x0 p q : Nat) : Int32.ofInt (mvY f x0 p q) + Int32.ofInt (dY (wL f x0 q)) = Int32.ofInt (mvY f x0 p (q + 1)) := by
  unfold mvY
  rw [← Int32.ofInt_add, wY_s, show wY f x0 q - wY f x0 p + dY (wL f x0 q) = wY f x0 q + dY (wL f x0 q) - wY f x0 p by omega]
theorem mvX_0 (f : Int64) (x0 p : Nat) : mvX f x0 p p = 0 := by unfold mvX; omega
theorem mvY_0 (f : Int64) (x0 p : Nat) : mvY f x0 p p = 0 := by unfold mvY; omega
theorem mv_b {f : Int64} {x0 : Nat} (h : LNs f x0) (p q : Nat) : -7 ≤ mvX f x0 p q ∧ mvX f x0 p q ≤ 7 ∧ -7 ≤ mvY f x0 p q ∧ mvY f x0 p q ≤ 7 := by
  have a := wk_rng h p
  have b := wk_rng h q
  unfold mvX mvY
  omega
def m1N (a b i : Nat) : Nat := if i ≤ a + b then i else a + b
def m2N (a i : Nat) : Nat := if i ≤ a then a else i
/-- what both have of the moves behind i letters -/
def MVi (f : Int64) (x0 s a b i : Nat) (p q u w : Int32) : Prop := p = Int32.ofInt (mvX f x0 s (s + m1N a b i)) ∧ q = Int32.ofInt (mvY f x0 s (s + m1N a b i)) ∧ u = Int32.ofInt (mvX f x0 (s + a) (s + m2N a i)) ∧ w = Int32.ofInt (mvY f x0 (s + a) (s + m2N a i))
theorem MVi_0 (f : Int64) (x0 s a b : Nat) : MVi f x0 s a b 0 0 0 0 0 := by
  unfold MVi m1N m2N
  rw [if_pos (by omega), if_pos (by omega), show s + 0 = s from rfl, mvX_0, mvY_0, mvX_0, mvY_0]
  exact ⟨rfl, rfl, rfl, rfl⟩
theorem findMoves_eq {f : Int64} {x0 h : Nat} (hl : LNs f x0) {le : Nat → Int32} (h13 : h ≤ 13) (hle : ∀ i, i < 4 * h → le i = nI (wL f x0 i)) {s a b : Nat} (hs : s < h) (hab : a + b ≤ h) (y1 y2 y3 y4 : Int32) : ∃ p q u w, ol_findMoves (nI s) (nI a) (nI b) (nI (h - a - b)) y1 y2 y3 y4 le = some (p, q, u, w) ∧ MVi f x0 s a b h p q u w := by
  rw [ol_findMoves]
  refine ivl5 (B := ol_findMoves_B22 (nI s) (nI a) (nI b) (nI (h - a - b)) le) (fun i v p q u w => v = nI i ∧ MVi f x0 s a b i p q u w) (fun o => ∃ p q u w, o = some (p, q, u, w) ∧ MVi f x0 s a b h p q u w) h ?_ ?_ FU 0 _ _ _ _ _ (by omega) (FU_lt (by omega)) ⟨rfl, MVi_0 f x0 s a b⟩
  · rintro i hi v p q u w kq ⟨rfl, rfl, rfl, rfl, rfl⟩
    have hw := (wk_sd hl (s + i)).2
    have s1 : ol_stepX (nI (wL f x0 (s + i))) = some (Int32.ofInt (dX (wL f x0 (s + i)))) := (stX4 ⟨wL f x0 (s + i), hw⟩).1
    have s2 : ol_stepY (nI (wL f x0 (s + i))) = some (Int32.ofInt (dY (wL f x0 (s + i)))) := (stX4 ⟨wL f x0 (s + i), hw⟩).2
    have J : ∀ p q, p = Int32.ofInt (mvX f x0 s (s + m1N a b (i + 1))) → q = Int32.ofInt (mvY f x0 s (s + m1N a b (i + 1))) → ∃ v' p' q' u' w', (v' = nI (i + 1) ∧ MVi f x0 s a b (i + 1) p' q' u' w') ∧ ol_findMoves_J90 kq (nI s) (nI a) (nI b) (nI (h - a - b)) le (nI i) (nI (wL f x0 (s + i))) p q (Int32.ofInt (mvX f x0 (s + a) (s + m2N a i))) (Int32.ofInt (mvY f x0 (s + a) (s + m2N a i))) = kq v' p' q' u' w' := by
      intro p q hp hq
      rw [ol_findMoves_J90, s1, bd1_some, nm_eq, s2, bd1_some, nm_eq, ol_findMoves_J124, ol_findMoves_J124, nm_eq, nm_eq, o1]
      by_cases z : i < a
      · rw [if_pos (i32_nle.mp (nI_ge z (by omega)))]
        refine ⟨_, _, _, _, _, ⟨rfl, hp, hq, ?_, ?_⟩, rfl⟩
        · unfold m2N; rw [if_pos (by omega), if_pos (by omega)]
        · unfold m2N; rw [if_pos (by omega), if_pos (by omega)]
      · rw [if_neg (i32_nlt.mpr (nI_le (by omega) (by omega)))]
        have e1 : m2N a i = i := by unfold m2N; split <;> omega
        have e2 : m2N a (i + 1) = i + 1 := by unfold m2N; rw [if_neg (by omega)]
        refine ⟨_, _, _, _, _, ⟨rfl, hp, hq, ?_, ?_⟩, rfl⟩
        · rw [e1, e2, mvX_s]; rfl
        · rw [e1, e2, mvY_s]; rfl
    rw [ol_findMoves_B22, nI_add a b, nI_add (a + b) (h - a - b), if_neg (nI_ge (show i < a + b + (h - a - b) by omega) (by omega)), nI_add s i, ltr_c h13 hle (show s + i < 4 * h by omega), bd1_some, s1, bd1_some, nm_eq, s2, bd1_some, nm_eq]
    by_cases z : a + b ≤ i
    · rw [if_pos (nI_le z (by omega))]
      exact J _ _ (by unfold m1N; rw [if_neg (show ¬ i + 1 ≤ a + b by omega)]; by_cases c : i ≤ a + b
                      · rw [if_pos c, show i = a + b by omega]
                      · rw [if_neg c]) (by unfold m1N; rw [if_neg (show ¬ i + 1 ≤ a + b by omega)]; by_cases c : i ≤ a + b
                                           · rw [if_pos c, show i = a + b by omega]
                                           · rw [if_neg c])
    · rw [if_neg (nI_ge (by omega) (by omega))]
      have e1 : m1N a b i = i := by unfold m1N; rw [if_pos (by omega)]
      have e2 : m1N a b (i + 1) = i + 1 := by unfold m1N; rw [if_pos (by omega)]
      exact J _ _ (by rw [e1, e2, mvX_s]; rfl) (by rw [e1, e2, mvY_s]; rfl)
  · rintro v p q u w kq ⟨rfl, hm⟩
    rw [ol_findMoves_B22, nI_add a b, nI_add (a + b) (h - a - b), if_pos (nI_le (show a + b + (h - a - b) ≤ h by omega) (by omega))]
    exact ⟨_, _, _, _, rfl, hm⟩
theorem laysMoves_go {f : Int64} {x0 h : Nat} (hl : LNs f x0) (hW : LTR (wL f x0) h) {le : Nat → Int32} (hle : ∀ i, i < 2 * h → le i = nI (wL f x0 i)) {s a b : Nat} (hs : s < h) (hab : a + b ≤ h) (y z1 z2 : Int32) (D : Nat → Int64) (fl go lx ly : Nat → Int32) : ∃ p q u w, fl5 (mo_laysMoves_B66 y (nI (2 * h)) z1 z2 (nI s) (nI a) (nI b) D fl go le lx ly) FU 0 0 0 0 0 = some (0, y, nI (2 * h), z1, z2, nI s, nI a, nI b, p, q, u, w, fl, go, le, lx, ly) ∧ MVi f x0 s a b h p q u w := by
  have h13 := hW.2.2.2
  refine ivl5 (B := mo_laysMoves_B66 y (nI (2 * h)) z1 z2 (nI s) (nI a) (nI b) D fl go le lx ly) (fun i v p q u w => v = nI i ∧ MVi f x0 s a b i p q u w) (fun o => ∃ p q u w, o = some (0, y, nI (2 * h), z1, z2, nI s, nI a, nI b, p, q, u, w, fl, go, le, lx, ly) ∧ MVi f x0 s a b h p q u w) h ?_ ?_ FU 0 _ _ _ _ _ (by omega) (FU_lt (by omega)) ⟨rfl, MVi_0 f x0 s a b⟩
  · rintro i hi v p q u w kq ⟨rfl, rfl, rfl, rfl, rfl⟩
    have hw := (wk_sd hl (s + i)).2
    have s1 : mo_stepX (nI (wL f x0 (s + i))) = some (Int32.ofInt (dX (wL f x0 (s + i)))) := (stXm ⟨wL f x0 (s + i), hw⟩).1
    have s2 : mo_stepY (nI (wL f x0 (s + i))) = some (Int32.ofInt (dY (wL f x0 (s + i)))) := (stXm ⟨wL f x0 (s + i), hw⟩).2
    have J : ∀ p q, p = Int32.ofInt (mvX f x0 s (s + m1N a b (i + 1))) → q = Int32.ofInt (mvY f x0 s (s + m1N a b (i + 1))) → ∃ v' p' q' u' w', (v' = nI (i + 1) ∧ MVi f x0 s a b (i + 1) p' q' u' w') ∧ mo_laysMoves_J126 kq D (nI i) (nI (wL f x0 (s + i))) y (nI (2 * h)) z1 z2 (nI s) (nI a) (nI b) p q (Int32.ofInt (mvX f x0 (s + a) (s + m2N a i))) (Int32.ofInt (mvY f x0 (s + a) (s + m2N a i))) fl go le lx ly = kq v' p' q' u' w' := by
      intro p q hp hq
      rw [mo_laysMoves_J126, s1, bd1_some, nm_eq, s2, bd1_some, nm_eq, mo_laysMoves_J160, mo_laysMoves_J160, nm_eq, nm_eq, o1]
      by_cases z : i < a
      · rw [if_pos (i32_nle.mp (nI_ge z (by omega)))]
        refine ⟨_, _, _, _, _, ⟨rfl, hp, hq, ?_, ?_⟩, rfl⟩
        · unfold m2N; rw [if_pos (by omega), if_pos (by omega)]
        · unfold m2N; rw [if_pos (by omega), if_pos (by omega)]
      · rw [if_neg (i32_nlt.mpr (nI_le (by omega) (by omega)))]
        have e1 : m2N a i = i := by unfold m2N; split <;> omega
        have e2 : m2N a (i + 1) = i + 1 := by unfold m2N; rw [if_neg (by omega)]
        refine ⟨_, _, _, _, _, ⟨rfl, hp, hq, ?_, ?_⟩, rfl⟩
        · rw [e1, e2, mvX_s]; rfl
        · rw [e1, e2, mvY_s]; rfl
    rw [mo_laysMoves_B66, dzI_n (by decide), hlf_n h13, if_neg (nI_ge hi (by omega)), nI_add s i, letterAt_eq hW hle (show s + i < 1000 by omega), bd1_some, nI_add a b, s1, bd1_some, nm_eq, s2, bd1_some, nm_eq]
    by_cases z : a + b ≤ i
    · rw [if_pos (nI_le z (by omega))]
      exact J _ _ (by unfold m1N; rw [if_neg (show ¬ i + 1 ≤ a + b by omega)]; by_cases c : i ≤ a + b
                      · rw [if_pos c, show i = a + b by omega]
                      · rw [if_neg c]) (by unfold m1N; rw [if_neg (show ¬ i + 1 ≤ a + b by omega)]; by_cases c : i ≤ a + b
                                           · rw [if_pos c, show i = a + b by omega]
                                           · rw [if_neg c])
    · rw [if_neg (nI_ge (by omega) (by omega))]
      have e1 : m1N a b i = i := by unfold m1N; rw [if_pos (by omega)]
      have e2 : m1N a b (i + 1) = i + 1 := by unfold m1N; rw [if_pos (by omega)]
      exact J _ _ (by rw [e1, e2, mvX_s]; rfl) (by rw [e1, e2, mvY_s]; rfl)
  · rintro v p q u w kq ⟨rfl, hm⟩
    rw [mo_laysMoves_B66, dzI_n (by decide), hlf_n h13, if_pos (nI_le (Nat.le_refl _) (by omega))]
    exact ⟨_, _, _, _, rfl, hm⟩
/-- the four numbers of the moves -/
theorem MVi_h {f : Int64} {x0 s a b h : Nat} {p q u w : Int32} (hab : a + b ≤ h) (hm : MVi f x0 s a b h p q u w) : p = Int32.ofInt (mvX f x0 s (s + (a + b))) ∧ q = Int32.ofInt (mvY f x0 s (s + (a + b))) ∧ u = Int32.ofInt (mvX f x0 (s + a) (s + h)) ∧ w = Int32.ofInt (mvY f x0 (s + a) (s + h)) := by
  have e1 : m1N a b h = a + b := by unfold m1N; split <;> omega
  have e2 : m2N a h = h := by unfold m2N; split <;> omega
  obtain ⟨a1, a2, a3, a4⟩ := hm
  rw [e1] at a1 a2
  rw [e2] at a3 a4
  exact ⟨a1, a2, a3, a4⟩
theorem prep_eq {g h : Nat → Int64} (hd : DR g h) {j : Nat} (hj : j < 8) (xl x1 x2 x3 x4 x5 x6 x7 x8 x9 x10 : Int32) (le : Nat → Int32) (y s z1 z2 z3 z4 z5 z6 z7 z8 z9 : Int32) (fl go ml lx ly : Nat → Int32) : ∃ r xl' x1' x2' x3' x4' x5' x6' p q u w le' y' s' z1' z2' z3' z4' z5' p2 q2 u2 w2 fl' go' ml' lx' ly', cf_prepareMoves (nI j) g xl x1 x2 x3 x4 x5 x6 x7 x8 x9 x10 le = some (r, xl', x1', x2', x3', x4', x5', x6', p, q, u, w, le') ∧ mo_laysMoves (nI j) y s z1 z2 z3 z4 z5 z6 z7 z8 z9 h fl go ml lx ly = some (r, y', s', z1', z2', z3', z4', z5', p2, q2, u2, w2, fl', go', ml', lx', ly') ∧ ((r = 0 ∧ FIG (h j) ∧ ∃ x0 H s a b, LNs (h j) x0 ∧ LEN (h j) x0 (2 * H) ∧ LTR (wL (h j) x0) H ∧ ctP (wL (h j) x0) H s a b ∧ (p = Int32.ofInt (mvX (h j) x0 s (s + (a + b))) ∧ q = Int32.ofInt (mvY (h j) x0 s (s + (a + b))) ∧ u = Int32.ofInt (mvX (h j) x0 (s + a) (s + H)) ∧ w = Int32.ofInt (mvY (h j) x0 (s + a) (s + H))) ∧ p2 = p ∧ q2 = q ∧ u2 = u ∧ w2 = w) ∨ (¬ r = 0 ∧ ¬ 0 ≤ r)) := by
  have ej := (hd j hj).1
  have c8 : ∀ {β : Type} (k : Option β), ck (nI j) 8 k = k := fun k => ck_n hj (by omega) k
  rw [cf_prepareMoves, mo_laysMoves, c8, c8, c8, c8, cl_n (show j < 2 ^ 31 by omega), ej]
  by_cases h0 : h j = 0
  · rw [if_pos h0, if_pos h0]
    exact ⟨-2, _, _, _, _, _, _, _, _, _, _, _, _, _, _, _, _, _, _, _, _, _, _, _, _, _, _, _, _, rfl, rfl, Or.inr ⟨by decide, by decide⟩⟩
  · rw [if_neg h0, if_neg h0]
    have hf := DRf hd hj h0
    by_cases hn : hlw (h j) = 0 ∧ aslL (h j) = 0
    · obtain ⟨x0, H, k1, k2, k3, k4⟩ := line_set hf hn
      obtain ⟨le', r1, r2⟩ := trc k1 k2 k3 hn.2 xl le
      obtain ⟨y', fl', go', ml', lx', ly', s1, s2⟩ := hasLine_eq k2 k3 k1 hn.2 y s fl go ml lx ly
      have h13 := k4.2.2.2
      obtain ⟨cu, ba, pl, la, lb, lc, d1, d2⟩ := cut_eq k4 r2 x1 x2 x3 x4 x5 x6
      obtain ⟨cu2, ba2, pl2, la2, lb2, lc2, e1, e2⟩ := lays_eq k4 s2 z1 z2 z3 z4 z5
      obtain ⟨f1, f2, f3⟩ := tiles_cut h13 d2 e2
      rw [r1, bd3_some, s1, bd8_some, if_neg (by decide), if_neg (by decide), d1, bd6_some, e1, bd5_some, ol_cuttings, bd1_some, f1]
      by_cases c0 : cu = 0
      · rw [if_pos c0, if_pos c0]
        exact ⟨-4, _, _, _, _, _, _, _, _, _, _, _, _, _, _, _, _, _, _, _, _, _, _, _, _, _, _, _, _, rfl, rfl, Or.inr ⟨by decide, by decide⟩⟩
      · obtain ⟨S, a, b, p1, ⟨p2, p3, p4, p5⟩, p6, p7, p8, p9⟩ := f3 c0
        obtain ⟨p, q, u, w, m1, m2⟩ := findMoves_eq k2 h13 r2 p1.1 p1.2.2.2.1 x7 x8 x9 x10
        obtain ⟨p', q', u', w', m3, m4⟩ := laysMoves_go k2 k4 s2 p1.1 p1.2.2.2.1 y' cu ba2 h fl' go' lx' ly'
        have t1 := MVi_h p1.2.2.2.1 m2
        have t2 := MVi_h p1.2.2.2.1 m4
        rw [if_neg c0, if_neg c0, p2, p3, p4, p5, p6, p7, p8, m1, bd4_some, m3]
        exact ⟨0, _, _, _, _, _, _, _, p, q, u, w, _, _, _, _, _, _, _, _, p', q', u', w', _, _, _, _, _, rfl, rfl, Or.inl ⟨rfl, hf, x0, H, S, a, b, k2, k3, k4, p1, t1, by rw [t1.1, t2.1], by rw [t1.2.1, t2.2.1], by rw [t1.2.2.1, t2.2.2.1], by rw [t1.2.2.2, t2.2.2.2]⟩⟩
    · obtain ⟨y', fl', go', s1⟩ := hasLine_no hf hn y s fl go ml lx ly
      rw [trace_no hn, bd3_some, s1, bd8_some, if_pos rfl, if_pos rfl]
      exact ⟨-3, _, _, _, _, _, _, _, _, _, _, _, _, _, _, _, _, _, _, _, _, _, _, _, _, _, _, _, _, rfl, rfl, Or.inr ⟨by decide, by decide⟩⟩
