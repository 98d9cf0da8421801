/-! the class's and the reference's lines are the walk -/
theorem stX4 : ∀ l : Fin 4, ol_stepX (nI l.val) = some (Int32.ofInt (dX l.val)) ∧ ol_stepY (nI l.val) = some (Int32.ofInt (dY l.val)) := by decide +kernel
theorem stXm : ∀ l : Fin 4, mo_stepX (nI l.val) = some (Int32.ofInt (dX l.val)) ∧ mo_stepY (nI l.val) = some (Int32.ofInt (dY l.val)) := by decide +kernel
theorem nb4 : ∀ l : Fin 4, vp_nar .byte (i8 (nI l.val)) = nI l.val := by decide +kernel
theorem nx4 : ∀ l : Fin 4, (nI l.val + 1) &&& 3 = nI ((l.val + 1) % 4) ∧ (nI l.val + 3) &&& 3 = nI ((l.val + 3) % 4) := by decide +kernel
theorem nJ34 (f : Int64) {x y : Int} (hx : -50 < x ∧ x < 50) (hy : -50 < y ∧ y < 50) {l : Nat} (hl : l < 4) : ol_nextLetter_J34 f (nI l) (Int32.ofInt x) (Int32.ofInt y) = some (nI (if hB f (x + dY l) (y - dX l) then (l + 3) % 4 else if hB f x y then l else (l + 1) % 4)) := by
  have s := stX4 ⟨l, hl⟩
  have n := nx4 ⟨l, hl⟩
  have s1 : ol_stepX (nI l) = some (Int32.ofInt (dX l)) := s.1
  have s2 : ol_stepY (nI l) = some (Int32.ofInt (dY l)) := s.2
  have n1 : (nI l + 1) &&& 3 = nI ((l + 1) % 4) := n.1
  have n2 : (nI l + 3) &&& 3 = nI ((l + 3) % 4) := n.2
  have db : -1 ≤ dX l ∧ dX l ≤ 1 ∧ -1 ≤ dY l ∧ dY l ≤ 1 := by rcases l4 hl with rfl | rfl | rfl | rfl <;> decide
  rw [ol_nextLetter_J34, s2, bd1_some, nm_eq, ← Int32.ofInt_add, s1, bd1_some, nm_eq, ← Int32.ofInt_sub, gr_has_i f (x := x + dY l) (y := y - dX l) (by omega) (by omega), bd1_some, gr_has_i f (x := x) (y := y) (by omega) (by omega), bd1_some, n1, n2]
  cases hB f (x + dY l) (y - dX l) with
  | true => rw [if_neg (by decide), if_pos rfl]
  | false =>
    rw [if_pos boI_f, if_neg (show ¬ (false = true) by decide)]
    cases hB f x y with
    | true => rw [if_neg (by decide), if_pos rfl]
    | false => rw [if_pos boI_f, if_neg (show ¬ (false = true) by decide)]
theorem nl_eq (f : Int64) {x y : Int} (hx : -40 < x ∧ x < 40) (hy : -40 < y ∧ y < 40) {l : Nat} (hl : l < 4) : ol_nextLetter f (Int32.ofInt x) (Int32.ofInt y) (nI l) = some (nI (nlB f x y l)) := by
  rcases l4 hl with rfl | rfl | rfl | rfl
  · rw [ol_nextLetter, if_neg (show ¬ nI 0 = 1 by decide), if_neg (show ¬ nI 0 = 2 by decide), ol_nextLetter_J19, if_pos (show nI 0 < 2 by decide), nJ34 f (by omega) (by omega) (by omega), show x + dY 0 = x from Int.add_zero x, show y - dX 0 = y - 1 from rfl]
    rfl
  · rw [ol_nextLetter, if_pos (show nI 1 = 1 by decide), ol_nextLetter_J12, ol_nextLetter_J19, if_pos (show nI 1 < 2 by decide), iO, nJ34 f (by omega) (by omega) (by omega), show x - 1 + dY 1 = x by rw [show dY 1 = 1 from rfl]; omega, show y - dX 1 = y by rw [show dX 1 = 0 from rfl]; omega]
    rfl
  · rw [ol_nextLetter, if_neg (show ¬ nI 2 = 1 by decide), if_pos (show nI 2 = 2 by decide), ol_nextLetter_J12, ol_nextLetter_J19, if_neg (show ¬ nI 2 < 2 by decide), iO, iO, nJ34 f (by omega) (by omega) (by omega), show x - 1 + dY 2 = x - 1 by rw [show dY 2 = 0 from rfl]; omega, show y - 1 - dX 2 = y by rw [show dX 2 = -1 from rfl]; omega]
    rfl
  · rw [ol_nextLetter, if_neg (show ¬ nI 3 = 1 by decide), if_neg (show ¬ nI 3 = 2 by decide), ol_nextLetter_J19, if_neg (show ¬ nI 3 < 2 by decide), iO, nJ34 f (by omega) (by omega) (by omega), show x + dY 3 = x - 1 by rw [show dY 3 = -1 from rfl]; omega, show y - 1 - dX 3 = y - 1 by rw [show dX 3 = 0 from rfl]; omega]
    rfl
theorem ptv_na : ∀ a b c d : Bool, ptv a b c d 2 = 0 → na4 a b c d = true := by decide
theorem asl_na {f : Int64} (hf : F77 f) (h : aslL f = 0) : NAs f := by
  have z : ptS f 2 8 = 0 := by rw [pt_asl hf.c7, h]; exact cnt_zero
  intro x y
  by_cases q : 0 ≤ x ∧ x < 8 ∧ 0 ≤ y ∧ y < 8
  · obtain ⟨u, rfl⟩ : ∃ u : Nat, x = u := ⟨x.toNat, by omega⟩
    obtain ⟨v, rfl⟩ : ∃ v : Nat, y = v := ⟨y.toNat, by omega⟩
    have r := fb_sm_zero (f := fun y => ptR f 2 y) (n := 8) z v (by omega)
    have r' : fb_sm (fun x => ptf f 2 x v) 8 = 0 := r
    have s : ptf f 2 u v = 0 := fb_sm_zero r' u (by omega)
    exact ptv_na _ _ _ _ s
  · rw [hB_77 hf (x := x - 1) (y := y - 1) (by omega), hB_77 hf (x := x) (y := y - 1) (by omega), hB_77 hf (x := x - 1) (y := y) (by omega), hB_77 hf (x := x) (y := y) (by omega)]
    rfl
/-- the first cell of a figure -/
theorem low_x0 {f : Int64} (hf : FIG f) : ∃ x0, low f x0 ∧ x0 < 7 := by
  obtain ⟨k, hk⟩ := low_ex hf.ne
  obtain ⟨x, x7, hx⟩ := hf.2.1
  exact ⟨k, hk, by have := low_row hk hx; omega⟩
theorem trace_eq {f : Int64} {x0 L : Nat} (h : LNs f x0) (hL : LEN f x0 L) (hk : low f x0) (h0 : aslL f = 0) (xl : Int32) (le : Nat → Int32) : ∃ le', ol_trace f xl le = some (1, nI L, le') ∧ ∀ i, i < 2 * L → le' i = nI (wL f x0 i) := by
  obtain ⟨e1, e2, e3⟩ := len_eq h hL
  have L1 := hL.1
  have sz : (4 * nI (cnt f) - 2 * nI (two f) : Int32) = nI L := by
    rw [show (4 : Int32) = nI 4 from rfl, show (2 : Int32) = nI 2 from rfl, pk_mul, pk_mul, pk_sub (by omega), show 4 * cnt f - 2 * two f = L by omega]
  rw [ol_trace, (hlw_spec f).1, bd1_some, if_pos h.2.2.1, tr_aslant_eq, bd1_some, if_pos h0, tr_sides_eq, bd1_some, sz, gr_lowest_eq hk, bd1_some]
  refine ivl5 (B := ol_trace_B45 f (nI L) 0) (fun i a b c d e => a = Int32.ofInt (wX f x0 i) ∧ b = Int32.ofInt (wY f x0 i) ∧ c = nI (wL f x0 i) ∧ d = nI i ∧ ∀ j, j < i → e j = nI (wL f x0 j) ∧ e (j + L) = nI (wL f x0 j)) (fun o => ∃ le', o = some (1, nI L, le') ∧ ∀ i, i < 2 * L → le' i = nI (wL f x0 i)) L ?_ ?_ FU 0 _ _ _ _ _ (by omega) (FU_lt (by omega)) ⟨rfl, rfl, rfl, rfl, fun j hj => by omega⟩
  · rintro i hi a b c d e kq ⟨rfl, rfl, rfl, rfl, he⟩
    have hl := (wk_sd h i).2
    have r := wk_rng h i
    have r1 := wk_rng h (i + 1)
    have s1 : ol_stepX (nI (wL f x0 i)) = some (Int32.ofInt (dX (wL f x0 i))) := (stX4 ⟨wL f x0 i, hl⟩).1
    have s2 : ol_stepY (nI (wL f x0 i)) = some (Int32.ofInt (dY (wL f x0 i))) := (stX4 ⟨wL f x0 i, hl⟩).2
    have b4 : vp_nar .byte (i8 (nI (wL f x0 i))) = nI (wL f x0 i) := nb4 ⟨wL f x0 i, hl⟩
    have nq := nl_eq f (x := wX f x0 (i + 1)) (y := wY f x0 (i + 1)) (by omega) (by omega) hl
    rw [ol_trace_B45, if_neg (nI_ge hi (by omega)), nI_add, if_neg (show ¬ (52 : Int32) ≤ nI (i + L) from nI_ge (a := i + L) (b := 52) (by omega) (by omega)), nm_eq, ck_n (show i < 52 by omega) (by omega), nm_eq, nm_eq, nm_eq, ck_n (show i + L < 52 by omega) (by omega), nm_eq, s1, bd1_some, nm_eq, s2, bd1_some, nm_eq, ← Int32.ofInt_add, ← Int32.ofInt_add, ← wX_s, ← wY_s, nq, bd1_some, nm_eq, o1, b4, cl_n (show i < 2 ^ 31 by omega), cl_n (show i + L < 2 ^ 31 by omega)]
    refine ⟨_, _, _, _, _, ⟨rfl, rfl, rfl, rfl, fun j hj => ?_⟩, rfl⟩
    by_cases q : j = i
    · subst q
      exact ⟨by rw [pk_un (by omega), pk_us], by rw [pk_us]⟩
    · obtain ⟨x1, x2⟩ := he j (by omega)
      exact ⟨by rw [pk_un (by omega), pk_un (by omega)]; exact x1, by rw [pk_un (by omega), pk_un (by omega)]; exact x2⟩
  · rintro a b c d e kq ⟨rfl, rfl, rfl, rfl, he⟩
    rw [ol_trace_B45, if_pos (nI_le (Nat.le_refl _) (by omega)), zb_1]
    refine ⟨e, rfl, fun i hi => ?_⟩
    by_cases q : i < L
    · exact (he i q).1
    · have := (he (i - L) (by omega)).2
      rw [← (wk_per h hL (i - L)).2.2, show i - L + L = i by omega] at this
      exact this
theorem trace_no {f : Int64} (h : ¬ (hlw f = 0 ∧ aslL f = 0)) (xl : Int32) (le : Nat → Int32) : ol_trace f xl le = some (0, 0, le) := by
  rw [ol_trace, (hlw_spec f).1, bd1_some]
  by_cases q : hlw f = 0
  · rw [if_pos q, tr_aslant_eq, bd1_some, if_neg (fun e => h ⟨q, e⟩), zb_0]
  · rw [if_neg q, zb_0]
theorem ivl7 {α β γ δ ε ζ η ρ : Type} {B : (α → β → γ → δ → ε → ζ → η → Option ρ) → α → β → γ → δ → ε → ζ → η → Option ρ} (P : Nat → α → β → γ → δ → ε → ζ → η → Prop) (Q : Option ρ → Prop) (N : Nat) (hs : ∀ i, i < N → ∀ a b c d e f g k, P i a b c d e f g → ∃ a' b' c' d' e' f' g', P (i + 1) a' b' c' d' e' f' g' ∧ B k a b c d e f g = k a' b' c' d' e' f' g') (he : ∀ a b c d e f g k, P N a b c d e f g → Q (B k a b c d e f g)) : ∀ (n i : Nat) (a : α) (b : β) (c : γ) (d : δ) (e : ε) (f : ζ) (g : η), i ≤ N → N - i < n → P i a b c d e f g → Q (fl7 B n a b c d e f g) := by
  intro n
  induction n with
  | zero => intro i a b c d e f g _ h; omega
  | succ n ih =>
    intro i a b c d e f g hi hn hp
    show Q (B (fl7 B n) a b c d e f g)
    rcases Nat.lt_or_ge i N with q | q
    · obtain ⟨a', b', c', d', e', f', g', h1, h2⟩ := hs i q a b c d e f g (fl7 B n) hp
      rw [h2]; exact ih (i + 1) a' b' c' d' e' f' g' q (by omega) h1
    · have e : i = N := by omega
      subst e; exact he a b c d e f g _ hp
theorem sd_two (p q : Bool) : (if boI p = 0 then zb 0 (some (0 : Int32)) else bd1 (some (boI q)) fun r => if r = 0 then zb 1 (some 1) else zb 0 (some 0)) = some (boI (p && !q)) := by
  cases p with
  | false => rw [if_pos boI_f, zb_0]; rfl
  | true =>
    rw [if_neg (by decide), bd1_some]
    cases q with
    | false => rw [if_pos boI_f, zb_1]; rfl
    | true => rw [if_neg (by decide), zb_0]; rfl
theorem mo_isSide_eq (f : Int64) {x y : Int} (hx : -40 < x ∧ x < 40) (hy : -40 < y ∧ y < 40) {l : Nat} (hl : l < 4) : mo_isSide f (Int32.ofInt x) (Int32.ofInt y) (nI l) = some (boI (sdB f x y l)) := by
  have c1 := mo_isCell_i f (x := x) (y := y) (by omega) (by omega)
  have c2 := mo_isCell_i f (x := x) (y := y - 1) (by omega) (by omega)
  have c3 := mo_isCell_i f (x := x - 1) (y := y) (by omega) (by omega)
  have c4 := mo_isCell_i f (x := x - 1) (y := y - 1) (by omega) (by omega)
  rcases l4 hl with rfl | rfl | rfl | rfl
  · rw [mo_isSide, if_pos (show nI 0 = 0 by decide), iO, c1, bd1_some, c2, sd_two, sd_0]
  · rw [mo_isSide, if_neg (show ¬ nI 1 = 0 by decide), if_pos (show nI 1 = 1 by decide), iO, c3, bd1_some, c1, sd_two, sd_1]
  · rw [mo_isSide, if_neg (show ¬ nI 2 = 0 by decide), if_neg (show ¬ nI 2 = 1 by decide), if_pos (show nI 2 = 2 by decide), iO, iO, c4, bd1_some, c3, sd_two, sd_2]
  · rw [mo_isSide, if_neg (show ¬ nI 3 = 0 by decide), if_neg (show ¬ nI 3 = 1 by decide), if_neg (show ¬ nI 3 = 2 by decide), iO, iO, c2, bd1_some, c4, sd_two, sd_3]
theorem c0_61 {β : Type} (k : Option β) : ck 0 61 k = k := ck_n (n := 0) (N := 61) (by omega) (by omega) k
theorem cl_0 : (0 : Int32).toNatClampNeg = 0 := cl_n (n := 0) (by omega)
theorem line_step {f : Int64} {x0 L : Nat} (h : LNs f x0) (hL : LEN f x0 L) (g : Int32) (fl go : Nat → Int32) {i : Nat} (hi : i < L) (hL26 : L ≤ 26) {le lx ly : Nat → Int32} (hx : 0 < i → lx 0 = Int32.ofInt (x0 : Int) ∧ ly 0 = 0) (K : Int32 → Int32 → Int32 → Int32 → (Nat → Int32) → (Nat → Int32) → (Nat → Int32) → Option (Int32 × Int32 × Int32 × (Nat → Int32) × (Nat → Int32) × (Nat → Int32) × (Nat → Int32) × (Nat → Int32))) : ∃ lx' ly', (lx' 0 = Int32.ofInt (x0 : Int) ∧ ly' 0 = 0) ∧ mo_hasLine_B38 f g fl go K (Int32.ofInt (wX f x0 i)) (Int32.ofInt (wY f x0 i)) 1 (nI i) le lx ly = K (Int32.ofInt (wX f x0 (i + 1))) (Int32.ofInt (wY f x0 (i + 1))) (if i + 1 = L then 0 else 1) (nI (i + 1)) (upd le i (nI (wL f x0 i))) lx' ly' := by
  obtain ⟨s, hl⟩ := wk_sd h i
  have r := wk_rng h i
  have r1 := wk_rng h (i + 1)
  have s1 : mo_stepX (nI (wL f x0 i)) = some (Int32.ofInt (dX (wL f x0 i))) := (stXm ⟨wL f x0 i, hl⟩).1
  have s2 : mo_stepY (nI (wL f x0 i)) = some (Int32.ofInt (dY (wL f x0 i))) := (stXm ⟨wL f x0 i, hl⟩).2
  have x7 := h.2.2.2.1
  refine ⟨upd lx i (Int32.ofInt (wX f x0 i)), upd ly i (Int32.ofInt (wY f x0 i)), ?_, ?_⟩
  · by_cases q : i = 0
    · subst q
      exact ⟨by rw [pk_us, wX_0], by rw [pk_us, wY_0]; rfl⟩
    · rw [pk_un (by omega), pk_un (by omega)]; exact hx (by omega)
  · have lx0 : upd lx i (Int32.ofInt (wX f x0 i)) 0 = Int32.ofInt (x0 : Int) := by
      by_cases q : i = 0
      · subst q; rw [pk_us, wX_0]
      · rw [pk_un (by omega)]; exact (hx (by omega)).1
    have ly0 : upd ly i (Int32.ofInt (wY f x0 i)) 0 = Int32.ofInt 0 := by
      by_cases q : i = 0
      · subst q; rw [pk_us, wY_0]
      · rw [pk_un (by omega)]; exact (hx (by omega)).2
    rw [mo_hasLine_B38, if_neg (by decide)]
    refine crs1 (B := mo_hasLine_B46 f (Int32.ofInt (wX f x0 i)) (Int32.ofInt (wY f x0 i)) g (nI i) fl go le lx ly K) (fun t => nI t) (wL f x0 i) (fun t ht k => ?_) (fun k => ?_) FU (FU_lt (by omega))
    · have ns : sdB f (wX f x0 i) (wY f x0 i) t = false := by
        cases z : sdB f (wX f x0 i) (wY f x0 i) t with
        | false => rfl
        | true => have := sd_let h.2.1 (by omega) hl z s; omega
      rw [mo_hasLine_B46, mo_isSide_eq f (by omega) (by omega) (by omega), bd1_some, ns, if_pos boI_f, nm_eq, nI_1]
    · rw [mo_hasLine_B46, mo_isSide_eq f (by omega) (by omega) hl, bd1_some, s, if_neg (by decide), ck_n (show i < 60 by omega) (by omega), nm_eq, ck_n (show i < 61 by omega) (by omega), nm_eq, ck_n (show i < 61 by omega) (by omega), nm_eq, nm_eq, s1, bd1_some, nm_eq, s2, bd1_some, nm_eq, c0_61, c0_61, ← Int32.ofInt_add, ← Int32.ofInt_add, ← wX_s, ← wY_s, cl_0, cl_n (show i < 2 ^ 31 by omega), nI_1, lx0, ly0]
      by_cases qe : i + 1 = L
      · have e1 := hL.2.2.1
        have e2 := hL.2.2.2.1
        rw [← qe] at e1 e2
        rw [if_pos (by rw [e1]), if_pos (by rw [e2]), if_pos qe, mo_hasLine_J153]
      · have ne := hL.2.2.2.2 (i + 1) (by omega) (by omega)
        rw [if_neg qe]
        by_cases q1 : Int32.ofInt (wX f x0 (i + 1)) = Int32.ofInt (x0 : Int)
        · rw [if_pos q1]
          by_cases q2 : Int32.ofInt (wY f x0 (i + 1)) = Int32.ofInt 0
          · exact absurd ⟨(gi_eq (by omega) (by omega)).mp q1, (gi_eq (by omega) (by omega)).mp q2⟩ ne
          · rw [if_neg q2, mo_hasLine_J148, mo_hasLine_J153]
        · rw [if_neg q1, mo_hasLine_J148, mo_hasLine_J153]
theorem hasLine_eq {f : Int64} {x0 L : Nat} (h : LNs f x0) (hL : LEN f x0 L) (hk : low f x0) (h0 : aslL f = 0) (g s : Int32) (fl go le lx ly : Nat → Int32) : ∃ g' fl' go' le' lx' ly', mo_hasLine f g s fl go le lx ly = some (1, g', nI L, fl', go', le', lx', ly') ∧ ∀ i, i < L → le' i = nI (wL f x0 i) := by
  obtain ⟨e1, e2, e3⟩ := len_eq h hL
  obtain ⟨n, g', fl', go', n1, n2, n3, n4, n5⟩ := holes_ok h.1.1 g fl go
  have n0 : n = 0 := n5.mpr h.2.2.1
  subst n0
  have z : ptS f 2 8 = 0 := by rw [pt_asl h.1.1.c7, h0]; exact cnt_zero
  have po := mo_pointsOf_eq f (w := 2) (by omega)
  rw [show nI 2 = (2 : Int32) from rfl, z] at po
  have lw : low (f &&& 255) x0 := by
    have x7 := h.2.2.2.1
    refine ⟨hk.1, ?_, fun i hi => ?_⟩
    · rw [bt_and, hk.2.1, k_255 hk.1, decide_eq_true (by omega)]; rfl
    · rw [bt_and, hk.2.2 i hi, Bool.false_and]
  rw [mo_hasLine, n3, bd4_some, if_neg (by decide), po, bd1_some, if_pos (by decide), mo_lowest_eq lw, bd1_some]
  refine ivl7 (B := mo_hasLine_B38 f g' fl' go') (fun i a b c d e lx ly => a = Int32.ofInt (wX f x0 i) ∧ b = Int32.ofInt (wY f x0 i) ∧ c = (if i = L then 0 else 1) ∧ d = nI i ∧ (∀ j, j < i → e j = nI (wL f x0 j)) ∧ (0 < i → lx 0 = Int32.ofInt (x0 : Int) ∧ ly 0 = 0)) (fun o => ∃ g' fl' go' le' lx' ly', o = some (1, g', nI L, fl', go', le', lx', ly') ∧ ∀ i, i < L → le' i = nI (wL f x0 i)) L ?_ ?_ FU 0 _ _ _ _ _ _ _ (by omega) (FU_lt (by omega)) ⟨rfl, rfl, by rw [if_neg (by have := hL.1; omega)], rfl, fun j hj => by omega, fun h => by omega⟩
  · rintro i hi a b c d e lx ly kq ⟨rfl, rfl, rfl, rfl, he, hx⟩
    obtain ⟨lx', ly', x1, x2⟩ := line_step h hL g' fl' go' hi e2 (le := e) hx kq
    rw [if_neg (show ¬ i = L by omega), x2]
    refine ⟨_, _, _, _, _, _, _, ⟨rfl, rfl, rfl, rfl, fun j hj => ?_, fun _ => x1⟩, rfl⟩
    by_cases q : j = i
    · rw [q, pk_us]
    · rw [pk_un q]; exact he j (by omega)
  · rintro a b c d e lx ly kq ⟨rfl, rfl, rfl, rfl, he, hx⟩
    rw [if_pos rfl, mo_hasLine_B38, if_pos rfl, zb_1]
    exact ⟨_, _, _, _, _, _, rfl, he⟩
theorem hasLine_no {f : Int64} (hf : FIG f) (h : ¬ (hlw f = 0 ∧ aslL f = 0)) (g s : Int32) (fl go le lx ly : Nat → Int32) : ∃ g' fl' go', mo_hasLine f g s fl go le lx ly = some (0, g', s, fl', go', le, lx, ly) := by
  obtain ⟨n, g', fl', go', n1, n2, n3, n4, n5⟩ := holes_ok hf.1 g fl go
  have po := mo_pointsOf_eq f (w := 2) (by omega)
  rw [show nI 2 = (2 : Int32) from rfl, pt_asl hf.1.c7] at po
  have c64 := cnt_le (aslL f)
  rw [mo_hasLine, n3, bd4_some]
  by_cases q : n = 0
  · subst q
    have z := n5.mp rfl
    rw [if_neg (by decide), po, bd1_some, if_neg (show ¬ nI (cnt (aslL f)) ≤ 0 from nI_ge (a := 0) (b := cnt (aslL f)) (cnt_pos (fun e => h ⟨z, e⟩)) (by omega)), zb_0]
    exact ⟨_, _, _, rfl⟩
  · rw [if_pos (show (0 : Int32) < nI n from i32_nle.mp (nI_ge (a := 0) (b := n) (by omega) (by omega))), zb_0]
    exact ⟨_, _, _, rfl⟩
