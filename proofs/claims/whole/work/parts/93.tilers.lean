/-! tilers -/
theorem ivl14 {α1 α2 α3 α4 α5 α6 α7 α8 α9 α10 α11 α12 α13 α14 ρ : Type} {B : (α1 → α2 → α3 → α4 → α5 → α6 → α7 → α8 → α9 → α10 → α11 → α12 → α13 → α14 → Option ρ) → α1 → α2 → α3 → α4 → α5 → α6 → α7 → α8 → α9 → α10 → α11 → α12 → α13 → α14 → Option ρ} (P : Nat → α1 → α2 → α3 → α4 → α5 → α6 → α7 → α8 → α9 → α10 → α11 → α12 → α13 → α14 → Prop) (Q : Option ρ → Prop) (N : Nat) (hs : ∀ i, i < N → ∀ a1 a2 a3 a4 a5 a6 a7 a8 a9 a10 a11 a12 a13 a14 k, P i a1 a2 a3 a4 a5 a6 a7 a8 a9 a10 a11 a12 a13 a14 → ∃ b1 b2 b3 b4 b5 b6 b7 b8 b9 b10 b11 b12 b13 b14, P (i + 1) b1 b2 b3 b4 b5 b6 b7 b8 b9 b10 b11 b12 b13 b14 ∧ B k a1 a2 a3 a4 a5 a6 a7 a8 a9 a10 a11 a12 a13 a14 = k b1 b2 b3 b4 b5 b6 b7 b8 b9 b10 b11 b12 b13 b14) (he : ∀ a1 a2 a3 a4 a5 a6 a7 a8 a9 a10 a11 a12 a13 a14 k, P N a1 a2 a3 a4 a5 a6 a7 a8 a9 a10 a11 a12 a13 a14 → Q (B k a1 a2 a3 a4 a5 a6 a7 a8 a9 a10 a11 a12 a13 a14)) : ∀ (n i : Nat) (a1 : α1) (a2 : α2) (a3 : α3) (a4 : α4) (a5 : α5) (a6 : α6) (a7 : α7) (a8 : α8) (a9 : α9) (a10 : α10) (a11 : α11) (a12 : α12) (a13 : α13) (a14 : α14), i ≤ N → N - i < n → P i a1 a2 a3 a4 a5 a6 a7 a8 a9 a10 a11 a12 a13 a14 → Q (fl14 B n a1 a2 a3 a4 a5 a6 a7 a8 a9 a10 a11 a12 a13 a14) := by
  intro n
  induction n with
  | zero => intro i a1 a2 a3 a4 a5 a6 a7 a8 a9 a10 a11 a12 a13 a14 _ h; omega
  | succ n ih =>
    intro i a1 a2 a3 a4 a5 a6 a7 a8 a9 a10 a11 a12 a13 a14 hi hn hp
    show Q (B (fl14 B n) a1 a2 a3 a4 a5 a6 a7 a8 a9 a10 a11 a12 a13 a14)
    rcases Nat.lt_or_ge i N with q | q
    · obtain ⟨b1, b2, b3, b4, b5, b6, b7, b8, b9, b10, b11, b12, b13, b14, h1, h2⟩ := hs i q a1 a2 a3 a4 a5 a6 a7 a8 a9 a10 a11 a12 a13 a14 (fl14 B n) hp
      rw [h2]; exact ih (i + 1) b1 b2 b3 b4 b5 b6 b7 b8 b9 b10 b11 b12 b13 b14 q (by omega) h1
    · have e : i = N := by omega
      subst e; exact he a1 a2 a3 a4 a5 a6 a7 a8 a9 a10 a11 a12 a13 a14 _ hp
/-- whether a figure tiles, as both say it -/
def tlP (f : Int64) (n : Nat) : Prop := n ≤ 1 ∧ (∀ xl x1 x2 x3 x4 x5 x6 le, ∃ xl' x1' x2' x3' x4' x5' x6' le', ol_tilesBy f xl x1 x2 x3 x4 x5 x6 le = some (nI n, xl', x1', x2', x3', x4', x5', x6', le')) ∧ ∀ y s z1 z2 z3 z4 z5 fl go ml lx ly, (n = 0 ∧ ∃ y' s' fl' go' ml' lx' ly', mo_hasLine f y s fl go ml lx ly = some (0, y', s', fl', go', ml', lx', ly')) ∨ ∃ y' s' fl' go' ml' lx' ly' z1' z2' z3' z4' z5', mo_hasLine f y s fl go ml lx ly = some (1, y', s', fl', go', ml', lx', ly') ∧ mo_laysCuttings s' z1 z2 z3 z4 z5 ml' = some (z1', z2', z3', z4', z5') ∧ ((n = 0 ∧ z1' ≤ 0) ∨ (n = 1 ∧ ¬ z1' ≤ 0))
theorem tlP_ex {f : Int64} (hf : FIG f) : ∃ n, tlP f n := by
  by_cases hn : hlw f = 0 ∧ aslL f = 0
  · obtain ⟨x0, H, k1, k2, k3, k4⟩ := line_set hf hn
    have h13 := k4.2.2.2
    have nb := nCt_b (f := f) (x0 := x0) h13
    have c0 : ∀ {cu : Int32}, cu = nI (nCt f x0 H) → (cu ≤ 0 ↔ nCt f x0 H = 0) := fun {cu} e => by rw [e]; exact nI_le0 (by omega)
    refine ⟨if nCt f x0 H = 0 then 0 else 1, by split <;> omega, fun xl x1 x2 x3 x4 x5 x6 le => ?_, fun y s z1 z2 z3 z4 z5 fl go ml lx ly => Or.inr ?_⟩
    · obtain ⟨le', r1, r2⟩ := trc k1 k2 k3 hn.2 xl le
      obtain ⟨cu, ba, pl, la, lb, lc, d1, d2⟩ := cut_eq k4 r2 x1 x2 x3 x4 x5 x6
      rw [ol_tilesBy, r1, bd3_some, if_neg (by decide), d1, bd6_some]
      by_cases q : nCt f x0 H = 0
      · rw [if_pos q, if_pos ((c0 d2.1).mpr q)]
        exact ⟨_, _, _, _, _, _, _, _, rfl⟩
      · rw [if_neg q, if_neg (fun e => q ((c0 d2.1).mp e))]
        exact ⟨_, _, _, _, _, _, _, _, rfl⟩
    · obtain ⟨y', fl', go', ml', lx', ly', s1, s2⟩ := hasLine_eq k2 k3 k1 hn.2 y s fl go ml lx ly
      obtain ⟨cu2, ba2, pl2, la2, lb2, lc2, e1, e2⟩ := lays_eq k4 s2 z1 z2 z3 z4 z5
      refine ⟨_, _, _, _, _, _, _, _, _, _, _, _, s1, e1, ?_⟩
      by_cases q : nCt f x0 H = 0
      · exact Or.inl ⟨if_pos q, (c0 e2.1).mpr q⟩
      · exact Or.inr ⟨if_neg q, fun e => q ((c0 e2.1).mp e)⟩
  · refine ⟨0, by omega, fun xl x1 x2 x3 x4 x5 x6 le => ?_, fun y s z1 z2 z3 z4 z5 fl go ml lx ly => Or.inl ⟨rfl, ?_⟩⟩
    · rw [ol_tilesBy, trace_no hn, bd3_some, if_pos rfl]
      exact ⟨_, _, _, _, _, _, _, _, rfl⟩
    · obtain ⟨y', fl', go', s1⟩ := hasLine_no hf hn y s fl go ml lx ly
      exact ⟨_, _, _, _, _, _, _, s1⟩
noncomputable def tlF (f : Int64) : Nat := Classical.epsilon (fun n => tlP f n)
theorem tlF_s {f : Int64} (hf : FIG f) : tlP f (tlF f) := Classical.epsilon_spec (p := fun n => tlP f n) (tlP_ex hf)
theorem trait15 {m : Nat} {nu : Nat → Int64} {os fr en : Nat → Int32} (hc : CL m nu os fr en) (hm : m ≤ 7) {M : Nat → Int64} (hM : MK tlF M) {n k i t : Nat} (hk : k ≤ 2) (h1 : 1 ≤ n) (hn : n ≤ m) (hi : i < eN n) (hb : lB k i = true) (hr : rk k i = eK k (n - 1) + t) (s1 s2 s3 s4 s5 s6 s7 : Int32) (le : Nat → Int32) : ∃ s1' s2' s3' s4' s5' s6' s7' le' M', ca_trait (nI n) (nI k) (nI t) 15 s1 s2 s3 s4 s5 s6 s7 le nu os fr en M = some (nI (tlF (Lf i)), s1', s2', s3', s4', s5', s6', s7', le', M') ∧ MK tlF M' := by
  have im : i < eN m := by
    have : ∀ a b : Fin 8, a.val ≤ b.val → eN a.val ≤ eN b.val := by decide
    have : eN n ≤ eN m := this ⟨n, by omega⟩ ⟨m, by omega⟩ hn
    omega
  have b := eN_b hm
  have i67 : i < 1067 := by omega
  obtain ⟨v, v1, v2, v3⟩ := hM i i67 15 (by omega)
  obtain ⟨t1, t2, _⟩ := tlF_s (Lf_FIG i67)
  obtain ⟨s1', s2', s3', s4', s5', s6', s7', le', t3⟩ := t2 s1 s2 s3 s4 s5 s6 s7 le
  have i1 : inr (nI i) 0 1066 = true := by
    unfold inr
    rw [Bool.and_eq_true, decide_eq_true_eq, decide_eq_true_eq]
    exact ⟨nI_pos' (by omega), nI_le (a := i) (b := 1066) (by omega) (by omega)⟩
  have i2 : inr 15 0 15 = true := by decide
  have tv : tvN tlF i 15 = tlF (Lf i) := by unfold tvN; rw [if_pos rfl]
  have e6 : (2 * nI i + ir 15 3 : Int32) = nI (2 * i + 15 / 8) := by rw [show ir 15 3 = nI (15 / 8) by decide, show (2 : Int32) = nI 2 from rfl, pk_mul, nI_add]
  have e7 : (8 * (15 &&& 7) : Int32) = nI (8 * (15 % 8)) := by decide
  rw [ca_trait, nI_m1 (by omega), cend hc hm hk (by omega), bd1_some, nI_add, ← hr, member_eq hc hm hk im hb, bd1_some, cf_within_eq, bd1_some, i1, if_neg (by decide), cf_within_eq, bd1_some, i2, if_neg (by decide), nm_eq, nm_eq, e6, e7, ck_n (show 2 * i + 15 / 8 < 2134 by omega) (by omega), nm_eq, cl_n (show 2 * i + 15 / 8 < 2 ^ 31 by omega), fld_eq (by omega) v1 v2]
  rcases v3 with z | z
  · subst z
    rw [if_pos nI_0, if_pos rfl, ck_n i67 (by omega), cl_n (show i < 2 ^ 31 by omega), hc.1 i im, t3, bd9_some, ca_trait_J122, nm_eq, show (1 + nI (tlF (Lf i)) : Int32) = nI (1 + tlF (Lf i)) by rw [show (1 : Int32) = nI 1 from rfl, nI_add], ck_n (show 2 * i + 15 / 8 < 2134 by omega) (by omega), nm_eq, ck_n (show 2 * i + 15 / 8 < 2134 by omega) (by omega), nm_eq, cl_n (show 2 * i + 15 / 8 < 2 ^ 31 by omega), nI_m1 (by omega), show 1 + tlF (Lf i) - 1 = tlF (Lf i) by omega]
    have := MK_set hM i67 (show 15 < 16 by omega) (by rw [tv]; omega) (fun t ht => by rw [v2 t ht, Nat.zero_testBit])
    rw [tv] at this
    exact ⟨_, _, _, _, _, _, _, _, _, rfl, this⟩
  · rw [tv] at z
    subst z
    rw [if_neg (nI_ne0 (by omega) (by omega)), nI_m1 (by omega), show 1 + tlF (Lf i) - 1 = tlF (Lf i) by omega]
    exact ⟨_, _, _, _, _, _, _, _, M, rfl, hM⟩
noncomputable def tlS (n k t : Nat) : Nat := fb_sm (fun u => tlF (Lf (mbr n k u))) t
theorem tlS_b {n k : Nat} (hn : 1 ≤ n ∧ n ≤ 7) : ∀ t, t ≤ eK k n - eK k (n - 1) → tlS n k t ≤ t
  | 0, _ => Nat.le_refl _
  | t + 1, h => by
    have ih := tlS_b (k := k) hn t (by omega)
    obtain ⟨j1, j2, j3, j4⟩ := mbr_s (k := k) hn (show t < eK k n - eK k (n - 1) by omega)
    have b := eN_b hn.2
    have l := (tlF_s (Lf_FIG (show mbr n k t < 1067 by omega))).1
    have e : tlS n k (t + 1) = tlS n k t + tlF (Lf (mbr n k t)) := fb_sm_succ _ _
    omega
theorem opc_tilers (v w : Int32) {x : Int32} {nu : Nat → Int64} {os fr en : Nat → Int32} (hc : CLs x nu os fr en) {M : Nat → Int64} (hM : MK tlF M) {li : Nat → Int64} {fm : Nat → Int32} (hl : MLm 7 li fm) (s1 s2 s3 s4 s5 s6 s7 : Int32) (le : Nat → Int32) (y s z1 z2 z3 z4 z5 : Int32) (fl go ml lx ly : Nat → Int32) : ∃ r s1' s2' s3' s4' s5' s6' s7' le' x' nu' os' fr' en' M' y' s' z1' z2' z3' z4' z5' fl' go' ml' lx' ly', cf_tilers v w s1 s2 s3 s4 s5 s6 s7 le x nu os fr en M = some (r, s1', s2', s3', s4', s5', s6', s7', le', x', nu', os', fr', en', M') ∧ mo_tilers v w y s z1 z2 z3 z4 z5 fl go li fm ml lx ly = some (r, y', s', z1', z2', z3', z4', z5', fl', go', ml', lx', ly') ∧ CLs x' nu' os' fr' en' ∧ MK tlF M' := by
  cases hv : (inr v 1 7 && inr w 0 2) with
  | false =>
    simp only [cf_tilers, mo_tilers, cf_isList_eq, mo_isList_eq, hv, bd1_some, bf0, if_true]
    exact ⟨-1, _, _, _, _, _, _, _, _, _, _, _, _, _, _, _, _, _, _, _, _, _, _, _, _, _, _, rfl, rfl, hc, hM⟩
  | true =>
    have hv' := hv
    rw [Bool.and_eq_true] at hv
    obtain ⟨n, n1, n2, rfl⟩ := inr_17' hv.1
    obtain ⟨k, hk, rfl⟩ := inr_2 hv.2
    simp only [cf_tilers, mo_tilers, cf_isList_eq, mo_isList_eq, hv', bd1_some, bt0, if_false]
    obtain ⟨m, nu', os', fr', en', m1, m2, p1, p2⟩ := prepare_eq hc n2
    have ek := eK_1067 (k := k) n2
    have bb := bK_b (n := n) (k := k + 1) n2
    have sz := sz_eq n1 n2 hk
    rw [p1, bd5_some, csize p2 m2 hk n1 m1, bd1_some, mbeg hl ⟨n1, n2⟩ hk, bd1_some]
    have cl : ∃ s1' s2' s3' s4' s5' s6' s7' le' M', fl11 (cf_tilers_B34 (nI n) (nI k) (nI (eK k n - eK k (n - 1))) (nI m) nu' os' fr' en') FU 0 0 s1 s2 s3 s4 s5 s6 s7 le M = some (nI (tlS n k (eK k n - eK k (n - 1))), s1', s2', s3', s4', s5', s6', s7', le', nI m, nu', os', fr', en', M') ∧ MK tlF M' := by
      refine ivl11 (B := cf_tilers_B34 (nI n) (nI k) (nI (eK k n - eK k (n - 1))) (nI m) nu' os' fr' en') (fun t a b c1 c2 c3 c4 c5 c6 c7 c8 M => a = nI (tlS n k t) ∧ b = nI t ∧ MK tlF M) (fun o => ∃ s1' s2' s3' s4' s5' s6' s7' le' M', o = some (nI (tlS n k (eK k n - eK k (n - 1))), s1', s2', s3', s4', s5', s6', s7', le', nI m, nu', os', fr', en', M') ∧ MK tlF M') (eK k n - eK k (n - 1)) ?_ ?_ FU 0 _ _ _ _ _ _ _ _ _ _ _ (by omega) (FU_lt (by omega)) ⟨rfl, rfl, hM⟩
      · rintro t ht a b c1 c2 c3 c4 c5 c6 c7 c8 M K ⟨rfl, rfl, hM⟩
        obtain ⟨j1, j2, j3, j4⟩ := mbr_s (k := k) ⟨n1, n2⟩ ht
        obtain ⟨s1', s2', s3', s4', s5', s6', s7', le', M', e1, e2⟩ := trait15 p2 m2 hM hk n1 m1 j2 j3 j4 c1 c2 c3 c4 c5 c6 c7 c8
        have es : tlS n k (t + 1) = tlS n k t + tlF (Lf (mbr n k t)) := fb_sm_succ _ _
        rw [cf_tilers_B34, if_neg (nI_ge ht (by omega)), e1, bd10_some, nm_eq, nI_add, nm_eq, o1]
        exact ⟨_, _, _, _, _, _, _, _, _, _, _, ⟨by rw [es], rfl, e2⟩, rfl⟩
      · rintro a b c1 c2 c3 c4 c5 c6 c7 c8 M K ⟨rfl, rfl, hM⟩
        rw [cf_tilers_B34, if_pos (nI_le (Nat.le_refl _) (by omega))]
        exact ⟨_, _, _, _, _, _, _, _, M, rfl, hM⟩
    have mm : ∃ y' s' z1' z2' z3' z4' z5' fl' go' ml' lx' ly', fl14 (mo_tilers_B21 (nI n) (nI k) li fm) FU 0 (nI (bK n k)) y s z1 z2 z3 z4 z5 fl go ml lx ly = some (nI (tlS n k (eK k n - eK k (n - 1))), y', s', z1', z2', z3', z4', z5', fl', go', ml', lx', ly') := by
      refine ivl14 (B := mo_tilers_B21 (nI n) (nI k) li fm) (fun t a b y s z1 z2 z3 z4 z5 fl go ml lx ly => a = nI (tlS n k t) ∧ b = nI (bK n k + t)) (fun o => ∃ y' s' z1' z2' z3' z4' z5' fl' go' ml' lx' ly', o = some (nI (tlS n k (eK k n - eK k (n - 1))), y', s', z1', z2', z3', z4', z5', fl', go', ml', lx', ly')) (eK k n - eK k (n - 1)) ?_ ?_ FU 0 _ _ _ _ _ _ _ _ _ _ _ _ _ _ (by omega) (FU_lt (by omega)) ⟨rfl, rfl⟩
      · rintro t ht a b y s z1 z2 z3 z4 z5 fl go ml lx ly K ⟨rfl, rfl⟩
        obtain ⟨l1, l2, l3⟩ := mli hl ⟨n1, n2⟩ hk ht
        obtain ⟨_, _, t3⟩ := tlF_s (Lf_FIG l3)
        have es : tlS n k (t + 1) = tlS n k t + tlF (Lf (mbr n k t)) := fb_sm_succ _ _
        rw [mo_tilers_B21, mend hl ⟨n1, n2⟩ hk, bd1_some, if_neg (nI_ge (show bK n k + t < bK n (k + 1) by omega) (by omega)), ck_n l2 (by omega), cl_n (show bK n k + t < 2 ^ 31 by omega), l1]
        rcases t3 y s z1 z2 z3 z4 z5 fl go ml lx ly with ⟨q0, y', s', fl', go', ml', lx', ly', q1⟩ | ⟨y', s', fl', go', ml', lx', ly', z1', z2', z3', z4', z5', q1, q2, q3⟩
        · rw [q1, bd8_some, if_pos rfl, mo_tilers_J68, nm_eq, o1]
          rw [q0] at es
          exact ⟨_, _, _, _, _, _, _, _, _, _, _, _, _, _, ⟨by rw [es]; rfl, rfl⟩, rfl⟩
        · rw [q1, bd8_some, if_neg (by decide), q2, bd5_some, mo_tilers_J66, mo_tilers_J66, nm_eq, nm_eq, mo_tilers_J68, mo_tilers_J68, nm_eq, nm_eq, o1]
          rcases q3 with ⟨q0, q4⟩ | ⟨q0, q4⟩
          · rw [if_pos q4]
            rw [q0] at es
            exact ⟨_, _, _, _, _, _, _, _, _, _, _, _, _, _, ⟨by rw [es, show (0 : Int32) = nI 0 from rfl, nI_add], rfl⟩, rfl⟩
          · rw [if_neg q4]
            rw [q0] at es
            exact ⟨_, _, _, _, _, _, _, _, _, _, _, _, _, _, ⟨by rw [es, show (1 : Int32) = nI 1 from rfl, nI_add], rfl⟩, rfl⟩
      · rintro a b y s z1 z2 z3 z4 z5 fl go ml lx ly K ⟨rfl, rfl⟩
        rw [mo_tilers_B21, mend hl ⟨n1, n2⟩ hk, bd1_some, if_pos (nI_le (show bK n (k + 1) ≤ bK n k + (eK k n - eK k (n - 1)) by omega) (by omega))]
        exact ⟨_, _, _, _, _, _, _, _, _, _, _, _, rfl⟩
    obtain ⟨s1', s2', s3', s4', s5', s6', s7', le', M', c1, c2⟩ := cl
    obtain ⟨y', s', z1', z2', z3', z4', z5', fl', go', ml', lx', ly', d1⟩ := mm
    rw [c1, d1]
    exact ⟨_, _, _, _, _, _, _, _, _, _, _, _, _, _, _, _, _, _, _, _, _, _, _, _, _, _, _, rfl, rfl, ⟨m, m2, rfl, p2⟩, c2⟩
