/-! drawn by lots -/
theorem ct_gap {p : Nat → Bool} {a b : Nat} (hab : a ≤ b) (h : ∀ q, a ≤ q → q < b → p q = false) : fb_ct p b = fb_ct p a := by
  obtain ⟨d, rfl⟩ := Nat.le.dest hab
  clear hab
  induction d with
  | zero => rfl
  | succ d ih =>
    show fb_ct p (a + d + 1) = _
    rw [fb_ct_succ, ih (fun q h1 h2 => h q h1 (by omega)), h (a + d) (by omega) (by omega)]
    rfl
theorem PLq_out {f : Int64} {q : Nat} (h : 81 ≤ q) : PLq f q = false := by
  cases hp : PLq f q with
  | false => rfl
  | true =>
    obtain ⟨_, _, _, w4⟩ := Wn_c (PLq_c hp).2
    omega
theorem rank_eq {f : Int64} (hf : FIG f) : ∀ i, i ≤ 64 → fb_ct (PLq f) (sgm f i) = fb_ct (bt (stL f)) i
  | 0, _ => by
    rw [ct_gap (a := 0) (Nat.zero_le _)]
    · rfl
    · intro q _ h2
      cases hp : PLq f q with
      | false => rfl
      | true =>
        rcases Nat.lt_or_ge q 81 with k | k
        · obtain ⟨i, h3, h4⟩ := PLq_onto hf k hp
          rcases Nat.eq_zero_or_pos i with e | e
          · subst e; omega
          · have := sgm_mono f e; omega
        · rw [PLq_out k] at hp; cases hp
  | i + 1, h => by
    have ih := rank_eq hf i (by omega)
    have m : sgm f i < sgm f (i + 1) := sgm_mono f (Nat.lt_succ_self i)
    rw [ct_gap (a := sgm f i + 1) m, fb_ct_succ, ih, fb_ct_succ, PLq_sgm hf (by omega)]
    intro q h1 h2
    cases hp : PLq f q with
    | false => rfl
    | true =>
      rcases Nat.lt_or_ge q 81 with k | k
      · obtain ⟨j, h3, h4⟩ := PLq_onto hf k hp
        rcases Nat.lt_trichotomy j i with e | e | e
        · have := sgm_mono f e; omega
        · subst e; omega
        · rcases Nat.lt_trichotomy j (i + 1) with e2 | e2 | e2
          · omega
          · subst e2; omega
          · have := sgm_mono f e2; omega
      · rw [PLq_out k] at hp; cases hp
theorem many_eq {f : Int64} (hf : FIG f) : fb_ct (PLq f) 81 = cnt (stL f) := by
  have h := rank_eq hf 64 (Nat.le_refl _)
  show _ = fb_ct (bt (stL f)) 64
  rw [← h]
  rcases Nat.le_total 81 (sgm f 64) with k | k
  · exact (ct_gap k (fun q h1 _ => PLq_out h1)).symm
  · refine ct_gap k (fun q h1 h2 => ?_)
    cases hp : PLq f q with
    | false => rfl
    | true =>
      obtain ⟨j, h3, h4⟩ := PLq_onto hf h2 hp
      have := sgm_mono f (bt_lt h3)
      omega
theorem ith_rank {x : Int64} : ∀ k, k < cnt x → fb_ct (bt x) (ith x k) = k
  | 0, h => by
    rw [ct_gap (a := 0) (Nat.zero_le _)]
    · rfl
    · intro q _ h2
      refine bf_of (fun hb => ?_)
      obtain ⟨i, h3, h4⟩ := ith_all hb
      rcases Nat.eq_zero_or_pos i with e | e
      · subst e; omega
      · have := ith_mono e h3; omega
  | k + 1, h => by
    have ih := ith_rank (x := x) k (by omega)
    have m : ith x k < ith x (k + 1) := ith_mono (f := x) (Nat.lt_succ_self k) h
    rw [ct_gap (a := ith x k + 1) m, fb_ct_succ, ih, ith_bt (by omega)]
    · rfl
    · intro q h1 h2
      refine bf_of (fun hb => ?_)
      obtain ⟨i, h3, h4⟩ := ith_all hb
      rcases Nat.lt_trichotomy i k with e | e | e
      · have := ith_mono (f := x) e (by omega); omega
      · subst e; omega
      · rcases Nat.lt_trichotomy i (k + 1) with e2 | e2 | e2
        · omega
        · subst e2; omega
        · have := ith_mono e2 h3; omega
theorem site_at {f : Int64} (hf : FIG f) {L : Nat} (hL : L < cnt (stL f)) : sgm f (ith (stL f) L) < 81 ∧ PLq f (sgm f (ith (stL f) L)) = true ∧ fb_ct (PLq f) (sgm f (ith (stL f) L)) = L ∧ wtq f (sgm f (ith (stL f) L)) = stq f L := by
  have hb := ith_bt hL
  have h64 := bt_lt hb
  refine ⟨sgm_lt f h64, by rw [PLq_sgm hf h64]; exact hb, by rw [rank_eq hf _ (by omega), ith_rank L hL], ?_⟩
  rw [wtq_sgm]; rfl
theorem st_pos {f : Int64} (hf : FIG f) (hc : cnt f < 12) : 0 < cnt (stL f) := by
  have wb := wdt_b hf
  have main : ∃ x y, BS f x y = true ∧ Wn f x y = true := by
    by_cases qw : wdt f < 7
    · obtain ⟨y, hy, hb⟩ := hf.2.2.1
      refine ⟨-1, y, ?_, ?_⟩
      · unfold BS
        rw [hB_o f (x := -1) (by omega), show (-1 : Int) + 1 = ((0 : Nat) : Int) by omega, hB_n f (by omega) (by omega), Nat.add_zero, hb]; rfl
      · unfold Wn
        rw [decide_eq_true_eq, if_pos (by omega), if_neg (by omega)]
        omega
    · by_cases qh : hgt f < 7
      · obtain ⟨x, hx, hb⟩ := hf.2.1
        refine ⟨x, -1, ?_, ?_⟩
        · unfold BS
          rw [hB_o f (y := -1) (x := (x : Int)) (by omega), show (-1 : Int) + 1 = ((0 : Nat) : Int) by omega, hB_n f (x := x) (y := 0) (by omega) (by omega), show 8 * 0 + x = x by omega, hb]
          simp
        · unfold Wn
          rw [decide_eq_true_eq, if_neg (by omega), if_pos (by omega)]
          omega
      · refine Classical.byContradiction (fun no => ?_)
        have nb : ∀ x y : Nat, x < 7 → y < 7 → BS f x y = false := by
          intro x y hx hy
          cases hb : BS f x y with
          | false => rfl
          | true =>
            exact absurd ⟨(x : Int), (y : Int), hb, by unfold Wn; rw [decide_eq_true_eq, if_neg (by omega), if_neg (by omega)]; omega⟩ no
        have full : ∀ x y : Nat, x < 7 → y < 7 → bt f (8 * y + x) = true := by
          intro x y hx hy
          obtain ⟨x0, hx0, hb0⟩ := (FIG_h hf (y := y) (by omega)).mpr (by omega)
          have w0 := bt_wh hf hb0
          have right : ∀ d, x0 + d < 7 → bt f (8 * y + (x0 + d)) = true := by
            intro d
            induction d with
            | zero => intro _; exact hb0
            | succ d ih =>
              intro h
              have a := ih (by omega)
              have b := nb (x0 + (d + 1)) y h hy
              unfold BS at b
              rw [show ((x0 + (d + 1) : Nat) : Int) - 1 = ((x0 + d : Nat) : Int) by omega, hB_n f (x := x0 + d) (y := y) (by omega) (by omega), a, hB_n f (x := x0 + (d + 1)) (y := y) (by omega) (by omega)] at b
              cases hb : bt f (8 * y + (x0 + (d + 1))) with
              | true => rfl
              | false => rw [hb] at b; simp at b
          have left : ∀ d, d ≤ x0 → bt f (8 * y + (x0 - d)) = true := by
            intro d
            induction d with
            | zero => intro _; exact hb0
            | succ d ih =>
              intro h
              have a := ih (by omega)
              have b := nb (x0 - (d + 1)) y (by omega) hy
              unfold BS at b
              rw [show ((x0 - (d + 1) : Nat) : Int) + 1 = ((x0 - d : Nat) : Int) by omega, hB_n f (x := x0 - d) (y := y) (by omega) (by omega), a, hB_n f (x := x0 - (d + 1)) (y := y) (by omega) (by omega)] at b
              cases hb : bt f (8 * y + (x0 - (d + 1))) with
              | true => rfl
              | false => rw [hb] at b; simp at b
          rcases Nat.le_total x0 x with k | k
          · have := right (x - x0) (by omega)
            rw [show x0 + (x - x0) = x by omega] at this; exact this
          · have := left (x0 - x) (by omega)
            rw [show x0 - (x0 - x) = x by omega] at this; exact this
        have : cnt f = 49 := by
          rw [cnt77 hf.1, fb_sm_cong (g := fun _ => 7) (fun y hy => ?_), fb_sm_const]
          exact fb_ct_all.mpr (fun x hx => full x y hx hy)
        omega
  obtain ⟨x, y, hb, hw⟩ := main
  obtain ⟨x1, x2, y1, y2⟩ := BS_r hf.1 hb
  have hq : PLq f (9 * (y + 1).toNat + (x + 1).toNat) = true := by
    unfold PLq
    rw [show (((9 * (y + 1).toNat + (x + 1).toNat) % 9 : Nat) : Int) - 1 = x by omega, show (((9 * (y + 1).toNat + (x + 1).toNat) / 9 : Nat) : Int) - 1 = y by omega, hb, hw]; rfl
  rw [← many_eq hf]
  exact fb_ct_pos.mpr ⟨_, by omega, hq⟩
theorem stq_F {f : Int64} (hf : FIG f) (hc : cnt f < 12) {k : Nat} (hk : k < cnt (stL f)) : FIG (stq f k) ∧ cnt (stq f k) = cnt f + 1 := by
  obtain ⟨hb, hw⟩ := site_c hf (ith_bt hk)
  exact wth_FIG hf hc hb hw
theorem bitOf_eq {x : Int64} {k : Nat} (hk : k < cnt x) : gw_bitOf x (nI k) = some (sl 1 (nI (ith x k))) := by
  have h64 := cnt_le x
  unfold gw_bitOf
  refine crs2 (B := gw_bitOf_B5 (nI k)) (itr x) nI k (fun i hi kk => ?_) (fun kk => ?_) FU (FU_lt (by omega))
  · rw [gw_bitOf_B5, if_neg (nI_ge hi (by omega)), nm_eq, nm_eq, o1]; rfl
  · rw [gw_bitOf_B5, if_pos (nI_le (Nat.le_refl _) (by omega)), low_sl (ith_low hk)]
def nx (x : Nat) : Nat := (25173 * x + 13849) % 65536
noncomputable def lt1 (f : Int64) (x : Nat) : Nat := nx x / 4 % cnt (stL f)
theorem lcg_n {x : Nat} (hx : x < 65536) : (25173 * nI x + 13849 : Int32) = nI (25173 * x + 13849) := by
  rw [show (25173 : Int32) = nI 25173 from rfl, show (13849 : Int32) = nI 13849 from rfl, pk_mul, nI_add]
theorem lcg_a {x : Nat} (hx : x < 65536) : (((25173 * nI x) + 13849) &&& (65535 : Int32) : Int32) = nI (nx x) := by
  rw [lcg_n hx]
  exact pk_andN (n := 25173 * x + 13849) (by omega) (m := 65535) 16 (by decide)
theorem lcg_r {x : Nat} (hx : x < 65536) : (remI ((25173 * nI x) + 13849) (65536 : Int32) : Int32) = nI (nx x) := by
  rw [lcg_n hx]
  exact remI_n (a := 25173 * x + 13849) (d := 65536) (by omega) (by omega) (by omega)
theorem lot_n {x m : Nat} (hm : 0 < m) (hm2 : m ≤ 64) : remI (nI (nx x) / 4) (nI m) = nI (nx x / 4 % m) := by
  have : nx x < 65536 := Nat.mod_lt _ (by omega)
  rw [show (4 : Int32) = nI 4 from rfl, pk_div (by omega) (by omega) (by omega), remI_n (by omega) hm (by omega)]
/-- one step of the class -/
theorem lots_step {f : Int64} (hf : FIG f) (hc : cnt f < 12) {x n i : Nat} (hx : x < 65536) (hi : i < n) (hn : n ≤ 12) (k : Int64 → Int32 → Int32 → Option Int64) : gw_byLots_B11 (nI n) k f (nI x) (nI i) = k (stq f (lt1 f x)) (nI (nx x)) (nI (i + 1)) := by
  have h64 := cnt_le (stL f)
  have hp := st_pos hf hc
  have hl : lt1 f x < cnt (stL f) := Nat.mod_lt _ hp
  rw [gw_byLots_B11, if_neg (nI_ge hi (by omega)), gr_roomed_eq, bd1_some]
  show (bd1 (gr_sites f (rmL f)) fun r_3 => bd1 (jl_bitCount r_3) fun r_5 => if r_5 = 0 then (some f) else nm (((25173 * nI x) + 13849) &&& (65535 : Int32) : Int32) fun v4_7 => dzI 4 <| dzI r_5 <| bd1 (gw_bitOf r_3 (remI (v4_7 / 4) r_5)) fun r_8 => bd1 (gr_settled (rmL f ||| r_8)) fun r_10 => nm (nI i + Int32.ofInt 1) fun v5_12 => k r_10 v4_7 v5_12) = _
  rw [gr_sites_eq, bd1_some, jl_bitCount_eq, bd1_some, if_neg (nI_ne0 hp (by omega)), nm_eq, lcg_a hx, dzI_n (by decide), dzI_n (nI_ne0 hp (by omega)), lot_n hp h64]
  have e := bitOf_eq hl
  unfold lt1 at e hl
  rw [e, bd1_some, site_settle hf hc (ith_bt hl), bd1_some, nm_eq, o1]
  rfl
/-- the reference: how many places -/
theorem dr_many {f : Int64} (hf : FIG f) (v1 v3 v4 v7 : Int32) (D : Nat → Int64) (k33 : Int32 → Int64 → Int32 → Option (Int64 × (Nat → Int64))) : fl2 (mo_drawn_B45 v1 v3 v4 f v7 D k33) FU 0 (-1) = dzI (65536 : Int32) (nm (remI ((25173 * v4) + 13849) (65536 : Int32) : Int32) fun v4_18 => dzI 4 <| dzI (nI (fb_ct (PLq f) 81)) <| nm (remI (v4_18 / 4) (nI (fb_ct (PLq f) 81)) : Int32) fun v9_19 => fl3 (mo_drawn_B138 v1 v3 v4_18 f v7 D k33) FU v9_19 0 (-1)) := by
  refine crs2 (B := mo_drawn_B45 v1 v3 v4 f v7 D k33) (fun j => nI (fb_ct (PLq f) (9 * j))) (fun j => Int32.ofInt ((j : Int) - 1)) 9 (fun j hj k => ?_) (fun k => ?_) FU (FU_lt (by omega))
  · rw [mo_drawn_B45, if_neg (i8le hj)]
    refine crs2 (B := mo_drawn_B55 v1 v3 v4 f v7 (Int32.ofInt ((j : Int) - 1)) D k33 k) (fun i => nI (fb_ct (PLq f) (9 * j + i))) (fun i => Int32.ofInt ((i : Int) - 1)) 9 (fun i hi k2 => ?_) (fun k2 => ?_) FU (FU_lt (by omega))
    · have m := m9 j i hi
      have ep : PLq f (9 * j + i) = (BS f ((i : Int) - 1) ((j : Int) - 1) && Wn f ((i : Int) - 1) ((j : Int) - 1)) := by unfold PLq; rw [m.1, m.2]
      have es : fb_ct (PLq f) (9 * j + (i + 1)) = fb_ct (PLq f) (9 * j + i) + (if PLq f (9 * j + i) then 1 else 0) := fb_ct_succ _ _
      rw [mo_drawn_B55, if_neg (i8le hi), mo_isBeside_i f (by omega) (by omega), bd1_some, mo_drawn_J92, mo_drawn_J93, mo_drawn_J93, nm_eq, nm_eq, nm_eq, nm_eq, iI9, show (0 : Int32) = nI 0 from nI_0.symm, nI_add, nI_1, es, ep]
      cases hb : BS f ((i : Int) - 1) ((j : Int) - 1) with
      | false => rw [if_pos (by decide)]; rfl
      | true =>
        rw [if_neg (by decide), mo_isWithin_eq hf (by omega) (by omega), bd1_some]
        cases hw : Wn f ((i : Int) - 1) ((j : Int) - 1) with
        | false => rw [if_pos (by decide)]; rfl
        | true => rw [if_neg (by decide)]; rfl
    · rw [mo_drawn_B55, if_pos i9le, nm_eq, iI9]
      rfl
  · rw [mo_drawn_B45, if_pos i9le]
theorem ivr3 {α β γ ρ : Type} {B : (α → β → γ → Option ρ) → α → β → γ → Option ρ} (P : Nat → α → β → γ → Prop) (Q : Option ρ → Prop) (N R : Nat) (hs : ∀ i, i < N → ∀ a b c k, P i a b c → ∃ a' b' c', P (i + 1) a' b' c' ∧ B k a b c = k a' b' c') (he : ∀ m a b c, R ≤ m → P N a b c → Q (fl3 B m a b c)) : ∀ (n i : Nat) (a : α) (b : β) (c : γ), i ≤ N → N - i + R ≤ n → P i a b c → Q (fl3 B n a b c) := by
  intro n
  induction n with
  | zero => 
    intro i a b c hi hn hp
    have e : i = N := by omega
    subst e
    exact he 0 a b c (by omega) hp
  | succ n ih =>
    intro i a b c hi hn hp
    rcases Nat.lt_or_ge i N with q | q
    · show Q (B (fl3 B n) a b c)
      obtain ⟨a', b', c', h1, h2⟩ := hs i q a b c (fl3 B n) hp
      rw [h2]; exact ih (i + 1) a' b' c' q (by omega) h1
    · have e : i = N := by omega
      subst e; exact he _ a b c (by omega) hp
/-- the reference: the place that the lot says -/
theorem dr_in {f : Int64} (hf : FIG f) (v1 v3 v4 v7 : Int32) (D : Nat → Int64) (k33 k138 : Int32 → Int64 → Int32 → Option (Int64 × (Nat → Int64))) {j : Nat} (hj : j < 9) {L : Nat} (N : Nat) (hN : N ≤ 9) (hct : ∀ i, i ≤ N → fb_ct (PLq f) (9 * j + i) ≤ L) (hne : ∀ i, i < N → ¬ (PLq f (9 * j + i) = true ∧ fb_ct (PLq f) (9 * j + i) = L)) (hL : L ≤ 81) (Q : Option (Int64 × (Nat → Int64)) → Prop) (he : ∀ m, Q (fl3 (mo_drawn_B155 v1 v3 v4 f v7 (Int32.ofInt ((j : Int) - 1)) D k33 k138) (m + 2) (nI (L - fb_ct (PLq f) (9 * j + N))) 0 (Int32.ofInt ((N : Int) - 1)))) (n : Nat) (hn : 20 < n) : Q (fl3 (mo_drawn_B155 v1 v3 v4 f v7 (Int32.ofInt ((j : Int) - 1)) D k33 k138) n (nI (L - fb_ct (PLq f) (9 * j))) 0 (-1)) := by
  refine ivr3 (B := mo_drawn_B155 v1 v3 v4 f v7 (Int32.ofInt ((j : Int) - 1)) D k33 k138) (fun i a b c => a = nI (L - fb_ct (PLq f) (9 * j + i)) ∧ b = 0 ∧ c = Int32.ofInt ((i : Int) - 1)) Q N 2 ?_ ?_ n 0 _ _ _ (by omega) (by omega) ⟨rfl, rfl, rfl⟩
  · rintro i hi a b c k ⟨rfl, rfl, rfl⟩
    have m := m9 j i (by omega)
    have ep : PLq f (9 * j + i) = (BS f ((i : Int) - 1) ((j : Int) - 1) && Wn f ((i : Int) - 1) ((j : Int) - 1)) := by unfold PLq; rw [m.1, m.2]
    have es : fb_ct (PLq f) (9 * j + (i + 1)) = fb_ct (PLq f) (9 * j + i) + (if PLq f (9 * j + i) then 1 else 0) := fb_ct_succ _ _
    have c1 := hct i (by omega)
    have c2 := hct (i + 1) (by omega)
    have c3 := hne i hi
    rw [mo_drawn_B155, if_neg (i8le (by omega)), if_pos rfl, mo_isBeside_i f (by omega) (by omega), bd1_some, mo_drawn_J218, nm_eq, iI9]
    cases hb : BS f ((i : Int) - 1) ((j : Int) - 1) with
    | false =>
      rw [hb, Bool.false_and] at ep
      rw [ep] at es
      rw [if_pos (by decide)]
      exact ⟨_, _, _, ⟨rfl, rfl, rfl⟩, by rw [es]; rfl⟩
    | true =>
      rw [if_neg (by decide), mo_isWithin_eq hf (by omega) (by omega), bd1_some]
      cases hw : Wn f ((i : Int) - 1) ((j : Int) - 1) with
      | false =>
        rw [hb, hw, Bool.true_and] at ep
        rw [ep] at es
        rw [if_pos (by decide)]
        exact ⟨_, _, _, ⟨rfl, rfl, rfl⟩, by rw [es]; rfl⟩
      | true =>
        rw [hb, hw, Bool.true_and] at ep
        rw [ep, if_pos rfl] at es
        have ne : fb_ct (PLq f) (9 * j + i) ≠ L := fun e => c3 ⟨ep, e⟩
        rw [if_neg (by decide), if_neg (nI_ne0 (by omega) (by omega)), mo_drawn_J212, nm_eq, mo_drawn_J218, nm_eq, iI9, nI_m1 (by omega)]
        exact ⟨_, _, _, ⟨rfl, rfl, rfl⟩, by rw [es, show L - (fb_ct (PLq f) (9 * j + i) + 1) = L - fb_ct (PLq f) (9 * j + i) - 1 by omega]⟩
  · rintro m a b c hm ⟨rfl, rfl, rfl⟩
    have := he (m - 2)
    rw [show m - 2 + 2 = m by omega] at this
    exact this
theorem ct_le {p : Nat → Bool} {a b : Nat} (h : a ≤ b) : fb_ct p a ≤ fb_ct p b := by
  obtain ⟨d, rfl⟩ := Nat.le.dest h
  induction d with
  | zero => exact Nat.le_refl _
  | succ d ih =>
    have := ih (by omega)
    show _ ≤ fb_ct p (a + d + 1)
    rw [fb_ct_succ]; omega
theorem dr_pick {f : Int64} (hf : FIG f) (hc : cnt f < 12) (v1 v3 v4 v7 : Int32) (D : Nat → Int64) (k33 : Int32 → Int64 → Int32 → Option (Int64 × (Nat → Int64))) {L : Nat} (hL : L < cnt (stL f)) : fl3 (mo_drawn_B138 v1 v3 v4 f v7 D k33) FU (nI L) 0 (-1) = k33 v4 (stq f L) (v7 + Int32.ofInt 1) := by
  obtain ⟨s1, s2, s3, s4⟩ := site_at hf hL
  generalize sgm f (ith (stL f) L) = q at s1 s2 s3 s4
  have L64 := cnt_le (stL f)
  have gne : stq f L ≠ 0 := (stq_F hf hc hL).1.ne
  have before : ∀ p, p ≤ q → fb_ct (PLq f) p ≤ L := fun p hp => by rw [← s3]; exact ct_le hp
  have nohit : ∀ p, p < q → ¬ (PLq f p = true ∧ fb_ct (PLq f) p = L) := by
    rintro p hp ⟨a, b⟩
    have : fb_ct (PLq f) (p + 1) = L + 1 := by rw [fb_ct_succ, a, b]; rfl
    have := before (p + 1) hp
    omega
  refine ivl3 (B := mo_drawn_B138 v1 v3 v4 f v7 D k33) (fun j a b c => c = Int32.ofInt ((j : Int) - 1) ∧ (j ≤ q / 9 → a = nI (L - fb_ct (PLq f) (9 * j)) ∧ b = 0) ∧ (q / 9 < j → b = stq f L)) (fun o => o = k33 v4 (stq f L) (v7 + Int32.ofInt 1)) (q / 9 + 1) ?_ ?_ FU 0 _ _ _ (by omega) (FU_lt (by omega)) ⟨rfl, fun _ => ⟨rfl, rfl⟩, fun h => by omega⟩
  · rintro j hj a b c k ⟨rfl, h1, -⟩
    obtain ⟨rfl, rfl⟩ := h1 (by omega)
    rw [mo_drawn_B138, if_neg (i8le (by omega)), if_pos rfl]
    rcases Nat.lt_or_ge j (q / 9) with hq | hq
    · refine dr_in hf v1 v3 v4 v7 D k33 k (show j < 9 by omega) 9 (Nat.le_refl _) (fun i hi => before _ (by omega)) (fun i hi => nohit _ (by omega)) (by omega) (fun o => ∃ a' b' c', (c' = Int32.ofInt (((j + 1 : Nat) : Int) - 1) ∧ (j + 1 ≤ q / 9 → a' = nI (L - fb_ct (PLq f) (9 * (j + 1))) ∧ b' = 0) ∧ (q / 9 < j + 1 → b' = stq f L)) ∧ o = k a' b' c') (fun m => ?_) FU (FU_lt (by omega))
      show ∃ a' b' c', _ ∧ mo_drawn_B155 v1 v3 v4 f v7 (Int32.ofInt ((j : Int) - 1)) D k33 k (fl3 (mo_drawn_B155 v1 v3 v4 f v7 (Int32.ofInt ((j : Int) - 1)) D k33 k) (m + 1)) (nI (L - fb_ct (PLq f) (9 * j + 9))) 0 (Int32.ofInt (((9 : Nat) : Int) - 1)) = _
      rw [mo_drawn_B155, if_pos i9le, mo_drawn_J224, nm_eq, iI9]
      exact ⟨_, _, _, ⟨rfl, fun _ => ⟨rfl, rfl⟩, fun h => by omega⟩, rfl⟩
    · have ej : j = q / 9 := by omega
      have eq9 : 9 * j + q % 9 = q := by omega
      refine dr_in hf v1 v3 v4 v7 D k33 k (show j < 9 by omega) (q % 9) (by omega) (fun i hi => before _ (by omega)) (fun i hi => nohit _ (by omega)) (by omega) (fun o => ∃ a' b' c', (c' = Int32.ofInt (((j + 1 : Nat) : Int) - 1) ∧ (j + 1 ≤ q / 9 → a' = nI (L - fb_ct (PLq f) (9 * (j + 1))) ∧ b' = 0) ∧ (q / 9 < j + 1 → b' = stq f L)) ∧ o = k a' b' c') (fun m => ?_) FU (FU_lt (by omega))
      have hw := PLq_c s2
      obtain ⟨w1, w2, w3, w4⟩ := Wn_c hw.2
      rw [show ((q % 9 : Nat) : Int) - 1 = (((q % 9 : Nat) : Int) - 1) from rfl]
      have ej' : ((j : Int) - 1) = (((q / 9 : Nat) : Int) - 1) := by omega
      show ∃ a' b' c', _ ∧ mo_drawn_B155 v1 v3 v4 f v7 (Int32.ofInt ((j : Int) - 1)) D k33 k (fl3 (mo_drawn_B155 v1 v3 v4 f v7 (Int32.ofInt ((j : Int) - 1)) D k33 k) (m + 1)) (nI (L - fb_ct (PLq f) (9 * j + q % 9))) 0 (Int32.ofInt (((q % 9 : Nat) : Int) - 1)) = _
      rw [eq9, s3, Nat.sub_self, mo_drawn_B155, if_neg (i8le (by omega)), if_pos rfl, mo_isBeside_i f (by omega) (by omega), bd1_some, ej', hw.1, if_neg (by decide), mo_isWithin_eq hf (by omega) (by omega), bd1_some, hw.2, if_neg (by decide), if_pos nI_0, mo_with_eq f (by omega) (by omega), bd1_some, mo_drawn_J212, nm_eq, mo_drawn_J218, nm_eq]
      have ew : wth f (((q % 9 : Nat) : Int) - 1) (((q / 9 : Nat) : Int) - 1) = stq f L := s4
      rw [ew]
      show ∃ a' b' c', _ ∧ mo_drawn_B155 v1 v3 v4 f v7 (Int32.ofInt (((q / 9 : Nat) : Int) - 1)) D k33 k (fl3 (mo_drawn_B155 v1 v3 v4 f v7 (Int32.ofInt (((q / 9 : Nat) : Int) - 1)) D k33 k) m) (nI 0 - 1) (stq f L) (Int32.ofInt (((q % 9 : Nat) : Int) - 1) + Int32.ofInt 1) = _
      rw [mo_drawn_B155, if_neg gne, mo_drawn_J224, nm_eq, ite_self, ← ej', iI9]
      exact ⟨_, _, _, ⟨rfl, fun h => by omega, fun _ => rfl⟩, rfl⟩
  · rintro a b c k ⟨rfl, -, h2⟩
    have e := h2 (by omega)
    subst e
    rw [mo_drawn_B138, if_neg gne, mo_drawn_J230, nm_eq]
    split <;> rfl
/-- one step of the reference -/
theorem drawn_step {f : Int64} (hf : FIG f) (hc : cnt f < 12) {x n i : Nat} (hx : x < 65536) (hi : i < n) (hn : n ≤ 12) (v1 : Int32) (D : Nat → Int64) (k : Int32 → Int64 → Int32 → Option (Int64 × (Nat → Int64))) : mo_drawn_B33 v1 (nI n) D k (nI x) f (nI i) = k (nI (nx x)) (stq f (lt1 f x)) (nI (i + 1)) := by
  have h64 := cnt_le (stL f)
  have hp := st_pos hf hc
  have hl : lt1 f x < cnt (stL f) := Nat.mod_lt _ hp
  rw [mo_drawn_B33, if_neg (nI_ge hi (by omega)), dr_many hf, many_eq hf, dzI_n (by decide), nm_eq, lcg_r hx, dzI_n (by decide), dzI_n (nI_ne0 hp (by omega)), nm_eq, lot_n hp h64]
  have := dr_pick hf hc v1 (nI n) (nI (nx x)) (nI i) D k hl
  unfold lt1 at this
  rw [this, o1]
  rfl
noncomputable def drj (x0 : Nat) : Nat → Int64 × Nat
  | 0 => (1, x0)
  | i + 1 => (stq (drj x0 i).1 (lt1 (drj x0 i).1 (drj x0 i).2), nx (drj x0 i).2)
theorem bt1c : cnt 1 = 1 := by decide +kernel
theorem drj_ok {x0 : Nat} (hx : x0 < 65536) : ∀ i, i < 12 → FIG (drj x0 i).1 ∧ cnt (drj x0 i).1 = i + 1 ∧ (drj x0 i).2 < 65536
  | 0, _ => ⟨FIG_1, bt1c, hx⟩
  | i + 1, h => by
    obtain ⟨a, b, c⟩ := drj_ok hx i (by omega)
    have hp := st_pos a (by omega)
    have := stq_F a (by omega) (k := lt1 (drj x0 i).1 (drj x0 i).2) (Nat.mod_lt _ hp)
    exact ⟨this.1, by rw [show (drj x0 (i + 1)).1 = stq (drj x0 i).1 (lt1 (drj x0 i).1 (drj x0 i).2) from rfl, this.2, b], Nat.mod_lt _ (by omega)⟩
theorem opc_drawn (v s w : Int32) {g h : Nat → Int64} (hd : DR g h) : ∃ r g' h', cf_drawn v s w g = some (r, g') ∧ mo_drawn v s w h = some (r, h') ∧ DR g' h' := by
  cases hv : inr v 0 7 with
  | false =>
    simp only [cf_drawn, mo_drawn, cf_isDrawer_eq, mo_isDrawer_eq, hv, bd1_some, bf0, if_true]
    exact ⟨-1, _, _, rfl, rfl, hd⟩
  | true =>
    cases hw : inr w 1 12 with
    | false =>
      simp only [cf_drawn, mo_drawn, cf_isDrawer_eq, mo_isDrawer_eq, cf_within_eq, mo_in_eq, hv, hw, bd1_some, bf0, bt0, if_true, if_false]
      exact ⟨-1, _, _, rfl, rfl, hd⟩
    | true =>
      obtain ⟨j, hj, rfl⟩ := inr_dr hv
      obtain ⟨n, n1, n2, rfl⟩ := inr_lo (m := 1) (n := 12) (by omega) (by omega) hw
      obtain ⟨x0, hx0, ex⟩ := pk_andE s (m := 65535) 16 (by decide)
      simp only [cf_drawn, mo_drawn, cf_isDrawer_eq, mo_isDrawer_eq, cf_within_eq, mo_in_eq, hv, hw, bd1_some, bt0, if_false, ck_n hj (show 8 < 2 ^ 31 by omega), cl_n (show j < 2 ^ 31 by omega), nm_eq]
      have c1 : gw_byLots s (nI n) = some (drj x0 (n - 1)).1 := by
        rw [gw_byLots, nm_eq, ex]
        refine crs3 (B := gw_byLots_B11 (nI n)) (fun i => (drj x0 i).1) (fun i => nI (drj x0 i).2) (fun i => nI (i + 1)) (n - 1) (fun i hi k => ?_) (fun k => ?_) FU (FU_lt (by omega))
        · obtain ⟨a, b, c⟩ := drj_ok hx0 i (by omega)
          exact lots_step a (by omega) c (by omega) n2 k
        · rw [gw_byLots_B11, if_pos (nI_le (by omega) (by omega))]
      have c2 : fl3 (mo_drawn_B33 (nI j) (nI n) h) FU (s &&& (65535 : Int32)) 1 1 = some ((drj x0 (n - 1)).1, vp_updL h j (drj x0 (n - 1)).1) := by
        rw [ex]
        refine crs3 (B := mo_drawn_B33 (nI j) (nI n) h) (fun i => nI (drj x0 i).2) (fun i => (drj x0 i).1) (fun i => nI (i + 1)) (n - 1) (fun i hi k => ?_) (fun k => ?_) FU (FU_lt (by omega))
        · obtain ⟨a, b, c⟩ := drj_ok hx0 i (by omega)
          exact drawn_step a (by omega) c (by omega) n2 _ h k
        · rw [mo_drawn_B33, if_pos (nI_le (by omega) (by omega)), ck_n hj (by omega), nm_eq, cl_n (by omega)]
      rw [c1, bd1_some, c2]
      have := (drj_ok hx0 (n - 1) (by omega)).1
      refine ⟨_, _, _, rfl, ?_, DR_set hd (Or.inr this)⟩
      rw [pk_uLs]
