/-! the reference's lists -/
def bK (n k : Nat) : Nat := eK 0 (if 0 < k then n else n - 1) + eK 1 (if 1 < k then n else n - 1) + eK 2 (if 2 < k then n else n - 1)
def MLm (m : Nat) (li : Nat → Int64) (fm : Nat → Int32) : Prop := (∀ n k, 1 ≤ n → n ≤ m → k ≤ 3 → fm (3 * (n - 1) + k) = nI (bK n k)) ∧ ∀ n k i, 1 ≤ n → n ≤ m → k ≤ 2 → eN (n - 1) ≤ i → i < eN n → lB k i = true → li (bK n k + (rk k i - eK k (n - 1))) = Lf i
theorem eK_b {k n : Nat} (hk : k ≤ 2) (hn : n ≤ 7) : eK k n ≤ (if k = 0 then 1067 else if k = 1 then 285 else 164) := by
  have b := eN_b hn
  match k, hk with
  | 0, _ => rw [eK0]; exact b
  | 1, _ => exact rk1_b b
  | 2, _ => exact rk2_b b
  | k + 3, h => omega
theorem bK_b {n k : Nat} (hn : n ≤ 7) : bK n k ≤ 1516 := by
  unfold bK
  have a0 : eK 0 (if 0 < k then n else n - 1) ≤ 1067 := eK_b (k := 0) (by omega) (by split <;> omega)
  have a1 : eK 1 (if 1 < k then n else n - 1) ≤ 285 := eK_b (k := 1) (by omega) (by split <;> omega)
  have a2 : eK 2 (if 2 < k then n else n - 1) ≤ 164 := eK_b (k := 2) (by omega) (by split <;> omega)
  omega
theorem bK_s {n : Nat} (h : 1 ≤ n) : bK (n + 1) 0 = bK n 3 := by
  unfold bK
  rw [if_neg (by omega), if_neg (by omega), if_neg (by omega), if_pos (by omega), if_pos (by omega), if_pos (by omega), show n + 1 - 1 = n by omega]
theorem eK_le {k a b : Nat} (ha : a ≤ b) (hb : b ≤ 7) : eK k a ≤ eK k b := by
  unfold eK
  apply rk_le
  have : ∀ a b : Fin 8, a.val ≤ b.val → eN a.val ≤ eN b.val := by decide
  exact this ⟨a, by omega⟩ ⟨b, by omega⟩ ha
theorem bK_1 {n k : Nat} (h : 1 ≤ n) (hk : k ≤ 2) : bK n (k + 1) + eK k (n - 1) = bK n k + eK k n := by
  match k, hk with
  | 0, _ => unfold bK; rw [if_pos (by omega), if_neg (by omega), if_neg (by omega), if_neg (by omega), if_neg (by omega), if_neg (by omega)]; omega
  | 1, _ => unfold bK; rw [if_pos (by omega), if_pos (by omega), if_neg (by omega), if_pos (by omega), if_neg (by omega), if_neg (by omega)]; omega
  | 2, _ => unfold bK; rw [if_pos (by omega), if_pos (by omega), if_pos (by omega), if_pos (by omega), if_pos (by omega), if_neg (by omega)]; omega
  | k + 3, h => omega
theorem bK_01 {n : Nat} (h : 1 ≤ n) : bK n 1 + eN (n - 1) = bK n 0 + eN n := by
  have := bK_1 (n := n) (k := 0) h (by omega)
  rw [eK0, eK0] at this
  exact this
theorem bK_12 {n : Nat} (h : 1 ≤ n) : bK n 2 + eK 1 (n - 1) = bK n 1 + eK 1 n := bK_1 (n := n) (k := 1) h (by omega)
theorem bK_23 {n : Nat} (h : 1 ≤ n) : bK n 3 + eK 2 (n - 1) = bK n 2 + eK 2 n := bK_1 (n := n) (k := 2) h (by omega)
theorem l_kin {a e p E : Nat} {A : Nat → Int64} {P : Int64 → Prop} {m : Nat} (hm : 1 ≤ m ∧ m ≤ 6) (h : RWs a e A P) (hP : ∀ y, P y → inG m y) (ha : a ≤ 452) {B : Nat → Int64} (hB : ∀ t, t < E → inG m (B t)) (hE : E ≤ 81) (v1 v4 : Int32) (fm : Nat → Int32) (K : Int32 → Int32 → (Nat → Int64) → (Nat → Int64) → (Nat → Int32) → Option (Int32 × (Nat → Int64) × (Nat → Int64) × (Nat → Int32))) (K2 : Int32 → Int32 → Int32 → (Nat → Int64) → (Nat → Int64) → Option (Int32 × (Nat → Int64) × (Nat → Int64) × (Nat → Int32))) (_hp : p = p) : ∃ e' A', fl3 (mo_laysLists_B106 v1 (nI a) v4 (nI E) B fm K K2) FU (nI e) 0 A = K2 (nI e') (v4 + Int32.ofInt 1) (nI E) A' B ∧ RWs a e' A' (fun y => P y ∨ ∃ t, t < E ∧ y = B t) ∧ ∀ i, i < a → A' i = A i := by
  have sz : ∀ m : Fin 7, eN (m.val + 1) - eN m.val ≤ 760 := by decide
  have sz' : eN (m + 1) - eN m ≤ 760 := sz ⟨m, by omega⟩
  refine ivl3 (B := mo_laysLists_B106 v1 (nI a) v4 (nI E) B fm K K2) (fun t x y A' => y = nI t ∧ (∀ i, i < a → A' i = A i) ∧ ∃ e', x = nI e' ∧ RWs a e' A' (fun y => P y ∨ ∃ s, s < t ∧ y = B s)) (fun o => ∃ e' A', o = K2 (nI e') (v4 + Int32.ofInt 1) (nI E) A' B ∧ RWs a e' A' (fun y => P y ∨ ∃ t, t < E ∧ y = B t) ∧ ∀ i, i < a → A' i = A i) E ?_ ?_ FU 0 _ _ _ (by omega) (FU_lt (by omega)) ⟨rfl, fun _ _ => rfl, e, rfl, RWs_cong h (fun y => ⟨Or.inl, fun h => h.elim id (fun ⟨q, h, _⟩ => by omega)⟩)⟩
  · rintro t ht x y A' k ⟨rfl, hf, e', rfl, hr⟩
    have len := RWs_len hr (fun y hy => by
      rcases hy with hy | ⟨s, s1, rfl⟩
      · exact hP y hy
      · exact hB s (by omega))
    have ge := hr.2.1
    obtain ⟨e2, A2, c1, c2, c3, c4, c5, c6⟩ := listed_eq (B t) hr.1 ge (show e' < 1600 by omega)
    rw [mo_laysLists_B106, if_neg (nI_ge ht (by omega)), ck_n (show t < 400 by omega) (by omega), cl_n (by omega), c1, bd2_some, nm_eq, o1]
    refine ⟨_, _, _, ⟨rfl, fun i hi => by rw [c6 i (Or.inl hi)]; exact hf i hi, e2, rfl, RWs_cong (RWs_ins hr c2 c3 c4) (fun y => ?_)⟩, rfl⟩
    constructor
    · rintro ((h | ⟨s, s1, s2⟩) | h)
      · exact Or.inl h
      · exact Or.inr ⟨s, by omega, s2⟩
      · exact Or.inr ⟨t, by omega, h⟩
    · rintro (h | ⟨s, s1, s2⟩)
      · exact Or.inl (Or.inl h)
      · rcases Nat.lt_or_ge s t with z | z
        · exact Or.inl (Or.inr ⟨s, z, s2⟩)
        · have : s = t := by omega
          subst this; exact Or.inr s2
  · rintro x y A' k ⟨rfl, hf, e', rfl, hr⟩
    rw [mo_laysLists_B106, if_pos (nI_le (Nat.le_refl _) (by omega)), nm_eq]
    exact ⟨e', A', rfl, hr, hf⟩
/-- one kind's list from the fixed ones -/
theorem l_kind {m κ : Nat} (hm : 1 ≤ m ∧ m ≤ 6) (hκ : 1 ≤ κ ∧ κ ≤ 2) {li : Nat → Int64} {fm : Nat → Int32} (h0 : ∀ i, eN m ≤ i → i < eN (m + 1) → li (bK (m + 1) 0 + (i - eN m)) = Lf i) (h1 : fm (3 * m + 1) = nI (bK (m + 1) 1)) (yk : Int32) (B : Nat → Int64) (K : Int32 → Int32 → (Nat → Int64) → (Nat → Int64) → (Nat → Int32) → Option (Int32 × (Nat → Int64) × (Nat → Int64) × (Nat → Int32))) (K2 : Int32 → Int32 → (Nat → Int64) → (Nat → Int32) → Option (Int32 × (Nat → Int64) × (Nat → Int64) × (Nat → Int32))) : ∃ li', fl3 (mo_laysLists_B172 (nI (m + 1)) (nI (bK (m + 1) 0)) (nI κ) yk B fm K K2) FU (nI (bK (m + 1) κ)) (nI (bK (m + 1) 0)) li = K2 (nI (bK (m + 1) (κ + 1))) (nI (κ + 1)) li' (upd fm (3 * m + κ + 1) (nI (bK (m + 1) (κ + 1)))) ∧ (∀ x, x < bK (m + 1) κ → li' x = li x) ∧ ∀ i, eN m ≤ i → i < eN (m + 1) → lB κ i = true → li' (bK (m + 1) κ + (rk κ i - eK κ m)) = Lf i := by
  have b1 := bK_01 (n := m + 1) (by omega)
  rw [show m + 1 - 1 = m by omega] at b1
  have b2 := bK_1 (n := m + 1) (k := κ) (by omega) (by omega)
  rw [show m + 1 - 1 = m by omega] at b2
  have bb := bK_b (n := m + 1) (k := κ + 1) (by omega)
  have bb1 := bK_b (n := m + 1) (k := 1) (by omega)
  have es := eN_s (n := m) (by omega)
  have e7 := eN_b (n := m + 1) (by omega)
  have eκ := eK_le (k := κ) (show m ≤ m + 1 by omega) (by omega)
  have bκ : bK (m + 1) 1 ≤ bK (m + 1) κ := by
    have c := bK_12 (n := m + 1) (by omega)
    have d := eK_le (k := 1) (show m + 1 - 1 ≤ m + 1 by omega) (by omega)
    rcases Nat.lt_or_ge κ 2 with z | z
    · have : κ = 1 := by omega
      subst this; exact Nat.le_refl _
    · have : κ = 2 := by omega
      subst this; omega
  have ei : (3 * (nI (m + 1) - 1) + 1 : Int32) = nI (3 * m + 1) := by rw [nI_m1 (by omega), show (3 : Int32) = nI 3 from rfl, pk_mul, nI_1, show m + 1 - 1 = m by omega]
  have ei2 : ((3 * (nI (m + 1) - 1)) + nI κ + 1 : Int32) = nI (3 * m + κ + 1) := by rw [nI_m1 (by omega), show (3 : Int32) = nI 3 from rfl, pk_mul, nI_add, nI_1, show m + 1 - 1 = m by omega]
  refine ivl3 (B := mo_laysLists_B172 (nI (m + 1)) (nI (bK (m + 1) 0)) (nI κ) yk B fm K K2) (fun t a b l => a = nI (bK (m + 1) κ + (rk κ (eN m + t) - eK κ m)) ∧ b = nI (bK (m + 1) 0 + t) ∧ (∀ x, x < bK (m + 1) κ → l x = li x) ∧ ∀ i, eN m ≤ i → i < eN m + t → lB κ i = true → l (bK (m + 1) κ + (rk κ i - eK κ m)) = Lf i) (fun o => ∃ li', o = K2 (nI (bK (m + 1) (κ + 1))) (nI (κ + 1)) li' (upd fm (3 * m + κ + 1) (nI (bK (m + 1) (κ + 1)))) ∧ (∀ x, x < bK (m + 1) κ → li' x = li x) ∧ ∀ i, eN m ≤ i → i < eN (m + 1) → lB κ i = true → li' (bK (m + 1) κ + (rk κ i - eK κ m)) = Lf i) (eN (m + 1) - eN m) ?_ ?_ FU 0 _ _ _ (by omega) (FU_lt (by omega)) ⟨by show _ = nI (bK (m + 1) κ + (rk κ (eN m) - rk κ (eN m))); rw [Nat.sub_self]; rfl, rfl, fun _ _ => rfl, fun i _ h => by omega⟩
  · rintro t ht a b l k ⟨rfl, rfl, hl, hr⟩
    generalize eij : eN m + t = i at *
    have eij2 : eN m + (t + 1) = i + 1 := by omega
    rw [eij2]
    have i67 : i < 1067 := by omega
    have s := rk_s κ i
    have rge : eK κ m ≤ rk κ i := rk_le (by omega)
    have rle : rk κ (i + 1) ≤ eK κ (m + 1) := rk_le (by omega)
    have lt : l (bK (m + 1) 0 + t) = Lf i := by
      rw [hl _ (by omega)]
      have := h0 i (by omega) (by omega)
      rw [show i - eN m = t by omega] at this
      exact this
    have cx : ∀ {β : Type} (k : Option β), ck (nI (bK (m + 1) 0 + t)) 1600 k = k := fun k => ck_n (by omega) (by omega) k
    rw [mo_laysLists_B172, nm_eq, ei, ck_n (show 3 * m + 1 < 25 by omega) (by omega), cl_n (show 3 * m + 1 < 2 ^ 31 by omega), h1, if_neg (nI_ge (by omega) (by omega)), cx, cl_n (show bK (m + 1) 0 + t < 2 ^ 31 by omega), lt, mo_ownOf_eq (Lf_FIG i67) (by omega), bd1_some, cx]
    cases hb : lB κ i with
    | false =>
      rw [hb, if_neg (by decide)] at s
      rw [if_neg (fun c => by have := (own_lB i67).mp c; rw [hb] at this; cases this), mo_laysLists_J235, nm_eq, o1]
      refine ⟨_, _, _, ⟨by rw [s]; rfl, rfl, hl, fun i' h1' h2' h3' => ?_⟩, rfl⟩
      rcases Nat.lt_or_ge i' i with z | z
      · exact hr i' h1' z h3'
      · have : i' = i := by omega
        rw [this, hb] at h3'; cases h3'
    | true =>
      rw [hb, if_pos rfl] at s
      rw [if_pos ((own_lB i67).mpr hb), cx, nm_eq, ck_n (show bK (m + 1) κ + (rk κ i - eK κ m) < 1600 by omega) (by omega), nm_eq, nm_eq, cl_n (show bK (m + 1) κ + (rk κ i - eK κ m) < 2 ^ 31 by omega), nI_1, mo_laysLists_J235, nm_eq, o1]
      refine ⟨_, _, _, ⟨by rw [s, show bK (m + 1) κ + (rk κ i + 1 - eK κ m) = bK (m + 1) κ + (rk κ i - eK κ m) + 1 by omega], rfl, fun x hx => by rw [pk_uLn (by omega)]; exact hl x hx, fun i' h1' h2' h3' => ?_⟩, rfl⟩
      rcases Nat.lt_or_ge i' i with z | z
      · have : rk κ i' < rk κ i := by
          have a1 := rk_s κ i'
          rw [h3', if_pos rfl] at a1
          have a2 := rk_le (k := κ) (show i' + 1 ≤ i from z)
          omega
        have : eK κ m ≤ rk κ i' := rk_le h1'
        rw [pk_uLn (by omega)]; exact hr i' h1' z h3'
      · have : i' = i := by omega
        rw [this, pk_uLs]
  · rintro a b l k ⟨rfl, rfl, hl, hr⟩
    rw [show eN m + (eN (m + 1) - eN m) = eN (m + 1) by omega] at *
    have ee : bK (m + 1) κ + (rk κ (eN (m + 1)) - eK κ m) = bK (m + 1) (κ + 1) := by
      have : rk κ (eN (m + 1)) = eK κ (m + 1) := rfl
      omega
    rw [ee, mo_laysLists_B172, nm_eq, ei, ck_n (show 3 * m + 1 < 25 by omega) (by omega), cl_n (show 3 * m + 1 < 2 ^ 31 by omega), h1, if_pos (nI_le (by omega) (by omega)), nm_eq, ei2, ck_n (show 3 * m + κ + 1 < 25 by omega) (by omega), nm_eq, nm_eq, cl_n (show 3 * m + κ + 1 < 2 ^ 31 by omega), o1]
    exact ⟨l, rfl, hl, hr⟩
theorem own0 (f : Int64) : own f 0 = f := own_0 f
/-- one size more -/
theorem l_size {m : Nat} (hm : 1 ≤ m ∧ m ≤ 6) {li : Nat → Int64} {fm : Nat → Int32} (h : MLm m li fm) (yk : Int32) (B : Nat → Int64) (K : Int32 → Int32 → (Nat → Int64) → (Nat → Int64) → (Nat → Int32) → Option (Int32 × (Nat → Int64) × (Nat → Int64) × (Nat → Int32))) : ∃ yk' li' B' fm', mo_laysLists_B43 K (nI (m + 1)) yk li B fm = K (nI (m + 1 + 1)) yk' li' B' fm' ∧ MLm (m + 1) li' fm' := by
  obtain ⟨h1, h2⟩ := h
  have es := eN_s (n := m) (by omega)
  have e7 := eN_b (n := m + 1) (by omega)
  have es1 := eN_s (n := m - 1) (by omega)
  rw [show m - 1 + 1 = m by omega] at es1
  have b0 := bK_s (n := m) hm.1
  have bm1 := bK_01 (n := m) hm.1
  have bm2 := bK_12 (n := m) hm.1
  have bm3 := bK_23 (n := m) hm.1
  have ek1 := eK_le (k := 1) (show m - 1 ≤ m by omega) (by omega)
  have ek2 := eK_le (k := 2) (show m - 1 ≤ m by omega) (by omega)
  have a452 : bK (m + 1) 0 ≤ 452 := by
    have t : ∀ m : Fin 7, 1 ≤ m.val → bK (m.val + 1) 0 ≤ 452 := by
      intro m h1
      have c1 := ct_l1
      have c2 := ct_l2
      have k1 : ∀ n, eK 1 n = fb_ct l1B (eN n) := fun n => rfl
      have k2 : ∀ n, eK 2 n = fb_ct l2B (eN n) := fun n => rfl
      unfold bK
      rw [if_neg (by omega), if_neg (by omega), if_neg (by omega), show m.val + 1 - 1 = m.val by omega, eK0, k1, k2]
      have m6 := m.isLt
      match hmv : m.val, h1, m6 with
      | 1, _, _ => rw [show eN 1 = 1 from rfl]; omega
      | 2, _, _ => rw [show eN 2 = 3 from rfl]; omega
      | 3, _, _ => rw [show eN 3 = 9 from rfl]; omega
      | 4, _, _ => rw [show eN 4 = 28 from rfl]; omega
      | 5, _, _ => rw [show eN 5 = 91 from rfl]; omega
      | 6, _, _ => rw [show eN 6 = 307 from rfl]; omega
      | n + 7, _, h => omega
    exact t ⟨m, by omega⟩ hm.1
  have f0 : fm (3 * m) = nI (bK (m + 1) 0) := by
    have := h1 m 3 hm.1 (Nat.le_refl _) (by omega)
    rw [show 3 * (m - 1) + 3 = 3 * m by omega, ← b0] at this
    exact this
  have fA : fm (3 * (m - 1)) = nI (bK m 0) := h1 m 0 hm.1 (Nat.le_refl _) (by omega)
  have fB : fm (3 * (m - 1) + 1) = nI (bK m 1) := h1 m 1 hm.1 (Nat.le_refl _) (by omega)
  have i1 : (3 * (nI (m + 1) - 1) : Int32) = nI (3 * m) := by rw [nI_m1 (by omega), show (3 : Int32) = nI 3 from rfl, pk_mul, show m + 1 - 1 = m by omega]
  have i2 : (3 * (nI (m + 1) - 2) : Int32) = nI (3 * (m - 1)) := by rw [show (2 : Int32) = nI 2 from rfl, pk_sub (by omega), show (3 : Int32) = nI 3 from rfl, pk_mul, show m + 1 - 2 = m - 1 by omega]
  have i3 : (3 * (nI (m + 1) - 2) + 1 : Int32) = nI (3 * (m - 1) + 1) := by rw [i2, nI_1]
  have i4 : (3 * (nI (m + 1) - 1) + 1 : Int32) = nI (3 * m + 1) := by rw [i1, nI_1]
  rw [mo_laysLists_B43, if_neg (show ¬ (7 : Int32) < nI (m + 1) from nI_nlt (a := 7) (b := m + 1) (by omega) (by omega)), nm_eq, i1, ck_n (show 3 * m < 25 by omega) (by omega), nm_eq, cl_n (show 3 * m < 2 ^ 31 by omega), f0, nm_eq, i2, ck_n (show 3 * (m - 1) < 25 by omega) (by omega), nm_eq, cl_n (show 3 * (m - 1) < 2 ^ 31 by omega), fA]
  -- the fixed ones
  have old : ∀ t, t < eN m - eN (m - 1) → li (bK m 0 + t) = Lf (eN (m - 1) + t) := by
    intro t ht
    have := h2 m 0 (eN (m - 1) + t) hm.1 (Nat.le_refl _) (by omega) (by omega) (by omega) rfl
    rw [rk0, eK0, show eN (m - 1) + t - eN (m - 1) = t by omega] at this
    exact this
  refine ivl5 (B := mo_laysLists_B74 (nI (m + 1)) (nI (bK (m + 1) 0)) fm K) (fun t a b c l B' => b = nI (bK m 0 + t) ∧ (∀ x, x < bK (m + 1) 0 → l x = li x) ∧ ∃ e', a = nI e' ∧ RWs (bK (m + 1) 0) e' l (Pg m (eN (m - 1) + t))) (fun o => ∃ yk' li' B' fm', o = K (nI (m + 1 + 1)) yk' li' B' fm' ∧ MLm (m + 1) li' fm') (eN m - eN (m - 1)) ?_ ?_ FU 0 _ _ _ _ _ (by omega) (FU_lt (by omega)) ⟨rfl, fun _ _ => rfl, bK (m + 1) 0, rfl, ⟨fun i j _ _ h => by omega, Nat.le_refl _, fun y => ⟨fun ⟨i, a, b, _⟩ => by omega, fun ⟨i, q, a, b, _⟩ => by omega⟩⟩⟩
  · rintro t ht a b c l B' K2 ⟨rfl, hl, e', rfl, hr⟩
    have i307 := n_307 (n := m) hm.2 (show eN (m - 1) + t < eN m by omega)
    have hf := Lf_FIG (i := eN (m - 1) + t) (by omega)
    have gi : gn (eN (m - 1) + t) = m - 1 + 1 := gn_of (m := m - 1) (by omega) (by omega) (by rw [show m - 1 + 1 = m by omega]; omega)
    have c12 : cnt (Lf (eN (m - 1) + t)) < 12 := by rw [Lf_cnt (by omega)]; omega
    obtain ⟨E, A', g1, g2⟩ := mo_grown_eq hf c12 (k := 0) (by omega) c B'
    have g1' : mo_laysGrown (Lf (eN (m - 1) + t)) 0 c B' = some (nI E, A') := g1
    have mem : ∀ y, (∃ s, s < E ∧ y = A' s) ↔ ∃ q, q < 81 ∧ PLq (Lf (eN (m - 1) + t)) q = true ∧ y = wtq (Lf (eN (m - 1) + t)) q := by
      intro y
      have := g2.2.2 y
      constructor
      · rintro ⟨s, s1, rfl⟩
        obtain ⟨q, q1, q2, q3⟩ := (g2.2.2 (A' s)).mp ⟨s, Nat.zero_le _, s1, rfl⟩
        exact ⟨q, q1, q2, by rw [q3]; exact own0 _⟩
      · rintro ⟨q, q1, q2, rfl⟩
        obtain ⟨s, _, s2, s3⟩ := (g2.2.2 (wtq (Lf (eN (m - 1) + t)) q)).mpr ⟨q, q1, q2, (own0 _).symm⟩
        exact ⟨s, s2, s3.symm⟩
    obtain ⟨e2, A2, k1, k2, k3⟩ := l_kin (p := 0) hm hr (fun y hy => Pg_in hm (by omega) hy) a452 (B := A') (E := E) (fun s hs => by
      obtain ⟨q, q1, q2, q3⟩ := (mem (A' s)).mp ⟨s, hs, rfl⟩
      exact Pg_in hm (p := eN (m - 1) + t + 1) (by omega) ⟨_, q, by omega, by omega, q1, q2, q3⟩) g2.2.1 (nI (m + 1)) (nI (bK m 0 + t)) fm K K2 rfl
    rw [mo_laysLists_B74, nm_eq, i3, ck_n (show 3 * (m - 1) + 1 < 25 by omega) (by omega), cl_n (show 3 * (m - 1) + 1 < 2 ^ 31 by omega), fB, if_neg (nI_ge (show bK m 0 + t < bK m 1 by omega) (by omega)), ck_n (show bK m 0 + t < 1600 by omega) (by omega), cl_n (show bK m 0 + t < 2 ^ 31 by omega), hl _ (by omega), old t ht, g1', bd2_some, k1, o1]
    refine ⟨_, _, _, _, _, ⟨rfl, fun x hx => by rw [k3 x hx]; exact hl x hx, e2, rfl, RWs_cong k2 (fun y => ?_)⟩, rfl⟩
    constructor
    · rintro (⟨i', q, a, b, c⟩ | hh)
      · exact ⟨i', q, a, by omega, c⟩
      · obtain ⟨q, q1, q2, q3⟩ := (mem y).mp hh
        exact ⟨_, q, by omega, by omega, q1, q2, q3⟩
    · rintro ⟨i', q, a, b, c, d, rfl⟩
      rcases Nat.lt_or_ge i' (eN (m - 1) + t) with z | z
      · exact Or.inl ⟨i', q, a, z, c, d, rfl⟩
      · have : i' = eN (m - 1) + t := by omega
        subst this
        exact Or.inr ((mem _).mpr ⟨q, c, d, rfl⟩)
  · rintro a b c l B' K2 ⟨rfl, hl, e', rfl, hr⟩
    rw [show eN (m - 1) + (eN m - eN (m - 1)) = eN m by omega] at hr
    have fl := RWs_full (n := m) (by omega) hr (Pg_all hm)
    have ge := hr.2.1
    have n1 := bK_01 (n := m + 1) (by omega)
    rw [show m + 1 - 1 = m by omega] at n1
    have ee : e' = bK (m + 1) 1 := by omega
    rw [mo_laysLists_B74, nm_eq, i3, ck_n (show 3 * (m - 1) + 1 < 25 by omega) (by omega), cl_n (show 3 * (m - 1) + 1 < 2 ^ 31 by omega), fB, if_pos (nI_le (show bK m 1 ≤ bK m 0 + (eN m - eN (m - 1)) by omega) (by omega)), nm_eq, i4, ck_n (show 3 * m + 1 < 25 by omega) (by omega), nm_eq, cl_n (show 3 * m + 1 < 2 ^ 31 by omega), ee]
    have h0 : ∀ i, eN m ≤ i → i < eN (m + 1) → l (bK (m + 1) 0 + (i - eN m)) = Lf i := by
      intro i a1 a2
      have := fl.2 (i - eN m) (by omega)
      rw [show eN m + (i - eN m) = i by omega] at this
      exact this
    obtain ⟨l1, p1, p2, p3⟩ := l_kind (κ := 1) hm (by omega) h0 (fm := upd fm (3 * m + 1) (nI (bK (m + 1) 1))) pk_us c B' K (fl4 (mo_laysLists_B160 (nI (m + 1)) (nI (bK (m + 1) 0)) c B' K) (FU - 1))
    have n2 := bK_12 (n := m + 1) (by omega)
    rw [show m + 1 - 1 = m by omega] at n2
    have ek1' := eK_le (k := 1) (show m ≤ m + 1 by omega) (by omega)
    have h0' : ∀ i, eN m ≤ i → i < eN (m + 1) → l1 (bK (m + 1) 0 + (i - eN m)) = Lf i := fun i a1 a2 => by rw [p2 _ (by omega)]; exact h0 i a1 a2
    obtain ⟨l2, q1, q2, q3⟩ := l_kind (κ := 2) hm (by omega) h0' (fm := upd (upd fm (3 * m + 1) (nI (bK (m + 1) 1))) (3 * m + 1 + 1) (nI (bK (m + 1) (1 + 1)))) (by rw [pk_un (by omega)]; exact pk_us) c B' K (fl4 (mo_laysLists_B160 (nI (m + 1)) (nI (bK (m + 1) 0)) c B' K) (FU - 2))
    have step : ∀ (N : Nat), 3 ≤ N → fl4 (mo_laysLists_B160 (nI (m + 1)) (nI (bK (m + 1) 0)) c B' K) N = mo_laysLists_B160 (nI (m + 1)) (nI (bK (m + 1) 0)) c B' K (fl4 (mo_laysLists_B160 (nI (m + 1)) (nI (bK (m + 1) 0)) c B' K) (N - 1)) := by
      intro N hN
      obtain ⟨N', rfl⟩ : ∃ N', N = N' + 1 := ⟨N - 1, by omega⟩
      rfl
    have fuel := FU_lt (n := 10) (by omega)
    refine ⟨c, l2, B', upd (upd (upd fm (3 * m + 1) (nI (bK (m + 1) 1))) (3 * m + 1 + 1) (nI (bK (m + 1) (1 + 1)))) (3 * m + 2 + 1) (nI (bK (m + 1) (2 + 1))), ?_, ?_, ?_⟩
    · rw [step FU (by omega), show (1 : Int32) = nI 1 from rfl, mo_laysLists_B160, if_neg (show ¬ (3 : Int32) ≤ nI 1 from by decide), p1, step (FU - 1) (by omega), mo_laysLists_B160, if_neg (show ¬ (3 : Int32) ≤ nI (1 + 1) from by decide), show FU - 1 - 1 = FU - 2 by omega]
      have q1' : fl3 (mo_laysLists_B172 (nI (m + 1)) (nI (bK (m + 1) 0)) (nI (1 + 1)) c B' (upd (upd fm (3 * m + 1) (nI (bK (m + 1) 1))) (3 * m + 1 + 1) (nI (bK (m + 1) (1 + 1)))) K (fl4 (mo_laysLists_B160 (nI (m + 1)) (nI (bK (m + 1) 0)) c B' K) (FU - 2))) FU (nI (bK (m + 1) (1 + 1))) (nI (bK (m + 1) 0)) l1 = _ := q1
      rw [q1', step (FU - 2) (by omega), mo_laysLists_B160, if_pos (show (3 : Int32) ≤ nI (2 + 1) from by decide), nm_eq, o1]
    · intro n k n1' n2' k3
      rcases Nat.lt_or_ge n (m + 1) with z | z
      · rw [pk_un (by omega), pk_un (by omega), pk_un (by omega)]
        exact h1 n k n1' (by omega) k3
      · have : n = m + 1 := by omega
        subst this
        rw [show 3 * (m + 1 - 1) + k = 3 * m + k by omega]
        match k, k3 with
        | 0, _ => rw [pk_un (by omega), pk_un (by omega), pk_un (by omega)]; exact f0
        | 1, _ => rw [pk_un (by omega), pk_un (by omega), pk_us]
        | 2, _ => rw [pk_un (by omega), pk_us]
        | 3, _ => rw [pk_us]
        | k + 4, h => omega
    · intro n k i n1' n2' k2 a1 a2 a3
      rcases Nat.lt_or_ge n (m + 1) with z | z
      · have : bK n k + (rk k i - eK k (n - 1)) < bK (m + 1) 0 := by
          have r1 : rk k i + 1 ≤ eK k n := by
            have s := rk_s k i
            rw [a3, if_pos rfl] at s
            have := rk_le (k := k) (show i + 1 ≤ eN n from a2)
            show rk k i + 1 ≤ rk k (eN n)
            omega
          have r2 := bK_1 (n := n) (k := k) n1' k2
          have r3 : eK k (n - 1) ≤ rk k i := rk_le a1
          have mono : bK n (k + 1) ≤ bK n 3 := by
            unfold bK
            have c0 := eK_le (k := 0) (show (if 0 < k + 1 then n else n - 1) ≤ n by split <;> omega) (by omega)
            have c1 := eK_le (k := 1) (show (if 1 < k + 1 then n else n - 1) ≤ n by split <;> omega) (by omega)
            have c2 := eK_le (k := 2) (show (if 2 < k + 1 then n else n - 1) ≤ n by split <;> omega) (by omega)
            rw [if_pos (show 0 < 3 by omega), if_pos (show 1 < 3 by omega), if_pos (show 2 < 3 by omega)]
            omega
          have up : bK n 3 ≤ bK (m + 1) 0 := by
            rw [b0]
            unfold bK
            have c0 := eK_le (k := 0) (show n ≤ m by omega) (by omega)
            have c1 := eK_le (k := 1) (show n ≤ m by omega) (by omega)
            have c2 := eK_le (k := 2) (show n ≤ m by omega) (by omega)
            rw [if_pos (show 0 < 3 by omega), if_pos (show 1 < 3 by omega), if_pos (show 2 < 3 by omega), if_pos (show 0 < 3 by omega), if_pos (show 1 < 3 by omega), if_pos (show 2 < 3 by omega)]
            omega
          omega
        rw [q2 _ (by omega), p2 _ (by omega), hl _ this]
        exact h2 n k i n1' (by omega) k2 a1 a2 a3
      · have : n = m + 1 := by omega
        subst this
        rw [show m + 1 - 1 = m by omega] at a1 ⊢
        match k, k2 with
        | 0, _ =>
          rw [rk0, eK0]
          rw [q2 _ (by omega), p2 _ (by omega)]
          exact h0 i a1 a2
        | 1, _ =>
          have r1 : rk 1 i + 1 ≤ eK 1 (m + 1) := by
            have s := rk_s 1 i
            rw [a3, if_pos rfl] at s
            have := rk_le (k := 1) (show i + 1 ≤ eN (m + 1) from a2)
            show rk 1 i + 1 ≤ rk 1 (eN (m + 1))
            omega
          have r3 : eK 1 m ≤ rk 1 i := rk_le a1
          rw [q2 _ (by omega)]
          exact p3 i a1 a2 a3
        | 2, _ => exact q3 i a1 a2 a3
        | k + 3, h => omega
theorem laysLists_eq (yk : Int32) (li B : Nat → Int64) (fm : Nat → Int32) : ∃ yk' li' B' fm', mo_laysLists yk li B fm = some (yk', li', B', fm') ∧ MLm 7 li' fm' := by
  have L0 : Lf 0 = 1 := by unfold Lf; decide +kernel
  have c0 : ∀ {β : Type} (k : Option β), ck 0 1600 k = k := fun k => ck_n (n := 0) (by omega) (by omega) k
  have c1 : ∀ {β : Type} (k : Option β), ck 1 1600 k = k := fun k => ck_n (n := 1) (by omega) (by omega) k
  have c2 : ∀ {β : Type} (k : Option β), ck 2 1600 k = k := fun k => ck_n (n := 2) (by omega) (by omega) k
  rw [mo_laysLists, c0, nm_eq, c1, nm_eq, c2, nm_eq]
  refine ivl2 (B := mo_laysLists_B23 yk (vp_updL (vp_updL (vp_updL li 0 1) 1 1) 2 1) B) (fun t a f => a = nI t ∧ ∀ k, k < t → f k = nI k) (fun o => ∃ yk' li' B' fm', o = some (yk', li', B', fm') ∧ MLm 7 li' fm') 4 ?_ ?_ FU 0 _ _ (by omega) (FU_lt (by omega)) ⟨rfl, fun k h => by omega⟩
  · rintro t ht a f K ⟨rfl, hf⟩
    rw [mo_laysLists_B23, if_neg (show ¬ (4 : Int32) ≤ nI t from nI_ge (a := t) (b := 4) ht (by omega)), ck_n (show t < 25 by omega) (by omega), nm_eq, nm_eq, cl_n (by omega), o1]
    refine ⟨_, _, ⟨rfl, fun k hk => ?_⟩, rfl⟩
    by_cases q : k = t
    · rw [q, pk_us]
    · rw [pk_un q]; exact hf k (by omega)
  · rintro a f K ⟨rfl, hf⟩
    have e10 : ∀ k, k ≤ 2 → eK k 0 = 0 ∧ eK k 1 = 1 := by
      intro k hk
      have k1 : eK 1 1 = fb_ct l1B 1 := rfl
      have k2 : eK 2 1 = fb_ct l2B 1 := rfl
      match k, hk with
      | 0, _ => rw [eK0, eK0]; exact ⟨rfl, rfl⟩
      | 1, _ => exact ⟨rfl, by rw [k1]; exact ct_l1.1⟩
      | 2, _ => exact ⟨rfl, by rw [k2]; exact ct_l2.1⟩
      | k + 3, h => omega
    have b1 : ∀ k, k ≤ 3 → bK 1 k = k := by
      intro k hk
      unfold bK
      have z0 := e10 0 (by omega)
      have z1 := e10 1 (by omega)
      have z2 := e10 2 (by omega)
      match k, hk with
      | 0, _ => show eK 0 0 + eK 1 0 + eK 2 0 = 0; omega
      | 1, _ => show eK 0 1 + eK 1 0 + eK 2 0 = 1; omega
      | 2, _ => show eK 0 1 + eK 1 1 + eK 2 0 = 2; omega
      | 3, _ => show eK 0 1 + eK 1 1 + eK 2 1 = 3; omega
      | k + 4, h => omega
    have start : MLm 1 (vp_updL (vp_updL (vp_updL li 0 1) 1 1) 2 1) f := by
      refine ⟨fun n k n1 n2 k3 => ?_, fun n k i n1 n2 k2 a1 a2 a3 => ?_⟩
      · have : n = 1 := by omega
        subst this
        rw [b1 k k3, show 3 * (1 - 1) + k = k by omega]
        exact hf k (by omega)
      · have : n = 1 := by omega
        subst this
        have a2' : i < 1 := a2
        have i0 : i = 0 := by omega
        subst i0
        rw [b1 k (by omega), (e10 k k2).1, show rk k 0 = 0 from rfl, L0]
        match k, k2 with
        | 0, _ => rw [pk_uLn (by omega), pk_uLn (by omega), pk_uLs]
        | 1, _ => rw [pk_uLn (by omega), pk_uLs]
        | 2, _ => rw [pk_uLs]
        | k + 3, h => omega
    rw [mo_laysLists_B23, if_pos (show (4 : Int32) ≤ nI 4 from by decide)]
    refine ivl5 (B := mo_laysLists_B43) (fun t a b l B' f => a = nI (t + 1 + 1) ∧ MLm (t + 1) l f) (fun o => ∃ yk' li' B' fm', o = some (yk', li', B', fm') ∧ MLm 7 li' fm') 6 ?_ ?_ FU 0 _ _ _ _ _ (by omega) (FU_lt (by omega)) ⟨rfl, start⟩
    · rintro t ht a b l B' f K ⟨rfl, hm⟩
      obtain ⟨y2, l2, B2, f2, s1, s2⟩ := l_size (m := t + 1) (by omega) hm b B' K
      exact ⟨_, _, _, _, _, ⟨rfl, s2⟩, s1⟩
    · rintro a b l B' f K ⟨rfl, hm⟩
      rw [mo_laysLists_B43, if_pos (show (7 : Int32) < nI (6 + 1 + 1) from by decide)]
      exact ⟨_, _, _, _, rfl, hm⟩
