theorem ivl11 {α1 α2 α3 α4 α5 α6 α7 α8 α9 α10 α11 ρ : Type} {B : (α1 → α2 → α3 → α4 → α5 → α6 → α7 → α8 → α9 → α10 → α11 → Option ρ) → α1 → α2 → α3 → α4 → α5 → α6 → α7 → α8 → α9 → α10 → α11 → Option ρ} (P : Nat → α1 → α2 → α3 → α4 → α5 → α6 → α7 → α8 → α9 → α10 → α11 → Prop) (Q : Option ρ → Prop) (N : Nat) (hs : ∀ i, i < N → ∀ a1 a2 a3 a4 a5 a6 a7 a8 a9 a10 a11 k, P i a1 a2 a3 a4 a5 a6 a7 a8 a9 a10 a11 → ∃ b1 b2 b3 b4 b5 b6 b7 b8 b9 b10 b11, P (i + 1) b1 b2 b3 b4 b5 b6 b7 b8 b9 b10 b11 ∧ B k a1 a2 a3 a4 a5 a6 a7 a8 a9 a10 a11 = k b1 b2 b3 b4 b5 b6 b7 b8 b9 b10 b11) (he : ∀ a1 a2 a3 a4 a5 a6 a7 a8 a9 a10 a11 k, P N a1 a2 a3 a4 a5 a6 a7 a8 a9 a10 a11 → Q (B k a1 a2 a3 a4 a5 a6 a7 a8 a9 a10 a11)) : ∀ (n i : Nat) (a1 : α1) (a2 : α2) (a3 : α3) (a4 : α4) (a5 : α5) (a6 : α6) (a7 : α7) (a8 : α8) (a9 : α9) (a10 : α10) (a11 : α11), i ≤ N → N - i < n → P i a1 a2 a3 a4 a5 a6 a7 a8 a9 a10 a11 → Q (fl11 B n a1 a2 a3 a4 a5 a6 a7 a8 a9 a10 a11) := by
  intro n
  induction n with
  | zero => intro i a1 a2 a3 a4 a5 a6 a7 a8 a9 a10 a11 _ h; omega
  | succ n ih =>
    intro i a1 a2 a3 a4 a5 a6 a7 a8 a9 a10 a11 hi hn hp
    show Q (B (fl11 B n) a1 a2 a3 a4 a5 a6 a7 a8 a9 a10 a11)
    rcases Nat.lt_or_ge i N with q | q
    · obtain ⟨b1, b2, b3, b4, b5, b6, b7, b8, b9, b10, b11, h1, h2⟩ := hs i q a1 a2 a3 a4 a5 a6 a7 a8 a9 a10 a11 (fl11 B n) hp
      rw [h2]; exact ih (i + 1) b1 b2 b3 b4 b5 b6 b7 b8 b9 b10 b11 q (by omega) h1
    · have e : i = N := by omega
      subst e; exact he _ _ _ _ _ _ _ _ _ _ _ _ hp
theorem ivl13 {α1 α2 α3 α4 α5 α6 α7 α8 α9 α10 α11 α12 α13 ρ : Type} {B : (α1 → α2 → α3 → α4 → α5 → α6 → α7 → α8 → α9 → α10 → α11 → α12 → α13 → Option ρ) → α1 → α2 → α3 → α4 → α5 → α6 → α7 → α8 → α9 → α10 → α11 → α12 → α13 → Option ρ} (P : Nat → α1 → α2 → α3 → α4 → α5 → α6 → α7 → α8 → α9 → α10 → α11 → α12 → α13 → Prop) (Q : Option ρ → Prop) (N : Nat) (hs : ∀ i, i < N → ∀ a1 a2 a3 a4 a5 a6 a7 a8 a9 a10 a11 a12 a13 k, P i a1 a2 a3 a4 a5 a6 a7 a8 a9 a10 a11 a12 a13 → ∃ b1 b2 b3 b4 b5 b6 b7 b8 b9 b10 b11 b12 b13, P (i + 1) b1 b2 b3 b4 b5 b6 b7 b8 b9 b10 b11 b12 b13 ∧ B k a1 a2 a3 a4 a5 a6 a7 a8 a9 a10 a11 a12 a13 = k b1 b2 b3 b4 b5 b6 b7 b8 b9 b10 b11 b12 b13) (he : ∀ a1 a2 a3 a4 a5 a6 a7 a8 a9 a10 a11 a12 a13 k, P N a1 a2 a3 a4 a5 a6 a7 a8 a9 a10 a11 a12 a13 → Q (B k a1 a2 a3 a4 a5 a6 a7 a8 a9 a10 a11 a12 a13)) : ∀ (n i : Nat) (a1 : α1) (a2 : α2) (a3 : α3) (a4 : α4) (a5 : α5) (a6 : α6) (a7 : α7) (a8 : α8) (a9 : α9) (a10 : α10) (a11 : α11) (a12 : α12) (a13 : α13), i ≤ N → N - i < n → P i a1 a2 a3 a4 a5 a6 a7 a8 a9 a10 a11 a12 a13 → Q (fl13 B n a1 a2 a3 a4 a5 a6 a7 a8 a9 a10 a11 a12 a13) := by
  intro n
  induction n with
  | zero => intro i a1 a2 a3 a4 a5 a6 a7 a8 a9 a10 a11 a12 a13 _ h; omega
  | succ n ih =>
    intro i a1 a2 a3 a4 a5 a6 a7 a8 a9 a10 a11 a12 a13 hi hn hp
    show Q (B (fl13 B n) a1 a2 a3 a4 a5 a6 a7 a8 a9 a10 a11 a12 a13)
    rcases Nat.lt_or_ge i N with q | q
    · obtain ⟨b1, b2, b3, b4, b5, b6, b7, b8, b9, b10, b11, b12, b13, h1, h2⟩ := hs i q a1 a2 a3 a4 a5 a6 a7 a8 a9 a10 a11 a12 a13 (fl13 B n) hp
      rw [h2]; exact ih (i + 1) b1 b2 b3 b4 b5 b6 b7 b8 b9 b10 b11 b12 b13 q (by omega) h1
    · have e : i = N := by omega
      subst e; exact he _ _ _ _ _ _ _ _ _ _ _ _ _ _ hp
theorem bd10_some {α β γ δ ε ζ η θ ι κ μ : Type} (a : α) (b : β) (c : γ) (d : δ) (e : ε) (f : ζ) (g : η) (h : θ) (i : ι) (j : κ) (k : α → β → γ → δ → ε → ζ → η → θ → ι → κ → Option μ) : bd10 (some (a, b, c, d, e, f, g, h, i, j)) k = k a b c d e f g h i j := rfl
theorem bd11_some {α β γ δ ε ζ η θ ι κ μ ν : Type} (a : α) (b : β) (c : γ) (d : δ) (e : ε) (f : ζ) (g : η) (h : θ) (i : ι) (j : κ) (l : μ) (k : α → β → γ → δ → ε → ζ → η → θ → ι → κ → μ → Option ν) : bd11 (some (a, b, c, d, e, f, g, h, i, j, l)) k = k a b c d e f g h i j l := rfl
/-! traits, kept in marks -/
noncomputable def trN (f : Int64) (w : Nat) : Nat := ((tr_of f (nI w)).getD 0).toNatClampNeg
theorem trN_ok {f : Int64} (hf : FIG f) {w : Nat} (hw : w ≤ 14) : tr_of f (nI w) = some (nI (trN f w)) ∧ trN f w ≤ 200 ∧ ∀ g fl go, ∃ g' fl' go', mo_toldOf f (nI w) g fl go = some (nI (trN f w), g', fl', go') := by
  obtain ⟨r, _, _, _, h1, _, h3⟩ := told_ok hf hw 0 (fun _ => 0) (fun _ => 0)
  have e : trN f w = r := by
    unfold trN
    rw [h1]
    show (nI r).toNatClampNeg = r
    exact cl_n (by omega)
  rw [e]
  refine ⟨h1, h3, fun g fl go => ?_⟩
  obtain ⟨r2, g', fl', go', k1, k2, k3⟩ := told_ok hf hw g fl go
  rw [h1] at k1
  have : r = r2 := (nI_eq (by omega) (by omega)).mp (Option.some.inj k1)
  subst this
  exact ⟨g', fl', go', k2⟩
noncomputable def tvN (tl : Int64 → Nat) (i w : Nat) : Nat := if w = 15 then tl (Lf i) else trN (Lf i) w
def MK (tl : Int64 → Nat) (M : Nat → Int64) : Prop := ∀ i, i < 1067 → ∀ w, w < 16 → ∃ v, v < 256 ∧ (∀ t, t < 8 → bt (M (2 * i + w / 8)) (8 * (w % 8) + t) = v.testBit t) ∧ (v = 0 ∨ v = 1 + tvN tl i w)
theorem to32_255 (x : Int64) : x.toInt32 &&& 255 = nI (bn x % 256) := by
  have h := pk_and x.toInt32 (m := 255) 8 (by decide)
  rw [h]
  congr 1
  show x.toInt32.toBitVec.toNat % 2 ^ 8 = _
  have e : x.toInt32.toBitVec.toNat = bn x % 2 ^ 32 := by
    show (x.toBitVec.signExtend 32).toNat = _
    rw [BitVec.signExtend_eq_setWidth_of_le _ (by omega), BitVec.toNat_setWidth]; rfl
  rw [e]
  omega
theorem fld_eq {M : Int64} {s v : Nat} (hs : s < 64) (hv : v < 256) (h : ∀ t, t < 8 → bt M (s + t) = v.testBit t) : (su M (nI s)).toInt32 &&& 255 = nI v := by
  rw [to32_255]
  congr 1
  apply Nat.eq_of_testBit_eq
  intro t
  rw [show (256 : Nat) = 2 ^ 8 from rfl, Nat.testBit_mod_two_pow]
  by_cases q : t < 8
  · rw [decide_eq_true q, Bool.true_and, ← h t q, ← bt_su M hs t]
    show (su M (nI s)).toBitVec.toNat.testBit t = (su M (nI s)).toBitVec.getLsbD t
    rw [BitVec.testBit_toNat]
  · rw [decide_eq_false q, Bool.false_and, Nat.testBit_lt_two_pow (Nat.lt_of_lt_of_le hv (Nat.pow_le_pow_right (n := 2) (by omega) (show 8 ≤ t by omega)))]
theorem MK_set {tl : Int64 → Nat} {M : Nat → Int64} (h : MK tl M) {i w : Nat} (hi : i < 1067) (hw : w < 16) (hv : 1 + tvN tl i w < 256) (h0 : ∀ t, t < 8 → bt (M (2 * i + w / 8)) (8 * (w % 8) + t) = false) : MK tl (vp_updL M (2 * i + w / 8) (M (2 * i + w / 8) ||| sl (nI (1 + tvN tl i w)).toInt64 (nI (8 * (w % 8))))) := by
  intro i' hi' w' hw'
  have s64 : 8 * (w % 8) < 64 := by omega
  by_cases q : 2 * i' + w' / 8 = 2 * i + w / 8
  · have ei : i' = i := by omega
    have ew : w' / 8 = w / 8 := by omega
    subst ei
    rw [q, pk_uLs]
    have bits : ∀ t, t < 8 → bt (M (2 * i' + w / 8) ||| sl (nI (1 + tvN tl i' w)).toInt64 (nI (8 * (w % 8)))) (8 * (w' % 8) + t) = (bt (M (2 * i' + w / 8)) (8 * (w' % 8) + t) || (decide (8 * (w % 8) ≤ 8 * (w' % 8) + t) && (1 + tvN tl i' w).testBit (8 * (w' % 8) + t - 8 * (w % 8)))) := by
      intro t ht
      rw [bt_or, bt_sl _ s64 (by omega), bt_nI (by omega)]
    by_cases qw : w' = w
    · subst qw
      refine ⟨1 + tvN tl i' w', hv, fun t ht => ?_, Or.inr rfl⟩
      rw [bits t ht, h0 t ht, decide_eq_true (by omega), show 8 * (w' % 8) + t - 8 * (w' % 8) = t by omega, Bool.false_or, Bool.true_and]
    · obtain ⟨v, v1, v2, v3⟩ := h i' hi' w' hw'
      refine ⟨v, v1, fun t ht => ?_, v3⟩
      have v2' := v2 t ht
      rw [ew] at v2'
      rw [bits t ht, v2']
      by_cases q2 : 8 * (w % 8) ≤ 8 * (w' % 8) + t
      · rw [Nat.testBit_lt_two_pow (Nat.lt_of_lt_of_le hv (Nat.pow_le_pow_right (n := 2) (by omega) (show 8 ≤ 8 * (w' % 8) + t - 8 * (w % 8) by omega))), Bool.and_false, Bool.or_false]
      · rw [decide_eq_false q2, Bool.false_and, Bool.or_false]
  · rw [pk_uLn q]
    exact h i' hi' w' hw'
theorem trait_eq {tl : Int64 → Nat} {m : Nat} {nu : Nat → Int64} {os fr en : Nat → Int32} (hc : CL m nu os fr en) (hm : m ≤ 7) {M : Nat → Int64} (hM : MK tl M) {n k i t w : Nat} (hk : k ≤ 2) (h1 : 1 ≤ n) (hn : n ≤ m) (hi : i < eN n) (hb : lB k i = true) (hr : rk k i = eK k (n - 1) + t) (hw : w ≤ 14) (s1 s2 s3 s4 s5 s6 s7 : Int32) (le : Nat → Int32) : ∃ M', ca_trait (nI n) (nI k) (nI t) (nI w) s1 s2 s3 s4 s5 s6 s7 le nu os fr en M = some (nI (trN (Lf i) w), s1, s2, s3, s4, s5, s6, s7, le, M') ∧ MK tl M' := by
  have im : i < eN m := by
    have : ∀ a b : Fin 8, a.val ≤ b.val → eN a.val ≤ eN b.val := by decide
    have : eN n ≤ eN m := this ⟨n, by omega⟩ ⟨m, by omega⟩ hn
    omega
  have b := eN_b hm
  have i67 : i < 1067 := by omega
  obtain ⟨v, v1, v2, v3⟩ := hM i i67 w (by omega)
  obtain ⟨t1, t2, _⟩ := trN_ok (Lf_FIG i67) hw
  have i1 : inr (nI i) 0 1066 = true := by
    unfold inr
    rw [Bool.and_eq_true, decide_eq_true_eq, decide_eq_true_eq]
    exact ⟨nI_pos' (by omega), nI_le (a := i) (b := 1066) (by omega) (by omega)⟩
  have i2 : inr (nI w) 0 15 = true := by
    unfold inr
    rw [Bool.and_eq_true, decide_eq_true_eq, decide_eq_true_eq]
    exact ⟨nI_pos' (by omega), nI_le (a := w) (b := 15) (by omega) (by omega)⟩
  have tv : tvN tl i w = trN (Lf i) w := by unfold tvN; rw [if_neg (by omega)]
  have e6 : (2 * nI i + ir (nI w) 3 : Int32) = nI (2 * i + w / 8) := by rw [ir3 ⟨w, by omega⟩, show (2 : Int32) = nI 2 from rfl, pk_mul, nI_add]
  have e7 : (8 * (nI w &&& 7) : Int32) = nI (8 * (w % 8)) := by rw [and7 ⟨w, by omega⟩, show (8 : Int32) = nI 8 from rfl, pk_mul]
  rw [ca_trait, nI_m1 (by omega), cend hc hm hk (by omega), bd1_some, nI_add, ← hr, member_eq hc hm hk im hb, bd1_some, cf_within_eq, bd1_some, i1, if_neg (by decide), cf_within_eq, bd1_some, i2, if_neg (by decide), nm_eq, nm_eq, e6, e7, ck_n (show 2 * i + w / 8 < 2134 by omega) (by omega), nm_eq, cl_n (show 2 * i + w / 8 < 2 ^ 31 by omega), fld_eq (by omega) v1 v2]
  rcases v3 with z | z
  · subst z
    rw [if_pos nI_0, if_neg (show ¬ nI w = (15 : Int32) from fun c => by have := (nI_eq (a := w) (b := 15) (by omega) (by omega)).mp c; omega), ck_n i67 (by omega), cl_n (show i < 2 ^ 31 by omega), hc.1 i im, t1, bd1_some, ca_trait_J122, nm_eq, show (1 + nI (trN (Lf i) w) : Int32) = nI (1 + trN (Lf i) w) by rw [show (1 : Int32) = nI 1 from rfl, nI_add], ck_n (show 2 * i + w / 8 < 2134 by omega) (by omega), nm_eq, ck_n (show 2 * i + w / 8 < 2134 by omega) (by omega), nm_eq, cl_n (show 2 * i + w / 8 < 2 ^ 31 by omega), nI_m1 (by omega), show 1 + trN (Lf i) w - 1 = trN (Lf i) w by omega]
    have := MK_set hM i67 (show w < 16 by omega) (by rw [tv]; omega) (fun t ht => by rw [v2 t ht, Nat.zero_testBit])
    rw [tv] at this
    exact ⟨_, rfl, this⟩
  · rw [tv] at z
    subst z
    rw [if_neg (nI_ne0 (by omega) (by omega)), nI_m1 (by omega), show 1 + trN (Lf i) w - 1 = trN (Lf i) w by omega]
    exact ⟨M, rfl, hM⟩
/-- the t-th of a list -/
noncomputable def mbr (n k t : Nat) : Nat := Classical.epsilon (fun i => eN (n - 1) ≤ i ∧ i < eN n ∧ lB k i = true ∧ rk k i = eK k (n - 1) + t)
theorem mbr_s {n k t : Nat} (hn : 1 ≤ n ∧ n ≤ 7) (ht : t < eK k n - eK k (n - 1)) : eN (n - 1) ≤ mbr n k t ∧ mbr n k t < eN n ∧ lB k (mbr n k t) = true ∧ rk k (mbr n k t) = eK k (n - 1) + t := by
  exact Classical.epsilon_spec (kth hn ht)
theorem mli {li : Nat → Int64} {fm : Nat → Int32} (hl : MLm 7 li fm) {n k t : Nat} (hn : 1 ≤ n ∧ n ≤ 7) (hk : k ≤ 2) (ht : t < eK k n - eK k (n - 1)) : li (bK n k + t) = Lf (mbr n k t) ∧ bK n k + t < 1600 ∧ mbr n k t < 1067 := by
  obtain ⟨a, b, c, d⟩ := mbr_s hn ht
  have := hl.2 n k _ hn.1 hn.2 hk a b c
  rw [d, show eK k (n - 1) + t - eK k (n - 1) = t by omega] at this
  have bb := bK_b (n := n) (k := k + 1) hn.2
  have sz := sz_eq hn.1 hn.2 hk
  have e := eN_b hn.2
  exact ⟨this, by omega, by omega⟩
noncomputable def mtB (n k w : Nat) (lo hi : Int32) (t : Nat) : Bool := inr (nI (trN (Lf (mbr n k t)) w)) lo hi
noncomputable def mtC (n k w : Nat) (lo hi : Int32) (t : Nat) : Nat := fb_ct (mtB n k w lo hi) t
theorem i3264 (x : Int32) : x.toInt64.toInt32 = x := by
  apply Int32.toInt_inj.mp
  have r := fb_rng x
  rw [Int64.toInt_toInt32, Int32.toInt_toInt64]
  exact fb_bmod r.1 r.2
theorem looked_go {li : Nat → Int64} {fm : Nat → Int32} (hl : MLm 7 li fm) {n k w : Nat} (hn : 1 ≤ n ∧ n ≤ 7) (hk : k ≤ 2) (hw : w ≤ 14) (lo hi : Int32) (K : Int32) {N : Nat} (hN : N ≤ eK k n - eK k (n - 1)) (hne : ∀ t, t < N → mtB n k w lo hi t = true → ¬ nI (mtC n k w lo hi t) = K) (Q : Option (Int64 × Int32 × (Nat → Int32) × (Nat → Int32)) → Prop) (hQ : ∀ kk g fl go, Q (mo_lookedFor_B11 (nI n) (nI k) (nI w) lo hi K li fm kk (nI (mtC n k w lo hi N)) (nI (bK n k + N)) g fl go)) (g : Int32) (fl go : Nat → Int32) : Q (fl5 (mo_lookedFor_B11 (nI n) (nI k) (nI w) lo hi K li fm) FU 0 (nI (bK n k)) g fl go) := by
  have ek := eK_1067 (k := k) (n := n) hn.2
  have bb := bK_b (n := n) (k := k + 1) hn.2
  have sz := sz_eq hn.1 hn.2 hk
  refine ivl5 (B := mo_lookedFor_B11 (nI n) (nI k) (nI w) lo hi K li fm) (fun t a b _ _ _ => a = nI (mtC n k w lo hi t) ∧ b = nI (bK n k + t)) Q N ?_ ?_ FU 0 _ _ _ _ _ (by omega) (FU_lt (by omega)) ⟨rfl, rfl⟩
  · rintro t ht a b c d e kk ⟨rfl, rfl⟩
    obtain ⟨l1, l2, l3⟩ := mli hl hn hk (t := t) (by omega)
    obtain ⟨_, t2, t3⟩ := trN_ok (Lf_FIG l3) hw
    obtain ⟨g', fl', go', t4⟩ := t3 c d e
    have es : mtC n k w lo hi (t + 1) = mtC n k w lo hi t + (if mtB n k w lo hi t then 1 else 0) := fb_ct_succ _ _
    rw [mo_lookedFor_B11, mend hl hn hk, bd1_some, if_neg (nI_ge (show bK n k + t < bK n (k + 1) by omega) (by omega)), ck_n l2 (by omega), cl_n (by omega), l1, t4, bd4_some, mo_in_eq, bd1_some]
    show ∃ a' b' c' d' e', _ ∧ (if boI (mtB n k w lo hi t) = 0 then mo_lookedFor_J68 kk li fm (nI n) (nI k) (nI w) lo hi K (nI (mtC n k w lo hi t)) (nI (bK n k + t)) g' fl' go' else if nI (mtC n k w lo hi t) = K then ck (nI (bK n k + t)) 1600 (some (Lf (mbr n k t), g', fl', go')) else nm (nI (mtC n k w lo hi t) + 1) fun v7_11 => mo_lookedFor_J68 kk li fm (nI n) (nI k) (nI w) lo hi K v7_11 (nI (bK n k + t)) g' fl' go') = _
    cases hm : mtB n k w lo hi t with
    | false =>
      rw [hm] at es
      rw [if_pos (by decide), mo_lookedFor_J68, nm_eq, o1]
      exact ⟨_, _, _, _, _, ⟨by rw [es]; rfl, rfl⟩, rfl⟩
    | true =>
      rw [hm] at es
      rw [if_neg (by decide), if_neg (hne t ht hm), nm_eq, nI_1, mo_lookedFor_J68, nm_eq, o1]
      exact ⟨_, _, _, _, _, ⟨by rw [es]; rfl, rfl⟩, rfl⟩
  · rintro a b c d e kk ⟨rfl, rfl⟩
    exact hQ kk c d e
theorem opc_many (tl : Int64 → Nat) (v w u lo hi : Int32) {x : Int32} {nu : Nat → Int64} {os fr en : Nat → Int32} (hc : CLs x nu os fr en) {M : Nat → Int64} (hM : MK tl M) {li : Nat → Int64} {fm : Nat → Int32} (hl : MLm 7 li fm) (s1 s2 s3 s4 s5 s6 s7 : Int32) (le : Nat → Int32) (g : Int32) (fl go : Nat → Int32) : ∃ r x' nu' os' fr' en' M' g' fl' go', cf_many v w u lo hi s1 s2 s3 s4 s5 s6 s7 le x nu os fr en M = some (r, s1, s2, s3, s4, s5, s6, s7, le, x', nu', os', fr', en', M') ∧ mo_many v w u lo hi g fl go li fm = some (r, g', fl', go') ∧ CLs x' nu' os' fr' en' ∧ MK tl M' := by
  cases hv : (inr v 1 7 && inr w 0 2) with
  | false =>
    simp only [cf_many, mo_many, cf_isList_eq, mo_isList_eq, hv, bd1_some, bf0, if_true]
    exact ⟨-1, _, _, _, _, _, _, _, _, _, rfl, rfl, hc, hM⟩
  | true =>
    cases hu : inr u 0 14 with
    | false =>
      simp only [cf_many, mo_many, cf_isList_eq, mo_isList_eq, cf_within_eq, mo_in_eq, hv, hu, bd1_some, bf0, bt0, if_true, if_false]
      exact ⟨-1, _, _, _, _, _, _, _, _, _, rfl, rfl, hc, hM⟩
    | true =>
      have hv' := hv
      rw [Bool.and_eq_true] at hv
      obtain ⟨n, n1, n2, rfl⟩ := inr_17' hv.1
      obtain ⟨k, hk, rfl⟩ := inr_2 hv.2
      obtain ⟨w, hw, rfl⟩ := inr_nI (n := 14) (by omega) hu
      simp only [cf_many, mo_many, cf_isList_eq, mo_isList_eq, cf_within_eq, mo_in_eq, hv', hu, bd1_some, bt0, if_false]
      by_cases qh : lo ≤ hi
      · obtain ⟨m, nu', os', fr', en', m1, m2, p1, p2⟩ := prepare_eq hc n2
        have ek := eK_1067 (k := k) n2
        have bb := bK_b (n := n) (k := k + 1) n2
        have sz := sz_eq n1 n2 hk
        rw [if_pos qh, if_pos qh, p1, bd5_some, csize p2 m2 hk n1 m1, bd1_some]
        have cl : ∃ M', fl11 (cf_many_B52 (nI n) (nI k) (nI w) lo hi (nI (eK k n - eK k (n - 1))) (nI m) nu' os' fr' en') FU 0 0 s1 s2 s3 s4 s5 s6 s7 le M = some (nI (mtC n k w lo hi (eK k n - eK k (n - 1))), s1, s2, s3, s4, s5, s6, s7, le, nI m, nu', os', fr', en', M') ∧ MK tl M' := by
          refine ivl11 (B := cf_many_B52 (nI n) (nI k) (nI w) lo hi (nI (eK k n - eK k (n - 1))) (nI m) nu' os' fr' en') (fun t a b c1 c2 c3 c4 c5 c6 c7 c8 M => a = nI (mtC n k w lo hi t) ∧ b = nI t ∧ c1 = s1 ∧ c2 = s2 ∧ c3 = s3 ∧ c4 = s4 ∧ c5 = s5 ∧ c6 = s6 ∧ c7 = s7 ∧ c8 = le ∧ MK tl M) (fun o => ∃ M', o = some (nI (mtC n k w lo hi (eK k n - eK k (n - 1))), s1, s2, s3, s4, s5, s6, s7, le, nI m, nu', os', fr', en', M') ∧ MK tl M') (eK k n - eK k (n - 1)) ?_ ?_ FU 0 _ _ _ _ _ _ _ _ _ _ _ (by omega) (FU_lt (by omega)) ⟨rfl, rfl, rfl, rfl, rfl, rfl, rfl, rfl, rfl, rfl, hM⟩
          · rintro t ht a b c1 c2 c3 c4 c5 c6 c7 c8 M K ⟨rfl, rfl, rfl, rfl, rfl, rfl, rfl, rfl, rfl, rfl, hM⟩
            obtain ⟨j1, j2, j3, j4⟩ := mbr_s (k := k) ⟨n1, n2⟩ ht
            obtain ⟨M', e1, e2⟩ := trait_eq (tl := tl) p2 m2 hM hk n1 m1 j2 j3 j4 hw c1 c2 c3 c4 c5 c6 c7 c8
            have es : mtC n k w lo hi (t + 1) = mtC n k w lo hi t + (if mtB n k w lo hi t then 1 else 0) := fb_ct_succ _ _
            rw [cf_many_B52, if_neg (nI_ge ht (by omega)), e1, bd10_some, cf_within_eq, bd1_some]
            cases hm : mtB n k w lo hi t with
            | false =>
              rw [hm] at es
              rw [show inr (nI (trN (Lf (mbr n k t)) w)) lo hi = false from hm, if_pos (by decide), cf_many_J84, nm_eq, o1]
              exact ⟨_, _, _, _, _, _, _, _, _, _, _, ⟨by rw [es]; rfl, rfl, rfl, rfl, rfl, rfl, rfl, rfl, rfl, rfl, e2⟩, rfl⟩
            | true =>
              rw [hm] at es
              rw [show inr (nI (trN (Lf (mbr n k t)) w)) lo hi = true from hm, if_neg (by decide), nm_eq, o1, cf_many_J84, nm_eq, o1]
              exact ⟨_, _, _, _, _, _, _, _, _, _, _, ⟨by rw [es]; rfl, rfl, rfl, rfl, rfl, rfl, rfl, rfl, rfl, rfl, e2⟩, rfl⟩
          · rintro a b c1 c2 c3 c4 c5 c6 c7 c8 M K ⟨rfl, rfl, rfl, rfl, rfl, rfl, rfl, rfl, rfl, rfl, hM⟩
            rw [cf_many_B52, if_pos (nI_le (Nat.le_refl _) (by omega))]
            exact ⟨M, rfl, hM⟩
        obtain ⟨M', c1, c2⟩ := cl
        have ml : ∃ g' fl' go', mo_lookedFor (nI n) (nI k) (nI w) lo hi (-1) g fl go li fm = some ((nI (mtC n k w lo hi (eK k n - eK k (n - 1)))).toInt64, g', fl', go') := by
          rw [mo_lookedFor, mbeg hl ⟨n1, n2⟩ hk, bd1_some]
          refine looked_go hl ⟨n1, n2⟩ hk hw lo hi (-1) (N := eK k n - eK k (n - 1)) (Nat.le_refl _) (fun t ht _ => nI_ne1 (by have : mtC n k w lo hi t ≤ t := fb_ct_le _ _; omega)) (fun o => ∃ g' fl' go', o = some ((nI (mtC n k w lo hi (eK k n - eK k (n - 1)))).toInt64, g', fl', go')) (fun kk g fl go => ?_) g fl go
          rw [mo_lookedFor_B11, mend hl ⟨n1, n2⟩ hk, bd1_some, if_pos (nI_le (show bK n (k + 1) ≤ bK n k + (eK k n - eK k (n - 1)) by omega) (by omega)), if_neg (by decide)]
          exact ⟨_, _, _, rfl⟩
        obtain ⟨g', fl', go', d1⟩ := ml
        rw [c1, d1, bd4_some, i3264]
        exact ⟨_, _, _, _, _, _, _, _, _, _, rfl, rfl, ⟨m, m2, rfl, p2⟩, c2⟩
      · rw [if_neg qh, if_neg qh]
        exact ⟨-1, _, _, _, _, _, _, _, _, _, rfl, rfl, hc, hM⟩
theorem opc_found (tl : Int64 → Nat) (v w u lo hi kk : Int32) {x : Int32} {nu : Nat → Int64} {os fr en : Nat → Int32} (hc : CLs x nu os fr en) {M : Nat → Int64} (hM : MK tl M) {li : Nat → Int64} {fm : Nat → Int32} (hl : MLm 7 li fm) (s1 s2 s3 s4 s5 s6 s7 : Int32) (le : Nat → Int32) (g : Int32) (fl go : Nat → Int32) : ∃ r x' nu' os' fr' en' M' g' fl' go', cf_found v w u lo hi kk s1 s2 s3 s4 s5 s6 s7 le x nu os fr en M = some (r, s1, s2, s3, s4, s5, s6, s7, le, x', nu', os', fr', en', M') ∧ mo_found v w u lo hi kk g fl go li fm = some (r, g', fl', go') ∧ CLs x' nu' os' fr' en' ∧ MK tl M' := by
  cases hv : (inr v 1 7 && inr w 0 2) with
  | false =>
    simp only [cf_found, mo_found, cf_isList_eq, mo_isList_eq, hv, bd1_some, bf0, if_true]
    exact ⟨-1, _, _, _, _, _, _, _, _, _, rfl, rfl, hc, hM⟩
  | true =>
    cases hu : inr u 0 14 with
    | false =>
      simp only [cf_found, mo_found, cf_isList_eq, mo_isList_eq, cf_within_eq, mo_in_eq, hv, hu, bd1_some, bf0, bt0, if_true, if_false]
      exact ⟨-1, _, _, _, _, _, _, _, _, _, rfl, rfl, hc, hM⟩
    | true =>
      have hv' := hv
      rw [Bool.and_eq_true] at hv
      obtain ⟨n, n1, n2, rfl⟩ := inr_17' hv.1
      obtain ⟨k, hk, rfl⟩ := inr_2 hv.2
      obtain ⟨w, hw, rfl⟩ := inr_nI (n := 14) (by omega) hu
      simp only [cf_found, mo_found, cf_isList_eq, mo_isList_eq, cf_within_eq, mo_in_eq, hv', hu, bd1_some, bt0, if_false]
      by_cases qh : hi < lo
      · rw [if_pos qh, if_pos qh]
        exact ⟨-1, _, _, _, _, _, _, _, _, _, rfl, rfl, hc, hM⟩
      · rw [if_neg qh, if_neg qh]
        by_cases qk : 0 ≤ kk
        · obtain ⟨K, hK, rfl⟩ := nI_of (i32_nlt.mpr qk)
          obtain ⟨m, nu', os', fr', en', m1, m2, p1, p2⟩ := prepare_eq hc n2
          have ek := eK_1067 (k := k) n2
          have bb := bK_b (n := n) (k := k + 1) n2
          have sz := sz_eq n1 n2 hk
          rw [if_pos qk, if_pos qk, p1, bd5_some, csize p2 m2 hk n1 m1, bd1_some, mo_lookedFor, mbeg hl ⟨n1, n2⟩ hk, bd1_some]
          have cle : ∀ t, mtC n k w lo hi t ≤ t := fun t => fb_ct_le _ _
          have es : ∀ t, mtC n k w lo hi (t + 1) = mtC n k w lo hi t + (if mtB n k w lo hi t then 1 else 0) := fun t => fb_ct_succ _ _
          -- the class up to a place
          have cgo : ∀ N, N ≤ eK k n - eK k (n - 1) → (∀ t, t < N → mtB n k w lo hi t = true → mtC n k w lo hi t ≠ K) → (∀ t, t ≤ N → mtC n k w lo hi t ≤ K) → ∀ (Q : Option (Int64 × Int32 × Int32 × Int32 × Int32 × Int32 × Int32 × Int32 × (Nat → Int32) × Int32 × (Nat → Int64) × (Nat → Int32) × (Nat → Int32) × (Nat → Int32) × (Nat → Int64)) → Prop), (∀ kq M, MK tl M → Q (cf_found_B60 (nI n) (nI k) (nI w) lo hi (nI (eK k n - eK k (n - 1))) (nI m) nu' os' fr' en' kq (nI (K - mtC n k w lo hi N)) (nI N) s1 s2 s3 s4 s5 s6 s7 le M)) → Q (fl11 (cf_found_B60 (nI n) (nI k) (nI w) lo hi (nI (eK k n - eK k (n - 1))) (nI m) nu' os' fr' en') FU (nI K) 0 s1 s2 s3 s4 s5 s6 s7 le M) := by
            intro N hN hne hle Q hQ
            refine ivl11 (B := cf_found_B60 (nI n) (nI k) (nI w) lo hi (nI (eK k n - eK k (n - 1))) (nI m) nu' os' fr' en') (fun t a b c1 c2 c3 c4 c5 c6 c7 c8 M => a = nI (K - mtC n k w lo hi t) ∧ b = nI t ∧ c1 = s1 ∧ c2 = s2 ∧ c3 = s3 ∧ c4 = s4 ∧ c5 = s5 ∧ c6 = s6 ∧ c7 = s7 ∧ c8 = le ∧ MK tl M) Q N ?_ ?_ FU 0 _ _ _ _ _ _ _ _ _ _ _ (by omega) (FU_lt (by omega)) ⟨rfl, rfl, rfl, rfl, rfl, rfl, rfl, rfl, rfl, rfl, hM⟩
            · rintro t ht a b c1 c2 c3 c4 c5 c6 c7 c8 M kq ⟨rfl, rfl, rfl, rfl, rfl, rfl, rfl, rfl, rfl, rfl, hM⟩
              obtain ⟨j1, j2, j3, j4⟩ := mbr_s (k := k) (t := t) ⟨n1, n2⟩ (by omega)
              obtain ⟨M', e1, e2⟩ := trait_eq (tl := tl) p2 m2 hM hk n1 m1 j2 j3 j4 hw c1 c2 c3 c4 c5 c6 c7 c8
              have es' := es t
              have l1 := hle t (by omega)
              have l2 := hle (t + 1) (by omega)
              rw [cf_found_B60, if_neg (nI_ge (show t < eK k n - eK k (n - 1) by omega) (by omega)), e1, bd10_some, cf_within_eq, bd1_some]
              cases hm : mtB n k w lo hi t with
              | false =>
                rw [hm] at es'
                rw [show inr (nI (trN (Lf (mbr n k t)) w)) lo hi = false from hm, if_pos (by decide), cf_found_J109, nm_eq, o1]
                exact ⟨_, _, _, _, _, _, _, _, _, _, _, ⟨by rw [es']; rfl, rfl, rfl, rfl, rfl, rfl, rfl, rfl, rfl, rfl, e2⟩, rfl⟩
              | true =>
                rw [hm, if_pos rfl] at es'
                have ne := hne t ht hm
                rw [show inr (nI (trN (Lf (mbr n k t)) w)) lo hi = true from hm, if_neg (by decide), if_neg (nI_ne0 (show 0 < K - mtC n k w lo hi t by omega) (by omega)), nm_eq, cf_found_J109, nm_eq, o1]
                refine ⟨_, _, _, _, _, _, _, _, _, _, _, ⟨?_, rfl, rfl, rfl, rfl, rfl, rfl, rfl, rfl, rfl, e2⟩, rfl⟩
                have := pk_m1 (K - mtC n k w lo hi (t + 1))
                rw [show K - mtC n k w lo hi (t + 1) + 1 = K - mtC n k w lo hi t by omega] at this
                rw [show Int32.ofInt (-1) = -1 by decide, this]
            · rintro a b c1 c2 c3 c4 c5 c6 c7 c8 M kq ⟨rfl, rfl, rfl, rfl, rfl, rfl, rfl, rfl, rfl, rfl, hM⟩
              exact hQ kq M hM
          by_cases ex : ∃ t, t < eK k n - eK k (n - 1) ∧ (mtB n k w lo hi t = true ∧ mtC n k w lo hi t = K)
          · obtain ⟨t0, a1, ⟨a2, a3⟩, a4⟩ := fb_first ex
            have hle : ∀ t, t ≤ t0 → mtC n k w lo hi t ≤ K := fun t ht => by rw [← a3]; exact ct_le ht
            obtain ⟨j1, j2, j3, j4⟩ := mbr_s (k := k) ⟨n1, n2⟩ a1
            have cl := cgo t0 (by omega) (fun t ht hm he => a4 t ht ⟨hm, he⟩) hle (fun o => ∃ M', o = some (Lf (mbr n k t0), s1, s2, s3, s4, s5, s6, s7, le, nI m, nu', os', fr', en', M') ∧ MK tl M') (fun kq M hM => by
              obtain ⟨M', e1, e2⟩ := trait_eq (tl := tl) p2 m2 hM hk n1 m1 j2 j3 j4 hw s1 s2 s3 s4 s5 s6 s7 le
              rw [cf_found_B60, if_neg (nI_ge a1 (by omega)), e1, bd10_some, cf_within_eq, bd1_some, show inr (nI (trN (Lf (mbr n k t0)) w)) lo hi = true from a2, if_neg (by decide), a3, Nat.sub_self, if_pos nI_0, cat p2 m2 hk n1 m1 j2 j3 j4, bd1_some]
              exact ⟨M', rfl, e2⟩)
            obtain ⟨M', c1, c2⟩ := cl
            have ml := looked_go hl ⟨n1, n2⟩ hk hw lo hi (nI K) (N := t0) (by omega) (fun t ht hm he => a4 t ht ⟨hm, (nI_eq (by have := cle t; omega) hK).mp he⟩) (fun o => ∃ g' fl' go', o = some (Lf (mbr n k t0), g', fl', go')) (fun kq g fl go => by
              obtain ⟨l1, l2, l3⟩ := mli hl ⟨n1, n2⟩ hk a1
              obtain ⟨_, t2, t3⟩ := trN_ok (Lf_FIG l3) hw
              obtain ⟨g', fl', go', t4⟩ := t3 g fl go
              rw [mo_lookedFor_B11, mend hl ⟨n1, n2⟩ hk, bd1_some, if_neg (nI_ge (show bK n k + t0 < bK n (k + 1) by omega) (by omega)), ck_n l2 (by omega), cl_n (by omega), l1, t4, bd4_some, mo_in_eq, bd1_some, show inr (nI (trN (Lf (mbr n k t0)) w)) lo hi = true from a2, if_neg (by decide), a3, if_pos rfl, ck_n l2 (by omega)]
              exact ⟨_, _, _, rfl⟩) g fl go
            obtain ⟨g', fl', go', d1⟩ := ml
            rw [c1, d1, bd4_some]
            exact ⟨_, _, _, _, _, _, _, _, _, _, rfl, rfl, ⟨m, m2, rfl, p2⟩, c2⟩
          · have hle : ∀ t, t ≤ eK k n - eK k (n - 1) → mtC n k w lo hi t ≤ K := by
              intro t
              induction t with
              | zero => intro _; exact Nat.zero_le _
              | succ t ih =>
                intro ht
                have := ih (by omega)
                have es' := es t
                cases hm : mtB n k w lo hi t with
                | false => rw [hm, if_neg (by decide)] at es'; omega
                | true =>
                  rw [hm, if_pos rfl] at es'
                  have : mtC n k w lo hi t ≠ K := fun e => ex ⟨t, by omega, hm, e⟩
                  omega
            have cl := cgo (eK k n - eK k (n - 1)) (Nat.le_refl _) (fun t ht hm he => ex ⟨t, ht, hm, he⟩) hle (fun o => ∃ M', o = some (-2, s1, s2, s3, s4, s5, s6, s7, le, nI m, nu', os', fr', en', M') ∧ MK tl M') (fun kq M hM => by
              rw [cf_found_B60, if_pos (nI_le (Nat.le_refl _) (by omega))]
              exact ⟨M, rfl, hM⟩)
            obtain ⟨M', c1, c2⟩ := cl
            have ml := looked_go hl ⟨n1, n2⟩ hk hw lo hi (nI K) (N := eK k n - eK k (n - 1)) (Nat.le_refl _) (fun t ht hm he => ex ⟨t, ht, hm, (nI_eq (by have := cle t; omega) hK).mp he⟩) (fun o => ∃ g' fl' go', o = some (-2, g', fl', go')) (fun kq g fl go => by
              rw [mo_lookedFor_B11, mend hl ⟨n1, n2⟩ hk, bd1_some, if_pos (nI_le (show bK n (k + 1) ≤ bK n k + (eK k n - eK k (n - 1)) by omega) (by omega)), if_pos qk]
              exact ⟨_, _, _, rfl⟩) g fl go
            obtain ⟨g', fl', go', d1⟩ := ml
            rw [c1, d1, bd4_some]
            exact ⟨_, _, _, _, _, _, _, _, _, _, rfl, rfl, ⟨m, m2, rfl, p2⟩, c2⟩
        · rw [if_neg qk, if_neg qk]
          exact ⟨-1, _, _, _, _, _, _, _, _, _, rfl, rfl, hc, hM⟩
