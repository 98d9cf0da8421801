/-! loops by what holds -/
theorem ivl1 {α ρ : Type} {B : (α → Option ρ) → α → Option ρ} (P : Nat → α → Prop) (Q : Option ρ → Prop) (N : Nat) (hs : ∀ i, i < N → ∀ a k, P i a → ∃ a', P (i + 1) a' ∧ B k a = k a') (he : ∀ a k, P N a → Q (B k a)) : ∀ (n i : Nat) (a : α), i ≤ N → N - i < n → P i a → Q (fl1 B n a) := by
  intro n
  induction n with
  | zero => intro i a _ h; omega
  | succ n ih =>
    intro i a hi hn hp
    show Q (B (fl1 B n) a)
    rcases Nat.lt_or_ge i N with q | q
    · obtain ⟨a', h1, h2⟩ := hs i q a (fl1 B n) hp
      rw [h2]; exact ih (i + 1) a' q (by omega) h1
    · have e : i = N := by omega
      subst e; exact he a _ hp
theorem ivl2 {α β ρ : Type} {B : (α → β → Option ρ) → α → β → Option ρ} (P : Nat → α → β → Prop) (Q : Option ρ → Prop) (N : Nat) (hs : ∀ i, i < N → ∀ a b k, P i a b → ∃ a' b', P (i + 1) a' b' ∧ B k a b = k a' b') (he : ∀ a b k, P N a b → Q (B k a b)) : ∀ (n i : Nat) (a : α) (b : β), i ≤ N → N - i < n → P i a b → Q (fl2 B n a b) := by
  intro n
  induction n with
  | zero => intro i a b _ h; omega
  | succ n ih =>
    intro i a b hi hn hp
    show Q (B (fl2 B n) a b)
    rcases Nat.lt_or_ge i N with q | q
    · obtain ⟨a', b', h1, h2⟩ := hs i q a b (fl2 B n) hp
      rw [h2]; exact ih (i + 1) a' b' q (by omega) h1
    · have e : i = N := by omega
      subst e; exact he a b _ hp
theorem ivl3 {α β γ ρ : Type} {B : (α → β → γ → Option ρ) → α → β → γ → Option ρ} (P : Nat → α → β → γ → Prop) (Q : Option ρ → Prop) (N : Nat) (hs : ∀ i, i < N → ∀ a b c k, P i a b c → ∃ a' b' c', P (i + 1) a' b' c' ∧ B k a b c = k a' b' c') (he : ∀ a b c k, P N a b c → Q (B k a b c)) : ∀ (n i : Nat) (a : α) (b : β) (c : γ), i ≤ N → N - i < n → P i a b c → Q (fl3 B n a b c) := by
  intro n
  induction n with
  | zero => intro i a b c _ h; omega
  | succ n ih =>
    intro i a b c hi hn hp
    show Q (B (fl3 B n) a b c)
    rcases Nat.lt_or_ge i N with q | q
    · obtain ⟨a', b', c', h1, h2⟩ := hs i q a b c (fl3 B n) hp
      rw [h2]; exact ih (i + 1) a' b' c' q (by omega) h1
    · have e : i = N := by omega
      subst e; exact he a b c _ hp
theorem ivl4 {α β γ δ ρ : Type} {B : (α → β → γ → δ → Option ρ) → α → β → γ → δ → Option ρ} (P : Nat → α → β → γ → δ → Prop) (Q : Option ρ → Prop) (N : Nat) (hs : ∀ i, i < N → ∀ a b c d k, P i a b c d → ∃ a' b' c' d', P (i + 1) a' b' c' d' ∧ B k a b c d = k a' b' c' d') (he : ∀ a b c d k, P N a b c d → Q (B k a b c d)) : ∀ (n i : Nat) (a : α) (b : β) (c : γ) (d : δ), i ≤ N → N - i < n → P i a b c d → Q (fl4 B n a b c d) := by
  intro n
  induction n with
  | zero => intro i a b c d _ h; omega
  | succ n ih =>
    intro i a b c d hi hn hp
    show Q (B (fl4 B n) a b c d)
    rcases Nat.lt_or_ge i N with q | q
    · obtain ⟨a', b', c', d', h1, h2⟩ := hs i q a b c d (fl4 B n) hp
      rw [h2]; exact ih (i + 1) a' b' c' d' q (by omega) h1
    · have e : i = N := by omega
      subst e; exact he a b c d _ hp
/-! rows of what came in -/
/-- a rising row of just what p says of the numbers below n -/
def RI (p : Nat → Bool) (F : Nat → Int64) (n e : Nat) (A : Nat → Int64) : Prop := SLt A 0 e ∧ e ≤ n ∧ ∀ y, Mm A 0 e y ↔ ∃ q, q < n ∧ p q = true ∧ y = F q
theorem RI_0 (p : Nat → Bool) (F : Nat → Int64) (A : Nat → Int64) : RI p F 0 0 A := ⟨fun i j _ _ h => by omega, Nat.le_refl 0, fun y => ⟨fun ⟨i, _, h, _⟩ => by omega, fun ⟨q, h, _⟩ => by omega⟩⟩
theorem RI_skip {p : Nat → Bool} {F : Nat → Int64} {n e : Nat} {A : Nat → Int64} (h : RI p F n e A) (hp : p n = false) : RI p F (n + 1) e A := by
  refine ⟨h.1, by have := h.2.1; omega, fun y => ?_⟩
  rw [h.2.2 y]
  constructor
  · rintro ⟨q, a, b⟩; exact ⟨q, by omega, b⟩
  · rintro ⟨q, a, b, c⟩
    rcases Nat.lt_or_ge q n with k | k
    · exact ⟨q, k, b, c⟩
    · have : q = n := by omega
      rw [this, hp] at b; cases b
theorem RI_put {p : Nat → Bool} {F : Nat → Int64} {n e e' : Nat} {A A' : Nat → Int64} (h : RI p F n e A) (hp : p n = true) (h1 : SLt A' 0 e') (h2 : ∀ y, Mm A' 0 e' y ↔ Mm A 0 e y ∨ y = F n) (h3 : e' ≤ e + 1) : RI p F (n + 1) e' A' := by
  refine ⟨h1, by have := h.2.1; omega, fun y => ?_⟩
  rw [h2 y, h.2.2 y]
  constructor
  · rintro (⟨q, a, b⟩ | a)
    · exact ⟨q, by omega, b⟩
    · exact ⟨n, by omega, hp, a⟩
  · rintro ⟨q, a, b, c⟩
    rcases Nat.lt_or_ge q n with k | k
    · exact Or.inl ⟨q, k, b, c⟩
    · have : q = n := by omega
      rw [this] at c; exact Or.inr c
/-- a row grown by one, of the class -/
theorem RI_rw {p : Nat → Bool} {F : Nat → Int64} {n e : Nat} {A : Nat → Int64} (h : RI p F n e A) (hp : p n = true) (hn : n < 64) : ∃ e' A', rw_add (F n) (nI e) A = some (nI e', A') ∧ RI p F (n + 1) e' A' := by
  have he := h.2.1
  obtain ⟨e', A', a1, a2, a3, a4, a5⟩ := rw_add_eq (F n) h.1 (show e < 64 by omega)
  exact ⟨e', A', a1, RI_put h hp a2 a3 a5⟩
theorem RI_mk {p : Nat → Bool} {F : Nat → Int64} {n e : Nat} {A : Nat → Int64} (h : RI p F n e A) (hp : p n = true) (hn : n < 400) : ∃ e' A', mo_comesIn_mkin 0 (nI e) (F n) A = some (nI e', A') ∧ RI p F (n + 1) e' A' := by
  have he := h.2.1
  obtain ⟨e', A', a1, a2, a3, a4, a5, _⟩ := mkin_eq (a := 0) (F n) h.1 (Nat.zero_le _) (show e < 400 by omega)
  exact ⟨e', A', a1, RI_put h hp a2 a3 a5⟩
theorem RI_same {p p' : Nat → Bool} {F F' : Nat → Int64} {n n' e e' : Nat} {A A' : Nat → Int64} (h : RI p F n e A) (h' : RI p' F' n' e' A') (hs : ∀ y, (∃ q, q < n ∧ p q = true ∧ y = F q) ↔ ∃ q, q < n' ∧ p' q = true ∧ y = F' q) : e = e' ∧ ∀ i, i < e → A i = A' i := by
  have := SLt_uniq h.1 h'.1 (Nat.zero_le _) (Nat.zero_le _) (fun y => by rw [h.2.2 y, h'.2.2 y, hs y])
  refine ⟨by omega, fun i hi => ?_⟩
  have := this.2 i (by omega)
  rw [Nat.zero_add] at this; exact this
/-! grown -/
theorem i9le : (8 : Int32) ≤ Int32.ofInt (((9 : Nat) : Int) - 1) := by decide
theorem m9 (j i : Nat) (hi : i < 9) : ((((9 * j + i) % 9 : Nat) : Int) - 1 = (i : Int) - 1) ∧ ((((9 * j + i) / 9 : Nat) : Int) - 1 = (j : Int) - 1) := by omega
theorem lg_in {f : Int64} (hf : FIG f) (hc : cnt f < 12) {k : Nat} (hk : k ≤ 2) {j : Nat} (hj : j < 9) (K : Int32 → Int32 → (Nat → Int64) → Option (Int32 × (Nat → Int64))) (e : Nat) (A : Nat → Int64) (h : RI (PLq f) (fun q => own (wtq f q) k) (9 * j) e A) : ∃ e' A', fl3 (mo_laysGrown_B28 f (nI k) (Int32.ofInt ((j : Int) - 1)) K) FU (Int32.ofInt (((0 : Nat) : Int) - 1)) (nI e) A = K (Int32.ofInt (((j + 1 : Nat) : Int) - 1)) (nI e') A' ∧ RI (PLq f) (fun q => own (wtq f q) k) (9 * (j + 1)) e' A' := by
  refine ivl3 (B := mo_laysGrown_B28 f (nI k) (Int32.ofInt ((j : Int) - 1)) K) (fun i a b c => a = Int32.ofInt ((i : Int) - 1) ∧ ∃ e, b = nI e ∧ RI (PLq f) (fun q => own (wtq f q) k) (9 * j + i) e c) (fun o => ∃ e' A', o = K (Int32.ofInt (((j + 1 : Nat) : Int) - 1)) (nI e') A' ∧ RI (PLq f) (fun q => own (wtq f q) k) (9 * (j + 1)) e' A') 9 ?_ ?_ FU 0 _ _ _ (by omega) (FU_lt (by omega)) ⟨rfl, e, rfl, h⟩
  · rintro i hi a b c kk ⟨rfl, e, rfl, hr⟩
    have m := m9 j i hi
    have ep : PLq f (9 * j + i) = (BS f ((i : Int) - 1) ((j : Int) - 1) && Wn f ((i : Int) - 1) ((j : Int) - 1)) := by unfold PLq; rw [m.1, m.2]
    have ew : wtq f (9 * j + i) = wth f ((i : Int) - 1) ((j : Int) - 1) := by unfold wtq; rw [m.1, m.2]
    rw [mo_laysGrown_B28, if_neg (i8le hi), mo_isBeside_i f (by omega) (by omega), bd1_some, mo_laysGrown_J85, nm_eq, iI9]
    cases hb : BS f ((i : Int) - 1) ((j : Int) - 1) with
    | false =>
      rw [if_pos (by decide)]
      exact ⟨_, _, _, ⟨rfl, e, rfl, RI_skip hr (show PLq f (9 * j + i) = false by rw [ep, hb]; rfl)⟩, rfl⟩
    | true =>
      rw [if_neg (by decide), mo_isWithin_eq hf (by omega) (by omega), bd1_some]
      cases hw : Wn f ((i : Int) - 1) ((j : Int) - 1) with
      | false =>
        rw [if_pos (by decide)]
        exact ⟨_, _, _, ⟨rfl, e, rfl, RI_skip hr (show PLq f (9 * j + i) = false by rw [ep, hb, hw]; rfl)⟩, rfl⟩
      | true =>
        have hp : PLq f (9 * j + i) = true := by rw [ep, hb, hw]; rfl
        obtain ⟨w1, w2, w3, w4⟩ := Wn_c hw
        have hF := wtq_F hf hc hp
        rw [if_neg (by decide), mo_with_eq f (by omega) (by omega), bd1_some, ← ew, mo_ownOf_eq hF.1 hk, bd1_some]
        obtain ⟨e', A', a1, a2⟩ := RI_mk hr hp (by omega)
        rw [a1, bd2_some, mo_laysGrown_J85, nm_eq, iI9]
        exact ⟨_, _, _, ⟨rfl, e', rfl, a2⟩, rfl⟩
  · rintro a b c kk ⟨rfl, e, rfl, hr⟩
    rw [mo_laysGrown_B28, if_pos i9le, nm_eq, iI9]
    exact ⟨e, c, rfl, hr⟩
theorem mo_grown_eq {f : Int64} (hf : FIG f) (hc : cnt f < 12) {k : Nat} (hk : k ≤ 2) (y : Int32) (A : Nat → Int64) : ∃ e' A', mo_laysGrown f (nI k) y A = some (nI e', A') ∧ RI (PLq f) (fun q => own (wtq f q) k) 81 e' A' := by
  rw [mo_laysGrown, mo_bits_eq, bd1_some, if_neg (show ¬ nI (cnt f) = (12 : Int32) from fun e => by have := (nI_eq (a := cnt f) (b := 12) (by omega) (by omega)).mp e; omega)]
  refine ivl3 (B := mo_laysGrown_B18 f (nI k)) (fun j a b c => a = Int32.ofInt ((j : Int) - 1) ∧ ∃ e, b = nI e ∧ RI (PLq f) (fun q => own (wtq f q) k) (9 * j) e c) (fun o => ∃ e' A', o = some (nI e', A') ∧ RI (PLq f) (fun q => own (wtq f q) k) 81 e' A') 9 ?_ ?_ FU 0 _ _ _ (by omega) (FU_lt (by omega)) ⟨rfl, 0, rfl, RI_0 _ _ _⟩
  · rintro j hj a b c kk ⟨rfl, e, rfl, hr⟩
    rw [mo_laysGrown_B18, if_neg (i8le hj)]
    obtain ⟨e', A', a1, a2⟩ := lg_in hf hc hk hj kk e c hr
    exact ⟨_, _, _, ⟨rfl, e', rfl, a2⟩, a1⟩
  · rintro a b c kk ⟨rfl, e, rfl, hr⟩
    rw [mo_laysGrown_B18, if_pos i9le]
    exact ⟨e, c, rfl, hr⟩
theorem mo_grown_12 {f : Int64} (hc : cnt f = 12) (k y : Int32) (A : Nat → Int64) : mo_laysGrown f k y A = some (0, A) := by
  rw [mo_laysGrown, mo_bits_eq, bd1_some, hc, if_pos (show nI 12 = (12 : Int32) from rfl)]
noncomputable def stq (f : Int64) (q : Nat) : Int64 := wth f (((ith (stL f) q % 8 : Nat) : Int) - rxI f) (((ith (stL f) q / 8 : Nat) : Int) - ryI f)
theorem gg_eq {f : Int64} (hf : FIG f) (hc : cnt f < 12) {k : Nat} (hk : k ≤ 2) (A : Nat → Int64) : ∃ e' A', gw_gatherGrown f (nI k) 0 A = some (nI e', A') ∧ RI (fun _ => true) (fun q => own (stq f q) k) (cnt (stL f)) e' A' := by
  have h64 := cnt_le (stL f)
  rw [gw_gatherGrown, jl_bitCount_eq, bd1_some, if_pos (show nI (cnt f) < (12 : Int32) from nI_lt (a := cnt f) (b := 12) hc (by omega)), gr_roomed_eq, bd1_some]
  show ∃ e' A', (bd1 (gr_sites f (rmL f)) fun r_15 => bd1 (jl_bitCount r_15) fun r_17 => fl4 (gw_gatherGrown_B34 (nI k) (rmL f) r_17) FU r_15 0 0 A) = _ ∧ _
  rw [gr_sites_eq, bd1_some, jl_bitCount_eq, bd1_some]
  refine ivl4 (B := gw_gatherGrown_B34 (nI k) (rmL f) (nI (cnt (stL f)))) (fun i a b c d => a = itr (stL f) i ∧ b = nI i ∧ ∃ e, c = nI e ∧ RI (fun _ => true) (fun q => own (stq f q) k) i e d) (fun o => ∃ e' A', o = some (nI e', A') ∧ RI (fun _ => true) (fun q => own (stq f q) k) (cnt (stL f)) e' A') (cnt (stL f)) ?_ ?_ FU 0 _ _ _ _ (by omega) (FU_lt (by omega)) ⟨rfl, rfl, 0, rfl, RI_0 _ _ _⟩
  · rintro i hi a b c d kk ⟨rfl, rfl, e, rfl, hr⟩
    have hs := site_settle hf hc (ith_bt hi)
    obtain ⟨hb, hw⟩ := site_c hf (ith_bt hi)
    have hF := wth_FIG hf hc hb hw
    rw [gw_gatherGrown_B34, if_neg (nI_ge hi (by omega)), nm_eq, nm_eq, xor_low, low_sl (ith_low hi), hs, bd1_some, gr_least_eq hF.1 hk, bd1_some]
    obtain ⟨e', A', a1, a2⟩ := RI_rw hr rfl (by omega)
    have a1' : rw_add (own (wth f (((ith (stL f) i % 8 : Nat) : Int) - rxI f) (((ith (stL f) i / 8 : Nat) : Int) - ryI f)) k) (nI e) d = some (nI e', A') := a1
    rw [a1', bd2_some, nm_eq, o1]
    exact ⟨_, _, _, _, ⟨rfl, rfl, e', rfl, a2⟩, rfl⟩
  · rintro a b c d kk ⟨rfl, rfl, e, rfl, hr⟩
    rw [gw_gatherGrown_B34, if_pos (nI_le (Nat.le_refl _) (by omega))]
    exact ⟨e, d, rfl, hr⟩
theorem grown_same {f : Int64} (hf : FIG f) (k : Nat) (y : Int64) : (∃ q, q < cnt (stL f) ∧ (fun _ : Nat => true) q = true ∧ y = own (stq f q) k) ↔ ∃ q, q < 81 ∧ PLq f q = true ∧ y = own (wtq f q) k := by
  constructor
  · rintro ⟨q, a, _, c⟩
    have hb := ith_bt a
    have h64 := bt_lt hb
    exact ⟨sgm f (ith (stL f) q), sgm_lt f h64, by rw [PLq_sgm hf h64]; exact hb, by rw [wtq_sgm]; exact c⟩
  · rintro ⟨q, a, b, c⟩
    obtain ⟨i, hi, rfl⟩ := PLq_onto hf a b
    obtain ⟨m, m1, m2⟩ := ith_all hi
    refine ⟨m, m1, rfl, ?_⟩
    rw [c, wtq_sgm]
    unfold stq
    rw [m2]
/-! shrunk -/
theorem sub_settle {f b : Int64} (hf : FIG f) (hs : sub b f) (hb : CON b) : ∃ R, gr_settled b = some R ∧ mo_moved b = some R ∧ FIG R ∧ cnt R = cnt b ∧ STL b R := by
  obtain ⟨k, hk⟩ := low_ex hb.1
  obtain ⟨c, hc⟩ := colp_ex hb.1
  have st : STL b (su b (nI (8 * (k / 8) + c))) := ⟨k, c, hk, hc, rfl⟩
  have hF := FIG_STL st hb (Nat.le_trans (cnt_mono hs) hf.2.2.2.1) (fun i j hi hj => by have := hf.1 i (hs i hi); omega) (fun i j hi hj => by have := hf.1 i (hs i hi); omega)
  exact ⟨_, gr_settled_eq hk hc, mo_moved_eq hk hc, hF.1, hF.2, st⟩
noncomputable def stt (b : Int64) : Int64 := (gr_settled b).getD 0
theorem stt_spec {f b : Int64} (hf : FIG f) (hs : sub b f) (hb : CON b) : gr_settled b = some (stt b) ∧ mo_moved b = some (stt b) ∧ FIG (stt b) ∧ cnt (stt b) = cnt b ∧ STL b (stt b) := by
  obtain ⟨R, h1, h2⟩ := sub_settle hf hs hb
  have e : stt b = R := by unfold stt; rw [h1]; rfl
  rw [e]; exact ⟨h1, h2⟩
theorem gs_eq {f : Int64} (hf : FIG f) {k : Nat} (hk : k ≤ 2) (A : Nat → Int64) : ∃ e' A', gw_gatherShrunk f (nI k) 0 A = some (nI e', A') ∧ RI (fun q => conB (wo f q)) (fun q => own (stt (wo f q)) k) (cnt f) e' A' := by
  have h64 := cnt_le f
  rw [gw_gatherShrunk, jl_bitCount_eq, bd1_some]
  refine ivl4 (B := gw_gatherShrunk_B12 f (nI k) (nI (cnt f))) (fun i a b c d => a = itr f i ∧ b = nI i ∧ ∃ e, c = nI e ∧ RI (fun q => conB (wo f q)) (fun q => own (stt (wo f q)) k) i e d) (fun o => ∃ e' A', o = some (nI e', A') ∧ RI (fun q => conB (wo f q)) (fun q => own (stt (wo f q)) k) (cnt f) e' A') (cnt f) ?_ ?_ FU 0 _ _ _ _ (by omega) (FU_lt (by omega)) ⟨rfl, rfl, 0, rfl, RI_0 _ _ _⟩
  · rintro i hi a b c d kk ⟨rfl, rfl, e, rfl, hr⟩
    rw [gw_gatherShrunk_B12, if_neg (nI_ge hi (by omega)), nm_eq, nm_eq, xor_low]
    show ∃ a' b' c' d', _ ∧ (bd1 (gr_hangs (wo f i)) fun r_4 => if r_4 = 0 then (gw_gatherShrunk_J59 kk f (nI k) (clr (itr f i)) (nI (cnt f)) (nI i) (nI e) d) else bd1 (gr_settled (wo f i)) fun r_6 => bd1 (gr_least r_6 (nI k)) fun r_8 => bd2 (rw_add r_8 (nI e) d) fun x_rsize_10 a_items_11 => gw_gatherShrunk_J59 kk f (nI k) (clr (itr f i)) (nI (cnt f)) (nI i) x_rsize_10 a_items_11) = _
    rw [gr_hangs_b (hf.1.c7.sub (wo_sub hi)), bd1_some, gw_gatherShrunk_J59, nm_eq, o1]
    cases hcn : conB (wo f i) with
    | false =>
      rw [if_pos (by decide)]
      exact ⟨_, _, _, _, ⟨rfl, rfl, e, rfl, RI_skip hr hcn⟩, rfl⟩
    | true =>
      have sp := stt_spec hf (wo_sub hi) (conB_t.mp hcn)
      obtain ⟨e', A', a1, a2⟩ := RI_rw hr hcn (by omega)
      have a1' : rw_add (own (stt (wo f i)) k) (nI e) d = some (nI e', A') := a1
      rw [if_neg (by decide), sp.1, bd1_some, gr_least_eq sp.2.2.1 hk, bd1_some, a1', bd2_some, gw_gatherShrunk_J59, nm_eq, o1]
      exact ⟨_, _, _, _, ⟨rfl, rfl, e', rfl, a2⟩, rfl⟩
  · rintro a b c d kk ⟨rfl, rfl, e, rfl, hr⟩
    rw [gw_gatherShrunk_B12, if_pos (nI_le (Nat.le_refl _) (by omega))]
    exact ⟨e, d, rfl, hr⟩
theorem mo_shrunk_eq {f : Int64} (hf : FIG f) {k : Nat} (hk : k ≤ 2) (y : Int32) (A : Nat → Int64) : ∃ e' A', mo_laysShrunk f (nI k) y A = some (nI e', A') ∧ RI (fun q => conB (wo f q)) (fun q => own (stt (wo f q)) k) (cnt f) e' A' := by
  have h64 := cnt_le f
  rw [mo_laysShrunk]
  refine ivl3 (B := mo_laysShrunk_B8 f (nI k)) (fun i a b c => a = itr f i ∧ ∃ e, b = nI e ∧ RI (fun q => conB (wo f q)) (fun q => own (stt (wo f q)) k) i e c) (fun o => ∃ e' A', o = some (nI e', A') ∧ RI (fun q => conB (wo f q)) (fun q => own (stt (wo f q)) k) (cnt f) e' A') (cnt f) ?_ ?_ FU 0 _ _ _ (by omega) (FU_lt (by omega)) ⟨rfl, 0, rfl, RI_0 _ _ _⟩
  · rintro i hi a b c kk ⟨rfl, e, rfl, hr⟩
    rw [mo_laysShrunk_B8, if_neg (itr_ne hi), nm_eq, wo_and hi, mo_laysShrunk_J69, nm_eq]
    cases hcn : conB (wo f i) with
    | false =>
      have fin : ∃ a' b' c', (a' = itr f (i + 1) ∧ ∃ e, b' = nI e ∧ RI (fun q => conB (wo f q)) (fun q => own (stt (wo f q)) k) (i + 1) e c') ∧ kk (itr f i &&& (itr f i - 1)) (nI e) c = kk a' b' c' := ⟨_, _, _, ⟨rfl, e, rfl, RI_skip hr hcn⟩, rfl⟩
      by_cases q : wo f i = 0
      · rw [if_pos q]; exact fin
      · rw [if_neg q, mo_hangs_b, bd1_some, hcn, if_pos (by decide)]; exact fin
    | true =>
      have sp := stt_spec hf (wo_sub hi) (conB_t.mp hcn)
      obtain ⟨e', A', a1, a2⟩ := RI_mk hr hcn (by omega)
      have a1' : mo_comesIn_mkin 0 (nI e) (own (stt (wo f i)) k) c = some (nI e', A') := a1
      rw [if_neg (conB_t.mp hcn).1, mo_hangs_b, bd1_some, hcn, if_neg (by decide), sp.2.1, bd1_some, mo_ownOf_eq sp.2.2.1 hk, bd1_some, a1', bd2_some, mo_laysShrunk_J69, nm_eq]
      exact ⟨_, _, _, ⟨rfl, e', rfl, a2⟩, rfl⟩
  · rintro a b c kk ⟨rfl, e, rfl, hr⟩
    rw [mo_laysShrunk_B8, itr_end, if_pos rfl]
    exact ⟨e, c, rfl, hr⟩
theorem RI_len {p : Nat → Bool} {F : Nat → Int64} {n e : Nat} {A : Nat → Int64} (h : RI p F n e A) : e ≤ n := h.2.1
/-- both rows: class and reference -/
theorem kin_ok {f : Int64} (hf : FIG f) {k : Nat} (hk : k ≤ 2) (m : Int32) (y rs : Int32) (A B : Nat → Int64) : ∃ e A' B', e ≤ 64 ∧ gw_gather f (nI k) m rs A = some (nI e, A') ∧ (if m = 0 then mo_laysShrunk f (nI k) y B else mo_laysGrown f (nI k) y B) = some (nI e, B') ∧ ∀ i, i < e → A' i = B' i := by
  have h64 := cnt_le f
  have s64 := cnt_le (stL f)
  by_cases qm : m = 0
  · obtain ⟨e, A', a1, a2⟩ := gs_eq hf hk A
    obtain ⟨e2, B', b1, b2⟩ := mo_shrunk_eq hf hk y B
    obtain ⟨z1, z2⟩ := RI_same a2 b2 (fun y => Iff.rfl)
    subst z1
    refine ⟨e, A', B', by have := a2.2.1; omega, ?_, ?_, z2⟩
    · rw [gw_gather, rw_clear, bd1_some, if_pos qm, a1, bd2_some]
    · rw [if_pos qm]; exact b1
  · by_cases hc : cnt f < 12
    · obtain ⟨e, A', a1, a2⟩ := gg_eq hf hc hk A
      obtain ⟨e2, B', b1, b2⟩ := mo_grown_eq hf hc hk y B
      obtain ⟨z1, z2⟩ := RI_same a2 b2 (grown_same hf k)
      subst z1
      refine ⟨e, A', B', by have := a2.2.1; omega, ?_, ?_, z2⟩
      · rw [gw_gather, rw_clear, bd1_some, if_neg qm, a1, bd2_some]
      · rw [if_neg qm]; exact b1
    · have e12 : cnt f = 12 := by have := hf.2.2.2.1; omega
      refine ⟨0, A, B, by omega, ?_, ?_, fun i h => by omega⟩
      · rw [gw_gather, rw_clear, bd1_some, if_neg qm, gw_gatherGrown, jl_bitCount_eq, bd1_some, e12, if_neg (show ¬ nI 12 < (12 : Int32) from by decide), bd2_some]; rfl
      · rw [if_neg qm, mo_grown_12 e12]; rfl
theorem opc_kin (v w m : Int32) {g h : Nat → Int64} (hd : DR g h) (rs : Int32) (A : Nat → Int64) (y : Int32) (B : Nat → Int64) : ∃ r rs' A' y' B', cf_kin v w m g rs A = some (r, rs', A') ∧ mo_kin v w m y h B = some (r, y', B') := by
  cases hv : inr v 0 7 with
  | false =>
    simp only [cf_kin, mo_kin, cf_isDrawer_eq, mo_isDrawer_eq, hv, bd1_some, bf0, if_true]
    exact ⟨-1, _, _, _, _, rfl, rfl⟩
  | true =>
    cases hw : inr w 0 2 with
    | false =>
      simp only [cf_kin, mo_kin, cf_isDrawer_eq, mo_isDrawer_eq, cf_isKind_eq, mo_isKind_eq, hv, hw, bd1_some, bf0, bt0, if_true, if_false]
      exact ⟨-1, _, _, _, _, rfl, rfl⟩
    | true =>
      obtain ⟨j, hj, rfl⟩ := inr_dr hv
      obtain ⟨k, hk, rfl⟩ := inr_2 hw
      have e := (hd j hj).1
      simp only [cf_kin, mo_kin, cf_isDrawer_eq, mo_isDrawer_eq, cf_isKind_eq, mo_isKind_eq, hv, hw, bd1_some, bt0, if_false, ck_n hj (show 8 < 2 ^ 31 by omega), cl_n (show j < 2 ^ 31 by omega), e]
      by_cases h0 : h j = 0
      · rw [if_pos h0, if_pos h0]; exact ⟨-2, _, _, _, _, rfl, rfl⟩
      · rw [if_neg h0, if_neg h0]
        obtain ⟨en, A', B', _, h1, h2, _⟩ := kin_ok (DRf hd hj h0) hk m y rs A B
        rw [h1, bd2_some, rw_size, bd1_some]
        by_cases qm : m = 0
        · rw [if_pos qm] at h2 ⊢
          rw [h2, bd2_some]
          exact ⟨_, _, _, _, _, rfl, rfl⟩
        · rw [if_neg qm] at h2 ⊢
          rw [h2, bd2_some]
          exact ⟨_, _, _, _, _, rfl, rfl⟩
theorem opc_kinAt (v w m x : Int32) {g h : Nat → Int64} (hd : DR g h) (rs : Int32) (A : Nat → Int64) (y : Int32) (B : Nat → Int64) : ∃ r rs' A' y' B', cf_kinAt v w m x g rs A = some (r, rs', A') ∧ mo_kinAt v w m x y h B = some (r, y', B') := by
  cases hv : inr v 0 7 with
  | false =>
    simp only [cf_kinAt, mo_kinAt, cf_isDrawer_eq, mo_isDrawer_eq, hv, bd1_some, bf0, if_true]
    exact ⟨-1, _, _, _, _, rfl, rfl⟩
  | true =>
    cases hw : inr w 0 2 with
    | false =>
      simp only [cf_kinAt, mo_kinAt, cf_isDrawer_eq, mo_isDrawer_eq, cf_isKind_eq, mo_isKind_eq, hv, hw, bd1_some, bf0, bt0, if_true, if_false]
      exact ⟨-1, _, _, _, _, rfl, rfl⟩
    | true =>
      by_cases qx : 0 ≤ x
      · obtain ⟨j, hj, rfl⟩ := inr_dr hv
        obtain ⟨k, hk, rfl⟩ := inr_2 hw
        have e := (hd j hj).1
        simp only [cf_kinAt, mo_kinAt, cf_isDrawer_eq, mo_isDrawer_eq, cf_isKind_eq, mo_isKind_eq, hv, hw, bd1_some, bt0, if_false, ck_n hj (show 8 < 2 ^ 31 by omega), cl_n (show j < 2 ^ 31 by omega), e]
        rw [if_pos qx, if_pos qx]
        by_cases h0 : h j = 0
        · rw [if_pos h0, if_pos h0]; exact ⟨-2, _, _, _, _, rfl, rfl⟩
        · rw [if_neg h0, if_neg h0]
          obtain ⟨en, A', B', he, h1, h2, h3⟩ := kin_ok (DRf hd hj h0) hk m y rs A B
          obtain ⟨xn, hxn, rfl⟩ := nI_of (i32_nlt.mpr qx)
          rw [h1, bd2_some, rw_size, bd1_some]
          have key : ∃ r, (if nI en ≤ nI xn then some (((-3) : Int64), nI en, A') else bd1 (rw_at (nI xn) (nI en) A') fun r_10 => some (r_10, nI en, A')) = some (r, nI en, A') ∧ mo_kinAt_J67 h (nI xn) (nI en) B' = some (r, nI en, B') := by
            rw [mo_kinAt_J67]
            by_cases q : nI en ≤ nI xn
            · rw [if_pos q, if_pos q]; exact ⟨_, rfl, rfl⟩
            · have q2 : xn < en := by
                rw [nI_leI (by omega) hxn] at q; omega
              rw [if_neg q, if_neg q, rw_at_eq q2 he, bd1_some, ck_n (show xn < 400 by omega) (by omega), cl_n hxn, h3 xn q2]
              exact ⟨_, rfl, rfl⟩
          obtain ⟨r, k1, k2⟩ := key
          rw [k1]
          by_cases qm : m = 0
          · rw [if_pos qm] at h2 ⊢
            rw [h2, bd2_some, k2]
            exact ⟨_, _, _, _, _, rfl, rfl⟩
          · rw [if_neg qm] at h2 ⊢
            rw [h2, bd2_some, k2]
            exact ⟨_, _, _, _, _, rfl, rfl⟩
      · simp only [cf_kinAt, mo_kinAt, cf_isDrawer_eq, mo_isDrawer_eq, cf_isKind_eq, mo_isKind_eq, hv, hw, bd1_some, bt0, if_false]
        rw [if_neg qx, if_neg qx]
        exact ⟨-1, _, _, _, _, rfl, rfl⟩
