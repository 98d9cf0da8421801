/-! LAYER 2: loops by their course; turned, number, turn, alike -/
theorem crs1 {α ρ : Type} {B : (α → Option ρ) → α → Option ρ} {r : Option ρ} (s : Nat → α) (N : Nat) (hs : ∀ i, i < N → ∀ k, B k (s i) = k (s (i + 1))) (he : ∀ k, B k (s N) = r) (n : Nat) (hn : N < n) : fl1 B n (s 0) = r := by
  have key : ∀ (n i : Nat), i ≤ N → N - i < n → fl1 B n (s i) = r := by
    intro n
    induction n with
    | zero => intro i _ h; omega
    | succ n ih =>
      intro i hi hn
      show B (fl1 B n) (s i) = r
      rcases Nat.eq_or_lt_of_le hi with q | q
      · rw [q]; exact he _
      · rw [hs i q]; exact ih (i + 1) (by omega) (by omega)
  exact key n 0 (Nat.zero_le _) hn
theorem crs2 {α β ρ : Type} {B : (α → β → Option ρ) → α → β → Option ρ} {r : Option ρ} (s : Nat → α) (t : Nat → β) (N : Nat) (hs : ∀ i, i < N → ∀ k, B k (s i) (t i) = k (s (i + 1)) (t (i + 1))) (he : ∀ k, B k (s N) (t N) = r) (n : Nat) (hn : N < n) : fl2 B n (s 0) (t 0) = r := by
  have key : ∀ (n i : Nat), i ≤ N → N - i < n → fl2 B n (s i) (t i) = r := by
    intro n
    induction n with
    | zero => intro i _ h; omega
    | succ n ih =>
      intro i hi hn
      show B (fl2 B n) (s i) (t i) = r
      rcases Nat.eq_or_lt_of_le hi with q | q
      · rw [q]; exact he _
      · rw [hs i q]; exact ih (i + 1) (by omega) (by omega)
  exact key n 0 (Nat.zero_le _) hn
theorem crs3 {α β γ ρ : Type} {B : (α → β → γ → Option ρ) → α → β → γ → Option ρ} {r : Option ρ} (s : Nat → α) (t : Nat → β) (u : Nat → γ) (N : Nat) (hs : ∀ i, i < N → ∀ k, B k (s i) (t i) (u i) = k (s (i + 1)) (t (i + 1)) (u (i + 1))) (he : ∀ k, B k (s N) (t N) (u N) = r) (n : Nat) (hn : N < n) : fl3 B n (s 0) (t 0) (u 0) = r := by
  have key : ∀ (n i : Nat), i ≤ N → N - i < n → fl3 B n (s i) (t i) (u i) = r := by
    intro n
    induction n with
    | zero => intro i _ h; omega
    | succ n ih =>
      intro i hi hn
      show B (fl3 B n) (s i) (t i) (u i) = r
      rcases Nat.eq_or_lt_of_le hi with q | q
      · rw [q]; exact he _
      · rw [hs i q]; exact ih (i + 1) (by omega) (by omega)
  exact key n 0 (Nat.zero_le _) hn
theorem crs4 {α β γ δ ρ : Type} {B : (α → β → γ → δ → Option ρ) → α → β → γ → δ → Option ρ} {r : Option ρ} (s : Nat → α) (t : Nat → β) (u : Nat → γ) (w : Nat → δ) (N : Nat) (hs : ∀ i, i < N → ∀ k, B k (s i) (t i) (u i) (w i) = k (s (i + 1)) (t (i + 1)) (u (i + 1)) (w (i + 1))) (he : ∀ k, B k (s N) (t N) (u N) (w N) = r) (n : Nat) (hn : N < n) : fl4 B n (s 0) (t 0) (u 0) (w 0) = r := by
  have key : ∀ (n i : Nat), i ≤ N → N - i < n → fl4 B n (s i) (t i) (u i) (w i) = r := by
    intro n
    induction n with
    | zero => intro i _ h; omega
    | succ n ih =>
      intro i hi hn
      show B (fl4 B n) (s i) (t i) (u i) (w i) = r
      rcases Nat.eq_or_lt_of_le hi with q | q
      · rw [q]; exact he _
      · rw [hs i q]; exact ih (i + 1) (by omega) (by omega)
  exact key n 0 (Nat.zero_le _) hn
theorem o1 (i : Nat) : nI i + Int32.ofInt 1 = nI (i + 1) := by rw [show Int32.ofInt 1 = nI 1 by decide, nI_add]
theorem dzI_n {β : Type} {y : Int32} (h : ¬ y = 0) (k : Option β) : dzI y k = k := by unfold dzI; rw [if_neg h]
theorem and3 : ∀ t : Fin 8, nI t.val &&& 3 = nI (t.val % 4) := by decide +kernel
theorem rem4 : ∀ t : Fin 8, remI (nI t.val) 4 = nI (t.val % 4) := by decide +kernel
theorem T0_s {f : Int64} {i : Nat} (h : i < 3) : qf (T0 f i) = T0 f (i + 1) := by
  rcases (show i = 0 ∨ i = 1 ∨ i = 2 by omega) with rfl | rfl | rfl <;> rfl
theorem gr_tJ {g : Int64} (hg : FIG g) {t : Nat} (ht : t < 8) : gr_turned_J13 (nI t) g = some (T0 g (t % 4)) := by
  unfold gr_turned_J13
  rw [show (0 : Int32) = nI 0 from nI_0.symm]
  refine crs2 (B := gr_turned_B17 (nI t)) (T0 g) nI (t % 4) (fun i hi k => ?_) (fun k => ?_) FU (FU_lt (by omega))
  · rw [gr_turned_B17, and3 ⟨t, ht⟩, if_neg (nI_ge hi (by omega)), (qf_spec (T0_F hg i)).1, bd1_some, nm_eq, o1, T0_s (by omega)]
  · rw [gr_turned_B17, and3 ⟨t, ht⟩, if_pos (nI_le (Nat.le_refl _) (by omega))]
theorem mo_tJ {g : Int64} (hg : FIG g) {t : Nat} (ht : t < 8) : mo_turned_J13 (nI t) g = some (T0 g (t % 4)) := by
  unfold mo_turned_J13
  rw [show (0 : Int32) = nI 0 from nI_0.symm]
  refine crs2 (B := mo_turned_B17 (nI t)) (T0 g) nI (t % 4) (fun i hi k => ?_) (fun k => ?_) FU (FU_lt (by omega))
  · rw [mo_turned_B17, dzI_n (by decide), rem4 ⟨t, ht⟩, if_neg (nI_ge hi (by omega)), (qf_spec (T0_F hg i)).2.1, bd1_some, nm_eq, o1, T0_s (by omega)]
  · rw [mo_turned_B17, dzI_n (by decide), rem4 ⟨t, ht⟩, if_pos (nI_le (Nat.le_refl _) (by omega))]
theorem gr_turned_eq {f : Int64} (hf : FIG f) {t : Nat} (ht : t < 8) : gr_turned f (nI t) = some (tnd f t) := by
  unfold gr_turned tnd
  by_cases h : t < 4
  · rw [if_pos (show nI t < (4 : Int32) from nI_lt (a := t) (b := 4) h (by omega)), gr_tJ hf ht, if_pos h, Nat.mod_eq_of_lt h]
  · rw [if_neg (show ¬ nI t < (4 : Int32) from nI_nlt (a := t) (b := 4) (by omega) (by omega)), (mf_spec hf).1, bd1_some, gr_tJ (mf_F hf) ht, if_neg h, show t % 4 = t - 4 by omega]
theorem mo_turned_eq {f : Int64} (hf : FIG f) {t : Nat} (ht : t < 8) : mo_turned f (nI t) = some (tnd f t) := by
  unfold mo_turned tnd
  by_cases h : t < 4
  · rw [if_pos (show nI t ≤ (3 : Int32) from nI_le (a := t) (b := 3) (by omega) (by omega)), mo_tJ hf ht, if_pos h, Nat.mod_eq_of_lt h]
  · rw [if_neg (show ¬ nI t ≤ (3 : Int32) from nI_ge (a := 3) (b := t) (by omega) (by omega)), (mf_spec hf).2.1, bd1_some, mo_tJ (mf_F hf) ht, if_neg h, show t % 4 = t - 4 by omega]
theorem DRf {g h : Nat → Int64} (hd : DR g h) {j : Nat} (hj : j < 8) (h0 : ¬ h j = 0) : FIG (h j) := by
  have := hd j hj
  rw [this.1] at this
  rcases this.2 with q | q
  · exact absurd q h0
  · exact q
theorem inr_2 {v : Int32} (h : inr v 0 2 = true) : ∃ k, k ≤ 2 ∧ v = nI k := inr_nI (n := 2) (by omega) h
theorem opc_number (v w : Int32) {g h : Nat → Int64} (hd : DR g h) : ∃ r, cf_number v w g = some r ∧ mo_number v w h = some r := by
  cases hv : inr v 0 7 with
  | false =>
    simp only [cf_number, mo_number, cf_isDrawer_eq, mo_isDrawer_eq, hv, bd1_some, bf0, if_true]
    exact ⟨-1, rfl, rfl⟩
  | true =>
    cases hw : inr w 0 2 with
    | false =>
      simp only [cf_number, mo_number, cf_isDrawer_eq, mo_isDrawer_eq, cf_isKind_eq, mo_isKind_eq, hv, hw, bd1_some, bf0, bt0, if_true, if_false]
      exact ⟨-1, rfl, rfl⟩
    | true =>
      obtain ⟨j, hj, rfl⟩ := inr_dr hv
      obtain ⟨k, hk, rfl⟩ := inr_2 hw
      have e := (hd j hj).1
      simp only [cf_number, mo_number, cf_isDrawer_eq, mo_isDrawer_eq, cf_isKind_eq, mo_isKind_eq, hv, hw, bd1_some, bt0, if_false, ck_n hj (show 8 < 2 ^ 31 by omega), cl_n (show j < 2 ^ 31 by omega), e]
      by_cases h0 : h j = 0
      · rw [if_pos h0, if_pos h0]; exact ⟨-2, rfl, rfl⟩
      · rw [if_neg h0, if_neg h0, gr_least_eq (DRf hd hj h0) hk, mo_ownOf_eq (DRf hd hj h0) hk]
        exact ⟨_, rfl, rfl⟩
theorem opc_turn (v w : Int32) {g h : Nat → Int64} (hd : DR g h) : ∃ r g' h', cf_turn v w g = some (r, g') ∧ mo_turn v w h = some (r, h') ∧ DR g' h' := by
  cases hv : inr v 0 7 with
  | false =>
    simp only [cf_turn, mo_turn, cf_isDrawer_eq, mo_isDrawer_eq, hv, bd1_some, bf0, if_true]
    exact ⟨-1, g, h, rfl, rfl, hd⟩
  | true =>
    cases hw : inr w 0 7 with
    | false =>
      simp only [cf_turn, mo_turn, cf_isDrawer_eq, mo_isDrawer_eq, cf_within_eq, mo_in_eq, hv, hw, bd1_some, bf0, bt0, if_true, if_false]
      exact ⟨-1, g, h, rfl, rfl, hd⟩
    | true =>
      obtain ⟨j, hj, rfl⟩ := inr_dr hv
      obtain ⟨k, hk, rfl⟩ := inr_dr hw
      have e := (hd j hj).1
      simp only [cf_turn, mo_turn, cf_isDrawer_eq, mo_isDrawer_eq, cf_within_eq, mo_in_eq, hv, hw, bd1_some, bt0, if_false, ck_n hj (show 8 < 2 ^ 31 by omega), cl_n (show j < 2 ^ 31 by omega), e]
      by_cases h0 : h j = 0
      · rw [if_pos h0, if_pos h0]; exact ⟨-2, g, h, rfl, rfl, hd⟩
      · rw [if_neg h0, if_neg h0, gr_turned_eq (DRf hd hj h0) hk, mo_turned_eq (DRf hd hj h0) hk]
        simp only [bd1_some, nm_eq, upL, if_true]
        exact ⟨_, _, _, rfl, rfl, DR_set hd (Or.inr (tnd_F (DRf hd hj h0) k))⟩
theorem opc_alike (v u w : Int32) {g h : Nat → Int64} (hd : DR g h) : ∃ r, cf_alike v u w g = some r ∧ mo_alike v u w h = some r := by
  cases hv : inr v 0 7 with
  | false =>
    simp only [cf_alike, mo_alike, cf_isDrawer_eq, mo_isDrawer_eq, hv, bd1_some, bf0, if_true]
    exact ⟨-1, rfl, rfl⟩
  | true =>
    cases hu : inr u 0 7 with
    | false =>
      simp only [cf_alike, mo_alike, cf_isDrawer_eq, mo_isDrawer_eq, hv, hu, bd1_some, bf0, bt0, if_true, if_false]
      exact ⟨-1, rfl, rfl⟩
    | true =>
      cases hw : inr w 0 2 with
      | false =>
        simp only [cf_alike, mo_alike, cf_isDrawer_eq, mo_isDrawer_eq, cf_isKind_eq, mo_isKind_eq, hv, hu, hw, bd1_some, bf0, bt0, if_true, if_false]
        exact ⟨-1, rfl, rfl⟩
      | true =>
        obtain ⟨j, hj, rfl⟩ := inr_dr hv
        obtain ⟨i, hi, rfl⟩ := inr_dr hu
        obtain ⟨k, hk, rfl⟩ := inr_2 hw
        have e := (hd j hj).1
        have e2 := (hd i hi).1
        simp only [cf_alike, mo_alike, cf_isDrawer_eq, mo_isDrawer_eq, cf_isKind_eq, mo_isKind_eq, hv, hu, hw, bd1_some, bt0, if_false, ck_n hj (show 8 < 2 ^ 31 by omega), cl_n (show j < 2 ^ 31 by omega), ck_n hi (show 8 < 2 ^ 31 by omega), cl_n (show i < 2 ^ 31 by omega), e, e2]
        by_cases h0 : h j = 0
        · rw [if_pos h0, if_pos h0]; exact ⟨-2, rfl, rfl⟩
        · rw [if_neg h0, if_neg h0]
          by_cases h1 : h i = 0
          · rw [if_pos h1, if_pos h1]; exact ⟨-2, rfl, rfl⟩
          · rw [if_neg h1, if_neg h1, gr_least_eq (DRf hd hj h0) hk, mo_ownOf_eq (DRf hd hj h0) hk, gr_least_eq (DRf hd hi h1) hk, mo_ownOf_eq (DRf hd hi h1) hk]
            simp only [bd1_some]
            by_cases c : own (h j) k = own (h i) k
            · rw [if_pos c]; exact ⟨1, rfl, rfl⟩
            · rw [if_neg c]; exact ⟨0, rfl, rfl⟩
