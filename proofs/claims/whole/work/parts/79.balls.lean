/-! balls of steps -/
def Ba (n k0 : Nat) : Nat → Nat → Prop
  | 0, j => j = k0
  | t + 1, j => Ba n k0 t j ∨ ∃ i, Ba n k0 t i ∧ STP n i j
def Dst (n k0 t j : Nat) : Prop := Ba n k0 t j ∧ ∀ u, u < t → ¬ Ba n k0 u j
theorem Ba_mono {n k0 j : Nat} {s t : Nat} (h : s ≤ t) (hb : Ba n k0 s j) : Ba n k0 t j := by
  induction t with
  | zero => rw [show s = 0 by omega] at hb; exact hb
  | succ t ih =>
    by_cases q : s = t + 1
    · rw [q] at hb; exact hb
    · exact Or.inl (ih (by omega))
theorem Ba_lt {n k0 : Nat} (hn : 1 ≤ n ∧ n ≤ 6) (hk : k0 < nF n) : ∀ t j, Ba n k0 t j → j < nF n
  | 0, j, h => by rw [show j = k0 from h]; exact hk
  | t + 1, j, h => by
    rcases h with h | ⟨i, h1, h2⟩
    · exact Ba_lt hn hk t j h
    · exact STP_lt hn (Ba_lt hn hk t i h1) h2
theorem Dst_ex {n k0 j : Nat} : ∀ t, Ba n k0 t j → ∃ u, u ≤ t ∧ Dst n k0 u j
  | 0, h => ⟨0, Nat.le_refl _, h, fun u hu => by omega⟩
  | t + 1, h => by
    by_cases q : Ba n k0 t j
    · obtain ⟨u, u1, u2⟩ := Dst_ex t q
      exact ⟨u, by omega, u2⟩
    · exact ⟨t + 1, Nat.le_refl _, h, fun u hu hb => q (Ba_mono (by omega) hb)⟩
theorem Dst_one {n k0 j s t : Nat} (h1 : Dst n k0 s j) (h2 : Dst n k0 t j) : s = t := by
  rcases Nat.lt_trichotomy s t with q | q | q
  · exact absurd h1.1 (h2.2 s q)
  · exact q
  · exact absurd h2.1 (h1.2 t q)
theorem Dst_s {n k0 t j : Nat} : Dst n k0 (t + 1) j ↔ (∃ i, Dst n k0 t i ∧ STP n i j) ∧ ¬ Ba n k0 t j := by
  constructor
  · rintro ⟨h1, h2⟩
    have nb := h2 t (by omega)
    refine ⟨?_, nb⟩
    rcases h1 with h | ⟨i, a, b⟩
    · exact absurd h nb
    · refine ⟨i, ⟨a, fun u hu hb => nb ?_⟩, b⟩
      exact Ba_mono (s := u + 1) (by omega) (Or.inr ⟨i, hb, b⟩)
  · rintro ⟨⟨i, a, b⟩, c⟩
    exact ⟨Or.inr ⟨i, a.1, b⟩, fun u hu hb => c (Ba_mono (by omega) hb)⟩
theorem Ba_s {n k0 t j : Nat} : Ba n k0 (t + 1) j ↔ Ba n k0 t j ∨ Dst n k0 (t + 1) j := by
  constructor
  · intro h
    by_cases q : Ba n k0 t j
    · exact Or.inl q
    · exact Or.inr ⟨h, fun u hu hb => q (Ba_mono (by omega) hb)⟩
  · rintro (h | h)
    · exact Or.inl h
    · exact h.1
theorem Dst_down {n k0 : Nat} : ∀ t, (∃ j, Dst n k0 (t + 1) j) → ∃ j, Dst n k0 t j := by
  rintro t ⟨j, h⟩
  obtain ⟨⟨i, a, _⟩, _⟩ := Dst_s.mp h
  exact ⟨i, a⟩
theorem Dst_downs {n k0 : Nat} : ∀ t s, s ≤ t → (∃ j, Dst n k0 t j) → ∃ j, Dst n k0 s j
  | 0, s, h, e => by rw [show s = 0 by omega]; exact e
  | t + 1, s, h, e => by
    by_cases q : s = t + 1
    · rw [q]; exact e
    · exact Dst_downs t s (by omega) (Dst_down t e)
noncomputable def baB (n k0 t j : Nat) : Bool := @decide (Ba n k0 t j) (Classical.propDecidable _)
noncomputable def dsB (n k0 t j : Nat) : Bool := @decide (Dst n k0 t j) (Classical.propDecidable _)
theorem baB_t {n k0 t j : Nat} : baB n k0 t j = true ↔ Ba n k0 t j := by unfold baB; exact @decide_eq_true_iff _ (Classical.propDecidable _)
theorem dsB_t {n k0 t j : Nat} : dsB n k0 t j = true ↔ Dst n k0 t j := by unfold dsB; exact @decide_eq_true_iff _ (Classical.propDecidable _)
theorem ct_lt {p q : Nat → Bool} {n j : Nat} (hj : j < n) (h : ∀ k, k < n → p k = true → q k = true) (h1 : p j = false) (h2 : q j = true) : fb_ct p n < fb_ct q n := by
  have e := fb_ct_upd p true hj
  rw [h1, if_pos rfl, if_neg (by decide)] at e
  have l : fb_ct (fun k => if k = j then true else p k) n ≤ fb_ct q n := fb_ct_sub (fun k hk hp => by
    by_cases c : k = j
    · rw [c]; exact h2
    · rw [if_neg c] at hp; exact h k hk hp)
  omega
theorem Ba_many {n k0 : Nat} (hn : 1 ≤ n ∧ n ≤ 6) (hk : k0 < nF n) : ∀ t, (∃ j, Dst n k0 t j) → t + 1 ≤ fb_ct (baB n k0 t) 35
  | 0, _ => fb_ct_pos.mpr ⟨k0, by have := nF_b hn.2; omega, baB_t.mpr rfl⟩
  | t + 1, ⟨j, h⟩ => by
    have ih := Ba_many hn hk t (Dst_down t ⟨j, h⟩)
    have k35 := nF_b hn.2
    have jl := Ba_lt hn hk _ j h.1
    have := ct_lt (p := baB n k0 t) (q := baB n k0 (t + 1)) (n := 35) (j := j) (by omega) (fun k _ hb => baB_t.mpr (Ba_mono (by omega) (baB_t.mp hb))) (by
      cases q : baB n k0 t j with
      | false => rfl
      | true => exact absurd (baB_t.mp q) (h.2 t (by omega))) (baB_t.mpr h.1)
    omega
theorem Dst_34 {n k0 t : Nat} (hn : 1 ≤ n ∧ n ≤ 6) (hk : k0 < nF n) (h : ∃ j, Dst n k0 t j) : t ≤ 34 := by
  have a := Ba_many hn hk t h
  have b := fb_ct_le (baB n k0 t) 35
  omega
/-- the last ball that grew -/
theorem Dst_last {n k0 : Nat} (hn : 1 ≤ n ∧ n ≤ 6) (hk : k0 < nF n) : ∃ T, T ≤ 34 ∧ (∃ j, Dst n k0 T j) ∧ (∀ t, t ≤ T → ∃ j, Dst n k0 t j) ∧ (∀ t j, T < t → ¬ Dst n k0 t j) ∧ ∀ t j, Dst n k0 t j → t ≤ T := by
  have e : ∃ t, t < 36 ∧ ¬ ∃ j, Dst n k0 (t + 1) j := ⟨35, by omega, fun h => by have := Dst_34 hn hk h; omega⟩
  have dp : DecidablePred (fun t => ¬ ∃ j, Dst n k0 (t + 1) j) := fun t => Classical.propDecidable _
  obtain ⟨T, t1, t2, t3⟩ := @fb_first (fun t => ¬ ∃ j, Dst n k0 (t + 1) j) dp 36 e
  have ex : ∀ t, t ≤ T → ∃ j, Dst n k0 t j := fun t ht => by
    by_cases q : t = 0
    · rw [q]; exact ⟨k0, rfl, fun u hu => by omega⟩
    · have := t3 (t - 1) (by omega)
      rw [show t - 1 + 1 = t by omega] at this
      exact Classical.not_not.mp this
  have no : ∀ t j, T < t → ¬ Dst n k0 t j := fun t j ht h => t2 (Dst_downs t (T + 1) (by omega) ⟨j, h⟩)
  refine ⟨T, Dst_34 hn hk (ex T (Nat.le_refl _)), ex T (Nat.le_refl _), ex, no, fun t j h => ?_⟩
  rcases Nat.lt_or_ge T t with q | q
  · exact absurd h (no t j q)
  · exact q
/-! the class: beyond, steps, edge -/
theorem beyond_eq {n : Nat} (hn : 1 ≤ n ∧ n ≤ 6) {ne : Nat → Int64} (h : WYn n ne) {S : Int64} (hS : ∀ k, bt S k = true → k < nF n) : ∃ W, wy_beyond (nI n) S ne = some W ∧ ∀ j, bt W j = true ↔ ∃ k, bt S k = true ∧ STP n k j := by
  have k35 := nF_b hn.2
  rw [wy_beyond]
  refine ivl2 (B := wy_beyond_B6 (nI n) S ne) (fun t a b => b = nI t ∧ ∀ j, bt a j = true ↔ ∃ k, k < t ∧ bt S k = true ∧ STP n k j) (fun o => ∃ W, o = some W ∧ ∀ j, bt W j = true ↔ ∃ k, bt S k = true ∧ STP n k j) 35 ?_ ?_ FU 0 _ _ (by omega) (FU_lt (by omega)) ⟨rfl, fun j => ?_⟩
  · rintro t ht a b kq ⟨rfl, ha⟩
    have ti : (nI n * 35 + nI t : Int32) = nI (35 * n + t) := by
      rw [show (35 : Int32) = nI 35 from rfl, pk_mul, nI_add, Nat.mul_comm]
    rw [wy_beyond_B6, if_neg (show ¬ (35 : Int32) ≤ nI t from nI_ge (a := t) (b := 35) ht (by omega)), nm_eq, ti, wy_beyond_J55, nm_eq, o1]
    cases hb : bt S t with
    | false =>
      rw [if_pos ((su_bit S (show t < 64 by omega)).mpr hb)]
      refine ⟨_, _, ⟨rfl, fun j => ?_⟩, rfl⟩
      rw [ha j]
      constructor
      · rintro ⟨k, h1, h2⟩; exact ⟨k, by omega, h2⟩
      · rintro ⟨k, h1, h2⟩
        by_cases q : k = t
        · rw [q, hb] at h2; simp at h2
        · exact ⟨k, by omega, h2⟩
    | true =>
      have tn := hS t hb
      rw [if_neg (show ¬ su S (nI t) &&& 1 = 0 from fun e => by rw [su_bit S (show t < 64 by omega), hb] at e; simp at e), if_neg (show ¬ (245 : Int32) ≤ nI (35 * n + t) from nI_ge (a := 35 * n + t) (b := 245) (by omega) (by omega)), ck_n (show 35 * n + t < 245 by omega) (by omega), nm_eq, cl_n (show 35 * n + t < 2 ^ 31 by omega), wy_beyond_J55, nm_eq, o1]
      refine ⟨_, _, ⟨rfl, fun j => ?_⟩, rfl⟩
      rw [bt_or, Bool.or_eq_true, ha j, h t tn j]
      constructor
      · rintro (⟨k, h1, h2⟩ | h2)
        · exact ⟨k, by omega, h2⟩
        · exact ⟨t, by omega, hb, h2⟩
      · rintro ⟨k, h1, h2, h3⟩
        by_cases q : k = t
        · rw [q] at h3; exact Or.inr h3
        · exact Or.inl ⟨k, by omega, h2, h3⟩
  · rintro a b kq ⟨rfl, ha⟩
    rw [wy_beyond_B6, if_pos (show (35 : Int32) ≤ nI 35 from by decide)]
    refine ⟨a, rfl, fun j => ?_⟩
    rw [ha j]
    constructor
    · rintro ⟨k, _, h2⟩; exact ⟨k, h2⟩
    · rintro ⟨k, h2, h3⟩; exact ⟨k, by have := hS k h2; omega, h2, h3⟩
  · rw [bt_zero]
    constructor
    · intro h; simp at h
    · rintro ⟨k, h, _⟩; omega
theorem setOf_eq {m : Nat} {nu : Nat → Int64} {os fr en : Nat → Int32} (hc : CL m nu os fr en) (hm : m ≤ 7) {g : Int64} (hg : FIG g) (hn : cnt g ≤ m) : wy_setOf (nI (cnt g)) g nu os fr en = some (sl 1 (nI (fI g))) := by
  have gl := gr_least_eq hg (k := 2) (by omega)
  rw [show nI 2 = (2 : Int32) from rfl] at gl
  have := fI_lt hg (by omega)
  have b : nF (cnt g) ≤ 1067 := by have := eK_1067 (k := 2) (n := cnt g) (by omega); unfold nF; omega
  rw [wy_setOf, gl, bd1_some, fI_index hc hm hg hn, bd1_some, if_pos (nI_pos' (by omega))]
theorem and_one {x : Int64} {g : Nat} (hg : g < 64) : x &&& sl 1 (nI g) = 0 ↔ bt x g = false := by
  constructor
  · intro h
    have : bt (x &&& sl 1 (nI g)) g = false := by rw [h, bt_zero]
    rw [bt_and, (bt_one hg).mpr rfl, Bool.and_true] at this
    exact this
  · intro h
    apply bt_ext
    intro j _
    rw [bt_and, bt_zero]
    cases q : bt (sl 1 (nI g)) j with
    | false => rw [Bool.and_false]
    | true => rw [(bt_one hg).mp q, h]; rfl
theorem steps_eq {m : Nat} {nu : Nat → Int64} {os fr en : Nat → Int32} (hc : CL m nu os fr en) (hm : m ≤ 7) {f g : Int64} (hf : FIG f) (hg : FIG g) {n : Nat} (h1 : cnt f = n) (h2 : cnt g = n) (hn : n ≤ 6) (hnm : n ≤ m) {ne : Nat → Int64} (hw : WYn n ne) : ∃ r, wy_steps (nI n) f g nu os fr en ne = some r ∧ ((∃ t, t ≤ 34 ∧ r = nI t ∧ Dst n (fI f) t (fI g)) ∨ (r = -1 ∧ ∀ t, ¬ Ba n (fI f) t (fI g))) := by
  have cp := cnt_pos' hf
  have n1 : 1 ≤ n ∧ n ≤ 6 := ⟨by omega, hn⟩
  have k35 := nF_b hn
  have fl := fI_lt hf (by omega)
  have gl := fI_lt hg (by omega)
  rw [h1] at fl
  rw [h2] at gl
  have s1 := setOf_eq hc hm hg (by omega)
  have s2 := setOf_eq hc hm hf (by omega)
  rw [h1] at s2
  rw [h2] at s1
  rw [wy_steps, s1, bd1_some, s2, bd1_some]
  generalize fI f = k0 at *
  generalize fI g = g0 at *
  have start : ∀ j, bt (sl 1 (nI k0)) j = true ↔ Ba n k0 0 j := fun j => bt_one (by omega)
  have step : ∀ t S, (∀ j, bt S j = true ↔ Ba n k0 t j) → ∃ W, wy_beyond (nI n) S ne = some W ∧ ∀ j, bt (S ||| W) j = true ↔ Ba n k0 (t + 1) j := fun t S hS => by
    obtain ⟨W, w1, w2⟩ := beyond_eq n1 hw (S := S) (fun k hk => Ba_lt n1 fl t k ((hS k).mp hk))
    refine ⟨W, w1, fun j => ?_⟩
    rw [bt_or, Bool.or_eq_true, hS j, w2 j]
    constructor
    · rintro (h | ⟨k, a, b⟩)
      · exact Or.inl h
      · exact Or.inr ⟨k, (hS k).mp a, b⟩
    · rintro (h | ⟨k, a, b⟩)
      · exact Or.inl h
      · exact Or.inr ⟨k, (hS k).mpr a, b⟩
  have no : ∀ t S, (∀ j, bt S j = true ↔ Ba n k0 t j) → ¬ Ba n k0 t g0 → S &&& sl 1 (nI g0) = 0 := fun t S hS hb => by
    rw [and_one (by omega)]
    cases q : bt S g0 with
    | false => rfl
    | true => exact absurd ((hS g0).mp q) hb
  by_cases ex : ∃ t, Ba n k0 t g0
  · obtain ⟨t', ht'⟩ := ex
    obtain ⟨T, _, d⟩ := Dst_ex t' ht'
    have T34 := Dst_34 n1 fl ⟨g0, d⟩
    refine ⟨nI T, ?_, Or.inl ⟨T, T34, rfl, d⟩⟩
    refine ivl2 (B := wy_steps_B20 (nI n) (sl 1 (nI g0)) nu os fr en ne) (fun t a b => b = nI t ∧ ∀ j, bt a j = true ↔ Ba n k0 t j) (fun o => o = some (nI T)) T ?_ ?_ FU 0 _ _ (by omega) (FU_lt (by omega)) ⟨rfl, start⟩
    · rintro t ht a b kq ⟨rfl, ha⟩
      obtain ⟨W, w1, w2⟩ := step t a ha
      rw [wy_steps_B20, if_neg (i32_nlt.mpr (show nI t ≤ (35 : Int32) from nI_le (a := t) (b := 35) (by omega) (by omega))), if_pos (no t a ha (d.2 t ht)), w1, bd1_some, nm_eq, nm_eq, o1]
      exact ⟨_, _, ⟨rfl, w2⟩, rfl⟩
    · rintro a b kq ⟨rfl, ha⟩
      rw [wy_steps_B20, if_neg (i32_nlt.mpr (show nI T ≤ (35 : Int32) from nI_le (a := T) (b := 35) (by omega) (by omega))), if_neg (fun e => by rw [and_one (by omega), (ha g0).mpr d.1] at e; simp at e)]
  · have ex' : ∀ t, ¬ Ba n k0 t g0 := fun t h => ex ⟨t, h⟩
    refine ⟨-1, ?_, Or.inr ⟨rfl, ex'⟩⟩
    refine ivl2 (B := wy_steps_B20 (nI n) (sl 1 (nI g0)) nu os fr en ne) (fun t a b => b = nI t ∧ ∀ j, bt a j = true ↔ Ba n k0 t j) (fun o => o = some (-1)) 36 ?_ ?_ FU 0 _ _ (by omega) (FU_lt (by omega)) ⟨rfl, start⟩
    · rintro t ht a b kq ⟨rfl, ha⟩
      obtain ⟨W, w1, w2⟩ := step t a ha
      rw [wy_steps_B20, if_neg (i32_nlt.mpr (show nI t ≤ (35 : Int32) from nI_le (a := t) (b := 35) (by omega) (by omega))), if_pos (no t a ha (ex' t)), w1, bd1_some, nm_eq, nm_eq, o1]
      exact ⟨_, _, ⟨rfl, w2⟩, rfl⟩
    · rintro a b kq ⟨rfl, ha⟩
      rw [wy_steps_B20, if_pos (show (35 : Int32) < nI 36 from by decide)]
theorem edge_eq {m : Nat} {nu : Nat → Int64} {os fr en : Nat → Int32} (hc : CL m nu os fr en) (hm : m ≤ 7) {f : Int64} (hf : FIG f) {n : Nat} (h1 : cnt f = n) (hn : n ≤ 6) (hnm : n ≤ m) {ne : Nat → Int64} (hw : WYn n ne) (far : Int32) {T : Nat} (hT : T ≤ 34) (ex : ∀ t, t ≤ T → ∃ j, Dst n (fI f) t j) (nx : ∀ j, ¬ Dst n (fI f) (T + 1) j) : wy_edge (nI n) f far nu os fr en ne = some (if far = 0 then nI (fb_ct (dsB n (fI f) T) 64) else nI T) := by
  have cp := cnt_pos' hf
  have n1 : 1 ≤ n ∧ n ≤ 6 := ⟨by omega, hn⟩
  have k35 := nF_b hn
  have fl := fI_lt hf (by omega)
  rw [h1] at fl
  have s2 := setOf_eq hc hm hf (by omega)
  rw [h1] at s2
  rw [wy_edge, s2, bd1_some]
  generalize fI f = k0 at *
  have step : ∀ t S L, (∀ j, bt S j = true ↔ Ba n k0 t j) → (∀ j, bt L j = true ↔ Dst n k0 t j) → ∃ W, wy_beyond (nI n) L ne = some W ∧ ∀ j, bt (W &&& (S ^^^ (-1))) j = true ↔ Dst n k0 (t + 1) j := fun t S L hS hL => by
    obtain ⟨W, w1, w2⟩ := beyond_eq n1 hw (S := L) (fun k hk => Ba_lt n1 fl t k ((hL k).mp hk).1)
    refine ⟨W, w1, fun j => ?_⟩
    rw [Dst_s]
    constructor
    · intro h
      have j64 := bt_lt h
      rw [bt_and, Bool.and_eq_true, w2 j, bt_xor, bt_m1 j64] at h
      obtain ⟨⟨k, a, b⟩, c⟩ := h
      refine ⟨⟨k, (hL k).mp a, b⟩, fun hb => ?_⟩
      rw [(hS j).mpr hb] at c; simp at c
    · rintro ⟨⟨k, a, b⟩, c⟩
      have wj := (w2 j).mpr ⟨k, (hL k).mpr a, b⟩
      rw [bt_and, wj, bt_xor, bt_m1 (bt_lt wj)]
      cases q : bt S j with
      | false => rfl
      | true => exact absurd ((hS j).mp q) c
  refine ivl3 (B := wy_edge_B15 (nI n) far nu os fr en ne) (fun t a b c => c = nI t ∧ (∀ j, bt a j = true ↔ Ba n k0 t j) ∧ ∀ j, bt b j = true ↔ Dst n k0 t j) (fun o => o = some (if far = 0 then nI (fb_ct (dsB n k0 T) 64) else nI T)) T ?_ ?_ FU 0 _ _ _ (by omega) (FU_lt (by omega)) ⟨rfl, fun j => bt_one (by omega), fun j => ?_⟩
  · rintro t ht a b c kq ⟨rfl, ha, hb⟩
    obtain ⟨W, w1, w2⟩ := step t a b ha hb
    obtain ⟨j, hj⟩ := ex (t + 1) (by omega)
    have nz : ¬ W &&& (a ^^^ (-1)) = 0 := fun e => by
      have := (w2 j).mpr hj
      rw [e, bt_zero] at this; simp at this
    rw [wy_edge_B15, if_neg (i32_nlt.mpr (show nI t ≤ (35 : Int32) from nI_le (a := t) (b := 35) (by omega) (by omega))), w1, bd1_some, nm_eq, if_neg nz, nm_eq, nm_eq, o1]
    refine ⟨_, _, _, ⟨rfl, fun j => ?_, w2⟩, rfl⟩
    rw [bt_or, Bool.or_eq_true, ha j, w2 j, Ba_s]
  · rintro a b c kq ⟨rfl, ha, hb⟩
    obtain ⟨W, w1, w2⟩ := step T a b ha hb
    have z : W &&& (a ^^^ (-1)) = 0 := bt_ext (fun j _ => by
      rw [bt_zero]
      cases q : bt (W &&& (a ^^^ (-1))) j with
      | false => rfl
      | true => exact absurd ((w2 j).mp q) (nx j))
    have ct : cnt b = fb_ct (dsB n k0 T) 64 := fb_ct_cong (fun j _ => bool_iff (by rw [hb j, dsB_t]))
    rw [wy_edge_B15, if_neg (i32_nlt.mpr (show nI T ≤ (35 : Int32) from nI_le (a := T) (b := 35) (by omega) (by omega))), w1, bd1_some, nm_eq, if_pos z, jl_bitCount_eq, bd1_some, ct]
    by_cases q : far = 0
    · rw [if_pos q, if_pos q]
    · rw [if_neg q, if_neg q]
  · rw [bt_one (by omega)]
    constructor
    · intro h; exact ⟨h, fun u hu => by omega⟩
    · intro h; exact h.1
