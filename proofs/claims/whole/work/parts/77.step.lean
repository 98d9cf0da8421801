/-! one step: a cell away, a cell at another place -/
def ch6 (i : Nat) : Bool := Nat.beq (Lt i &&& 18446674532832952512) 0
set_option maxRecDepth 100000 in
theorem ch6_ok : ∀ a : Fin 20, ∀ b : Fin 16, 16 * a.val + b.val < 307 → ch6 (16 * a.val + b.val) = true := by decide +kernel
theorem k_66 {k : Nat} (h : k < 64) : Nat.testBit 18446674532832952512 k = decide (¬ (k % 8 < 6 ∧ k < 48)) := by
  have : ∀ k : Fin 64, Nat.testBit 18446674532832952512 k.val = decide (¬ (k.val % 8 < 6 ∧ k.val < 48)) := by decide +kernel
  exact this ⟨k, h⟩
theorem Lf_66 {i s : Nat} (hi : i < 307) (h : bt (Lf i) s = true) : s % 8 < 6 ∧ s < 48 := by
  have c := ch6_ok ⟨i / 16, by omega⟩ ⟨i % 16, by omega⟩ (by show 16 * (i / 16) + i % 16 < 307; omega)
  rw [show 16 * (i / 16) + i % 16 = i by omega] at c
  have e : Lt i &&& 18446674532832952512 = 0 := Nat.eq_of_beq_eq_true c
  have s64 := bt_lt h
  rw [Lf, bt_ofN (Lt_lt i)] at h
  have := congrArg (fun z => Nat.testBit z s) e
  simp only [Nat.testBit_and, h, k_66 s64, Bool.true_and, Nat.zero_testBit, decide_eq_false_iff_not] at this
  omega
/-- within the inner six by six -/
def I6 (R : Int64) : Prop := ∀ i, bt R i = true → 1 ≤ i % 8 ∧ i % 8 ≤ 6 ∧ 1 ≤ i / 8 ∧ i / 8 ≤ 6
theorem gar_I6 {R : Int64} (hR : I6 R) {i : Nat} (hi : i < 64) : bt (gar R) i = true ↔ nb R i := by
  rw [bt_gar R hi, nb_iff]
  have a1 : bt R (1 + i) = true → ¬ i % 8 = 7 := fun h => by have := hR _ h; omega
  have a2 : 1 ≤ i → bt R (i - 1) = true → ¬ i % 8 = 0 := fun h1 h => by have := hR _ h; omega
  have a3 : ¬ i % 8 = 0 → 1 ≤ i := by omega
  simp only [Bool.or_eq_true, Bool.and_eq_true, decide_eq_true_eq]
  constructor
  · rintro (((h | h) | h) | h)
    · exact Or.inr (Or.inl ⟨a2 h.1 h.2, h.2⟩)
    · exact Or.inl ⟨a1 h, h⟩
    · exact Or.inr (Or.inr (Or.inr h))
    · exact Or.inr (Or.inr (Or.inl h))
  · rintro (h | h | h | h)
    · exact Or.inl (Or.inl (Or.inr h.2))
    · exact Or.inl (Or.inl (Or.inl ⟨a3 h.1, h.2⟩))
    · exact Or.inr h
    · exact Or.inl (Or.inr h)
noncomputable def f9 (i : Nat) : Int64 := sl (Lf i) 9
theorem bt_f9 (i j : Nat) : bt (f9 i) j = true ↔ 9 ≤ j ∧ j < 64 ∧ bt (Lf i) (j - 9) = true := by
  constructor
  · intro h
    have l := bt_lt h
    rw [f9, show (9 : Int32) = nI 9 from rfl, bt_sl _ (by omega) l, Bool.and_eq_true, decide_eq_true_eq] at h
    exact ⟨h.1, l, h.2⟩
  · rintro ⟨h1, h2, h3⟩
    rw [f9, show (9 : Int32) = nI 9 from rfl, bt_sl _ (by omega) h2, Bool.and_eq_true, decide_eq_true_eq]
    exact ⟨h1, h3⟩
theorem f9_I6 {i : Nat} (hi : i < 307) : I6 (f9 i) := fun j h => by
  have h' := (bt_f9 i j).mp h
  have := Lf_66 hi h'.2.2
  omega
theorem f9_up {i s : Nat} (hi : i < 307) (h : bt (Lf i) s = true) : bt (f9 i) (s + 9) = true := by
  have := Lf_66 hi h
  exact (bt_f9 i (s + 9)).mpr ⟨by omega, by omega, by rw [Nat.add_sub_cancel]; exact h⟩
theorem f9_hB {i : Nat} (hi : i < 307) (X Y : Int) : hB (Lf i) X Y = hB (f9 i) (X + 1) (Y + 1) := by
  apply bool_iff
  rw [hB_t, hB_t]
  constructor
  · rintro ⟨x, y, hx, hy, rfl, rfl, h⟩
    have := Lf_66 hi h
    refine ⟨x + 1, y + 1, by omega, by omega, by omega, by omega, ?_⟩
    rw [show 8 * (y + 1) + (x + 1) = 8 * y + x + 9 by omega]
    exact f9_up hi h
  · rintro ⟨x, y, hx, hy, e1, e2, h⟩
    have h6 := f9_I6 hi _ h
    have h' := (bt_f9 i _).mp h
    refine ⟨x - 1, y - 1, by omega, by omega, by omega, by omega, ?_⟩
    rw [show 8 * (y - 1) + (x - 1) = 8 * y + x - 9 by omega]
    exact h'.2.2
theorem f9_cnt {i : Nat} (hi : i < 307) : cnt (f9 i) = gn i := by
  rw [← Lf_cnt (show i < 1067 by omega)]
  exact (cnt_tr (f9_hB hi)).symm
/-- without the cell p -/
noncomputable def Rp (i p : Nat) : Int64 := f9 i &&& (sl 1 (nI p) ^^^ (-1))
theorem bt_Rp (i : Nat) {p : Nat} (hp : p < 64) (j : Nat) : bt (Rp i p) j = true ↔ bt (f9 i) j = true ∧ j ≠ p := by
  rw [Rp, bt_and, bt_xor, Bool.and_eq_true]
  refine and_congr_right (fun h => ?_)
  rw [bt_m1 (bt_lt h)]
  have := bt_one hp (j := j)
  cases q : bt (sl 1 (nI p)) j with
  | true => rw [q] at this; simp [this.mp rfl]
  | false => rw [q] at this; simp; exact fun e => by have := this.mpr e; simp at this
theorem Rp_I6 {i p : Nat} (hi : i < 307) (hp : p < 64) : I6 (Rp i p) := fun j h => f9_I6 hi j ((bt_Rp i hp j).mp h).1
noncomputable def Gp (i p s : Nat) : Int64 := Rp i p ||| sl 1 (nI s)
theorem bt_Gp (i : Nat) {p s : Nat} (hp : p < 64) (hs : s < 64) (j : Nat) : bt (Gp i p s) j = true ↔ (bt (f9 i) j = true ∧ j ≠ p) ∨ j = s := by
  rw [Gp, bt_or, Bool.or_eq_true, bt_Rp i hp, bt_one hs]
/-- a place where the cell may go -/
def SI (i p s : Nat) : Prop := s < 64 ∧ nb (Rp i p) s ∧ bt (Rp i p) s = false
theorem SI_in {i p s : Nat} (hi : i < 307) (hp : p < 64) (h : SI i p s) : ∃ a, bt (Rp i p) a = true ∧ adj s a := by
  obtain ⟨_, ⟨a, h1, h2⟩, _⟩ := h
  exact ⟨a, h2, h1⟩
theorem Gp_spread {i p s : Nat} (hi : i < 307) (hp : p < 64) (h : SI i p s) : (∀ a b, bt (Gp i p s) a = true → bt (Gp i p s) b = true → a % 8 ≤ b % 8 + 6) ∧ ∀ a b, bt (Gp i p s) a = true → bt (Gp i p s) b = true → a / 8 ≤ b / 8 + 6 := by
  have hs := h.1
  have r6 : ∀ a, bt (Gp i p s) a = true → (1 ≤ a % 8 ∧ a % 8 ≤ 6 ∧ 1 ≤ a / 8 ∧ a / 8 ≤ 6) ∨ a = s := fun a ha => by
    rcases (bt_Gp i hp hs a).mp ha with q | q
    · exact Or.inl (f9_I6 hi a q.1)
    · exact Or.inr q
  constructor
  · intro a b ha hb
    rcases r6 a ha with q | q <;> rcases r6 b hb with q' | q' <;> omega
  · intro a b ha hb
    rcases r6 a ha with q | q <;> rcases r6 b hb with q' | q' <;> omega
theorem Gp_cnt {i p s : Nat} (hi : i < 307) (hp : bt (f9 i) p = true) (h : SI i p s) : cnt (Gp i p s) = gn i := by
  have p64 := bt_lt hp
  obtain ⟨s64, _, h3⟩ := h
  have e1 : cnt (Gp i p s) = cnt (Rp i p) + cnt (sl 1 (nI s)) := cnt_or (fun j hj => by
    cases q : bt (sl 1 (nI s)) j with
    | false => rfl
    | true => rw [(bt_one s64).mp q] at hj; rw [hj] at h3; simp at h3)
  have e2 : cnt (f9 i) = cnt (Rp i p) + cnt (sl 1 (nI p)) := by
    rw [← cnt_or (a := Rp i p) (b := sl 1 (nI p)) (fun j hj => by
      cases q : bt (sl 1 (nI p)) j with
      | false => rfl
      | true => exact absurd ((bt_one p64).mp q) ((bt_Rp i p64 j).mp hj).2)]
    congr 1
    apply bt_ext
    intro j _
    apply bool_iff
    rw [bt_or, Bool.or_eq_true, bt_Rp i p64, bt_one p64]
    by_cases q : j = p
    · rw [q]; simp [hp]
    · simp [q]
  have c1 : ∀ t, t < 64 → cnt (sl 1 (nI t)) = 1 := by
    have : ∀ t : Fin 64, cnt (sl 1 (nI t.val)) = 1 := by decide +kernel
    exact fun t ht => this ⟨t, ht⟩
  rw [c1 s s64] at e1
  rw [c1 p p64, f9_cnt hi] at e2
  omega
theorem Gp_set {i p s : Nat} (hi : i < 307) (hp : bt (f9 i) p = true) (h : SI i p s) : gr_settled (Gp i p s) = some (stt (Gp i p s)) ∧ mo_moved (Gp i p s) = some (stt (Gp i p s)) ∧ C7 (stt (Gp i p s)) ∧ conB (stt (Gp i p s)) = conB (Gp i p s) ∧ (CON (Gp i p s) → FIG (stt (Gp i p s)) ∧ cnt (stt (Gp i p s)) = gn i) := by
  have p64 := bt_lt hp
  have hb : Gp i p s ≠ 0 := fun e => by
    have := (bt_Gp i p64 h.1 s).mpr (Or.inr rfl)
    rw [e, bt_zero] at this; simp at this
  obtain ⟨k, hk⟩ := low_ex hb
  obtain ⟨c, hc⟩ := colp_ex hb
  have st : STL (Gp i p s) (su (Gp i p s) (nI (8 * (k / 8) + c))) := ⟨k, c, hk, hc, rfl⟩
  have e1 := gr_settled_eq hk hc
  have e : stt (Gp i p s) = su (Gp i p s) (nI (8 * (k / 8) + c)) := by unfold stt; rw [e1]; rfl
  rw [e]
  obtain ⟨α, β, tr⟩ := STL_tr st
  obtain ⟨w1, w2⟩ := Gp_spread hi p64 h
  refine ⟨e1, mo_moved_eq hk hc, ?_, ?_, fun hcon => ?_⟩
  · obtain ⟨r, c', ⟨y, hy⟩, _, c8, hle, him⟩ := STL_img st
    intro j hj
    obtain ⟨a, ha, rfl⟩ := (him j).mp hj
    have := w1 a _ ha hy
    omega
  · apply bool_iff
    rw [conB_t, conB_t]
    constructor
    · intro hcon
      exact CON_tr (f := su (Gp i p s) (nI (8 * (k / 8) + c))) (a := -α) (b := -β) (fun X Y => by rw [tr, show X + -α + α = X by omega, show Y + -β + β = Y by omega]) hcon
    · exact CON_tr tr
  · have gc := Gp_cnt hi hp h
    have g7 := (gn_b (show i < 1067 by omega)).2.1
    have hF := FIG_STL st hcon (by omega) w1 w2
    exact ⟨hF.1, by rw [hF.2, gc]⟩
theorem Gp_self {i p : Nat} (hi : i < 307) (hp : bt (f9 i) p = true) : stt (Gp i p p) = Lf i := by
  have e : Gp i p p = f9 i := by
    apply bt_ext
    intro j _
    apply bool_iff
    rw [bt_Gp i (bt_lt hp) (bt_lt hp)]
    by_cases q : j = p
    · rw [q]; simp [hp]
    · simp [q]
  have h := settle_tr (b := f9 i) (Lf_FIG (show i < 1067 by omega)) (α := -1) (β := -1) (fun X Y => by rw [f9_hB hi, show X + -1 + 1 = X by omega, show Y + -1 + 1 = Y by omega])
  unfold stt
  rw [e, h.1]
  rfl
/-! the place of a figure among the free ones -/
noncomputable def fI (g : Int64) : Nat := Classical.epsilon (fun t => ∃ j, eN (cnt g - 1) ≤ j ∧ j < eN (cnt g) ∧ lB 2 j = true ∧ own g 2 = Lf j ∧ t = rk 2 j - eK 2 (cnt g - 1))
theorem fI_s {g : Int64} (hg : FIG g) (h7 : cnt g ≤ 7) : ∃ j, eN (cnt g - 1) ≤ j ∧ j < eN (cnt g) ∧ lB 2 j = true ∧ own g 2 = Lf j ∧ fI g = rk 2 j - eK 2 (cnt g - 1) := by
  obtain ⟨j, a, b, c, d⟩ := fig_at hg h7 (k := 2)
  exact Classical.epsilon_spec (p := fun t => ∃ j, eN (cnt g - 1) ≤ j ∧ j < eN (cnt g) ∧ lB 2 j = true ∧ own g 2 = Lf j ∧ t = rk 2 j - eK 2 (cnt g - 1)) ⟨_, j, a, b, c, d, rfl⟩
/-- how many free ones -/
def nF (n : Nat) : Nat := eK 2 n - eK 2 (n - 1)
theorem nF_b {n : Nat} (h : n ≤ 6) : nF n ≤ 35 := by
  have h2 := ct_l2
  have e : ∀ m, eK 2 m = fb_ct l2B (eN m) := fun m => rfl
  unfold nF
  rw [e, e]
  rcases (show n = 0 ∨ n = 1 ∨ n = 2 ∨ n = 3 ∨ n = 4 ∨ n = 5 ∨ n = 6 by omega) with rfl | rfl | rfl | rfl | rfl | rfl | rfl
  · show fb_ct l2B 0 - fb_ct l2B 0 ≤ 35; omega
  · show fb_ct l2B 1 - fb_ct l2B 0 ≤ 35; omega
  · show fb_ct l2B 3 - fb_ct l2B 1 ≤ 35; omega
  · show fb_ct l2B 9 - fb_ct l2B 3 ≤ 35; omega
  · show fb_ct l2B 28 - fb_ct l2B 9 ≤ 35; omega
  · show fb_ct l2B 91 - fb_ct l2B 28 ≤ 35; omega
  · rw [show eN 6 = 307 from rfl, show eN (6 - 1) = 91 from rfl]; omega
theorem fI_lt {g : Int64} (hg : FIG g) (h7 : cnt g ≤ 7) : fI g < nF (cnt g) := by
  obtain ⟨j, a, b, c, d, e⟩ := fI_s hg h7
  have r := rk_in b c
  have r2 : eK 2 (cnt g - 1) ≤ rk 2 j := rk_le a
  unfold nF
  omega
theorem fI_index {m : Nat} {nu : Nat → Int64} {os fr en : Nat → Int32} (hc : CL m nu os fr en) (hm : m ≤ 7) {g : Int64} (hg : FIG g) (hn : cnt g ≤ m) : ca_indexOf (nI (cnt g)) 2 (own g 2) nu os fr en = some (nI (fI g)) := by
  obtain ⟨j, a, b, c, d, e⟩ := fI_s hg (by omega)
  have cp := cnt_pos' hg
  rw [d, e]
  exact index_eq hc hm (k := 2) (by omega) (by omega) hn a b c
theorem fI_m {li : Nat → Int64} {fm : Nat → Int32} (hl : MLm 7 li fm) {g : Int64} (hg : FIG g) (h7 : cnt g ≤ 7) : ∃ i, own g 2 = li (bK (cnt g) 2 + fI g) ∧ i < 1067 ∧ own g 2 = Lf i := by
  obtain ⟨j, a, b, c, d, e⟩ := fI_s hg h7
  have cp := cnt_pos' hg
  have := eN_b h7
  refine ⟨j, ?_, by omega, d⟩
  rw [e, hl.2 (cnt g) 2 j (by omega) h7 (by omega) a b c, d]
theorem mbr_fI {n k : Nat} (hn : 1 ≤ n ∧ n ≤ 7) (hk : k < nF n) : fI (Lf (mbr n 2 k)) = k ∧ mbr n 2 k < eN n ∧ gn (mbr n 2 k) = n ∧ mbr n 2 k < 1067 := by
  obtain ⟨j1, j2, j3, j4⟩ := mbr_s (k := 2) hn (show k < eK 2 n - eK 2 (n - 1) from hk)
  have b := eN_b hn.2
  have l : mbr n 2 k < 1067 := by omega
  have g : gn (mbr n 2 k) = n := by
    have := gn_of (i := mbr n 2 k) (m := n - 1) (by omega) j1 (by rw [show n - 1 + 1 = n by omega]; exact j2)
    omega
  refine ⟨?_, j2, g, l⟩
  have cc := Lf_cnt l
  obtain ⟨j, a, b', c, d, e⟩ := fI_s (Lf_FIG l) (by omega)
  rw [(own_lB l).mpr j3] at d
  have := Lf_inj l (by rw [cc, g] at b'; omega) d
  rw [e, ← this, cc, g, j4]
  omega
