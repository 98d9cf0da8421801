/-! what is one step away, as the class notes it -/
def STP (n k j : Nat) : Prop := ∃ p s, bt (f9 (mbr n 2 k)) p = true ∧ SI (mbr n 2 k) p s ∧ CON (Gp (mbr n 2 k) p s) ∧ fI (stt (Gp (mbr n 2 k) p s)) = j
theorem eN_307 {n : Nat} (h : n ≤ 6) : eN n ≤ 307 := by
  rcases (show n = 0 ∨ n = 1 ∨ n = 2 ∨ n = 3 ∨ n = 4 ∨ n = 5 ∨ n = 6 by omega) with rfl | rfl | rfl | rfl | rfl | rfl | rfl <;> decide
theorem STP_lt {n k j : Nat} (hn : 1 ≤ n ∧ n ≤ 6) (hk : k < nF n) (h : STP n k j) : j < nF n := by
  obtain ⟨p, s, h1, h2, h3, rfl⟩ := h
  obtain ⟨_, l1, g1, l2⟩ := mbr_fI ⟨hn.1, by omega⟩ hk
  have := eN_307 hn.2
  have F := (Gp_set (by omega) h1 h2).2.2.2.2 h3
  have c : cnt (stt (Gp (mbr n 2 k) p s)) = n := by rw [F.2, g1]
  have l := fI_lt F.1 (by omega)
  rw [c] at l
  exact l
noncomputable def siL (R : Int64) : Int64 := gar R &&& (R ^^^ (-1))
theorem bt_siL {i p : Nat} (hi : i < 307) (hp : p < 64) (s : Nat) : bt (siL (Rp i p)) s = true ↔ SI i p s := by
  constructor
  · intro h
    have l := bt_lt h
    rw [siL, bt_and, bt_xor, bt_m1 l, Bool.and_eq_true, gar_I6 (Rp_I6 hi hp) l] at h
    refine ⟨l, h.1, ?_⟩
    have := h.2
    cases q : bt (Rp i p) s with
    | false => rfl
    | true => rw [q] at this; simp at this
  · rintro ⟨l, h1, h2⟩
    rw [siL, bt_and, bt_xor, bt_m1 l, h2, Bool.and_eq_true, gar_I6 (Rp_I6 hi hp) l]
    exact ⟨h1, rfl⟩
theorem bt_or1 {W : Int64} {x : Nat} (hx : x < 64) (j : Nat) : bt (W ||| sl 1 (nI x)) j = true ↔ bt W j = true ∨ j = x := by
  rw [bt_or, Bool.or_eq_true, bt_one hx]
theorem regrown_eq {m : Nat} {nu : Nat → Int64} {os fr en : Nat → Int32} (hc : CL m nu os fr en) (hm : m ≤ 7) {i p : Nat} (hi : i < 307) (hn : gn i ≤ m) (hp : bt (f9 i) p = true) {v : Int64} (hv : sl v 9 = Rp i p) : ∃ W, wy_regrown (nI (gn i)) v nu os fr en = some W ∧ ∀ j, bt W j = true ↔ ∃ s, SI i p s ∧ CON (Gp i p s) ∧ fI (stt (Gp i p s)) = j := by
  have p64 := bt_lt hp
  have c64 := cnt_le (siL (Rp i p))
  have g6 : gn i ≤ 6 := by unfold gn; repeat' (first | omega | split)
  rw [wy_regrown, nm_eq, hv, gr_around_eq, bd1_some, nm_eq, show gar (Rp i p) &&& (Rp i p ^^^ (-1)) = siL (Rp i p) from rfl, jl_bitCount_eq, bd1_some]
  refine ivl3 (B := wy_regrown_B33 (nI (gn i)) (Rp i p) (nI (cnt (siL (Rp i p)))) nu os fr en) (fun t a b c => a = itr (siL (Rp i p)) t ∧ c = nI t ∧ ∀ j, bt b j = true ↔ ∃ u, u < t ∧ CON (Gp i p (ith (siL (Rp i p)) u)) ∧ fI (stt (Gp i p (ith (siL (Rp i p)) u))) = j) (fun o => ∃ W, o = some W ∧ ∀ j, bt W j = true ↔ ∃ s, SI i p s ∧ CON (Gp i p s) ∧ fI (stt (Gp i p s)) = j) (cnt (siL (Rp i p))) ?_ ?_ FU 0 _ _ _ (by omega) (FU_lt (by omega)) ⟨rfl, rfl, fun j => ?_⟩
  · rintro t ht a b c kq ⟨rfl, rfl, hb⟩
    have sb := (bt_siL hi p64 _).mp (ith_bt ht)
    obtain ⟨g1, g2, g3, g4, g5⟩ := Gp_set hi hp sb
    have lw := low_sl (ith_low ht)
    have g1' : gr_settled (Rp i p ||| sl 1 (nI (ith (siL (Rp i p)) t))) = some (stt (Gp i p (ith (siL (Rp i p)) t))) := g1
    rw [wy_regrown_B33, if_neg (nI_ge ht (by omega)), nm_eq, nm_eq, xor_low, lw, g1', bd1_some, gr_hangs_b g3, bd1_some, g4]
    cases hcn : conB (Gp i p (ith (siL (Rp i p)) t)) with
    | false =>
      rw [if_pos (by decide), wy_regrown_J108, nm_eq, o1]
      refine ⟨_, _, _, ⟨rfl, rfl, fun j => ?_⟩, rfl⟩
      rw [hb j]
      constructor
      · rintro ⟨u, h1, h2⟩; exact ⟨u, by omega, h2⟩
      · rintro ⟨u, h1, h2, h3⟩
        by_cases q : u = t
        · rw [q] at h2; rw [conB_t.mpr h2] at hcn; simp at hcn
        · exact ⟨u, by omega, h2, h3⟩
    | true =>
      obtain ⟨F1, F2⟩ := g5 (conB_t.mp hcn)
      have fl := fI_lt F1 (by omega)
      have fb := nF_b (n := cnt (stt (Gp i p (ith (siL (Rp i p)) t)))) (by omega)
      have ix := fI_index hc hm F1 (by omega)
      rw [F2] at ix
      have gl := gr_least_eq F1 (k := 2) (by omega)
      rw [show nI 2 = (2 : Int32) from rfl] at gl
      rw [if_neg (by decide), gl, bd1_some, ix, bd1_some, if_pos (nI_pos' (by omega)), wy_regrown_J105, nm_eq, wy_regrown_J108, nm_eq, o1]
      refine ⟨_, _, _, ⟨rfl, rfl, fun j => ?_⟩, rfl⟩
      rw [bt_or1 (by omega), hb j]
      constructor
      · rintro (⟨u, h1, h2⟩ | rfl)
        · exact ⟨u, by omega, h2⟩
        · exact ⟨t, by omega, conB_t.mp hcn, rfl⟩
      · rintro ⟨u, h1, h2, h3⟩
        by_cases q : u = t
        · rw [q] at h3; exact Or.inr h3.symm
        · exact Or.inl ⟨u, by omega, h2, h3⟩
  · rintro a b c kq ⟨rfl, rfl, hb⟩
    rw [wy_regrown_B33, if_pos (nI_le (Nat.le_refl _) (by omega))]
    refine ⟨b, rfl, fun j => ?_⟩
    rw [hb j]
    constructor
    · rintro ⟨u, h1, h2, h3⟩; exact ⟨_, (bt_siL hi p64 _).mp (ith_bt h1), h2, h3⟩
    · rintro ⟨s, h1, h2, h3⟩
      obtain ⟨u, u1, rfl⟩ := ith_all ((bt_siL hi p64 _).mpr h1)
      exact ⟨u, u1, h2, h3⟩
  · rw [bt_zero]
    constructor
    · intro h; simp at h
    · rintro ⟨u, h, _⟩; omega
theorem wo_Rp {i q : Nat} (hi : i < 307) (hq : q < cnt (Lf i)) : sl (wo (Lf i) q) 9 = Rp i (ith (Lf i) q + 9) := by
  have b := ith_bt hq
  have h6 := Lf_66 hi b
  apply bt_ext
  intro j hj
  apply bool_iff
  rw [bt_Rp i (by omega), bt_f9, show (9 : Int32) = nI 9 from rfl, bt_sl _ (by omega) hj, Bool.and_eq_true, decide_eq_true_eq, wo_bt hq]
  constructor
  · rintro ⟨h1, h2, h3⟩; exact ⟨⟨h1, hj, h2⟩, by omega⟩
  · rintro ⟨⟨h1, _, h2⟩, h3⟩; exact ⟨h1, h2, by omega⟩
/-- what stands in near, for one size -/
def WYn (n : Nat) (ne : Nat → Int64) : Prop := ∀ k, k < nF n → ∀ j, bt (ne (35 * n + k)) j = true ↔ STP n k j
def WYs (ne : Nat → Int64) (wm' : Nat → Int32) : Prop := ∀ n, 1 ≤ n → n ≤ 6 → (wm' n = 0 ∧ ∀ k, k < nF n → ne (35 * n + k) = 0) ∨ (wm' n = 1 ∧ WYn n ne)
theorem near_row {m : Nat} {nu : Nat → Int64} {os fr en : Nat → Int32} (hc : CL m nu os fr en) (hm : m ≤ 7) {n k : Nat} (hn : 1 ≤ n ∧ n ≤ 6) (hnm : n ≤ m) (hk : k < nF n) (v2 : Int32) (wm' : Nat → Int32) (kk : Int32 → (Nat → Int64) → Option ((Nat → Int64) × (Nat → Int32))) (ne : Nat → Int64) (h0 : ne (35 * n + k) = 0) : ∃ W, fl3 (wy_prepare_B61 (nI n) v2 (nI k) (Lf (mbr n 2 k)) nu os fr en wm' kk) FU (Lf (mbr n 2 k)) 0 ne = kk (nI (k + 1)) (fun x => if x = 35 * n + k then W else ne x) ∧ ∀ j, bt W j = true ↔ STP n k j := by
  obtain ⟨_, l1, g1, l2⟩ := mbr_fI ⟨hn.1, by omega⟩ hk
  have e307 := eN_307 hn.2
  have k35 := nF_b hn.2
  have cc := Lf_cnt l2
  unfold STP
  generalize mbr n 2 k = i at *
  have i307 : i < 307 := by omega
  refine ivl3 (B := wy_prepare_B61 (nI n) v2 (nI k) (Lf i) nu os fr en wm' kk) (fun t a b c => a = itr (Lf i) t ∧ b = nI t ∧ (∀ x, x ≠ 35 * n + k → c x = ne x) ∧ ∀ j, bt (c (35 * n + k)) j = true ↔ ∃ u s, u < t ∧ SI i (ith (Lf i) u + 9) s ∧ CON (Gp i (ith (Lf i) u + 9) s) ∧ fI (stt (Gp i (ith (Lf i) u + 9) s)) = j) (fun o => ∃ W, o = kk (nI (k + 1)) (fun x => if x = 35 * n + k then W else ne x) ∧ ∀ j, bt W j = true ↔ ∃ p s, bt (f9 i) p = true ∧ SI i p s ∧ CON (Gp i p s) ∧ fI (stt (Gp i p s)) = j) n ?_ ?_ FU 0 _ _ _ (by omega) (FU_lt (by omega)) ⟨rfl, rfl, fun x _ => rfl, fun j => ?_⟩
  · rintro t ht a b c kq ⟨rfl, rfl, h1, h2⟩
    have tc : t < cnt (Lf i) := by omega
    have pb := f9_up i307 (ith_bt tc)
    obtain ⟨W, w1, w2⟩ := regrown_eq hc hm i307 (by omega) pb (wo_Rp i307 tc)
    rw [g1] at w1
    have ti : (nI n * 35 + nI k : Int32) = nI (35 * n + k) := by
      rw [show (35 : Int32) = nI 35 from rfl, pk_mul, nI_add, Nat.mul_comm]
    rw [wy_prepare_B61, if_neg (nI_ge ht (by omega)), nm_eq, ti, ck_n (show 35 * n + k < 245 by omega) (by omega), wo_and tc, w1, bd1_some, nm_eq, ck_n (show 35 * n + k < 245 by omega) (by omega), nm_eq, nm_eq, nm_eq, cl_n (show 35 * n + k < 2 ^ 31 by omega), o1]
    refine ⟨_, _, _, ⟨rfl, rfl, fun x hx => ?_, fun j => ?_⟩, rfl⟩
    · rw [pk_uLn hx]; exact h1 x hx
    · rw [pk_uLs, bt_or, Bool.or_eq_true, h2 j, w2 j]
      constructor
      · rintro (⟨u, s, a1, a2⟩ | ⟨s, a2⟩)
        · exact ⟨u, s, by omega, a2⟩
        · exact ⟨t, s, by omega, a2⟩
      · rintro ⟨u, s, a1, a2⟩
        by_cases q : u = t
        · rw [q] at a2; exact Or.inr ⟨s, a2⟩
        · exact Or.inl ⟨u, s, by omega, a2⟩
  · rintro a b c kq ⟨rfl, rfl, h1, h2⟩
    rw [wy_prepare_B61, if_pos (nI_le (Nat.le_refl _) (by omega)), nm_eq, o1]
    refine ⟨c (35 * n + k), ?_, fun j => ?_⟩
    · have : c = fun x => if x = 35 * n + k then c (35 * n + k) else ne x := by
        funext x
        by_cases q : x = 35 * n + k
        · rw [if_pos q, q]
        · rw [if_neg q]; exact h1 x q
      rw [← this]
    · rw [h2 j]
      constructor
      · rintro ⟨u, s, a1, a2⟩; exact ⟨_, s, f9_up i307 (ith_bt (show u < cnt (Lf i) by omega)), a2⟩
      · rintro ⟨p, s, a1, a2⟩
        obtain ⟨b1, b2, b3⟩ := (bt_f9 i p).mp a1
        obtain ⟨u, u1, u2⟩ := ith_all b3
        have : p = ith (Lf i) u + 9 := by omega
        subst this
        exact ⟨u, s, by omega, a2⟩
  · rw [h0, bt_zero]
    constructor
    · intro h; simp at h
    · rintro ⟨u, s, h, _⟩; omega
theorem wprepare_eq {m : Nat} {nu : Nat → Int64} {os fr en : Nat → Int32} (hc : CL m nu os fr en) (hm : m ≤ 7) {n : Nat} (hn : 1 ≤ n ∧ n ≤ 6) (hnm : n ≤ m) {ne : Nat → Int64} {wm' : Nat → Int32} (h : WYs ne wm') : ∃ ne' wm'', wy_prepare (nI n) nu os fr en ne wm' = some (ne', wm'') ∧ WYs ne' wm'' ∧ WYn n ne' := by
  have i1 : inr (nI n) 1 6 = true := by
    unfold inr
    rw [Bool.and_eq_true, decide_eq_true_eq, decide_eq_true_eq]
    exact ⟨nI_le (a := 1) (b := n) hn.1 (by omega), nI_le (a := n) (b := 6) hn.2 (by omega)⟩
  have k35 := nF_b hn.2
  rw [wy_prepare, cf_within_eq, bd1_some, i1, if_neg (by decide), ck_n (show n < 7 by omega) (by omega), cl_n (show n < 2 ^ 31 by omega)]
  rcases h n hn.1 hn.2 with ⟨a, b⟩ | ⟨a, b⟩
  · have cz := csize hc hm (k := 2) (by omega) hn.1 hnm
    rw [show nI 2 = (2 : Int32) from rfl] at cz
    rw [a, if_pos rfl, cz, bd1_some, nm_eq, show eK 2 n - eK 2 (n - 1) = nF n from rfl, show mnI (nI (nF n)) 35 = nI (nF n) from by
      unfold mnI
      rw [if_neg (i32_nlt.mpr (show nI (nF n) ≤ (35 : Int32) from nI_le (a := nF n) (b := 35) k35 (by omega)))]]
    refine ivl2 (B := wy_prepare_B37 (nI n) (nI (nF n)) nu os fr en wm') (fun t a c => a = nI t ∧ (∀ k, k < t → ∀ j, bt (c (35 * n + k)) j = true ↔ STP n k j) ∧ (∀ k, t ≤ k → k < nF n → c (35 * n + k) = 0) ∧ ∀ x, (x < 35 * n ∨ 35 * n + nF n ≤ x) → c x = ne x) (fun o => ∃ ne' wm'', o = some (ne', wm'') ∧ WYs ne' wm'' ∧ WYn n ne') (nF n) ?_ ?_ FU 0 _ _ (by omega) (FU_lt (by omega)) ⟨rfl, fun k hk => by omega, fun k _ hk => b k hk, fun x _ => rfl⟩
    · rintro t ht a' c kq ⟨rfl, h1, h2, h3⟩
      obtain ⟨j1, j2, j3, j4⟩ := mbr_s (k := 2) ⟨hn.1, by omega⟩ (show t < eK 2 n - eK 2 (n - 1) from ht)
      have ct := cat hc hm (k := 2) (by omega) hn.1 hnm j2 j3 j4
      rw [show nI 2 = (2 : Int32) from rfl] at ct
      obtain ⟨W, w1, w2⟩ := near_row hc hm hn hnm ht (nI (nF n)) wm' kq c (h2 t (Nat.le_refl _) ht)
      rw [wy_prepare_B37, if_neg (nI_ge ht (by omega)), ct, bd1_some, w1]
      refine ⟨_, _, ⟨rfl, fun k hk j => ?_, fun k hk1 hk2 => ?_, fun x hx => ?_⟩, rfl⟩
      · by_cases q : k = t
        · show bt (if 35 * n + k = 35 * n + t then W else c (35 * n + k)) j = true ↔ _
          rw [if_pos (by omega), q]; exact w2 j
        · show bt (if 35 * n + k = 35 * n + t then W else c (35 * n + k)) j = true ↔ _
          rw [if_neg (by omega)]; exact h1 k (by omega) j
      · show (if 35 * n + k = 35 * n + t then W else c (35 * n + k)) = 0
        rw [if_neg (by omega)]; exact h2 k (by omega) hk2
      · show (if x = 35 * n + t then W else c x) = ne x
        rw [if_neg (by omega)]; exact h3 x hx
    · rintro a' c kq ⟨rfl, h1, h2, h3⟩
      rw [wy_prepare_B37, if_pos (nI_le (Nat.le_refl _) (by omega)), ck_n (show n < 7 by omega) (by omega), nm_eq, cl_n (show n < 2 ^ 31 by omega), nar1]
      have wn : WYn n c := h1
      refine ⟨_, _, rfl, fun n' a1 a2 => ?_, wn⟩
      by_cases q : n' = n
      · subst q
        exact Or.inr ⟨pk_us, wn⟩
      · have k35' := nF_b a2
        have ext : ∀ k, k < nF n' → c (35 * n' + k) = ne (35 * n' + k) := fun k hk => h3 _ (by omega)
        rcases h n' a1 a2 with ⟨x, y⟩ | ⟨x, y⟩
        · exact Or.inl ⟨by rw [pk_un q]; exact x, fun k hk => by rw [ext k hk]; exact y k hk⟩
        · exact Or.inr ⟨by rw [pk_un q]; exact x, fun k hk j => by rw [ext k hk]; exact y k hk j⟩
  · rw [a, if_neg (by decide)]
    exact ⟨ne, wm', rfl, h, b⟩
