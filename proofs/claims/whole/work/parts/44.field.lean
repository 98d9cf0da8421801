/-! LAYER 2: the reference's field -/
theorem remI_n {a d : Nat} (ha : a < 2 ^ 31) (h0 : 0 < d) (hd : d < 2 ^ 31) : remI (nI a) (nI d) = nI (a % d) := pk_rem ha h0 hd
theorem nar0 : vp_nar .boolean 0 = 0 := by decide
theorem nar1 : vp_nar .boolean 1 = 1 := by decide
theorem nar_b (b : Bool) : vp_nar .boolean (boI b) = boI b := by cases b
                                                                 · exact nar0
                                                                 · exact nar1
theorem mo_clears_eq (F : Nat → Int32) : mo_clears F = some (fun k => if k < 576 then 0 else F k) := by
  unfold mo_clears
  rw [show fl2 mo_clears_B2 FU 0 F = fl2 mo_clears_B2 FU (nI 0) (fun k => if k < 0 then 0 else F k) by rw [nI_0]; congr 1]
  refine crs2 (B := mo_clears_B2) nI (fun i k => if k < i then 0 else F k) 576 (fun i hi k => ?_) (fun k => ?_) FU (FU_lt (by omega))
  · rw [mo_clears_B2, if_neg (show ¬ (576 : Int32) ≤ nI i from nI_ge (a := i) (b := 576) hi (by omega)), ck_n hi (by omega), nm_eq, nm_eq, o1, cl_n (by omega), nar0]
    congr 1
    funext p
    rw [upI]
    by_cases a : p = i
    · rw [if_pos a, if_pos (by omega)]
    · rw [if_neg a]
      by_cases b : p < i
      · rw [if_pos b, if_pos (by omega)]
      · rw [if_neg b, if_neg (by omega)]
  · rw [mo_clears_B2, if_pos (show (576 : Int32) ≤ nI 576 from nI_le (a := 576) (b := 576) (by omega) (by omega))]
def layF (f : Int64) (u v : Int) (b : Int32) (F : Nat → Int32) : Nat → Int32 := fun k => if hB f (((k % 24 : Nat) : Int) - 8 - u) (((k / 24 : Nat) : Int) - 8 - v) = true then b else F k
def ixF (u v : Int) (x y : Nat) : Nat := (24 * ((y : Int) + v + 8) + ((x : Int) + u + 8)).toNat
theorem ixF_n {u v : Int} (hu : -7 ≤ u ∧ u ≤ 7) (hv : -7 ≤ v ∧ v ≤ 7) {x y : Nat} (hx : x < 7) (hy : y < 7) : ixF u v x y < 576 ∧ ((((24 * ((nI y + Int32.ofInt v) + 8)) + nI x) + Int32.ofInt u) + 8 : Int32) = nI (ixF u v x y) := by
  unfold ixF
  refine ⟨by omega, ?_⟩
  rw [nI_iI, nI_iI, nI_iI, show (8 : Int32) = Int32.ofInt 8 from rfl, show (24 : Int32) = Int32.ofInt 24 from rfl, ← Int32.ofInt_add, ← Int32.ofInt_add, ← Int32.ofInt_mul, ← Int32.ofInt_add, ← Int32.ofInt_add, ← Int32.ofInt_add]
  congr 1
  omega
theorem ixF_div {u v : Int} (hu : -7 ≤ u ∧ u ≤ 7) (hv : -7 ≤ v ∧ v ≤ 7) {x y k : Nat} (hx : x < 7) (hy : y < 7) : k = ixF u v x y ↔ ((k % 24 : Nat) : Int) - 8 - u = x ∧ ((k / 24 : Nat) : Int) - 8 - v = y := by
  unfold ixF
  omega
def rowP (f : Int64) (u v : Int) (b : Int32) (y : Nat) (F : Nat → Int32) : Nat → Nat → Int32
  | 0 => F
  | x + 1 => if hB f x y = true then upd (rowP f u v b y F x) (ixF u v x y) b else rowP f u v b y F x
def allP (f : Int64) (u v : Int) (b : Int32) (F : Nat → Int32) : Nat → Nat → Int32
  | 0 => F
  | y + 1 => rowP f u v b y (allP f u v b F y) 7
theorem rowP_k (f : Int64) (u v : Int) (b : Int32) (y : Nat) (F : Nat → Int32) (k : Nat) : ∀ n : Nat, ((∃ x : Nat, x < n ∧ hB f x y = true ∧ k = ixF u v x y) → rowP f u v b y F n k = b) ∧ ((¬ ∃ x : Nat, x < n ∧ hB f x y = true ∧ k = ixF u v x y) → rowP f u v b y F n k = F k) := by
  intro n
  induction n with
  | zero => exact ⟨fun ⟨x, hx, _⟩ => by omega, fun _ => rfl⟩
  | succ n ih =>
    have e : rowP f u v b y F (n + 1) = if hB f n y = true then upd (rowP f u v b y F n) (ixF u v n y) b else rowP f u v b y F n := rfl
    rw [e]
    by_cases q : hB f n y = true
    · rw [if_pos q, upI]
      by_cases c : k = ixF u v n y
      · rw [if_pos c]
        exact ⟨fun _ => rfl, fun h => absurd ⟨n, by omega, q, c⟩ h⟩
      · rw [if_neg c]
        constructor
        · rintro ⟨x, hx, h1, h2⟩
          rcases Nat.lt_or_ge x n with r | r
          · exact ih.1 ⟨x, r, h1, h2⟩
          · have : x = n := by omega
            rw [this] at h2; exact absurd h2 c
        · intro h; exact ih.2 (fun ⟨x, hx, h1⟩ => h ⟨x, by omega, h1⟩)
    · rw [if_neg q]
      constructor
      · rintro ⟨x, hx, h1, h2⟩
        rcases Nat.lt_or_ge x n with r | r
        · exact ih.1 ⟨x, r, h1, h2⟩
        · have : x = n := by omega
          rw [this] at h1; exact absurd h1 q
      · intro h; exact ih.2 (fun ⟨x, hx, h1⟩ => h ⟨x, by omega, h1⟩)
theorem allP_k (f : Int64) (u v : Int) (b : Int32) (F : Nat → Int32) (k : Nat) : ∀ n : Nat, ((∃ y x : Nat, y < n ∧ x < 7 ∧ hB f x y = true ∧ k = ixF u v x y) → allP f u v b F n k = b) ∧ ((¬ ∃ y x : Nat, y < n ∧ x < 7 ∧ hB f x y = true ∧ k = ixF u v x y) → allP f u v b F n k = F k) := by
  intro n
  induction n with
  | zero => exact ⟨fun ⟨y, x, hy, _⟩ => by omega, fun _ => rfl⟩
  | succ n ih =>
    have h := rowP_k f u v b n (allP f u v b F n) k 7
    have e : allP f u v b F (n + 1) k = rowP f u v b n (allP f u v b F n) 7 k := rfl
    rw [e]
    constructor
    · rintro ⟨y, x, hy, hx, h1, h2⟩
      rcases Nat.lt_or_ge y n with r | r
      · by_cases q : ∃ x : Nat, x < 7 ∧ hB f x n = true ∧ k = ixF u v x n
        · exact h.1 q
        · rw [h.2 q]; exact ih.1 ⟨y, x, r, hx, h1, h2⟩
      · have : y = n := by omega
        rw [this] at h1 h2
        exact h.1 ⟨x, hx, h1, h2⟩
    · intro hn
      rw [h.2 (fun ⟨x, hx, h1⟩ => hn ⟨n, x, by omega, hx, h1⟩)]
      exact ih.2 (fun ⟨y, x, hy, h1⟩ => hn ⟨y, x, by omega, h1⟩)
theorem allP_lay {f : Int64} (hf : F77 f) {u v : Int} (hu : -7 ≤ u ∧ u ≤ 7) (hv : -7 ≤ v ∧ v ≤ 7) (b : Int32) (F : Nat → Int32) : allP f u v b F 7 = layF f u v b F := by
  funext k
  have h := allP_k f u v b F k 7
  unfold layF
  by_cases q : hB f (((k % 24 : Nat) : Int) - 8 - u) (((k / 24 : Nat) : Int) - 8 - v) = true
  · rw [if_pos q]
    have hr : 0 ≤ ((k % 24 : Nat) : Int) - 8 - u ∧ ((k % 24 : Nat) : Int) - 8 - u < 7 ∧ 0 ≤ ((k / 24 : Nat) : Int) - 8 - v ∧ ((k / 24 : Nat) : Int) - 8 - v < 7 := Classical.byContradiction (fun h => by rw [hB_77 hf h] at q; cases q)
    generalize hX : ((k % 24 : Nat) : Int) - 8 - u = X at q hr
    generalize hY : ((k / 24 : Nat) : Int) - 8 - v = Y at q hr
    have eX : ((X.toNat : Nat) : Int) = X := by omega
    have eY : ((Y.toNat : Nat) : Int) = Y := by omega
    exact h.1 ⟨Y.toNat, X.toNat, by omega, by omega, by rw [eX, eY]; exact q, (ixF_div hu hv (by omega) (by omega)).mpr ⟨by rw [hX, eX], by rw [hY, eY]⟩⟩
  · rw [if_neg q]
    refine h.2 (fun ⟨y, x, hy, hx, h1, h2⟩ => q ?_)
    obtain ⟨e1, e2⟩ := (ixF_div hu hv hx hy).mp h2
    rw [e1, e2]; exact h1
theorem mo_isCell_n (f : Int64) {x y : Nat} (hx : x < 50) (hy : y < 50) : mo_isCell f (nI x) (nI y) = some (boI (hB f x y)) := mo_isCell_i f (x := (x : Int)) (y := (y : Int)) (by omega) (by omega)
theorem mo_lays_eq {f : Int64} (hf : F77 f) {u v : Int} (hu : -7 ≤ u ∧ u ≤ 7) (hv : -7 ≤ v ∧ v ≤ 7) {b : Int32} (hb : b = 0 ∨ b = 1) (F : Nat → Int32) : mo_lays f (Int32.ofInt u) (Int32.ofInt v) b F = some (layF f u v b F) := by
  have hnb : vp_nar .boolean b = b := by
    rcases hb with rfl | rfl
    · exact nar0
    · exact nar1
  rw [← allP_lay hf hu hv]
  unfold mo_lays
  rw [show fl2 (mo_lays_B3 f (Int32.ofInt u) (Int32.ofInt v) b) FU 0 F = fl2 (mo_lays_B3 f (Int32.ofInt u) (Int32.ofInt v) b) FU (nI 0) (allP f u v b F 0) by rw [nI_0]; rfl]
  refine crs2 (B := mo_lays_B3 f (Int32.ofInt u) (Int32.ofInt v) b) nI (allP f u v b F) 7 (fun y hy K => ?_) (fun K => ?_) FU (FU_lt (by omega))
  · rw [mo_lays_B3, if_neg (show ¬ (7 : Int32) ≤ nI y from nI_ge (a := y) (b := 7) hy (by omega)), show fl2 (mo_lays_B13 f (Int32.ofInt u) (Int32.ofInt v) b (nI y) K) FU 0 (allP f u v b F y) = fl2 (mo_lays_B13 f (Int32.ofInt u) (Int32.ofInt v) b (nI y) K) FU (nI 0) (rowP f u v b y (allP f u v b F y) 0) by rw [nI_0]; rfl]
    refine crs2 (B := mo_lays_B13 f (Int32.ofInt u) (Int32.ofInt v) b (nI y) K) nI (rowP f u v b y (allP f u v b F y)) 7 (fun x hx K2 => ?_) (fun K2 => ?_) FU (FU_lt (by omega))
    · obtain ⟨i1, i2⟩ := ixF_n hu hv hx hy
      have e : rowP f u v b y (allP f u v b F y) (x + 1) = if hB f x y = true then upd (rowP f u v b y (allP f u v b F y) x) (ixF u v x y) b else rowP f u v b y (allP f u v b F y) x := rfl
      rw [mo_lays_B13, if_neg (show ¬ (7 : Int32) ≤ nI x from nI_ge (a := x) (b := 7) hx (by omega)), mo_isCell_n f (by omega) (by omega), bd1_some, e]
      unfold mo_lays_J57
      cases hc : hB f x y with
      | false => rw [if_pos (by decide), nm_eq, o1]; rfl
      | true => rw [if_neg (by decide), nm_eq, i2, ck_n i1 (by omega), nm_eq, nm_eq, o1, cl_n (by omega), hnb, if_pos rfl]
    · rw [mo_lays_B13, if_pos (show (7 : Int32) ≤ nI 7 from nI_le (a := 7) (b := 7) (by omega) (by omega)), nm_eq, o1]; rfl
  · rw [mo_lays_B3, if_pos (show (7 : Int32) ≤ nI 7 from nI_le (a := 7) (b := 7) (by omega) (by omega))]
/-! taken -/
def accF (F : Nat → Int32) (L T : Nat) : Nat → Int64
  | 0 => 0
  | k + 1 => if F k = 0 then accF F L T k else accF F L T k ||| sl 1 (nI (8 * (k / 24 - T) + (k % 24 - L)))
theorem accF_bt {F : Nat → Int32} {L T : Nat} : ∀ n, (∀ k, k < n → F k ≠ 0 → k % 24 - L ≤ 6 ∧ k / 24 - T ≤ 6) → ∀ i, bt (accF F L T n) i = true ↔ ∃ k, k < n ∧ F k ≠ 0 ∧ i = 8 * (k / 24 - T) + (k % 24 - L) := by
  intro n
  induction n with
  | zero =>
    intro _ i
    constructor
    · intro h
      have h2 : bt 0 i = true := h
      rw [bt_zero] at h2; cases h2
    · rintro ⟨k, hk, _⟩; omega
  | succ n ih =>
    intro hs i
    have h1 := ih (fun k hk => hs k (by omega)) i
    show bt (if F n = 0 then accF F L T n else accF F L T n ||| sl 1 (nI (8 * (n / 24 - T) + (n % 24 - L)))) i = true ↔ _
    by_cases q : F n = 0
    · rw [if_pos q, h1]
      constructor
      · rintro ⟨k, a, b⟩; exact ⟨k, by omega, b⟩
      · rintro ⟨k, a, b, c⟩
        refine ⟨k, ?_, b, c⟩
        rcases Nat.lt_or_ge k n with q2 | q2
        · exact q2
        · have : k = n := by omega
          rw [this] at b; exact absurd q b
    · have := hs n (by omega) q
      rw [if_neg q, bt_or, Bool.or_eq_true, h1, bt_one (by omega)]
      constructor
      · rintro (⟨k, a, b⟩ | h)
        · exact ⟨k, by omega, b⟩
        · exact ⟨n, by omega, q, h⟩
      · rintro ⟨k, a, b, c⟩
        rcases Nat.lt_or_ge k n with q2 | q2
        · exact Or.inl ⟨k, q2, b, c⟩
        · have : k = n := by omega
          rw [this] at c; exact Or.inr c
theorem taken2_step {F : Nat → Int32} {L T : Nat} (hL : L ≤ 24) (hT : T ≤ 24) {k : Nat} (hk : k < 576) (hm : F k ≠ 0 → L ≤ k % 24 ∧ T ≤ k / 24) (hg : F k ≠ 0 → k % 24 - L ≤ 6 ∧ k / 24 - T ≤ 6) (K : Int64 → Int32 → Option Int64) : mo_taken_B59 (nI L) (nI T) F K (accF F L T k) (nI k) = K (accF F L T (k + 1)) (nI (k + 1)) := by
  rw [mo_taken_B59, if_neg (show ¬ (576 : Int32) ≤ nI k from nI_ge (a := k) (b := 576) hk (by omega)), ck_n hk (by omega), cl_n (by omega)]
  unfold mo_taken_J124
  show _ = K (if F k = 0 then accF F L T k else accF F L T k ||| sl 1 (nI (8 * (k / 24 - T) + (k % 24 - L)))) _
  by_cases q : F k = 0
  · rw [if_pos q, if_pos q, nm_eq, o1]
  · have a := hm q
    have b := hg q
    rw [if_neg q, if_neg q, show (24 : Int32) = nI 24 from rfl, dzI_n (by decide), nm_eq, dzI_n (by decide), nm_eq, remI_n (by omega) (by omega) (by omega), pk_div (by omega) (by omega) (by omega), pk_sub a.1, pk_sub a.2, if_neg (show ¬ (6 : Int32) < nI (k % 24 - L) from nI_nlt (a := 6) (b := k % 24 - L) (by omega) (by omega)), if_pos (show nI (k / 24 - T) ≤ (6 : Int32) from nI_le (a := k / 24 - T) (b := 6) (by omega) (by omega))]
    unfold mo_cellBit
    rw [bd1_some, nm_eq, nm_eq, o1, ix_eq]
theorem taken2_bad {F : Nat → Int32} {L T : Nat} (hL : L ≤ 24) (hT : T ≤ 24) {k : Nat} (hk : k < 576) (h0 : F k ≠ 0) (hm : L ≤ k % 24 ∧ T ≤ k / 24) (hb : 6 < k % 24 - L ∨ 6 < k / 24 - T) (a : Int64) (K : Int64 → Int32 → Option Int64) : mo_taken_B59 (nI L) (nI T) F K a (nI k) = some 0 := by
  rw [mo_taken_B59, if_neg (show ¬ (576 : Int32) ≤ nI k from nI_ge (a := k) (b := 576) hk (by omega)), ck_n hk (by omega), cl_n (by omega), if_neg h0, show (24 : Int32) = nI 24 from rfl, dzI_n (by decide), nm_eq, dzI_n (by decide), nm_eq, remI_n (by omega) (by omega) (by omega), pk_div (by omega) (by omega) (by omega), pk_sub hm.1, pk_sub hm.2]
  by_cases q : 6 < k % 24 - L
  · rw [if_pos (show (6 : Int32) < nI (k % 24 - L) from nI_lt (a := 6) (b := k % 24 - L) q (by omega))]
  · rw [if_neg (show ¬ (6 : Int32) < nI (k % 24 - L) from nI_nlt (a := 6) (b := k % 24 - L) (by omega) (by omega)), if_neg (show ¬ nI (k / 24 - T) ≤ (6 : Int32) from nI_ge (a := 6) (b := k / 24 - T) (by omega) (by omega))]
theorem taken1_go {F : Nat → Int32} : ∀ (n m L T : Nat), m ≤ 576 → m < n → L ≤ 24 → T ≤ 24 → (∀ k, m ≤ k → k < 576 → F k ≠ 0 → L ≤ k % 24 ∧ T ≤ k / 24) → ((L = 24 ∧ ∀ k, m ≤ k → k < 576 → F k = 0) ∨ ((∃ k, k < 576 ∧ F k ≠ 0 ∧ k % 24 = L) ∧ ∃ k, k < 576 ∧ F k ≠ 0 ∧ k / 24 = T)) → ∃ L' T', L' ≤ 24 ∧ T' ≤ 24 ∧ (∀ k, k < 576 → F k ≠ 0 → L' ≤ k % 24 ∧ T' ≤ k / 24) ∧ ((∀ k, k < 576 → F k = 0) ∨ ((∃ k, k < 576 ∧ F k ≠ 0 ∧ k % 24 = L') ∧ ∃ k, k < 576 ∧ F k ≠ 0 ∧ k / 24 = T')) ∧ fl3 (mo_taken_B10 F) n (nI L) (nI T) (Int32.ofInt ((m : Int) - 1)) = fl2 (mo_taken_B59 (nI L') (nI T') F) FU 0 0 := by
  intro n
  induction n with
  | zero => intro m L T _ h; omega
  | succ n ih =>
    intro m L T hm hn hL hT h1 h2
    show ∃ L' T', _ ∧ _ ∧ _ ∧ _ ∧ mo_taken_B10 F (fl3 (mo_taken_B10 F) n) (nI L) (nI T) (Int32.ofInt ((m : Int) - 1)) = _
    rw [mo_taken_B10]
    cases m with
    | zero =>
      rw [if_pos (by decide)]
      exact ⟨L, T, hL, hT, fun k hk => h1 k (by omega) hk, h2.imp (fun h k hk => h.2 k (by omega) hk) id, rfl⟩
    | succ m =>
      have em : Int32.ofInt (((m + 1 : Nat) : Int) - 1) = nI m := by rw [nI_iI]; congr 1; omega
      have em2 : nI m + Int32.ofInt (-1) = Int32.ofInt ((m : Int) - 1) := by rw [nI_iI, ← Int32.ofInt_add]; congr 1
      rw [em, if_neg (nI_pos (by omega)), ck_n (show m < 576 by omega) (by omega), cl_n (by omega)]
      unfold mo_taken_J42 mo_taken_J48
      by_cases q : F m = 0
      · rw [if_pos q, nm_eq, em2]
        refine ih m L T (by omega) (by omega) hL hT (fun k a b c => ?_) (h2.imp (fun h => ⟨h.1, fun k a b => ?_⟩) id)
        · rcases Nat.eq_or_lt_of_le a with e | e
          · rw [← e] at c; exact absurd q c
          · exact h1 k (by omega) b c
        · rcases Nat.eq_or_lt_of_le a with e | e
          · rw [← e]; exact q
          · exact h.2 k (by omega) b
      · rw [if_neg q]
        simp only [show (24 : Int32) = nI 24 from rfl, dzI_n (show ¬ nI 24 = 0 by decide), remI_n (show m < 2 ^ 31 by omega) (show 0 < 24 by omega) (show 24 < 2 ^ 31 by omega), pk_div (show m < 2 ^ 31 by omega) (show 0 < 24 by omega) (show 24 < 2 ^ 31 by omega), nm_eq, em2]
        have htop : ∀ k, m ≤ k → k < 576 → m / 24 ≤ k / 24 := fun k a _ => by omega
        by_cases c : L ≤ m % 24
        · rw [if_pos (nI_le c (by omega))]
          refine ih m L (m / 24) (by omega) (by omega) hL (by omega) (fun k a b d => ⟨?_, htop k a b⟩) (Or.inr ⟨?_, m, by omega, q, rfl⟩)
          · rcases Nat.eq_or_lt_of_le a with e | e
            · rw [← e]; exact c
            · exact (h1 k (by omega) b d).1
          · rcases h2 with h | h
            · exfalso
              have := h.1
              omega
            · exact h.1
        · rw [if_neg (nI_ge (by omega) (by omega))]
          refine ih m (m % 24) (m / 24) (by omega) (by omega) (by omega) (by omega) (fun k a b d => ⟨?_, htop k a b⟩) (Or.inr ⟨⟨m, by omega, q, rfl⟩, m, by omega, q, rfl⟩)
          rcases Nat.eq_or_lt_of_le a with e | e
          · rw [← e]; exact Nat.le_refl _
          · have := (h1 k (by omega) b d).1; omega
noncomputable def figB (f : Int64) : Bool := @decide (FIG f) (Classical.propDecidable _)
theorem figB_t {f : Int64} : figB f = true ↔ FIG f := by unfold figB; exact @decide_eq_true_iff _ (Classical.propDecidable _)
theorem mo_isFigure_b (f : Int64) : mo_isFigure f = some (boI (figB f)) := by
  cases h : figB f with
  | true => rw [(mo_isFigure_eq f).1 (figB_t.mp h)]; rfl
  | false => rw [(mo_isFigure_eq f).2 (fun q => by rw [figB_t.mpr q] at h; cases h)]; rfl
theorem gr_isFigure_b (f : Int64) : gr_isFigure f = some (boI (figB f)) := by
  cases h : figB f with
  | true => rw [(gr_isFigure_eq f).1 (figB_t.mp h)]; rfl
  | false => rw [(gr_isFigure_eq f).2 (fun q => by rw [figB_t.mpr q] at h; cases h)]; rfl
theorem figB_0 : figB 0 = false := by
  cases h : figB 0 with
  | false => rfl
  | true => exact absurd rfl (figB_t.mp h).ne
/-- what is taken: nothing, too wide, or what lies there, settled -/
theorem mo_taken_eq (F : Nat → Int32) : ((∀ k, k < 576 → F k = 0) → mo_taken F = some 0) ∧ ((∃ k, k < 576 ∧ F k ≠ 0) → ∃ L T, (∃ k, k < 576 ∧ F k ≠ 0 ∧ k % 24 = L) ∧ (∃ k, k < 576 ∧ F k ≠ 0 ∧ k / 24 = T) ∧ (∀ k, k < 576 → F k ≠ 0 → L ≤ k % 24 ∧ T ≤ k / 24) ∧ ((∃ k, k < 576 ∧ F k ≠ 0 ∧ (6 < k % 24 - L ∨ 6 < k / 24 - T)) → mo_taken F = some 0) ∧ ((∀ k, k < 576 → F k ≠ 0 → k % 24 - L ≤ 6 ∧ k / 24 - T ≤ 6) → ∃ f, (∀ i, bt f i = true ↔ ∃ k, k < 576 ∧ F k ≠ 0 ∧ i = 8 * (k / 24 - T) + (k % 24 - L)) ∧ mo_taken F = some (if figB f then f else 0))) := by
  obtain ⟨L, T, hL, hT, hm, hx, e⟩ := taken1_go (F := F) FU 576 24 24 (by omega) (FU_lt (by omega)) (by omega) (by omega) (fun k a b _ => by omega) (Or.inl ⟨rfl, fun k a b => by omega⟩)
  have e' : mo_taken F = fl2 (mo_taken_B59 (nI L) (nI T) F) FU 0 0 := e
  have good : (∀ k, k < 576 → F k ≠ 0 → k % 24 - L ≤ 6 ∧ k / 24 - T ≤ 6) → mo_taken F = some (if figB (accF F L T 576) then accF F L T 576 else 0) := by
    intro hg
    rw [e', show fl2 (mo_taken_B59 (nI L) (nI T) F) FU 0 0 = fl2 (mo_taken_B59 (nI L) (nI T) F) FU (accF F L T 0) (nI 0) by rw [nI_0]; rfl]
    refine crs2 (B := mo_taken_B59 (nI L) (nI T) F) (accF F L T) nI 576 (fun k hk K => taken2_step hL hT hk (hm k hk) (hg k hk) K) (fun K => ?_) FU (FU_lt (by omega))
    rw [mo_taken_B59, if_pos (show (576 : Int32) ≤ nI 576 from nI_le (a := 576) (b := 576) (by omega) (by omega)), mo_isFigure_b, bd1_some]
    by_cases z : accF F L T 576 = 0
    · rw [if_pos z, z, figB_0]; rfl
    · rw [if_neg z]
      cases figB (accF F L T 576) <;> rfl
  constructor
  · intro h0
    rw [good (fun k hk h => absurd (h0 k hk) h)]
    have z : accF F L T 576 = 0 := by
      apply bt_ext
      intro i _
      rw [bt_zero]
      refine bf_of (fun hb => ?_)
      obtain ⟨k, hk, h, _⟩ := (accF_bt 576 (fun k hk h => absurd (h0 k hk) h) i).mp hb
      exact h (h0 k hk)
    rw [z, figB_0]; rfl
  · rintro ⟨k0, hk0, h0⟩
    rcases hx with hx | hx
    · exact absurd (hx k0 hk0) h0
    · refine ⟨L, T, hx.1, hx.2, hm, fun hbad => ?_, fun hg => ⟨accF F L T 576, accF_bt 576 hg, good hg⟩⟩
      obtain ⟨N, hN, hb, hf⟩ := fb_first (p := fun k => F k ≠ 0 ∧ (6 < k % 24 - L ∨ 6 < k / 24 - T)) hbad
      rw [e', show fl2 (mo_taken_B59 (nI L) (nI T) F) FU 0 0 = fl2 (mo_taken_B59 (nI L) (nI T) F) FU (accF F L T 0) (nI 0) by rw [nI_0]; rfl]
      exact crs2 (B := mo_taken_B59 (nI L) (nI T) F) (accF F L T) nI N (fun k hk K => taken2_step hL hT (by omega) (hm k (by omega)) (fun h => Classical.byContradiction (fun q => hf k hk ⟨h, by omega⟩)) K) (fun K => taken2_bad hL hT hN hb.1 (hm N hN hb.1) hb.2 _ K) FU (FU_lt (by omega))
