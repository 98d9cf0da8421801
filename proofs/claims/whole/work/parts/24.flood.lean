/-! LAYER 2: floods: what hangs together -/
theorem k_255 {i : Nat} (h : i < 64) : bt 255 i = decide (i < 8) := by
  have : ∀ i : Fin 64, bt 255 i.val = decide (i.val < 8) := by decide +kernel
  exact this ⟨i, h⟩
theorem k_col {i : Nat} (h : i < 64) : bt 72340172838076673 i = decide (i % 8 = 0) := by
  have : ∀ i : Fin 64, bt 72340172838076673 i.val = decide (i.val % 8 = 0) := by decide +kernel
  exact this ⟨i, h⟩
theorem k_7F {i : Nat} (h : i < 64) : bt 9187201950435737471 i = decide (¬ i % 8 = 7) := by
  have : ∀ i : Fin 64, bt 9187201950435737471 i.val = decide (¬ i.val % 8 = 7) := by decide +kernel
  exact this ⟨i, h⟩
theorem k_FE {i : Nat} (h : i < 64) : bt (-72340172838076674) i = decide (¬ i % 8 = 0) := by
  have : ∀ i : Fin 64, bt (-72340172838076674) i.val = decide (¬ i.val % 8 = 0) := by decide +kernel
  exact this ⟨i, h⟩
theorem k_out {i : Nat} (h : i < 64) : bt (-35887507618889600) i = decide (¬ (i % 8 < 7 ∧ i < 56)) := by
  have : ∀ i : Fin 64, bt (-35887507618889600) i.val = decide (¬ (i.val % 8 < 7 ∧ i.val < 56)) := by decide +kernel
  exact this ⟨i, h⟩
theorem adj_symm {a b : Nat} (h : adj a b) : adj b a := by unfold adj at h ⊢; omega
def nb (x : Int64) (i : Nat) : Prop := ∃ j, adj i j ∧ bt x j = true
theorem bt_lt {x : Int64} {i : Nat} (h : bt x i = true) : i < 64 := by
  rcases Nat.lt_or_ge i 64 with q | q
  · exact q
  · rw [bt_big q] at h; cases h
theorem nb_iff (x : Int64) {i : Nat} : nb x i ↔ (¬ i % 8 = 7 ∧ bt x (1 + i) = true) ∨ (¬ i % 8 = 0 ∧ bt x (i - 1) = true) ∨ bt x (8 + i) = true ∨ (8 ≤ i ∧ bt x (i - 8) = true) := by
  constructor
  · rintro ⟨j, h, hb⟩
    unfold adj at h
    rcases (show (j = 1 + i ∧ ¬ i % 8 = 7) ∨ (j = i - 1 ∧ ¬ i % 8 = 0) ∨ j = 8 + i ∨ (8 ≤ i ∧ j = i - 8) by omega) with q | q | q | q
    · exact Or.inl ⟨q.2, q.1 ▸ hb⟩
    · exact Or.inr (Or.inl ⟨q.2, q.1 ▸ hb⟩)
    · exact Or.inr (Or.inr (Or.inl (q ▸ hb)))
    · exact Or.inr (Or.inr (Or.inr ⟨q.1, q.2 ▸ hb⟩))
  · rintro (q | q | q | q)
    · exact ⟨1 + i, by unfold adj; omega, q.2⟩
    · exact ⟨i - 1, by unfold adj; omega, q.2⟩
    · exact ⟨8 + i, by unfold adj; omega, q⟩
    · exact ⟨i - 8, by unfold adj; omega, q.2⟩
def gar (x : Int64) : Int64 := (((sl x 1) ||| (su x 1)) ||| (sl x 8)) ||| (su x 8)
theorem gr_around_eq (x : Int64) : gr_around x = some (gar x) := rfl
def mar (x : Int64) : Int64 := (((((su x 1) &&& 9187201950435737471) ||| ((sl x 1) &&& (-72340172838076674))) ||| (su x 8)) ||| (sl x 8)) &&& (x ^^^ (-1))
theorem mo_around_eq (x : Int64) : mo_around x = some (mar x) := rfl
theorem bt_gar (x : Int64) {i : Nat} (hi : i < 64) : bt (gar x) i = (((decide (1 ≤ i) && bt x (i - 1)) || bt x (1 + i)) || (decide (8 ≤ i) && bt x (i - 8)) || bt x (8 + i)) := by
  unfold gar
  rw [bt_or, bt_or, bt_or, show sl x 1 = sl x (nI 1) from rfl, show su x 1 = su x (nI 1) from rfl, show sl x 8 = sl x (nI 8) from rfl, show su x 8 = su x (nI 8) from rfl, bt_sl x (by omega) hi, bt_su x (by omega), bt_sl x (by omega) hi, bt_su x (by omega)]
theorem bt_mar (x : Int64) {i : Nat} (hi : i < 64) : bt (mar x) i = ((((bt x (1 + i) && decide (¬ i % 8 = 7)) || ((decide (1 ≤ i) && bt x (i - 1)) && decide (¬ i % 8 = 0)) || bt x (8 + i)) || (decide (8 ≤ i) && bt x (i - 8))) && !(bt x i)) := by
  unfold mar
  rw [bt_and, bt_or, bt_or, bt_or, bt_and, bt_and, bt_xor, k_7F hi, k_FE hi, bt_m1 hi, show sl x 1 = sl x (nI 1) from rfl, show su x 1 = su x (nI 1) from rfl, show sl x 8 = sl x (nI 8) from rfl, show su x 8 = su x (nI 8) from rfl, bt_sl x (by omega) hi, bt_su x (by omega), bt_sl x (by omega) hi, bt_su x (by omega)]
  cases bt x i <;> simp
theorem mar_nb (x : Int64) {i : Nat} (hi : i < 64) : bt (mar x) i = true ↔ nb x i ∧ bt x i = false := by
  rw [bt_mar x hi, nb_iff]
  simp only [Bool.and_eq_true, Bool.or_eq_true, decide_eq_true_eq, Bool.not_eq_true']
  constructor
  · rintro ⟨((q | q) | q) | q, h⟩
    · exact ⟨Or.inl ⟨q.2, q.1⟩, h⟩
    · exact ⟨Or.inr (Or.inl ⟨q.2, q.1.2⟩), h⟩
    · exact ⟨Or.inr (Or.inr (Or.inl q)), h⟩
    · exact ⟨Or.inr (Or.inr (Or.inr q)), h⟩
  · rintro ⟨q | q | q | q, h⟩
    · exact ⟨Or.inl (Or.inl (Or.inl ⟨q.2, q.1⟩)), h⟩
    · exact ⟨Or.inl (Or.inl (Or.inr ⟨⟨by omega, q.2⟩, q.1⟩)), h⟩
    · exact ⟨Or.inl (Or.inr q), h⟩
    · exact ⟨Or.inr q, h⟩
def C7 (x : Int64) : Prop := ∀ i, bt x i = true → i % 8 < 7
theorem gar_nb {x : Int64} (hx : C7 x) {i : Nat} (hi : i < 64) (h7 : i % 8 < 7) : bt (gar x) i = true ↔ nb x i := by
  rw [bt_gar x hi, nb_iff]
  simp only [Bool.and_eq_true, Bool.or_eq_true, decide_eq_true_eq]
  constructor
  · rintro (((q | q) | q) | q)
    · refine Or.inr (Or.inl ⟨fun h => ?_, q.2⟩)
      have := hx _ q.2
      omega
    · exact Or.inl ⟨by omega, q⟩
    · exact Or.inr (Or.inr (Or.inr q))
    · exact Or.inr (Or.inr (Or.inl q))
  · rintro (q | q | q | q)
    · exact Or.inl (Or.inl (Or.inr q.2))
    · exact Or.inl (Or.inl (Or.inl ⟨by omega, q.2⟩))
    · exact Or.inr q
    · exact Or.inl (Or.inr q)
def sub (a b : Int64) : Prop := ∀ i, bt a i = true → bt b i = true
theorem C7.sub {a b : Int64} (h : C7 b) (s : sub a b) : C7 a := fun i hi => h i (s i hi)
/-- a step of a flood, by its bits -/
def FStp (seen G next : Int64) : Prop := ∀ i, bt next i = true ↔ (bt seen i = true ∨ (bt G i = true ∧ nb seen i))
theorem stp_c {seen G : Int64} (hG : C7 G) (hs : sub seen G) : FStp seen G (seen ||| (gar seen &&& G)) := by
  intro i
  rw [bt_or, bt_and, Bool.or_eq_true, Bool.and_eq_true]
  constructor
  · rintro (h | ⟨h1, h2⟩)
    · exact Or.inl h
    · exact Or.inr ⟨h2, (gar_nb (hG.sub hs) (bt_lt h2) (hG i h2)).mp h1⟩
  · rintro (h | ⟨h1, h2⟩)
    · exact Or.inl h
    · exact Or.inr ⟨(gar_nb (hG.sub hs) (bt_lt h1) (hG i h1)).mpr h2, h1⟩
theorem stp_m {seen G : Int64} : FStp seen G (seen ||| (mar seen &&& G)) := by
  intro i
  rw [bt_or, bt_and, Bool.or_eq_true, Bool.and_eq_true]
  constructor
  · rintro (h | ⟨h1, h2⟩)
    · exact Or.inl h
    · exact Or.inr ⟨h2, ((mar_nb seen (bt_lt h2)).mp h1).1⟩
  · rintro (h | ⟨h1, h2⟩)
    · exact Or.inl h
    · cases hb : bt seen i with
      | true => exact Or.inl rfl
      | false => exact Or.inr ⟨(mar_nb seen (bt_lt h1)).mpr ⟨h2, hb⟩, h1⟩
abbrev ClS (S G : Int64) (i : Nat) : Prop := Cl (fun a => bt S a = true) (fun a => bt G a = true) i
def Fld (S G seen : Int64) : Prop := sub seen G ∧ (∀ i, bt S i = true → bt G i = true → bt seen i = true) ∧ ∀ i, bt seen i = true → ClS S G i
theorem Fld.step {S G seen next : Int64} (h : Fld S G seen) (hs : FStp seen G next) : Fld S G next ∧ sub seen next := by
  obtain ⟨h1, h2, h3⟩ := h
  refine ⟨⟨fun i hi => ?_, fun i a b => (hs i).mpr (Or.inl (h2 i a b)), fun i hi => ?_⟩, fun i hi => (hs i).mpr (Or.inl hi)⟩
  · rcases (hs i).mp hi with q | q
    · exact h1 i q
    · exact q.1
  · rcases (hs i).mp hi with q | ⟨q, j, ha, hj⟩
    · exact h3 i q
    · refine ⟨q, fun T t1 t2 => t2 j i (h1 j hj) q (adj_symm ha) ((h3 j hj).2 T t1 t2)⟩
theorem Fld.done {S G seen : Int64} (h : Fld S G seen) (hs : FStp seen G seen) : ∀ i, bt seen i = true ↔ ClS S G i := by
  obtain ⟨h1, h2, h3⟩ := h
  intro i
  refine ⟨h3 i, fun hc => hc.2 (fun a => bt seen a = true) h2 (fun a b ga gb hab ha => (hs b).mpr (Or.inr ⟨gb, a, adj_symm hab, ha⟩))⟩
theorem cnt_mono {a b : Int64} (h : sub a b) : cnt a ≤ cnt b := fb_ct_sub (fun k _ hk => h k hk)
theorem cnt_lt {a b : Int64} (h : sub a b) (hne : a ≠ b) : cnt a < cnt b := by
  have h1 : ∃ i, i < 64 ∧ bt b i = true ∧ bt a i = false := by
    apply Classical.byContradiction
    intro hn
    apply hne
    apply bt_ext
    intro i hi
    cases ha : bt a i with
    | true => exact (h i ha).symm
    | false =>
      cases hb : bt b i with
      | false => rfl
      | true => exact absurd ⟨i, hi, hb, ha⟩ hn
  obtain ⟨i, hi, hb, ha⟩ := h1
  have h2 := fb_ct_upd (bt a) true (i := i) (n := 64) hi
  have h3 : fb_ct (fun k => if k = i then true else bt a k) 64 ≤ cnt b := fb_ct_sub (fun k _ hk => by
    by_cases q : k = i
    · rw [q]; exact hb
    · rw [if_neg q] at hk; exact h k hk)
  rw [ha] at h2
  have h4 : fb_ct (fun k => if k = i then true else bt a k) 64 = cnt a + 1 := by
    have h5 : fb_ct (bt a) 64 = cnt a := rfl
    rw [h5] at h2
    simpa using h2
  omega
theorem C7_cnt {G : Int64} (hG : C7 G) : cnt G < 64 := by
  rcases Nat.lt_or_ge (cnt G) 64 with q | q
  · exact q
  · have h1 : cnt G = 64 := Nat.le_antisymm (cnt_le G) q
    have h2 := fb_ct_all.mp h1 7 (by omega)
    have := hG 7 h2
    omega
theorem reach_go {S G : Int64} (hG : C7 G) : ∀ (n d : Nat) (seen : Int64), d ≤ 64 → 64 - d < n → d ≤ cnt seen → Fld S G seen → ∃ R, fl2 (gr_reach_B8 G) n seen (nI d) = some R ∧ ∀ i, bt R i = true ↔ ClS S G i := by
  intro n
  induction n with
  | zero => intro d seen _ h; omega
  | succ n ih =>
    intro d seen hd hn hc hF
    show ∃ R, gr_reach_B8 G (fl2 (gr_reach_B8 G) n) seen (nI d) = some R ∧ _
    have hlt : cnt seen < 64 := Nat.lt_of_le_of_lt (cnt_mono hF.1) (C7_cnt hG)
    rw [gr_reach_B8, if_neg (show ¬ (64 : Int32) ≤ nI d from nI_ge (a := d) (b := 64) (by omega) (by omega)), gr_around_eq, bd1_some, nm_eq]
    have hs := stp_c hG hF.1
    by_cases q : (seen ||| (gar seen &&& G)) = seen
    · rw [if_pos q]
      rw [q] at hs
      exact ⟨seen, rfl, hF.done hs⟩
    · rw [if_neg q, nm_eq, show Int32.ofInt 1 = nI 1 by decide, nI_add]
      obtain ⟨hF2, hsub⟩ := hF.step hs
      have := cnt_lt hsub (fun e => q e.symm)
      exact ih (d + 1) _ (by omega) (by omega) (by omega) hF2
theorem gr_reach_eq {S G : Int64} (hG : C7 G) : ∃ R, gr_reach S G = some R ∧ ∀ i, bt R i = true ↔ ClS S G i := by
  unfold gr_reach
  rw [nm_eq, show (0 : Int32) = nI 0 from nI_0.symm]
  refine reach_go hG FU 0 _ (by omega) (FU_lt (by omega)) (Nat.zero_le _) ⟨fun i hi => ?_, fun i a b => ?_, fun i hi => ?_⟩
  · rw [bt_and, Bool.and_eq_true] at hi; exact hi.2
  · rw [bt_and, a, b]; rfl
  · rw [bt_and, Bool.and_eq_true] at hi
    exact ⟨hi.2, fun T t1 _ => t1 i hi.1 hi.2⟩
theorem hangs_iff {f R s : Int64} {k : Nat} (hk : low f k) (hs : ∀ i, bt s i = true ↔ i = k) (hR : ∀ i, bt R i = true ↔ ClS s f i) : R = f ↔ CON f := by
  have hf : f ≠ 0 := fun e => by have := hk.2.1; rw [e, bt_zero] at this; cases this
  constructor
  · intro e
    refine ⟨hf, fun T ⟨a, ha, hTa⟩ hc b hb => ?_⟩
    by_cases hkT : T k
    · have h1 : ClS s f b := (hR b).mp (e ▸ hb)
      exact h1.2 T (fun c hs' _ => ((hs c).mp hs') ▸ hkT) hc
    · have h1 : ClS s f a := (hR a).mp (e ▸ ha)
      exact absurd hTa (h1.2 (fun i => ¬ T i) (fun c hs' _ => ((hs c).mp hs') ▸ hkT) (fun x y gx gy hxy hx hy => hx (hc y x gy gx (adj_symm hxy) hy)))
  · rintro ⟨_, hc⟩
    apply bt_ext
    intro i hi
    have hcl : ∀ b, bt f b = true → ClS s f b := hc (fun b => ClS s f b) ⟨k, hk.2.1, hk.2.1, fun T t1 _ => t1 k ((hs k).mpr rfl) hk.2.1⟩ (fun a b ga gb hab ha => ⟨gb, fun T t1 t2 => t2 a b ga gb hab (ha.2 T t1 t2)⟩)
    cases hb : bt f i with
    | true => exact (hR i).mpr (hcl i hb)
    | false =>
      cases hr : bt R i with
      | false => rfl
      | true =>
        have h9 : bt f i = true := ((hR i).mp hr).1
        rw [hb] at h9; cases h9
theorem lowest_bits {f : Int64} {k : Nat} (hk : low f k) : ∀ i, bt (f &&& -f) i = true ↔ i = k := by
  intro i
  constructor
  · intro h
    rw [bt_lowest hk (bt_lt h)] at h
    exact of_decide_eq_true h
  · intro h
    subst h
    rw [bt_lowest hk hk.1]; simp
theorem gr_hangs_eq {f : Int64} (hf : C7 f) : (CON f → gr_hangs f = some 1) ∧ (¬ CON f → gr_hangs f = some 0) := by
  unfold gr_hangs
  by_cases h0 : f = 0
  · rw [if_pos h0, zb_0]
    exact ⟨fun h => absurd h0 h.1, fun _ => rfl⟩
  · rw [if_neg h0]
    obtain ⟨k, hk⟩ := low_ex h0
    obtain ⟨R, h1, h2⟩ := gr_reach_eq (S := f &&& -f) hf
    have h3 := hangs_iff hk (lowest_bits hk) h2
    rw [h1, bd1_some]
    constructor
    · intro h; rw [if_pos (h3.mpr h), zb_1]
    · intro h; rw [if_neg (fun e => h (h3.mp e)), zb_0]
theorem mo_hangs_go {S f : Int64} : ∀ (n : Nat) (seen next : Int64), 64 - cnt seen < n → FStp seen f next → Fld S f seen → ∃ R, (∀ i, bt R i = true ↔ ClS S f i) ∧ fl2 (mo_hangs_B23 f) n seen next = (if R = f then some 1 else some 0) := by
  intro n
  induction n with
  | zero => intro seen next h; omega
  | succ n ih =>
    intro seen next hn hs hF
    show ∃ R, _ ∧ mo_hangs_B23 f (fl2 (mo_hangs_B23 f) n) seen next = _
    rw [mo_hangs_B23]
    by_cases q : next = seen
    · rw [if_pos q, zb_1, zb_0]
      rw [q] at hs
      exact ⟨seen, hF.done hs, rfl⟩
    · rw [if_neg q, mo_around_eq, bd1_some, nm_eq]
      obtain ⟨hF2, hsub⟩ := hF.step hs
      have h1 := cnt_lt hsub (fun e => q e.symm)
      have h2 := cnt_le next
      exact ih next _ (by omega) stp_m hF2
theorem mo_hangs_eq (f : Int64) : (CON f → mo_hangs f = some 1) ∧ (¬ CON f → mo_hangs f = some 0) := by
  unfold mo_hangs
  by_cases h0 : f = 0
  · rw [if_pos h0, zb_0]
    exact ⟨fun h => absurd h0 h.1, fun _ => rfl⟩
  · rw [if_neg h0]
    obtain ⟨k, hk⟩ := low_ex h0
    have hl := lowest_bits hk
    have hF : Fld (f &&& -f) f (f &&& -f) := ⟨fun i hi => by rw [(hl i).mp hi]; exact hk.2.1, fun i a _ => a, fun i hi => ⟨by rw [(hl i).mp hi]; exact hk.2.1, fun T t1 _ => t1 i hi (by rw [(hl i).mp hi]; exact hk.2.1)⟩⟩
    rw [nm_eq, mo_around_eq, bd1_some, nm_eq]
    obtain ⟨R, h2, h1⟩ := mo_hangs_go (S := f &&& -f) FU (f &&& -f) _ (FU_lt (by omega)) stp_m hF
    have h3 := hangs_iff hk hl h2
    rw [h1]
    constructor
    · intro h; rw [if_pos (h3.mpr h)]
    · intro h; rw [if_neg (fun e => h (h3.mp e))]
