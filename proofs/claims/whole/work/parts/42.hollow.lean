/-! LAYER 2: the class's hollow and holes, and the bridge -/
def fre (f : Int64) : Int64 := 35887507618889599 &&& (f ^^^ (-1))
theorem bt_fre {f : Int64} {i : Nat} : bt (fre f) i = true ↔ i % 8 < 7 ∧ i < 56 ∧ bt f i = false := by
  rcases Nat.lt_or_ge i 64 with h | h
  · unfold fre
    rw [bt_and, k_77 h, bt_xor, bt_m1 h, Bool.and_eq_true, decide_eq_true_eq]
    cases bt f i <;> simp
  · rw [bt_big h]
    constructor
    · intro h; cases h
    · intro h; omega
theorem fre7 (f : Int64) : C7 (fre f) := fun _ h => (bt_fre.mp h).1
def rimL : Int64 := 4755591480050008575
theorem k_rim {i : Nat} (h : i < 64) : bt rimL i = decide (i % 8 = 0 ∨ i % 8 = 6 ∨ i < 8 ∨ (48 ≤ i ∧ i < 56)) := by
  have : ∀ i : Fin 64, bt rimL i.val = decide (i.val % 8 = 0 ∨ i.val % 8 = 6 ∨ i.val < 8 ∨ (48 ≤ i.val ∧ i.val < 56)) := by decide +kernel
  exact this ⟨i, h⟩
noncomputable def hlw (f : Int64) : Int64 := (tr_hollow f).getD 0
theorem hlw_spec (f : Int64) : tr_hollow f = some (hlw f) ∧ ∀ i, bt (hlw f) i = true ↔ bt (fre f) i = true ∧ ¬ ClS rimL (fre f) i := by
  obtain ⟨R, h1, h2⟩ := gr_reach_eq (S := rimL) (fre7 f)
  have e : tr_hollow f = some (fre f &&& (R ^^^ (-1))) := by
    show bd1 (gr_reach rimL (fre f)) _ = _
    rw [h1]; rfl
  have e2 : hlw f = fre f &&& (R ^^^ (-1)) := by unfold hlw; rw [e]; rfl
  refine ⟨by rw [e, e2], fun i => ?_⟩
  rw [e2, bt_and, Bool.and_eq_true, ← h2 i]
  constructor
  · rintro ⟨a, b⟩
    have h64 := bt_lt a
    rw [bt_xor, bt_m1 h64] at b
    exact ⟨a, fun h => by rw [h] at b; cases b⟩
  · rintro ⟨a, b⟩
    have h64 := bt_lt a
    refine ⟨a, ?_⟩
    rw [bt_xor, bt_m1 h64, bf_of b]; rfl
def pl (i : Nat) : Nat := 9 * (i / 8 + 1) + (i % 8 + 1)
theorem Fr_pl {f : Int64} {i : Nat} (h7 : i % 8 < 7) (h56 : i < 56) : Fr f (pl i) ↔ bt f i = false := by
  unfold Fr pl
  rw [show (9 * (i / 8 + 1) + (i % 8 + 1)) % 9 = i % 8 + 1 by omega, show (9 * (i / 8 + 1) + (i % 8 + 1)) / 9 = i / 8 + 1 by omega, show ((i % 8 + 1 : Nat) : Int) - 1 = ((i % 8 : Nat) : Int) by omega, show ((i / 8 + 1 : Nat) : Int) - 1 = ((i / 8 : Nat) : Int) by omega, hB_n f (by omega) (by omega), show 8 * (i / 8) + i % 8 = i by omega]
  exact ⟨fun h => h.2, fun h => ⟨by omega, h⟩⟩
def rng (p : Nat) : Prop := p % 9 = 0 ∨ p % 9 = 8 ∨ p / 9 = 0 ∨ p / 9 = 8
theorem rng_Fr {f : Int64} (hf : F77 f) {p : Nat} (hp : p < 81) (h : rng p) : Fr f p := ⟨hp, hB_77 hf (by unfold rng at h; omega)⟩
theorem pl_adj {a b : Nat} (h : adj a b) (ha : a % 8 < 7) (hb : b % 8 < 7) : adj9 (pl a) (pl b) := by
  unfold adj at h
  unfold adj9 pl
  rw [show (9 * (a / 8 + 1) + (a % 8 + 1)) / 9 = a / 8 + 1 by omega, show (9 * (a / 8 + 1) + (a % 8 + 1)) % 9 = a % 8 + 1 by omega, show (9 * (b / 8 + 1) + (b % 8 + 1)) / 9 = b / 8 + 1 by omega, show (9 * (b / 8 + 1) + (b % 8 + 1)) % 9 = b % 8 + 1 by omega]
  omega
theorem pl_adj' {a b : Nat} (h : adj9 (pl a) (pl b)) (ha : a % 8 < 7) (hb : b % 8 < 7) : adj a b := by
  unfold adj9 pl at h
  rw [show (9 * (a / 8 + 1) + (a % 8 + 1)) / 9 = a / 8 + 1 by omega, show (9 * (a / 8 + 1) + (a % 8 + 1)) % 9 = a % 8 + 1 by omega, show (9 * (b / 8 + 1) + (b % 8 + 1)) / 9 = b / 8 + 1 by omega, show (9 * (b / 8 + 1) + (b % 8 + 1)) % 9 = b % 8 + 1 by omega] at h
  unfold adj
  omega
theorem pl_inj {a b : Nat} (h : pl a = pl b) (ha : a % 8 < 7) (hb : b % 8 < 7) : a = b := by unfold pl at h; omega
theorem pl_nr {i : Nat} (h7 : i % 8 < 7) (h56 : i < 56) : ¬ rng (pl i) := by unfold rng pl; omega
theorem pl_lt {i : Nat} (h7 : i % 8 < 7) (h56 : i < 56) : pl i < 81 := by unfold pl; omega
theorem pl_mono {a b : Nat} (ha : a % 8 < 7) (hb : b % 8 < 7) : pl a < pl b ↔ a < b := by unfold pl; omega
theorem nr_pl {p : Nat} (hp : p < 81) (h : ¬ rng p) : ∃ i, i % 8 < 7 ∧ i < 56 ∧ p = pl i := by
  unfold rng at h
  exact ⟨8 * (p / 9 - 1) + (p % 9 - 1), by omega, by omega, by unfold pl; omega⟩
theorem rng_Cn {f : Int64} (hf : F77 f) {p : Nat} (hp : p < 81) (h : rng p) : Cn f 0 p := by
  have F : ∀ q, q < 81 → rng q → Fr f q := fun q a b => rng_Fr hf a b
  have top : ∀ x, x ≤ 8 → Cn f 0 x := by
    intro x
    induction x with
    | zero => intro _; exact Cn_refl (F 0 (by omega) (by unfold rng; omega))
    | succ x ih => intro hx; exact Cn_step (ih (by omega)) (F _ (by omega) (by unfold rng; omega)) (by unfold adj9; omega)
  have lft : ∀ y, y ≤ 8 → Cn f 0 (9 * y) := by
    intro y
    induction y with
    | zero => intro _; exact top 0 (by omega)
    | succ y ih => intro hx; exact Cn_step (ih (by omega)) (F _ (by omega) (by unfold rng; omega)) (by unfold adj9; omega)
  have rgt : ∀ y, y ≤ 8 → Cn f 0 (9 * y + 8) := by
    intro y
    induction y with
    | zero => intro _; exact top 8 (by omega)
    | succ y ih => intro hx; exact Cn_step (ih (by omega)) (F _ (by omega) (by unfold rng; omega)) (by unfold adj9; omega)
  have bot : ∀ x, x ≤ 8 → Cn f 0 (72 + x) := by
    intro x
    induction x with
    | zero => intro _; exact lft 8 (by omega)
    | succ x ih => intro hx; exact Cn_step (ih (by omega)) (F _ (by omega) (by unfold rng; omega)) (by unfold adj9; omega)
  rcases h with h | h | h | h
  · have := lft (p / 9) (by omega); rwa [show 9 * (p / 9) = p by omega] at this
  · have := rgt (p / 9) (by omega); rwa [show 9 * (p / 9) + 8 = p by omega] at this
  · exact top p (by omega)
  · have := bot (p - 72) (by omega); rwa [show 72 + (p - 72) = p by omega] at this
theorem out_ClS {f : Int64} (hf : F77 f) {i : Nat} (hi : bt (fre f) i = true) : Cn f 0 (pl i) ↔ ClS rimL (fre f) i := by
  constructor
  · intro h
    have key := h.2.2 (fun p => rng p ∨ ∃ j, bt (fre f) j = true ∧ p = pl j ∧ ClS rimL (fre f) j) (Or.inl (by unfold rng; omega)) (fun a b ha hb hab hT => by
      by_cases q : rng b
      · exact Or.inl q
      · right
        obtain ⟨j, j1, j2, rfl⟩ := nr_pl hb.1 q
        have hj : bt (fre f) j = true := bt_fre.mpr ⟨j1, j2, (Fr_pl j1 j2).mp hb⟩
        refine ⟨j, hj, rfl, ?_⟩
        rcases hT with r | ⟨m, hm, rfl, hc⟩
        · refine ⟨hj, fun T t1 _ => t1 j ?_ hj⟩
          show bt rimL j = true
          rw [k_rim (by omega)]
          apply decide_eq_true
          unfold rng at r
          unfold adj9 pl at hab
          omega
        · have m7 := (bt_fre.mp hm).1
          exact ⟨hj, fun T t1 t2 => t2 m j hm hj (pl_adj' hab m7 j1) (hc.2 T t1 t2)⟩)
    have i7 := bt_fre.mp hi
    rcases key with r | ⟨m, hm, e, hc⟩
    · exact absurd r (pl_nr i7.1 i7.2.1)
    · rw [pl_inj e i7.1 (bt_fre.mp hm).1]; exact hc
  · intro h
    refine h.2 (fun j => Cn f 0 (pl j)) (fun a ha hG => ?_) (fun a b ha hb hab hC => ?_)
    · have a7 := bt_fre.mp hG
      have ha' : bt rimL a = true := ha
      rw [k_rim (by omega)] at ha'
      have hr := of_decide_eq_true ha'
      have hF : Fr f (pl a) := (Fr_pl a7.1 a7.2.1).mpr a7.2.2
      have a71 := a7.1
      have a72 := a7.2.1
      rcases hr with r | r | r | r
      · exact Cn_step (rng_Cn hf (p := pl a - 1) (by unfold pl; omega) (by unfold rng pl; omega)) hF (by unfold adj9 pl; omega)
      · exact Cn_step (rng_Cn hf (p := pl a + 1) (by unfold pl; omega) (by unfold rng pl; omega)) hF (by unfold adj9 pl; omega)
      · exact Cn_step (rng_Cn hf (p := pl a - 9) (by unfold pl; omega) (by unfold rng pl; omega)) hF (by unfold adj9 pl; omega)
      · exact Cn_step (rng_Cn hf (p := pl a + 9) (by unfold pl; omega) (by unfold rng pl; omega)) hF (by unfold adj9 pl; omega)
    · have a7 := bt_fre.mp ha
      have b7 := bt_fre.mp hb
      exact Cn_step hC ((Fr_pl b7.1 b7.2.1).mpr b7.2.2) (pl_adj hab a7.1 b7.1)
theorem hlw_Cn {f : Int64} (hf : F77 f) (i : Nat) : bt (hlw f) i = true ↔ bt (fre f) i = true ∧ ¬ Cn f 0 (pl i) := by
  rw [(hlw_spec f).2 i]
  constructor
  · rintro ⟨a, b⟩; exact ⟨a, fun h => b ((out_ClS hf a).mp h)⟩
  · rintro ⟨a, b⟩; exact ⟨a, fun h => b ((out_ClS hf a).mpr h)⟩
def CnS (H : Int64) (j i : Nat) : Prop := bt H j = true ∧ bt H i = true ∧ ∀ T : Nat → Prop, T j → (∀ a b, bt H a = true → bt H b = true → adj a b → T a → T b) → T i
theorem CnS_refl {H : Int64} {k : Nat} (h : bt H k = true) : CnS H k k := ⟨h, h, fun _ t _ => t⟩
theorem CnS_step {H : Int64} {k p q : Nat} (h : CnS H k p) (hq : bt H q = true) (ha : adj p q) : CnS H k q := ⟨h.1, hq, fun T t0 t => t p q h.2.1 hq ha (h.2.2 T t0 t)⟩
theorem CnS_trans {H : Int64} {k p q : Nat} (h : CnS H k p) (h2 : CnS H p q) : CnS H k q := ⟨h.1, h2.2.1, fun T t0 t => h2.2.2 T (h.2.2 T t0 t) t⟩
theorem CnS_symm {H : Int64} {k p : Nat} (h : CnS H k p) : CnS H p k := h.2.2 (fun x => CnS H x k) (CnS_refl h.1) (fun _ _ ha hb hab hak => CnS_trans (CnS_step (CnS_refl hb) ha (adj_symm hab)) hak)
noncomputable def mnH (H : Int64) (i : Nat) : Bool := @decide (bt H i = true ∧ ∀ j, j < i → ¬ CnS H j i) (Classical.propDecidable _)
theorem mnH_t {H : Int64} {i : Nat} : mnH H i = true ↔ (bt H i = true ∧ ∀ j, j < i → ¬ CnS H j i) := by unfold mnH; exact @decide_eq_true_iff _ (Classical.propDecidable _)
/-- the class's count of parts -/
theorem holes_go {H : Int64} (hH : C7 H) : ∀ (n i : Nat) (rest : Int64) (c : Nat), sub rest H → (∀ a b, bt rest a = true → bt H b = true → adj a b → bt rest b = true) → c = fb_ct (fun j => mnH H j && !bt rest j) 64 → i + cnt rest ≤ 64 → 64 - i < n → fl3 tr_holes_B11 n rest (nI c) (nI i) = some (nI (fb_ct (mnH H) 64)) := by
  intro n
  induction n with
  | zero => intro i rest c _ _ _ _ h; omega
  | succ n ih =>
    intro i rest c hs hcl hc hi hn
    show tr_holes_B11 (fl3 tr_holes_B11 n) rest (nI c) (nI i) = _
    rw [tr_holes_B11]
    by_cases h0 : rest = 0
    · subst h0
      have e : c = fb_ct (mnH H) 64 := by
        rw [hc]; exact fb_ct_cong (fun j _ => by rw [bt_zero]; simp)
      rw [if_pos rfl, e]; split <;> rfl
    · have hp := cnt_pos h0
      rw [if_neg (show ¬ (64 : Int32) ≤ nI i from nI_ge (a := i) (b := 64) (by omega) (by omega)), if_neg h0]
      obtain ⟨k, hk⟩ := low_ex h0
      obtain ⟨R, h1, h2⟩ := gr_reach_eq (S := rest &&& -rest) (hH.sub hs)
      have hl := lowest_bits hk
      have kH := hs k hk.2.1
      have hR : ∀ j, bt R j = true ↔ CnS H k j := by
        intro j
        rw [h2 j]
        constructor
        · intro hc'
          exact hc'.2 (fun j => CnS H k j) (fun a ha _ => by rw [(hl a).mp ha]; exact CnS_refl kH) (fun a b _ hb hab hT => CnS_step hT (hs b hb) hab)
        · intro hc'
          exact hc'.2.2 (fun j => ClS (rest &&& -rest) rest j) ⟨hk.2.1, fun T t1 _ => t1 k ((hl k).mpr rfl) hk.2.1⟩ (fun a b _ hb hab hT => by
            have hb2 := hcl a b hT.1 hb hab
            exact ⟨hb2, fun T t1 t2 => t2 a b hT.1 hb2 hab (hT.2 T t1 t2)⟩)
      rw [h1, bd1_some, nm_eq, nm_eq, nm_eq, o1, o1]
      have hr' : ∀ j, bt (rest &&& (R ^^^ (-1))) j = true ↔ bt rest j = true ∧ ¬ CnS H k j := by
        intro j
        rw [bt_and, Bool.and_eq_true, ← hR j]
        constructor
        · rintro ⟨a, b⟩
          rw [bt_xor, bt_m1 (bt_lt a)] at b
          exact ⟨a, fun h => by rw [h] at b; cases b⟩
        · rintro ⟨a, b⟩
          refine ⟨a, ?_⟩
          rw [bt_xor, bt_m1 (bt_lt a), bf_of b]; rfl
      have back : ∀ j, CnS H k j → bt rest j = true := fun j hj => hj.2.2 (fun x => bt rest x = true) hk.2.1 (fun a b _ hb hab hT => hcl a b hT hb hab)
      refine ih (i + 1) _ (c + 1) (fun j hj => hs j ((hr' j).mp hj).1) (fun a b ha hb hab => ?_) ?_ ?_ (by omega)
      · have ha' := (hr' a).mp ha
        exact (hr' b).mpr ⟨hcl a b ha'.1 hb hab, fun h => ha'.2 (CnS_step h (hs a ha'.1) (adj_symm hab))⟩
      · have mk : mnH H k = true := mnH_t.mpr ⟨kH, fun j hj hC => by have := low_row hk (back j (CnS_symm hC)); omega⟩
        have e1 := fb_ct_upd (fun j => mnH H j && !bt rest j) true (i := k) (n := 64) hk.1
        rw [show (mnH H k && !bt rest k) = false by rw [hk.2.1]; simp] at e1
        have e2 : fb_ct (fun j => mnH H j && !bt (rest &&& (R ^^^ (-1))) j) 64 = fb_ct (fun j => if j = k then true else (mnH H j && !bt rest j)) 64 := fb_ct_cong (fun j hj => by
          by_cases q : j = k
          · rw [if_pos q, q, mk, bf_of (f := rest &&& (R ^^^ (-1))) (i := k) (fun h => ((hr' k).mp h).2 (CnS_refl kH))]; rfl
          · rw [if_neg q]
            cases hm : mnH H j with
            | false => rfl
            | true =>
              have hm2 := mnH_t.mp hm
              have hnC : ¬ CnS H k j := fun hC => by
                have := low_row hk (back j hC)
                exact hm2.2 k (by omega) hC
              cases hb : bt rest j with
              | true => rw [(hr' j).mpr ⟨hb, hnC⟩]
              | false => rw [bf_of (f := rest &&& (R ^^^ (-1))) (i := j) (fun h => by rw [((hr' j).mp h).1] at hb; cases hb)])
        rw [if_neg (by decide), Nat.add_zero, if_pos rfl] at e1
        rw [e2, e1, ← hc]
      · have hlt := cnt_lt (a := rest &&& (R ^^^ (-1))) (b := rest) (fun j hj => ((hr' j).mp hj).1) (fun e => by
          have := hk.2.1
          rw [← e] at this
          exact ((hr' k).mp this).2 (CnS_refl kH))
        omega
theorem hlw7 (f : Int64) : C7 (hlw f) := (fre7 f).sub (fun i hi => (((hlw_spec f).2 i).mp hi).1)
theorem tr_holes_eq (f : Int64) : tr_holes f = some (nI (fb_ct (mnH (hlw f)) 64)) := by
  unfold tr_holes
  rw [(hlw_spec f).1, bd1_some, show (0 : Int32) = nI 0 from nI_0.symm]
  refine holes_go (hlw7 f) FU 0 (hlw f) 0 (fun _ h => h) (fun a b _ hb _ => hb) ?_ (by have := cnt_le (hlw f); omega) (FU_lt (by omega))
  refine (fb_ct_zero.mpr (fun j _ => ?_)).symm
  cases hm : mnH (hlw f) j with
  | false => rfl
  | true => rw [(mnH_t.mp hm).1]; rfl
theorem ct_rows9 (p : Nat → Bool) : ∀ n, fb_ct p (9 * n) = fb_sm (fun y => fb_ct (fun x => p (9 * y + x)) 9) n := by
  intro n
  induction n with
  | zero => rfl
  | succ n ih => rw [show 9 * (n + 1) = 9 * n + 9 by omega, fb_ct_split, ih, fb_sm_succ]
theorem ct77 {p : Nat → Bool} (h : ∀ i, p i = true → i % 8 < 7 ∧ i < 56) : fb_ct p 64 = fb_sm (fun y => fb_ct (fun x => p (8 * y + x)) 7) 7 := by
  have nf : ∀ i, ¬ (i % 8 < 7 ∧ i < 56) → p i = false := fun i hi => by
    cases hb : p i with
    | false => rfl
    | true => exact absurd (h i hb) hi
  rw [show (64 : Nat) = 8 * 8 by omega, ct_rows, fb_sm_succ]
  have z : fb_ct (fun x => p (8 * 7 + x)) 8 = 0 := fb_ct_zero.mpr (fun x _ => nf _ (by omega))
  rw [z, Nat.add_zero]
  refine fb_sm_cong (fun y hy => ?_)
  rw [fb_ct_succ, nf (8 * y + 7) (by omega)]
  rfl
theorem ct81 {p q : Nat → Bool} (hr : ∀ P, P < 81 → rng P → P ≠ 0 → p P = false) (hi : ∀ i, i % 8 < 7 → i < 56 → p (pl i) = q i) (hq : ∀ i, q i = true → i % 8 < 7 ∧ i < 56) : fb_ct p 81 = (if p 0 then 1 else 0) + fb_ct q 64 := by
  rw [ct77 hq, show (81 : Nat) = 9 * 9 by omega, ct_rows9, sm_9]
  have r0 : fb_ct (fun x => p (9 * 0 + x)) 9 = if p 0 then 1 else 0 := by
    rw [ct_9, fb_ct_zero.mpr (fun x _ => hr _ (by omega) (by unfold rng; omega) (by omega)), hr (9 * 0 + 8) (by omega) (by unfold rng; omega) (by omega)]
    rfl
  have r8 : fb_ct (fun x => p (9 * 8 + x)) 9 = 0 := fb_ct_zero.mpr (fun x _ => hr _ (by omega) (by unfold rng; omega) (by omega))
  rw [r0, r8, Nat.add_zero]
  congr 1
  refine fb_sm_cong (fun y hy => ?_)
  rw [ct_9, hr (9 * (1 + y) + 0) (by omega) (by unfold rng; omega) (by omega), hr (9 * (1 + y) + 8) (by omega) (by unfold rng; omega) (by omega)]
  simp only [Bool.false_eq_true, if_false, Nat.zero_add, Nat.add_zero]
  refine fb_ct_cong (fun x hx => ?_)
  rw [← hi (8 * y + x) (by omega) (by omega)]
  unfold pl
  congr 1; omega
theorem hlw77 {f : Int64} {i : Nat} (h : bt (hlw f) i = true) : i % 8 < 7 ∧ i < 56 ∧ bt f i = false := bt_fre.mp (((hlw_spec f).2 i).mp h).1
theorem CnS_Cn {f : Int64} {i j : Nat} (h : CnS (hlw f) j i) : Cn f (pl j) (pl i) := by
  have F : ∀ m, bt (hlw f) m = true → Fr f (pl m) := fun m hm => (Fr_pl (hlw77 hm).1 (hlw77 hm).2.1).mpr (hlw77 hm).2.2
  exact h.2.2 (fun m => Cn f (pl j) (pl m)) (Cn_refl (F j h.1)) (fun a b ha hb hab hT => Cn_step hT (F b hb) (pl_adj hab (hlw77 ha).1 (hlw77 hb).1))
theorem Cn_CnS {f : Int64} (hf : F77 f) {i q : Nat} (hi : bt (hlw f) i = true) (h : Cn f q (pl i)) : ∃ j, q = pl j ∧ CnS (hlw f) j i := by
  have h2 := Cn_symm h
  have key := h2.2.2 (fun x => ∃ j, x = pl j ∧ CnS (hlw f) i j) ⟨i, rfl, CnS_refl hi⟩ (fun a b ha hb hab ⟨m, e, hC⟩ => by
    subst e
    have hm := hC.2.1
    have hno : ¬ Cn f 0 (pl m) := ((hlw_Cn hf m).mp hm).2
    have hnb : ¬ Cn f 0 b := fun h => hno (Cn_step h ha (adj9_symm hab))
    have hrb : ¬ rng b := fun r => hnb (rng_Cn hf hb.1 r)
    obtain ⟨j, j1, j2, rfl⟩ := nr_pl hb.1 hrb
    have hj : bt (hlw f) j = true := (hlw_Cn hf j).mpr ⟨bt_fre.mpr ⟨j1, j2, (Fr_pl j1 j2).mp hb⟩, hnb⟩
    exact ⟨j, rfl, CnS_step hC hj (pl_adj' hab (hlw77 hm).1 j1)⟩)
  obtain ⟨j, e, hC⟩ := key
  exact ⟨j, e, CnS_symm hC⟩
theorem pts9_eq {f : Int64} (hf : F77 f) : pts9 f = 1 + fb_ct (mnH (hlw f)) 64 := by
  have m0 : mn9 f 0 = true := mn9_t.mpr ⟨rng_Fr hf (by omega) (by unfold rng; omega), fun q hq => by omega⟩
  have := ct81 (p := mn9 f) (q := mnH (hlw f)) (fun P hP hr h0 => by
    cases hm : mn9 f P with
    | false => rfl
    | true => exact absurd (rng_Cn hf hP hr) ((mn9_t.mp hm).2 0 (by omega))) (fun i h7 h56 => by
    have e : mn9 f (pl i) = true ↔ mnH (hlw f) i = true := by
      rw [mn9_t, mnH_t]
      constructor
      · rintro ⟨a, b⟩
        have hi : bt (hlw f) i = true := (hlw_Cn hf i).mpr ⟨bt_fre.mpr ⟨h7, h56, (Fr_pl h7 h56).mp a⟩, b 0 (by unfold pl; omega)⟩
        refine ⟨hi, fun j hj hC => b (pl j) ?_ (CnS_Cn hC)⟩
        exact (pl_mono (hlw77 hC.1).1 h7).mpr hj
      · rintro ⟨a, b⟩
        refine ⟨(Fr_pl h7 h56).mpr (hlw77 a).2.2, fun q hq hC => ?_⟩
        obtain ⟨j, rfl, hC2⟩ := Cn_CnS hf a hC
        exact b j ((pl_mono (hlw77 hC2.1).1 h7).mp hq) hC2
    cases hb : mnH (hlw f) i with
    | true => exact e.mpr hb
    | false =>
      cases hc : mn9 f (pl i) with
      | false => rfl
      | true => rw [e.mp hc] at hb; cases hb) (fun i hi => ⟨(hlw77 (mnH_t.mp hi).1).1, (hlw77 (mnH_t.mp hi).1).2.1⟩)
  unfold pts9
  rw [this, m0]; rfl
theorem holes_ok {f : Int64} (hf : F77 f) (g : Int32) (fl go : Nat → Int32) : ∃ n g' fl' go', n ≤ 64 ∧ tr_holes f = some (nI n) ∧ mo_laysHoles f g fl go = some (nI n, g', fl', go') ∧ OUT f 81 (n + 1) fl' ∧ (n = 0 ↔ hlw f = 0) := by
  obtain ⟨g', fl', go', h1, h2⟩ := mo_laysHoles_eq f g fl go
  refine ⟨fb_ct (mnH (hlw f)) 64, g', fl', go', fb_ct_le _ _, tr_holes_eq f, ?_, ?_, ?_⟩
  · rw [h1, pts9_eq hf, Nat.add_comm, nI_pred]
  · rw [pts9_eq hf, Nat.add_comm] at h2; exact h2
  · constructor
    · intro h
      apply Classical.byContradiction
      intro hn
      obtain ⟨k, hk⟩ := low_ex hn
      have hz := fb_ct_zero.mp h k hk.1
      have : mnH (hlw f) k = true := mnH_t.mpr ⟨hk.2.1, fun j hj hC => by have := hk.2.2 j hj; rw [hC.1] at this; cases this⟩
      rw [this] at hz; cases hz
    · intro h
      rw [h]
      refine fb_ct_zero.mpr (fun j _ => ?_)
      cases hm : mnH 0 j with
      | false => rfl
      | true => have := (mnH_t.mp hm).1; rw [bt_zero] at this; cases this
theorem mo_inHoles_eq {f : Int64} (hf : F77 f) (g : Int32) (fl go : Nat → Int32) : ∃ g' fl' go', mo_inHoles f g fl go = some (nI (cnt (hlw f)), g', fl', go') := by
  obtain ⟨g', fl', go', h1, h2⟩ := mo_laysHoles_eq f g fl go
  refine ⟨g', fl', go', ?_⟩
  unfold mo_inHoles
  rw [h1]
  show fl2 (mo_inHoles_B11 g' fl' go') FU 0 0 = _
  have hc : pts9 f ≤ 81 := fb_ct_le _ _
  have pos : ∀ P, P < 81 → (decide (fl' P ≤ 0) = true ↔ (fl' P = -1 ∨ fl' P = 0)) := fun P hP => by
    rw [decide_eq_true_eq]
    rcases h2.1 P hP with e | ⟨e, he, e2⟩
    · rw [e]; exact ⟨fun _ => Or.inl rfl, fun _ => by decide⟩
    · rw [e2]
      constructor
      · intro h
        right
        rw [Int32.le_iff_toInt_le, nI_toInt (by omega)] at h
        have : e = 0 := by have : (0 : Int32).toInt = 0 := rfl; omega
        rw [this]; exact nI_0
      · rintro (h | h)
        · exact absurd h (nI_ne1 (by omega))
        · rw [h]; decide
  have cq : fb_ct (fun P => !decide (fl' P ≤ 0)) 81 = cnt (hlw f) := by
    have out : ∀ P, P < 81 → Cn f 0 P → (!decide (fl' P ≤ 0)) = false := fun P hP hC => by
      have hn : fl' P ≠ -1 := h2.2.2.2.1 P hP hC.2.1
      have := (h2.2.2.2.2.2 P hP hn).mpr hC
      rw [(pos P hP).mpr (Or.inr this)]; rfl
    have hF0 : Cn f 0 0 := rng_Cn hf (by omega) (by unfold rng; omega)
    rw [ct81 (q := bt (hlw f)) (fun P hP hr _ => out P hP (rng_Cn hf hP hr)) (fun i h7 h56 => ?_) (fun i hi => ⟨(hlw77 hi).1, (hlw77 hi).2.1⟩), out 0 (by omega) hF0]
    · show 0 + fb_ct (bt (hlw f)) 64 = _
      rw [Nat.zero_add]; rfl
    · have hP := pl_lt h7 h56
      cases hb : bt (hlw f) i with
      | true =>
        have ⟨a, b⟩ := (hlw_Cn hf i).mp hb
        have hF : Fr f (pl i) := (Fr_pl h7 h56).mpr (bt_fre.mp a).2.2
        have hn : fl' (pl i) ≠ -1 := h2.2.2.2.1 _ hP hF
        cases hd : decide (fl' (pl i) ≤ 0) with
        | false => rfl
        | true =>
          rcases (pos _ hP).mp hd with e | e
          · exact absurd e hn
          · exact absurd ((h2.2.2.2.2.2 _ hP hn).mp e) b
      | false =>
        by_cases hn : fl' (pl i) = -1
        · rw [(pos _ hP).mpr (Or.inl hn)]; rfl
        · have hF := (h2.2.1 _ hP hn).1
          have hC : Cn f 0 (pl i) := Classical.byContradiction (fun h => by
            rw [(hlw_Cn hf i).mpr ⟨bt_fre.mpr ⟨h7, h56, (Fr_pl h7 h56).mp hF⟩, h⟩] at hb; cases hb)
          exact out _ hP hC
  rw [← cq, show fl2 (mo_inHoles_B11 g' fl' go') FU 0 0 = fl2 (mo_inHoles_B11 g' fl' go') FU (nI 0) (nI 0) by rw [nI_0]]
  refine crs2 (B := mo_inHoles_B11 g' fl' go') (fun i => nI (fb_ct (fun P => !decide (fl' P ≤ 0)) i)) nI 81 (fun i hi k => ?_) (fun k => ?_) FU (FU_lt (by omega))
  · rw [mo_inHoles_B11, if_neg (show ¬ (81 : Int32) ≤ nI i from nI_ge (a := i) (b := 81) hi (by omega)), ck_n hi (by omega), cl_n (by omega)]
    unfold mo_inHoles_J34
    show _ = k (nI (fb_ct (fun P => !decide (fl' P ≤ 0)) (i + 1))) _
    rw [fb_ct_succ]
    by_cases q : fl' i ≤ 0
    · rw [if_pos q, nm_eq, nm_eq, o1, decide_eq_true q, show (0 : Int32) = nI 0 from nI_0.symm, nI_add]; rfl
    · rw [if_neg q, nm_eq, nm_eq, o1, decide_eq_false q, nI_1]; rfl
  · rw [mo_inHoles_B11, if_pos (show (81 : Int32) ≤ nI 81 from nI_le (a := 81) (b := 81) (by omega) (by omega))]
