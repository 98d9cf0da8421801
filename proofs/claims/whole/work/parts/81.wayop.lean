theorem bt_mo15 {i p : Nat} (hp : p < 64) (s : Nat) : bt (mar (Rp i p) &&& (sl 1 (nI p) ^^^ (-1))) s = true ↔ SI i p s ∧ s ≠ p := by
  constructor
  · intro h
    have l := bt_lt h
    rw [bt_and, Bool.and_eq_true, mar_nb _ l, bt_xor, bt_m1 l] at h
    obtain ⟨⟨h1, h2⟩, h3⟩ := h
    refine ⟨⟨l, h1, h2⟩, fun e => ?_⟩
    rw [(bt_one hp).mpr e] at h3; simp at h3
  · rintro ⟨⟨l, h1, h2⟩, h3⟩
    rw [bt_and, Bool.and_eq_true, mar_nb _ l, bt_xor, bt_m1 l]
    refine ⟨⟨h1, h2⟩, ?_⟩
    cases q : bt (sl 1 (nI p)) s with
    | false => rfl
    | true => exact absurd ((bt_one hp).mp q) h3
/-- what one cell's places give -/
def Sp (n c p : Nat) (j : Nat) : Prop := ∃ s, SI (mbr n 2 c) p s ∧ s ≠ p ∧ CON (Gp (mbr n 2 c) p s) ∧ fI (stt (Gp (mbr n 2 c) p s)) = j
theorem bf_inner {li : Nat → Int64} {fm : Nat → Int32} (hl : MLm 7 li fm) {n k0 k c e g p : Nat} {S : Nat → Prop} {A Q : Nat → Int32} (hn : 1 ≤ n ∧ n ≤ 6) (hk0 : k0 < nF n) (hc : c < nF n) (hp : bt (f9 (mbr n 2 c)) p = true) (h : BFi n k0 k c e S g A Q) (v5 : Int32) (v6 v9 : Int64) (k59 : Int32 → Int32 → (Nat → Int32) → (Nat → Int32) → Option (Int32 × (Nat → Int32) × (Nat → Int32))) (k117 : Int64 → Int32 → (Nat → Int32) → (Nat → Int32) → Option (Int32 × (Nat → Int32) × (Nat → Int32))) : ∃ g' A' Q', fl4 (mo_laysSteps_B157 (nI n) v5 v6 (nI (e + 1)) v9 (Rp (mbr n 2 c) p) li fm k59 k117) FU (mar (Rp (mbr n 2 c) p) &&& (sl 1 (nI p) ^^^ (-1))) (nI g) A Q = k117 (v9 &&& (v9 - 1)) (nI g') A' Q' ∧ BFi n k0 k c e (fun j => S j ∨ Sp n c p j) g' A' Q' := by
  obtain ⟨_, l1, g1, l2⟩ := mbr_fI ⟨hn.1, by omega⟩ hc
  have e307 := eN_307 hn.2
  have stp : ∀ s, SI (mbr n 2 c) p s → CON (Gp (mbr n 2 c) p s) → mo_moved (Gp (mbr n 2 c) p s) = some (stt (Gp (mbr n 2 c) p s)) ∧ FIG (stt (Gp (mbr n 2 c) p s)) ∧ cnt (stt (Gp (mbr n 2 c) p s)) = n ∧ STP n c (fI (stt (Gp (mbr n 2 c) p s))) := fun s hs hcon => by
    obtain ⟨_, x2, _, _, x5⟩ := Gp_set (show mbr n 2 c < 307 by omega) hp hs
    obtain ⟨y1, y2⟩ := x5 hcon
    exact ⟨x2, y1, by rw [y2, g1], p, s, hp, hs, hcon, rfl⟩
  have p64 := bt_lt hp
  unfold Sp
  generalize mbr n 2 c = i at *
  have tc := cnt_le (mar (Rp i p) &&& (sl 1 (nI p) ^^^ (-1)))
  have tb := fun s => bt_mo15 (i := i) p64 s
  generalize mar (Rp i p) &&& (sl 1 (nI p) ^^^ (-1)) = T at *
  refine ivl4 (B := mo_laysSteps_B157 (nI n) v5 v6 (nI (e + 1)) v9 (Rp i p) li fm k59 k117) (fun t a y A Q => a = itr T t ∧ ∃ g, y = nI g ∧ BFi n k0 k c e (fun j => S j ∨ ∃ u, u < t ∧ CON (Gp i p (ith T u)) ∧ fI (stt (Gp i p (ith T u))) = j) g A Q) (fun o => ∃ g' A' Q', o = k117 (v9 &&& (v9 - 1)) (nI g') A' Q' ∧ BFi n k0 k c e (fun j => S j ∨ ∃ s, SI i p s ∧ s ≠ p ∧ CON (Gp i p s) ∧ fI (stt (Gp i p s)) = j) g' A' Q') (cnt T) ?_ ?_ FU 0 _ _ _ _ (by omega) (FU_lt (by omega)) ⟨rfl, g, rfl, bf_w h (fun j hj => ?_)⟩
  · rintro t ht a y A Q kq ⟨rfl, g, rfl, hb⟩
    have sb := (tb _).mp (ith_bt ht)
    have lw := low_sl (ith_low ht)
    obtain ⟨g', A', Q', r1, r2⟩ := bf_reach hl hn hk0 hb (b := Gp i p (ith T t)) (w := stt (Gp i p (ith T t))) (fun hcon => stp _ sb.1 hcon)
    have r1' : mo_reaches (Rp i p ||| sl 1 (nI (ith T t))) (nI n) (nI (e + 1)) (nI g) li fm A Q = some (nI g', A', Q') := r1
    rw [mo_laysSteps_B157, if_neg (itr_ne ht), lw, r1', bd3_some, nm_eq]
    refine ⟨_, _, _, _, ⟨rfl, g', rfl, bf_w r2 (fun j hj => ?_)⟩, rfl⟩
    rcases hj with hj | ⟨u, u1, u2, u3⟩
    · exact Or.inl (Or.inl hj)
    · by_cases q : u = t
      · rw [q] at u2 u3; exact Or.inr ⟨u2, u3⟩
      · exact Or.inl (Or.inr ⟨u, by omega, u2, u3⟩)
  · rintro a y A Q kq ⟨rfl, g, rfl, hb⟩
    rw [mo_laysSteps_B157, itr_end, if_pos rfl, nm_eq]
    refine ⟨g, A, Q, rfl, bf_w hb (fun j hj => ?_)⟩
    rcases hj with hj | ⟨s, s1, s2, s3, s4⟩
    · exact Or.inl hj
    · obtain ⟨u, u1, rfl⟩ := ith_all ((tb s).mpr ⟨s1, s2⟩)
      exact Or.inr ⟨u, u1, s3, s4⟩
  · rcases hj with hj | ⟨u, u1, _⟩
    · exact hj
    · omega
theorem bf_cells {li : Nat → Int64} {fm : Nat → Int32} (hl : MLm 7 li fm) {n k0 k c e g : Nat} {A Q : Nat → Int32} (hn : 1 ≤ n ∧ n ≤ 6) (hk0 : k0 < nF n) (hc : c < nF n) (h : BFi n k0 k c e (fun _ => False) g A Q) (v5 : Int32) (k59 : Int32 → Int32 → (Nat → Int32) → (Nat → Int32) → Option (Int32 × (Nat → Int32) × (Nat → Int32))) : ∃ g' A' Q', fl4 (mo_laysSteps_B117 (nI n) v5 (f9 (mbr n 2 c)) (nI (e + 1)) li fm k59) FU (f9 (mbr n 2 c)) (nI g) A Q = k59 (v5 + Int32.ofInt 1) (nI g') A' Q' ∧ BFi n k0 k c e (fun j => ∃ p, bt (f9 (mbr n 2 c)) p = true ∧ Sp n c p j) g' A' Q' := by
  have tc := cnt_le (f9 (mbr n 2 c))
  refine ivl4 (B := mo_laysSteps_B117 (nI n) v5 (f9 (mbr n 2 c)) (nI (e + 1)) li fm k59) (fun t a y A Q => a = itr (f9 (mbr n 2 c)) t ∧ ∃ g, y = nI g ∧ BFi n k0 k c e (fun j => ∃ u, u < t ∧ Sp n c (ith (f9 (mbr n 2 c)) u) j) g A Q) (fun o => ∃ g' A' Q', o = k59 (v5 + Int32.ofInt 1) (nI g') A' Q' ∧ BFi n k0 k c e (fun j => ∃ p, bt (f9 (mbr n 2 c)) p = true ∧ Sp n c p j) g' A' Q') (cnt (f9 (mbr n 2 c))) ?_ ?_ FU 0 _ _ _ _ (by omega) (FU_lt (by omega)) ⟨rfl, g, rfl, bf_w h (fun j hj => ?_)⟩
  · rintro t ht a y A Q kq ⟨rfl, g, rfl, hb⟩
    have lw := low_sl (ith_low ht)
    obtain ⟨g', A', Q', r1, r2⟩ := bf_inner hl hn hk0 hc (ith_bt ht) hb v5 (f9 (mbr n 2 c)) (itr (f9 (mbr n 2 c)) t) k59 kq
    rw [mo_laysSteps_B117, if_neg (itr_ne ht), nm_eq, lw, nm_eq, show f9 (mbr n 2 c) &&& (sl 1 (nI (ith (f9 (mbr n 2 c)) t)) ^^^ (-1)) = Rp (mbr n 2 c) (ith (f9 (mbr n 2 c)) t) from rfl, mo_around_eq, bd1_some, nm_eq, r1]
    refine ⟨_, _, _, _, ⟨rfl, g', rfl, bf_w r2 (fun j hj => ?_)⟩, rfl⟩
    obtain ⟨u, u1, u2⟩ := hj
    by_cases q : u = t
    · rw [q] at u2; exact Or.inr u2
    · exact Or.inl ⟨u, by omega, u2⟩
  · rintro a y A Q kq ⟨rfl, g, rfl, hb⟩
    rw [mo_laysSteps_B117, itr_end, if_pos rfl, nm_eq]
    refine ⟨g, A, Q, rfl, bf_w hb (fun j hj => ?_)⟩
    obtain ⟨p, p1, p2⟩ := hj
    obtain ⟨u, u1, rfl⟩ := ith_all p1
    exact ⟨u, u1, p2⟩
  · obtain ⟨u, u1, _⟩ := hj; omega
theorem STP_1 {k j : Nat} (hk : k < nF 1) : ¬ STP 1 k j := by
  rintro ⟨p, s, h1, ⟨_, ⟨a, a1, a2⟩, _⟩, _⟩
  obtain ⟨_, l1, g1, l2⟩ := mbr_fI (n := 1) ⟨by omega, by omega⟩ hk
  have e1 : eN 1 = 1 := rfl
  have c1 := f9_cnt (i := mbr 1 2 k) (by omega)
  have b := (bt_Rp _ (bt_lt h1) a).mp a2
  obtain ⟨u, u1, u2⟩ := ith_all h1
  obtain ⟨w, w1, w2⟩ := ith_all b.1
  have : u = w := by omega
  subst this
  exact b.2 (by omega)
/-- what the steps say at the end -/
def FIN (n k0 : Nat) (A : Nat → Int32) : Prop := ∀ j, j < nF n → (A j = -1 ∧ ∀ t, ¬ Ba n k0 t j) ∨ ∃ t, t ≤ 34 ∧ A j = nI t ∧ Dst n k0 t j
theorem bf_fin {n k0 k g : Nat} {q d : Nat → Nat} {A Q : Nat → Int32} (hn : 1 ≤ n ∧ n ≤ 6) (hk0 : k0 < nF n) (h : BFb n k0 k g q d A Q) (hall : ∀ i, i < g → ∀ j, STP n (q i) j → ∃ m, m < g ∧ q m = j) : FIN n k0 A := by
  obtain ⟨_, g0, q0, h1, h2, h3, h4, h5, h6⟩ := h
  have d34 : ∀ i, i < g → d i ≤ 34 := fun i hi => Dst_34 hn hk0 ⟨_, (h1 i hi).2.2.2⟩
  have cl : ∀ t j, Ba n k0 t j → ∃ m, m < g ∧ q m = j := by
    intro t
    induction t with
    | zero => intro j hj; exact ⟨0, g0, by rw [q0]; exact (show j = k0 from hj).symm⟩
    | succ t ih =>
      intro j hj
      rcases hj with hj | ⟨i, a, b⟩
      · exact ih j hj
      · obtain ⟨m, m1, m2⟩ := ih i a
        rw [← m2] at b
        exact hall m m1 j b
  intro j hj
  rcases h2 j hj with a | ⟨i, i1, i2⟩
  · refine Or.inl ⟨a, fun t hb => ?_⟩
    obtain ⟨m, m1, m2⟩ := cl t j hb
    have := (h1 m m1).2.2.1
    rw [m2, a] at this
    exact nI_ne1 (by have := d34 m m1; omega) this.symm
  · obtain ⟨b1, b2, b3, b4⟩ := h1 i i1
    rw [i2] at b3 b4
    exact Or.inr ⟨d i, d34 i i1, b3, b4⟩
theorem bf_outer {li : Nat → Int64} {fm : Nat → Int32} (hl : MLm 7 li fm) {n k0 : Nat} (hn : 1 ≤ n ∧ n ≤ 6) (hk0 : k0 < nF n) : ∀ (F k g : Nat) (A Q : Nat → Int32), 36 - k < F → (∃ q d, BFb n k0 k g q d A Q) → ∃ g' A' Q', fl4 (mo_laysSteps_B59 (nI n) li fm) F (nI k) (nI g) A Q = some (g', A', Q') ∧ FIN n k0 A' := by
  intro F
  induction F with
  | zero => intro k g A Q h; omega
  | succ F ih =>
    rintro k g A Q hF ⟨q, d, hb⟩
    have hb' := hb
    obtain ⟨kg, g0, q0, h1, h2, h3, h4, h5, h6⟩ := hb
    have k35 := nF_b hn.2
    have g35 : g ≤ 35 := by
      have l := fb_ct_le (fun j => decide (¬ A j = -1)) (nF n)
      omega
    have d34 : ∀ i, i < g → d i ≤ 34 := fun i hi => Dst_34 hn hk0 ⟨_, (h1 i hi).2.2.2⟩
    show ∃ g' A' Q', mo_laysSteps_B59 (nI n) li fm (fl4 (mo_laysSteps_B59 (nI n) li fm) F) (nI k) (nI g) A Q = some (g', A', Q') ∧ FIN n k0 A'
    rw [mo_laysSteps_B59]
    by_cases c1 : g ≤ k
    · rw [if_pos (nI_le c1 (by omega))]
      exact ⟨_, _, _, rfl, bf_fin hn hk0 hb' (fun i hi => h5 i (by omega))⟩
    · rw [if_neg (nI_ge (by omega) (by omega))]
      by_cases c2 : n ≤ 1
      · rw [if_pos (show nI n ≤ (1 : Int32) from nI_le (a := n) (b := 1) c2 (by omega))]
        have n1 : n = 1 := by omega
        subst n1
        exact ⟨_, _, _, rfl, bf_fin hn hk0 hb' (fun i hi j hs => absurd hs (STP_1 (h1 i hi).2.1))⟩
      · have kl : k < g := by omega
        obtain ⟨b1, b2, b3, b4⟩ := h1 k kl
        have mb := mbeg hl (n := n) (k := 2) ⟨hn.1, by omega⟩ (by omega)
        rw [show nI 2 = (2 : Int32) from rfl] at mb
        obtain ⟨m1, m2, m3⟩ := mli hl (n := n) (k := 2) (t := q k) ⟨hn.1, by omega⟩ (by omega) b2
        have e34 := d34 k kl
        obtain ⟨g', A', Q', r1, r2⟩ := bf_cells hl hn hk0 b2 (k := k) (e := d k) (g := g) (A := A) (Q := Q) ⟨q, d, hb', kl, rfl, rfl, fun j hj => hj.elim⟩ (nI k) (fl4 (mo_laysSteps_B59 (nI n) li fm) F)
        rw [if_neg (show ¬ nI n ≤ (1 : Int32) from nI_ge (a := 1) (b := n) (by omega) (by omega)), mb, bd1_some, ck_n (show k < 110 by omega) (by omega), cl_n (show k < 2 ^ 31 by omega), b1, nm_eq, nI_add, ck_n m2 (by omega), cl_n (show bK n 2 + q k < 2 ^ 31 by omega), m1, nm_eq, ck_n (show k < 110 by omega) (by omega), nm_eq, ck_n (show q k < 110 by omega) (by omega), cl_n (show q k < 2 ^ 31 by omega), b3, show (nI (d k) + 1 : Int32) = nI (d k + 1) from nI_1 _, nm_eq, show sl (Lf (mbr n 2 (q k))) 9 = f9 (mbr n 2 (q k)) from rfl, r1, o1]
        obtain ⟨q', d', hb2, kl2, qk, dk, hS⟩ := r2
        refine ih (k + 1) g' A' Q' (by omega) ⟨q', d', ?_⟩
        obtain ⟨_, u0, u1, u2, u3, u4, u5, u6, u7⟩ := hb2
        refine ⟨kl2, u0, u1, u2, u3, u4, fun i hi hk1 => ?_, fun i hi j hs => ?_, u7⟩
        · have a := u5 i hi kl2
          have b := u4 k (k + 1) (by omega) hk1
          omega
        · by_cases z : i = k
          · subst z
            rw [qk] at hs
            obtain ⟨p, s, s1, s2, s3, s4⟩ := hs
            by_cases ps : s = p
            · subst ps
              obtain ⟨mf, l1, g1, l2⟩ := mbr_fI (n := n) ⟨hn.1, by omega⟩ b2
              have e307 := eN_307 hn.2
              rw [Gp_self (by omega) s1, mf] at s4
              exact ⟨i, kl2, by rw [qk]; exact s4⟩
            · exact hS j ⟨p, s1, s, s2, ps, s3, s4⟩
          · exact u6 i (by omega) j hs
theorem steps_ok {li : Nat → Int64} {fm : Nat → Int32} (hl : MLm 7 li fm) {f : Int64} (hf : FIG f) {n : Nat} (hc : cnt f = n) (hn : n ≤ 6) (y : Int32) (A Q : Nat → Int32) : ∃ y' A' Q', mo_laysSteps f y li fm A Q = some (y', A', Q') ∧ FIN n (fI f) A' := by
  have cp := cnt_pos' hf
  have n1 : 1 ≤ n ∧ n ≤ 6 := ⟨by omega, hn⟩
  have n7 : 1 ≤ n ∧ n ≤ 7 := ⟨by omega, by omega⟩
  have mb := mbeg hl (n := n) (k := 2) n7 (by omega)
  have me := mend hl (n := n) (k := 2) n7 (by omega)
  rw [show nI 2 = (2 : Int32) from rfl] at mb me
  have sz := sz_eq n7.1 n7.2 (show 2 ≤ 2 by omega)
  have k35 := nF_b hn
  have fl := fI_lt hf (by omega)
  rw [hc] at fl
  have sz' : bK n (2 + 1) - bK n 2 = nF n := sz.1
  rw [mo_laysSteps, mo_bits_eq, hc, bd1_some, me, bd1_some, mb, bd1_some, nm_eq, pk_sub sz.2, sz']
  refine ivl2 (B := mo_laysSteps_B23 f (nI n) (nI (nF n)) y li fm Q) (fun t a A => a = nI t ∧ ∀ j, j < t → A j = -1) (fun o => ∃ y' A' Q', o = some (y', A', Q') ∧ FIN n (fI f) A') (nF n) ?_ ?_ FU 0 _ _ (by omega) (FU_lt (by omega)) ⟨rfl, fun j hj => by omega⟩
  · rintro t ht a A kq ⟨rfl, hA⟩
    rw [mo_laysSteps_B23, if_neg (nI_ge ht (by omega)), ck_n (show t < 110 by omega) (by omega), nm_eq, nm_eq, cl_n (show t < 2 ^ 31 by omega), o1]
    refine ⟨_, _, ⟨rfl, fun j hj => ?_⟩, rfl⟩
    by_cases q : j = t
    · rw [q, pk_us]
    · rw [pk_un q]; exact hA j (by omega)
  · rintro a A kq ⟨rfl, hA⟩
    have mv := (settle_tr (b := f) hf (α := 0) (β := 0) (fun X Y => by rw [Int.add_zero, Int.add_zero])).2
    have rq := reaches_eq hl n1 hf.2.2.2.2 mv hf hc 0 (show 0 < 110 by omega) A Q
    rw [if_pos (hA _ fl)] at rq
    have rq' : mo_reaches f (nI n) 0 0 li fm A Q = some (nI (0 + 1), upd A (fI f) 0, upd Q 0 (nI (fI f))) := rq
    rw [mo_laysSteps_B23, if_pos (nI_le (Nat.le_refl _) (by omega)), rq', bd3_some]
    have ob := bf_outer hl n1 fl FU 0 1 (upd A (fI f) 0) (upd Q 0 (nI (fI f))) (FU_lt (by omega)) ⟨fun _ => fI f, fun _ => 0, by omega, by omega, rfl, fun i hi => ?_, fun j hj => ?_, fun i j _ _ => Nat.le_refl _, fun i _ _ => Nat.zero_le _, fun i hi => by omega, ?_⟩
    · obtain ⟨g', A', Q', x1, x2⟩ := ob
      exact ⟨g', A', Q', x1, x2⟩
    · have i0 : i = 0 := by omega
      subst i0
      exact ⟨by rw [upI, if_pos rfl], fl, by rw [upI, if_pos rfl]; rfl, rfl, fun u hu => absurd hu (Nat.not_lt_zero u)⟩
    · by_cases q : j = fI f
      · exact Or.inr ⟨0, by omega, q.symm⟩
      · exact Or.inl (by rw [upI, if_neg q]; exact hA j hj)
    · have up := fb_ct_upd (fun x => decide (¬ A x = -1)) true fl
      have z : fb_ct (fun x => decide (¬ A x = -1)) (nF n) = 0 := fb_ct_zero.mpr (fun k hk => by rw [hA k hk]; rfl)
      rw [show decide (¬ A (fI f) = -1) = false from by rw [hA _ fl]; rfl, if_pos rfl, if_neg (by decide), z] at up
      have cg : fb_ct (fun x => decide (¬ upd A (fI f) 0 x = -1)) (nF n) = fb_ct (fun x => if x = fI f then true else decide (¬ A x = -1)) (nF n) := fb_ct_cong (fun x _ => by
        by_cases q : x = fI f
        · rw [if_pos q, upI, if_pos q]; decide
        · rw [if_neg q, upI, if_neg q])
      rw [cg]
      omega
