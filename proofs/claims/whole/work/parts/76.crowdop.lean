theorem unV_s (c : Nat → Nat) (v : Nat) : unV c (v + 1) = unV c v + (if 0 < c v then 1 else 0) := by
  unfold unV
  rw [fb_ct_succ]
  by_cases q : 0 < c v <;> simp [q]
theorem unV_64 {c : Nat → Nat} (h : ∀ v, 60 ≤ v → c v = 0) : unV c 64 = unV c 60 := by
  rw [unV_s c 63, unV_s c 62, unV_s c 61, unV_s c 60, h 60 (by omega), h 61 (by omega), h 62 (by omega), h 63 (by omega)]
  rfl
theorem mo_crowd_end {c : Nat → Nat} {C : Nat → Int32} (hC : ∀ v, v < 60 → C v = nI (c v)) (hb : ∀ v, c v ≤ 1067) (mo g : Int32) (fl go : Nat → Int32) (li : Nat → Int64) (fm : Nat → Int32) : fl3 (mo_crowd_B109 mo g fl go li fm C) FU 0 0 0 = some (if mo = 0 then nI (unV c 60) else nI (mxV c 60), g, fl, go, C) := by
  refine ivl3 (B := mo_crowd_B109 mo g fl go li fm C) (fun t a b d => a = nI (mxV c t) ∧ b = nI (unV c t) ∧ d = nI t) (fun o => o = some (if mo = 0 then nI (unV c 60) else nI (mxV c 60), g, fl, go, C)) 60 ?_ ?_ FU 0 _ _ _ (by omega) (FU_lt (by omega)) ⟨rfl, rfl, rfl⟩
  · rintro t ht a b d kq ⟨rfl, rfl, rfl⟩
    have mb : mxV c t ≤ 1067 := mxV_b (fun v _ => hb v)
    have cb := hb t
    have c60 : ∀ {β : Type} (k : Option β), ck (nI t) 60 k = k := fun k => ck_n ht (by omega) k
    have us := unV_s c t
    have fin : ∀ z : Nat, z = max (mxV c t) (c t) → ∃ a' b' d', (a' = nI (mxV c (t + 1)) ∧ b' = nI (unV c (t + 1)) ∧ d' = nI (t + 1)) ∧ mo_crowd_J140 kq li fm mo (nI (unV c t)) (nI t) g fl go C (nI z) = kq a' b' d' := by
      intro z hz
      have hz' : z = mxV c (t + 1) := hz
      rw [mo_crowd_J140, c60, cl_n (by omega), hC t ht]
      by_cases q : 0 < c t
      · rw [if_pos q] at us
        rw [if_neg (show ¬ nI (c t) ≤ 0 from nI_ge (a := 0) (b := c t) q (by omega)), mo_crowd_J159, nm_eq, nm_eq, o1]
        exact ⟨_, _, _, ⟨by rw [hz'], by rw [us, show (1 : Int32) = nI 1 from rfl, nI_add], rfl⟩, rfl⟩
      · rw [if_neg q] at us
        rw [if_pos (show nI (c t) ≤ 0 from by rw [show c t = 0 by omega]; decide), mo_crowd_J159, nm_eq, nm_eq, o1]
        exact ⟨_, _, _, ⟨by rw [hz'], by rw [us, show (0 : Int32) = nI 0 from rfl, nI_add], rfl⟩, rfl⟩
    rw [mo_crowd_B109, if_neg (show ¬ (60 : Int32) ≤ nI t from nI_ge (a := t) (b := 60) ht (by omega)), c60, cl_n (by omega), hC t ht]
    by_cases q : c t ≤ mxV c t
    · rw [if_pos (nI_le q (by omega))]
      exact fin _ (by omega)
    · rw [if_neg (nI_ge (show mxV c t < c t by omega) (by omega)), c60]
      exact fin _ (by omega)
  · rintro a b d kq ⟨rfl, rfl, rfl⟩
    rw [mo_crowd_B109, if_pos (show (60 : Int32) ≤ nI 60 from by decide)]
    by_cases q : mo = 0
    · rw [if_pos q, if_pos q]
    · rw [if_neg q, if_neg q]
theorem mo_crowd_go {li : Nat → Int64} {fm : Nat → Int32} (hl : MLm 7 li fm) {n k w : Nat} (hn : 1 ≤ n ∧ n ≤ 7) (hk : k ≤ 2) (hw : w ≤ 14) (mo : Int32) {C : Nat → Int32} (hC : ∀ v, v < 60 → C v = 0) (g : Int32) (fl go : Nat → Int32) : ∃ g' fl' go' C', fl5 (mo_crowd_B53 (nI n) (nI k) (nI w) mo li fm) FU (nI (bK n k)) g fl go C = some (if mo = 0 then nI (unV (fun v => crC n k w v (eK k n - eK k (n - 1))) 64) else nI (mxV (fun v => crC n k w v (eK k n - eK k (n - 1))) 64), g', fl', go', C') := by
  have sz := sz_eq hn.1 hn.2 hk
  have ek := eK_1067 (k := k) hn.2
  have bb := bK_b (n := n) (k := k + 1) hn.2
  refine ivl5 (B := mo_crowd_B53 (nI n) (nI k) (nI w) mo li fm) (fun t a g fl go C => a = nI (bK n k + t) ∧ ∀ v, v < 60 → C v = nI (crC n k w v t)) (fun o => ∃ g' fl' go' C', o = some (if mo = 0 then nI (unV (fun v => crC n k w v (eK k n - eK k (n - 1))) 64) else nI (mxV (fun v => crC n k w v (eK k n - eK k (n - 1))) 64), g', fl', go', C')) (eK k n - eK k (n - 1)) ?_ ?_ FU 0 _ _ _ _ _ (by omega) (FU_lt (by omega)) ⟨rfl, fun v hv => by rw [hC v hv]; rfl⟩
  · rintro t ht a g fl go C kq ⟨rfl, hC⟩
    obtain ⟨l1, l2, l3⟩ := mli hl hn hk ht
    obtain ⟨_, t2, t3⟩ := trN_ok (Lf_FIG l3) hw
    obtain ⟨g', fl', go', t4⟩ := t3 g fl go
    obtain ⟨j1, j2, j3, j4⟩ := mbr_s (k := k) hn ht
    have b := eN_b hn.2
    have gg := gn_b l3
    have cc := Lf_cnt l3
    have r60 := trN_60 (Lf_FIG l3) (by omega) hw
    have cv : ∀ v, crC n k w v (t + 1) = crC n k w v t + (if trN (Lf (mbr n k t)) w = v then 1 else 0) := fun v => crC_s n k w v t
    generalize trN (Lf (mbr n k t)) w = r at *
    have c60 : ∀ {β : Type} (k : Option β), ck (nI r) 60 k = k := fun k => ck_n r60 (by omega) k
    rw [mo_crowd_B53, mend hl hn hk, bd1_some, if_neg (nI_ge (show bK n k + t < bK n (k + 1) by omega) (by omega)), ck_n l2 (by omega), cl_n (by omega), l1, t4, bd4_some, c60, nm_eq, c60, nm_eq, nm_eq, cl_n (show r < 2 ^ 31 by omega), hC r r60, o1]
    refine ⟨_, _, _, _, _, ⟨rfl, fun v hv => ?_⟩, rfl⟩
    by_cases q : v = r
    · rw [q, pk_us, cv r, if_pos rfl, show (1 : Int32) = nI 1 from rfl, nI_add]
    · rw [pk_un q, hC v hv, cv v, if_neg (fun e => q e.symm)]; rfl
  · rintro a g fl go C kq ⟨rfl, hC⟩
    rw [mo_crowd_B53, mend hl hn hk, bd1_some, if_pos (nI_le (show bK n (k + 1) ≤ bK n k + (eK k n - eK k (n - 1)) by omega) (by omega)), mo_crowd_end (c := fun v => crC n k w v (eK k n - eK k (n - 1))) hC (fun v => by have : crC n k w v (eK k n - eK k (n - 1)) ≤ eK k n - eK k (n - 1) := fb_ct_le _ _; show crC n k w v (eK k n - eK k (n - 1)) ≤ 1067; omega), mxV_64 (fun v hv => crC_60 hn hw (Nat.le_refl _) hv), unV_64 (fun v hv => crC_60 hn hw (Nat.le_refl _) hv)]
    exact ⟨_, _, _, _, rfl⟩
theorem opc_crowd (tl : Int64 → Nat) (v w u mo : Int32) {x : Int32} {nu : Nat → Int64} {os fr en : Nat → Int32} (hc : CLs x nu os fr en) {M : Nat → Int64} (hM : MK tl M) {li : Nat → Int64} {fm : Nat → Int32} (hl : MLm 7 li fm) (s1 s2 s3 s4 s5 s6 s7 : Int32) (le C : Nat → Int32) (g : Int32) (fl go mC : Nat → Int32) : ∃ r x' nu' os' fr' en' M' C' g' fl' go' mC', cf_crowd v w u mo s1 s2 s3 s4 s5 s6 s7 le x nu os fr en M C = some (r, s1, s2, s3, s4, s5, s6, s7, le, x', nu', os', fr', en', M', C') ∧ mo_crowd v w u mo g fl go li fm mC = some (r, g', fl', go', mC') ∧ CLs x' nu' os' fr' en' ∧ MK tl M' := by
  cases hv : (inr v 1 7 && inr w 0 2) with
  | false =>
    simp only [cf_crowd, mo_crowd, cf_isList_eq, mo_isList_eq, hv, bd1_some, bf0, if_true]
    exact ⟨-1, _, _, _, _, _, _, _, _, _, _, _, rfl, rfl, hc, hM⟩
  | true =>
    cases hu : inr u 0 14 with
    | false =>
      simp only [cf_crowd, mo_crowd, cf_isList_eq, mo_isList_eq, cf_within_eq, mo_in_eq, hv, hu, bd1_some, bf0, bt0, if_true, if_false]
      exact ⟨-1, _, _, _, _, _, _, _, _, _, _, _, rfl, rfl, hc, hM⟩
    | true =>
      have hv' := hv
      rw [Bool.and_eq_true] at hv
      obtain ⟨n, n1, n2, rfl⟩ := inr_17' hv.1
      obtain ⟨k, hk, rfl⟩ := inr_2 hv.2
      obtain ⟨w, hw, rfl⟩ := inr_nI (n := 14) (by omega) hu
      simp only [cf_crowd, mo_crowd, cf_isList_eq, mo_isList_eq, cf_within_eq, mo_in_eq, hv', hu, bd1_some, bt0, if_false]
      obtain ⟨m, nu', os', fr', en', m1, m2, p1, p2⟩ := prepare_eq hc n2
      obtain ⟨M', C', e1, e2⟩ := crowds_eq (tl := tl) p2 m2 hM hk n1 m1 hw s1 s2 s3 s4 s5 s6 s7 le mo C
      rw [p1, bd5_some, e1, bd11_some]
      have ml : ∃ g' fl' go' mC', fl2 (mo_crowd_B24 (nI n) (nI k) (nI w) mo g fl go li fm) FU 0 mC = some (if mo = 0 then nI (unV (fun v => crC n k w v (eK k n - eK k (n - 1))) 64) else nI (mxV (fun v => crC n k w v (eK k n - eK k (n - 1))) 64), g', fl', go', mC') := by
        refine ivl2 (B := mo_crowd_B24 (nI n) (nI k) (nI w) mo g fl go li fm) (fun t a C => a = nI t ∧ ∀ v, v < t → C v = 0) (fun o => ∃ g' fl' go' mC', o = some (if mo = 0 then nI (unV (fun v => crC n k w v (eK k n - eK k (n - 1))) 64) else nI (mxV (fun v => crC n k w v (eK k n - eK k (n - 1))) 64), g', fl', go', mC')) 60 ?_ ?_ FU 0 _ _ (by omega) (FU_lt (by omega)) ⟨rfl, fun v h => by omega⟩
        · rintro t ht a C K ⟨rfl, hC⟩
          rw [mo_crowd_B24, if_neg (show ¬ (60 : Int32) ≤ nI t from nI_ge (a := t) (b := 60) ht (by omega)), ck_n ht (by omega), nm_eq, nm_eq, cl_n (by omega), o1]
          refine ⟨_, _, ⟨rfl, fun v hv => ?_⟩, rfl⟩
          by_cases q : v = t
          · rw [q, pk_us]
          · rw [pk_un q]; exact hC v (by omega)
        · rintro a C K ⟨rfl, hC⟩
          rw [mo_crowd_B24, if_pos (show (60 : Int32) ≤ nI 60 from by decide), mbeg hl ⟨n1, n2⟩ hk, bd1_some]
          exact mo_crowd_go hl ⟨n1, n2⟩ hk hw mo hC g fl go
      obtain ⟨g', fl', go', mC', d1⟩ := ml
      rw [d1]
      exact ⟨_, _, _, _, _, _, _, _, _, _, _, _, rfl, rfl, ⟨m, m2, rfl, p2⟩, e2⟩
