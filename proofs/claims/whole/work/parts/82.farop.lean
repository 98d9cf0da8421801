theorem mo_place_in {li : Nat → Int64} {fm : Nat → Int32} (hl : MLm 7 li fm) {h : Nat → Int64} {j : Nat} (hj : j < 8) (hf : FIG (h j)) (q7 : cnt (h j) ≤ 7) : mo_place (nI j) 2 h li fm = some (nI (fI (h j))) := by
  have hw : inr 2 0 2 = true := by decide
  have cp := cnt_pos' hf
  have mo2 := mo_ownOf_eq hf (k := 2) (by omega)
  have mb := mbeg hl (n := cnt (h j)) (k := 2) ⟨by omega, q7⟩ (by omega)
  obtain ⟨i, i1, i2, i3, i4, i5⟩ := fI_s hf q7
  have go := mo_place_go hl (k := 2) ⟨by omega, q7⟩ (by omega) i1 i2 i3 h
  rw [show nI 2 = (2 : Int32) from rfl] at mo2 mb go
  simp only [mo_place, mo_isDrawer_eq, mo_isKind_eq, inr_dr' hj, hw, bd1_some, bt0, if_false, ck_n hj (show 8 < 2 ^ 31 by omega), cl_n (show j < 2 ^ 31 by omega)]
  rw [if_neg hf.ne, mo_bits_eq, bd1_some, if_pos (show nI (cnt (h j)) ≤ (7 : Int32) from nI_le (a := cnt (h j)) (b := 7) q7 (by omega)), mo2, bd1_some, i4, mb, bd1_some, go, i5]
theorem opc_way (v w : Int32) {g h : Nat → Int64} (hd : DR g h) {x : Int32} {nu : Nat → Int64} {os fr en : Nat → Int32} (hc : CLs x nu os fr en) {ne : Nat → Int64} {wm' : Nat → Int32} (hW : WYs ne wm') {li : Nat → Int64} {fm : Nat → Int32} (hl : MLm 7 li fm) (y : Int32) (A Q : Nat → Int32) : ∃ r x' nu' os' fr' en' ne' wm'' y' A' Q', cf_way v w g x nu os fr en ne wm' = some (r, x', nu', os', fr', en', ne', wm'') ∧ mo_way v w y h li fm A Q = some (r, y', A', Q') ∧ CLs x' nu' os' fr' en' ∧ WYs ne' wm'' := by
  cases hv : inr v 0 7 with
  | false =>
    simp only [cf_way, mo_way, cf_isDrawer_eq, mo_isDrawer_eq, hv, bd1_some, bf0, if_true]
    exact ⟨-1, _, _, _, _, _, _, _, _, _, _, rfl, rfl, hc, hW⟩
  | true =>
    cases hw : inr w 0 7 with
    | false =>
      simp only [cf_way, mo_way, cf_isDrawer_eq, mo_isDrawer_eq, hv, hw, bd1_some, bf0, bt0, if_true, if_false]
      exact ⟨-1, _, _, _, _, _, _, _, _, _, _, rfl, rfl, hc, hW⟩
    | true =>
      obtain ⟨j, hj, rfl⟩ := inr_dr hv
      obtain ⟨k, hk, rfl⟩ := inr_dr hw
      have ej := (hd j hj).1
      have ek := (hd k hk).1
      simp only [cf_way, mo_way, cf_isDrawer_eq, mo_isDrawer_eq, hv, hw, bd1_some, bt0, if_false, ck_n hj (show 8 < 2 ^ 31 by omega), ck_n hk (show 8 < 2 ^ 31 by omega), cl_n (show j < 2 ^ 31 by omega), cl_n (show k < 2 ^ 31 by omega), ej, ek]
      by_cases h0 : h j = 0
      · rw [if_pos h0, if_pos h0]; exact ⟨-2, _, _, _, _, _, _, _, _, _, _, rfl, rfl, hc, hW⟩
      · rw [if_neg h0, if_neg h0]
        by_cases h1 : h k = 0
        · rw [if_pos h1, if_pos h1]; exact ⟨-2, _, _, _, _, _, _, _, _, _, _, rfl, rfl, hc, hW⟩
        · rw [if_neg h1, if_neg h1]
          have hf := DRf hd hj h0
          have hg := DRf hd hk h1
          have f12 := hf.2.2.2.1
          have g12 := hg.2.2.2.1
          have cp := cnt_pos' hf
          rw [jl_bitCount_eq, bd1_some, jl_bitCount_eq, bd1_some, mo_bits_eq, bd1_some, mo_bits_eq, bd1_some]
          by_cases qe : cnt (h j) = cnt (h k)
          · have eqe : nI (cnt (h j)) = nI (cnt (h k)) := by rw [qe]
            rw [if_pos eqe, if_pos eqe]
            by_cases q6 : cnt (h j) ≤ 6
            · obtain ⟨m, nu', os', fr', en', m1, m2, p1, p2⟩ := prepare_eq hc (show cnt (h j) ≤ 7 by omega)
              obtain ⟨ne', wm'', w1, w2, w3⟩ := wprepare_eq p2 m2 (n := cnt (h j)) ⟨by omega, q6⟩ m1 hW
              obtain ⟨r, r1, r2⟩ := steps_eq p2 m2 hf hg rfl qe.symm q6 m1 w3
              obtain ⟨y', A', Q', s1, s2⟩ := steps_ok hl hf rfl q6 y A Q
              have fl := fI_lt hg (by omega)
              rw [← qe] at fl
              have k35 := nF_b q6
              have e6 := show nI (cnt (h j)) ≤ (6 : Int32) from nI_le (a := cnt (h j)) (b := 6) q6 (by omega)
              rw [if_pos e6, if_pos e6, p1, bd5_some, w1, bd2_some, r1, bd1_some, s1, bd3_some, mo_place_in hl hk hg (by omega), bd1_some, ck_n (show fI (h k) < 110 by omega) (by omega), cl_n (show fI (h k) < 2 ^ 31 by omega)]
              have re : r = A' (fI (h k)) := by
                rcases s2 _ fl with ⟨a1, a2⟩ | ⟨t, a1, a2, a3⟩
                · rcases r2 with ⟨t', b1, b2, b3⟩ | ⟨b1, b2⟩
                  · exact absurd b3.1 (a2 t')
                  · rw [b1, a1]
                · rcases r2 with ⟨t', b1, b2, b3⟩ | ⟨b1, b2⟩
                  · rw [a2, b2, Dst_one a3 b3]
                  · exact absurd a3.1 (b2 t)
              rw [re]
              exact ⟨_, _, _, _, _, _, _, _, _, _, _, rfl, rfl, ⟨m, m2, rfl, p2⟩, w2⟩
            · have e6 := show ¬ nI (cnt (h j)) ≤ (6 : Int32) from nI_ge (a := 6) (b := cnt (h j)) (by omega) (by omega)
              rw [if_neg e6, if_neg e6]
              exact ⟨-3, _, _, _, _, _, _, _, _, _, _, rfl, rfl, hc, hW⟩
          · have en' : ¬ nI (cnt (h j)) = nI (cnt (h k)) := fun e => qe ((nI_eq (by omega) (by omega)).mp e)
            rw [if_neg en', if_neg en']
            exact ⟨-3, _, _, _, _, _, _, _, _, _, _, rfl, rfl, hc, hW⟩
theorem far_go {li : Nat → Int64} {fm : Nat → Int32} (hl : MLm 7 li fm) {n k0 T : Nat} (hn : 1 ≤ n ∧ n ≤ 6) (hk0 : k0 < nF n) {A : Nat → Int32} (hA : FIN n k0 A) (hT : T ≤ 34) (hT1 : ∃ j, Dst n k0 T j) (hT2 : ∀ t j, Dst n k0 t j → t ≤ T) (far y : Int32) (D : Nat → Int64) (Q : Nat → Int32) : fl3 (mo_farthest_B61 far (nI n) y D li fm A Q) FU 0 0 0 = some (if far = 0 then nI (fb_ct (dsB n k0 T) 64) else nI T, y, A, Q) := by
  have n7 : 1 ≤ n ∧ n ≤ 7 := ⟨hn.1, by omega⟩
  have mb := mbeg hl (n := n) (k := 2) n7 (by omega)
  have me := mend hl (n := n) (k := 2) n7 (by omega)
  rw [show nI 2 = (2 : Int32) from rfl] at mb me
  have sz := sz_eq n7.1 n7.2 (show 2 ≤ 2 by omega)
  have sz' : bK n (2 + 1) - bK n 2 = nF n := sz.1
  have k35 := nF_b hn.2
  refine ivl3 (B := mo_farthest_B61 far (nI n) y D li fm A Q) (fun t a b c => c = nI t ∧ ∃ M, a = nI M ∧ M ≤ 34 ∧ b = nI (fb_ct (dsB n k0 M) t) ∧ (∀ j, j < t → ∀ u, Dst n k0 u j → u ≤ M) ∧ (M = 0 ∨ ∃ j, Dst n k0 M j)) (fun o => o = some (if far = 0 then nI (fb_ct (dsB n k0 T) 64) else nI T, y, A, Q)) (nF n) ?_ ?_ FU 0 _ _ _ (by omega) (FU_lt (by omega)) ⟨rfl, 0, rfl, by omega, rfl, fun j hj => by omega, Or.inl rfl⟩
  · rintro t ht a b c kq ⟨rfl, M, rfl, hM, rfl, h1, h2⟩
    have c110 : ∀ {β : Type} (k : Option β), ck (nI t) 110 k = k := fun k => ck_n (show t < 110 by omega) (by omega) k
    have ct := fb_ct_le (dsB n k0 M) t
    rw [mo_farthest_B61, me, bd1_some, mb, bd1_some, pk_sub sz.2, sz', if_neg (nI_ge ht (by omega)), c110, cl_n (show t < 2 ^ 31 by omega)]
    have fs : ∀ N, fb_ct (dsB n k0 N) (t + 1) = fb_ct (dsB n k0 N) t + (if dsB n k0 N t then 1 else 0) := fun N => fb_ct_succ _ _
    rcases hA t ht with ⟨a1, a2⟩ | ⟨u, a1, a2, a3⟩
    · have nd : ∀ N, dsB n k0 N t = false := fun N => by
        cases z : dsB n k0 N t with
        | false => rfl
        | true => exact absurd (dsB_t.mp z).1 (a2 N)
      have lm : (-1 : Int32) ≤ nI M := by
        rw [Int32.le_iff_toInt_le]
        have := nI_pos' (n := M) (by omega)
        rw [Int32.le_iff_toInt_le, show (0 : Int32).toInt = 0 from rfl] at this
        rw [show (-1 : Int32).toInt = -1 from rfl]
        omega
      rw [a1, if_pos lm, mo_farthest_J94, c110, cl_n (show t < 2 ^ 31 by omega), a1, if_pos lm, mo_farthest_J118, c110, cl_n (show t < 2 ^ 31 by omega), a1, if_neg (fun e => nI_ne1 (c := M) (by omega) e.symm), mo_farthest_J139, nm_eq, nm_eq, o1]
      refine ⟨_, _, _, ⟨rfl, M, rfl, hM, ?_, fun j hj v hv => ?_, h2⟩, rfl⟩
      · rw [fs, nd, if_neg (by decide), show (0 : Int32) = nI 0 from rfl, nI_add]
      · by_cases q : j = t
        · rw [q] at hv; exact absurd hv.1 (a2 v)
        · exact h1 j (by omega) v hv
    · rw [a2]
      by_cases q : u ≤ M
      · rw [if_pos (nI_le q (by omega)), mo_farthest_J94, c110, cl_n (show t < 2 ^ 31 by omega), a2, if_pos (nI_le q (by omega)), mo_farthest_J118, c110, cl_n (show t < 2 ^ 31 by omega), a2]
        have hj : ∀ j, j < t + 1 → ∀ v, Dst n k0 v j → v ≤ M := fun j hj v hv => by
          by_cases z : j = t
          · rw [z] at hv; rw [Dst_one hv a3]; exact q
          · exact h1 j (by omega) v hv
        by_cases qe : u = M
        · subst qe
          rw [if_pos rfl, mo_farthest_J139, nm_eq, nm_eq, o1]
          refine ⟨_, _, _, ⟨rfl, u, rfl, hM, ?_, hj, h2⟩, rfl⟩
          rw [fs, dsB_t.mpr a3, if_pos rfl, nI_1]
        · rw [if_neg (fun e => qe ((nI_eq (by omega) (by omega)).mp e)), mo_farthest_J139, nm_eq, nm_eq, o1]
          refine ⟨_, _, _, ⟨rfl, M, rfl, hM, ?_, hj, h2⟩, rfl⟩
          have nd : dsB n k0 M t = false := by
            cases z : dsB n k0 M t with
            | false => rfl
            | true => exact absurd (Dst_one a3 (dsB_t.mp z)) qe
          rw [fs, nd, if_neg (by decide), show (0 : Int32) = nI 0 from rfl, nI_add]
      · have z0 : fb_ct (dsB n k0 u) t = 0 := fb_ct_zero.mpr (fun j hj => by
          cases z : dsB n k0 u j with
          | false => rfl
          | true => have := h1 j hj u (dsB_t.mp z); omega)
        rw [if_neg (nI_ge (by omega) (by omega)), mo_farthest_J94, c110, cl_n (show t < 2 ^ 31 by omega), a2, if_neg (nI_ge (by omega) (by omega)), c110, mo_farthest_J118, c110, cl_n (show t < 2 ^ 31 by omega), a2, if_pos rfl, mo_farthest_J139, nm_eq, nm_eq, o1]
        refine ⟨_, _, _, ⟨rfl, u, rfl, a1, ?_, fun j hj v hv => ?_, Or.inr ⟨t, a3⟩⟩, rfl⟩
        · rw [fs, dsB_t.mpr a3, if_pos rfl, z0]; rfl
        · by_cases z : j = t
          · rw [z] at hv; rw [Dst_one hv a3]; exact Nat.le_refl _
          · have := h1 j (by omega) v hv; omega
  · rintro a b c kq ⟨rfl, M, rfl, hM, rfl, h1, h2⟩
    have MT : M = T := by
      obtain ⟨j, hj⟩ := hT1
      have a := h1 j (Ba_lt hn hk0 T j hj.1) T hj
      rcases h2 with z | ⟨j', hj'⟩
      · omega
      · have := hT2 M j' hj'; omega
    subst MT
    have ct : fb_ct (dsB n k0 M) 64 = fb_ct (dsB n k0 M) (nF n) := ct_gap (by omega) (fun j hj _ => by
      cases z : dsB n k0 M j with
      | false => rfl
      | true => have := Ba_lt hn hk0 M j (dsB_t.mp z).1; omega)
    rw [mo_farthest_B61, me, bd1_some, mb, bd1_some, pk_sub sz.2, sz', if_pos (nI_le (Nat.le_refl _) (by omega)), ct]
    by_cases q : far = 0
    · rw [if_pos q, if_pos q]
    · rw [if_neg q, if_neg q]
theorem opc_farthest (v far : Int32) {g h : Nat → Int64} (hd : DR g h) {x : Int32} {nu : Nat → Int64} {os fr en : Nat → Int32} (hc : CLs x nu os fr en) {ne : Nat → Int64} {wm' : Nat → Int32} (hW : WYs ne wm') {li : Nat → Int64} {fm : Nat → Int32} (hl : MLm 7 li fm) (y : Int32) (A Q : Nat → Int32) : ∃ r x' nu' os' fr' en' ne' wm'' y' A' Q', cf_farthest v far g x nu os fr en ne wm' = some (r, x', nu', os', fr', en', ne', wm'') ∧ mo_farthest v far y h li fm A Q = some (r, y', A', Q') ∧ CLs x' nu' os' fr' en' ∧ WYs ne' wm'' := by
  cases hv : inr v 0 7 with
  | false =>
    simp only [cf_farthest, mo_farthest, cf_isDrawer_eq, mo_isDrawer_eq, hv, bd1_some, bf0, if_true]
    exact ⟨-1, _, _, _, _, _, _, _, _, _, _, rfl, rfl, hc, hW⟩
  | true =>
    obtain ⟨j, hj, rfl⟩ := inr_dr hv
    have ej := (hd j hj).1
    simp only [cf_farthest, mo_farthest, cf_isDrawer_eq, mo_isDrawer_eq, hv, bd1_some, bt0, if_false, ck_n hj (show 8 < 2 ^ 31 by omega), cl_n (show j < 2 ^ 31 by omega), ej]
    by_cases h0 : h j = 0
    · rw [if_pos h0, if_pos h0]; exact ⟨-2, _, _, _, _, _, _, _, _, _, _, rfl, rfl, hc, hW⟩
    · rw [if_neg h0, if_neg h0]
      have hf := DRf hd hj h0
      have f12 := hf.2.2.2.1
      have cp := cnt_pos' hf
      rw [jl_bitCount_eq, bd1_some, mo_bits_eq, bd1_some]
      by_cases q6 : cnt (h j) ≤ 6
      · obtain ⟨m, nu', os', fr', en', m1, m2, p1, p2⟩ := prepare_eq hc (show cnt (h j) ≤ 7 by omega)
        obtain ⟨ne', wm'', w1, w2, w3⟩ := wprepare_eq p2 m2 (n := cnt (h j)) ⟨by omega, q6⟩ m1 hW
        have fl := fI_lt hf (by omega)
        have n1 : 1 ≤ cnt (h j) ∧ cnt (h j) ≤ 6 := ⟨by omega, q6⟩
        obtain ⟨T, t1, t2, t3, t4, t5⟩ := Dst_last n1 fl
        have ed := edge_eq p2 m2 hf rfl q6 m1 w3 far t1 t3 (fun j' => t4 (T + 1) j' (by omega))
        obtain ⟨y', A', Q', s1, s2⟩ := steps_ok hl hf rfl q6 y A Q
        have e6 := show nI (cnt (h j)) ≤ (6 : Int32) from nI_le (a := cnt (h j)) (b := 6) q6 (by omega)
        rw [if_pos e6, if_pos e6, p1, bd5_some, w1, bd2_some, ed, bd1_some, s1, bd3_some, far_go hl n1 fl s2 t1 t2 t5 far y' h Q']
        exact ⟨_, _, _, _, _, _, _, _, _, _, _, rfl, rfl, ⟨m, m2, rfl, p2⟩, w2⟩
      · have e6 := show ¬ nI (cnt (h j)) ≤ (6 : Int32) from nI_ge (a := 6) (b := cnt (h j)) (by omega) (by omega)
        rw [if_neg e6, if_neg e6]
        exact ⟨-3, _, _, _, _, _, _, _, _, _, _, rfl, rfl, hc, hW⟩
