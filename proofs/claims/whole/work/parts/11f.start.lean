theorem dfX12 : ∀ j, j < 39 → defaultValue (tyX12 j) = vp_V [.null, .null, .int 0, .null, .int 0, .null, .null, .int 0, .null, .null, .null, .null, .int 0, .null, .null, .null, .int 0, .null, .null, .null, .int 0, .int 0, .int 0, .int 0, .int 0, .int 0, .int 0, .int 0, .int 0, .int 0, .null, .null, .null, .int 0, .null, .null, .null, .null, .int 0] j := by
  intro j hj
  match j, hj with
  | 0, _ => rfl
  | 1, _ => rfl
  | 2, _ => rfl
  | 3, _ => rfl
  | 4, _ => rfl
  | 5, _ => rfl
  | 6, _ => rfl
  | 7, _ => rfl
  | 8, _ => rfl
  | 9, _ => rfl
  | 10, _ => rfl
  | 11, _ => rfl
  | 12, _ => rfl
  | 13, _ => rfl
  | 14, _ => rfl
  | 15, _ => rfl
  | 16, _ => rfl
  | 17, _ => rfl
  | 18, _ => rfl
  | 19, _ => rfl
  | 20, _ => rfl
  | 21, _ => rfl
  | 22, _ => rfl
  | 23, _ => rfl
  | 24, _ => rfl
  | 25, _ => rfl
  | 26, _ => rfl
  | 27, _ => rfl
  | 28, _ => rfl
  | 29, _ => rfl
  | 30, _ => rfl
  | 31, _ => rfl
  | 32, _ => rfl
  | 33, _ => rfl
  | 34, _ => rfl
  | 35, _ => rfl
  | 36, _ => rfl
  | 37, _ => rfl
  | 38, _ => rfl
  | n + 39, h => exact absurd h (by omega)
theorem dfX11 : ∀ j, j < 13 → defaultValue (tyX11 j) = vp_V [.null, .null, .null, .null, .null, .null, .null, .null, .null, .null, .null, .int 0, .int 0] j := by
  intro j hj
  match j, hj with
  | 0, _ => rfl
  | 1, _ => rfl
  | 2, _ => rfl
  | 3, _ => rfl
  | 4, _ => rfl
  | 5, _ => rfl
  | 6, _ => rfl
  | 7, _ => rfl
  | 8, _ => rfl
  | 9, _ => rfl
  | 10, _ => rfl
  | 11, _ => rfl
  | 12, _ => rfl
  | n + 13, h => exact absurd h (by omega)
theorem nw_tbl : ∀ q ∈ nw_l, Cond.methodLinkNest q.1 q.2.1 q.2.2.1 q.2.2.2 ∈ lw_tbl := List.forall_mem_cons.mpr ⟨List.mem_of_getElem? (i := 595) (by decide +kernel), List.forall_mem_cons.mpr ⟨List.mem_of_getElem? (i := 741) (by decide +kernel), List.forall_mem_cons.mpr ⟨List.mem_of_getElem? (i := 93) (by decide +kernel), List.forall_mem_cons.mpr ⟨List.mem_of_getElem? (i := 114) (by decide +kernel), List.forall_mem_cons.mpr ⟨List.mem_of_getElem? (i := 127) (by decide +kernel), List.forall_mem_cons.mpr ⟨List.mem_of_getElem? (i := 219) (by decide +kernel), List.forall_mem_cons.mpr ⟨List.mem_of_getElem? (i := 250) (by decide +kernel), List.forall_mem_cons.mpr ⟨List.mem_of_getElem? (i := 272) (by decide +kernel), List.forall_mem_cons.mpr ⟨List.mem_of_getElem? (i := 502) (by decide +kernel), List.forall_mem_cons.mpr ⟨List.mem_of_getElem? (i := 1020) (by decide +kernel), List.forall_mem_cons.mpr ⟨List.mem_of_getElem? (i := 802) (by decide +kernel), List.forall_mem_cons.mpr ⟨List.mem_of_getElem? (i := 731) (by decide +kernel), fun _ h => absurd h List.not_mem_nil⟩⟩⟩⟩⟩⟩⟩⟩⟩⟩⟩⟩
set_option maxHeartbeats 8000000 in
set_option maxRecDepth 100000 in
theorem law_env {p : Program} {s : State} {m : MethodId} {meth : Method} {c : Code} {b L : Nat} {xs : Nat → Int32} (C0 : lw_At p s m meth c b L xs) : ∃ (D : va_G) (ct : Nat → ClassId), KK D ct s ∧ NW s := by
  obtain ⟨hx, hb, hr, hml, hown0, hts, hX, hbl, hlocks, hgv⟩ := id C0
  have hw : ∀ w ∈ wsL_law, w.before #[Value.ref b] s = true := fun w h => hts w (wsL_law_in w h)
  obtain ⟨c0, iS0, hKn0⟩ := u_known (C := RX11) (T := TX11) (N := 13) (n := 13) hw inlX11 (hw _ tw_1_1)
  obtain ⟨c1, iS1, hKn1⟩ := u_known (C := RX7) (T := TX7) (N := 4) (n := 4) hw inlX7 (hw _ tw_1_19)
  obtain ⟨c2, iS2, hKn2⟩ := u_known (C := RX8) (T := TX8) (N := 2) (n := 2) hw inlX8 (hw _ tw_1_23)
  obtain ⟨c3, iS3, hKn3⟩ := u_known (C := RX5) (T := TX5) (N := 12) (n := 12) hw inlX5 (hw _ tw_2_3)
  obtain ⟨c4, iS4, hKn4⟩ := u_known (C := RX0) (T := TX0) (N := 8) (n := 8) hw inlX0 (hw _ tw_2_7)
  obtain ⟨c5, iS5, hKn5⟩ := u_known (C := RX10) (T := TX10) (N := 3) (n := 3) hw inlX10 (hw _ tw_2_11)
  obtain ⟨c6, iS6, hKn6⟩ := u_known (C := RX1) (T := TX1) (N := 8) (n := 8) hw inlX1 (hw _ tw_2_15)
  obtain ⟨c7, iS7, hKn7⟩ := u_known (C := RX6) (T := TX6) (N := 5) (n := 5) hw inlX6 (hw _ tw_2_19)
  obtain ⟨c8, iS8, hKn8⟩ := u_known (C := RX4) (T := TX4) (N := 7) (n := 7) hw inlX4 (hw _ tw_2_23)
  obtain ⟨c9, iS9, hKn9⟩ := u_known (C := RX12) (T := TX12) (N := 39) (n := 39) hw inlX12 (hw _ tw_1_4)
  obtain ⟨a0, k0, m0, f0, g0, d0⟩ := Cond.arrayClass_spec (hw _ tw_1_13)
  obtain ⟨a1, k1, m1, f1, g1, d1⟩ := Cond.arrayClass_spec (hw _ tw_3_20)
  obtain ⟨a2, k2, m2, f2, g2, d2⟩ := Cond.arrayClass_spec (hw _ tw_1_15)
  obtain ⟨a3, k3, m3, f3, g3, d3⟩ := Cond.arrayClass_spec (hw _ tw_4_9)
  refine ⟨(fun k => [c0, c1, c2, c3, c4, c5, c6, c7, c8, c9].getD k c0, fun k => [iS0, iS1, iS2, iS3, iS4, iS5, iS6, iS7, iS8, iS9].getD k iS0), fun k => [a0, a1, a2, a3].getD k a0, ⟨?_, ?_⟩, ?_⟩
  · intro k q hq
    match k, hq with
    | 0, hq => cases hq; exact hKn0
    | 1, hq => cases hq; exact hKn1
    | 2, hq => cases hq; exact hKn2
    | 3, hq => cases hq; exact hKn3
    | 4, hq => cases hq; exact hKn4
    | 5, hq => cases hq; exact hKn5
    | 6, hq => cases hq; exact hKn6
    | 7, hq => cases hq; exact hKn7
    | 8, hq => cases hq; exact hKn8
    | 9, hq => cases hq; exact hKn9
    | k + 10, hq => simp at hq
  · intro k q hq
    match k, hq with
    | 0, hq => cases hq; exact ⟨fun n z => ⟨fun k h => (by cases h), k0, g0, m0, d0⟩, f0⟩
    | 1, hq => cases hq; exact ⟨fun n z => ⟨fun k h => (by cases h), k1, g1, m1, d1⟩, f1⟩
    | 2, hq => cases hq; exact ⟨fun n z => ⟨fun k h => (by cases h), k2, g2, m2, d2⟩, f2⟩
    | 3, hq => cases hq; exact ⟨fun n z => ⟨fun k h => (by cases h), k3, g3, m3, d3⟩, f3⟩
    | k + 4, hq => simp at hq
  · intro q hq
    exact va_Nw.of rfl (hts _ (nw_tbl q hq))
set_option maxHeartbeats 8000000 in
set_option maxRecDepth 100000 in
theorem law_s2 {p : Program} {l : Launch} {e : Env} {s : State} {m : MethodId} {below : List Frame} {meth : Method} {c : Code} {b L : Nat} {xs : Nat → Int32} {D : va_G} {ct : Nat → ClassId} {ad : Nat → Nat} {H : Heap} {locs : List Loc} {ls : Array Slot} (hx : p.tables.exec = Jvm.exec) (hb : c.code = code) (hr : meth.sig.returnType = ret) (hlocks : meth.locks = false) (hml : c.maxLocals = 4) (hown : s.vm.findClass RL = some m.cls) (hw : ∀ w ∈ wsL_law, w.before #[Value.ref b] s = true) (hN : NW s) (hK : KK D ct s) (hX : va_X b L xs s s.heap) (hbl : b < s.heap.size) (hbA : ¬ s.heap.size ≤ b) (hI : cI ad) (hcA : ∀ q, cA ad q → s.heap.size ≤ q) (hCP : cP D ct ad 0 0 0 0 0 0 0 0 0 0 0 0 0 0 0 0 0 0 0 0 0 0 0 0 0 0 0 ((fun _ => 0)) ((fun _ => 0)) ((fun _ => 0)) ((fun _ => 0)) ((fun _ => 0)) ((fun _ => 0)) ((fun _ => 0)) ((fun _ => 0)) ((fun _ => 0)) ((fun _ => 0)) ((fun _ => 0)) ((fun _ => 0)) ((fun _ => 0)) ((fun _ => 0)) ((fun _ => 0)) ((fun _ => 0)) ((fun _ => 0)) ((fun _ => 0)) ((fun _ => 0)) ((fun _ => 0)) ((fun _ => 0)) ((fun _ => 0)) ((fun _ => 0)) ((fun _ => 0)) ((fun _ => 0)) H) (hS : va_S (fun q : Nat => s.heap.size ≤ q) s.heap H locs) (hl : lv_has ls 4 [(0, .ref b)]) (kk : ∀ (q1 : Nat) (H : Heap), va_P D cls_l (cWl ct ad 0 0 0 0 0 0 0 0 0 0 0 0 0 0 0 0 0 0 0 0 0 0 0 0 0 0 0 ((fun _ => 0)) ((fun _ => 0)) ((fun _ => 0)) ((fun _ => 0)) ((fun _ => 0)) ((fun _ => 0)) ((fun _ => 0)) ((fun _ => 0)) ((fun _ => 0)) ((fun _ => 0)) ((fun _ => 0)) ((fun _ => 0)) ((fun _ => 0)) ((fun _ => 0)) ((fun _ => 0)) ((fun _ => 0)) ((fun _ => 0)) ((fun _ => 0)) ((fun _ => 0)) ((fun _ => 0)) ((fun _ => 0)) ((fun _ => 0)) ((fun _ => 0)) ((fun _ => 0)) ((fun _ => 0))) H → va_P D cls_l [(q1, .inr (9, [.null, .null, .int 0, .null, .int 0, .null, .null, .int 0, .null, .null, .null, .null, .int 0, .null, .null, .null, .int 0, .null, .null, .null, .int 0, .int 0, .int 0, .int 0, .int 0, .int 0, .int 0, .int 0, .int 0, .int 0, .null, .null, .null, .int 0, .null, .null, .null, .null, .int 0]))] H → va_D (fun q : Nat => s.heap.size ≤ q) [(q1, .inr (9, [.null, .null, .int 0, .null, .int 0, .null, .null, .int 0, .null, .null, .null, .null, .int 0, .null, .null, .null, .int 0, .null, .null, .null, .int 0, .int 0, .int 0, .int 0, .int 0, .int 0, .int 0, .int 0, .int 0, .int 0, .null, .null, .null, .int 0, .null, .null, .null, .null, .int 0]))] → (∀ i, i < 34 → ad i ≠ q1 ∧ ad i < H.size) → va_S (fun q : Nat => s.heap.size ≤ q) s.heap H locs → ∀ (ls : Array Slot), lv_has ls 4 [(1, .ref (ad 0)), (0, .ref b)] → W p l e room_1 s m #[Value.ref b] below meth c H locs 35 9309 (lw_Z below #[Value.ref b] s) (F0 m 11 ls [.ref q1])) : W p l e room_1 s m #[Value.ref b] below meth c H locs 34 9270 (lw_Z below #[Value.ref b] s) (F0 m 7 ls [.ref (ad 0)]) := by
  refine lv_astore_n (lv' := [(1, .ref (ad 0)), (0, .ref b)]) hx hb dL_law_7 rfl hl (Nat.le_of_ble_eq_true rfl) rfl (fun ls hl => ?_)
  have hA : ∀ q : Nat, s.heap.size ≤ q → (fun q : Nat => s.heap.size ≤ q) q := fun _ h => h
  have hP : va_P D cls_l (cWl ct ad 0 0 0 0 0 0 0 0 0 0 0 0 0 0 0 0 0 0 0 0 0 0 0 0 0 0 0 ((fun _ => 0)) ((fun _ => 0)) ((fun _ => 0)) ((fun _ => 0)) ((fun _ => 0)) ((fun _ => 0)) ((fun _ => 0)) ((fun _ => 0)) ((fun _ => 0)) ((fun _ => 0)) ((fun _ => 0)) ((fun _ => 0)) ((fun _ => 0)) ((fun _ => 0)) ((fun _ => 0)) ((fun _ => 0)) ((fun _ => 0)) ((fun _ => 0)) ((fun _ => 0)) ((fun _ => 0)) ((fun _ => 0)) ((fun _ => 0)) ((fun _ => 0)) ((fun _ => 0)) ((fun _ => 0))) H := hCP
  have hD : va_D (fun q : Nat => s.heap.size ≤ q) (cWl ct ad 0 0 0 0 0 0 0 0 0 0 0 0 0 0 0 0 0 0 0 0 0 0 0 0 0 0 0 ((fun _ => 0)) ((fun _ => 0)) ((fun _ => 0)) ((fun _ => 0)) ((fun _ => 0)) ((fun _ => 0)) ((fun _ => 0)) ((fun _ => 0)) ((fun _ => 0)) ((fun _ => 0)) ((fun _ => 0)) ((fun _ => 0)) ((fun _ => 0)) ((fun _ => 0)) ((fun _ => 0)) ((fun _ => 0)) ((fun _ => 0)) ((fun _ => 0)) ((fun _ => 0)) ((fun _ => 0)) ((fun _ => 0)) ((fun _ => 0)) ((fun _ => 0)) ((fun _ => 0)) ((fun _ => 0))) := (cD hI).weaken (fun k q _ h => hcA q.1 h)
  have hat : ∀ i, i < 34 → ∃ e, (cWl ct ad 0 0 0 0 0 0 0 0 0 0 0 0 0 0 0 0 0 0 0 0 0 0 0 0 0 0 0 ((fun _ => 0)) ((fun _ => 0)) ((fun _ => 0)) ((fun _ => 0)) ((fun _ => 0)) ((fun _ => 0)) ((fun _ => 0)) ((fun _ => 0)) ((fun _ => 0)) ((fun _ => 0)) ((fun _ => 0)) ((fun _ => 0)) ((fun _ => 0)) ((fun _ => 0)) ((fun _ => 0)) ((fun _ => 0)) ((fun _ => 0)) ((fun _ => 0)) ((fun _ => 0)) ((fun _ => 0)) ((fun _ => 0)) ((fun _ => 0)) ((fun _ => 0)) ((fun _ => 0)) ((fun _ => 0)))[i]? = some (ad i, e) := fun i hi => at_of (n := 34) rfl hi
  have hlen : (cWl ct ad 0 0 0 0 0 0 0 0 0 0 0 0 0 0 0 0 0 0 0 0 0 0 0 0 0 0 0 ((fun _ => 0)) ((fun _ => 0)) ((fun _ => 0)) ((fun _ => 0)) ((fun _ => 0)) ((fun _ => 0)) ((fun _ => 0)) ((fun _ => 0)) ((fun _ => 0)) ((fun _ => 0)) ((fun _ => 0)) ((fun _ => 0)) ((fun _ => 0)) ((fun _ => 0)) ((fun _ => 0)) ((fun _ => 0)) ((fun _ => 0)) ((fun _ => 0)) ((fun _ => 0)) ((fun _ => 0)) ((fun _ => 0)) ((fun _ => 0)) ((fun _ => 0)) ((fun _ => 0)) ((fun _ => 0))).length = 34 := rfl
  generalize (cWl ct ad 0 0 0 0 0 0 0 0 0 0 0 0 0 0 0 0 0 0 0 0 0 0 0 0 0 0 0 ((fun _ => 0)) ((fun _ => 0)) ((fun _ => 0)) ((fun _ => 0)) ((fun _ => 0)) ((fun _ => 0)) ((fun _ => 0)) ((fun _ => 0)) ((fun _ => 0)) ((fun _ => 0)) ((fun _ => 0)) ((fun _ => 0)) ((fun _ => 0)) ((fun _ => 0)) ((fun _ => 0)) ((fun _ => 0)) ((fun _ => 0)) ((fun _ => 0)) ((fun _ => 0)) ((fun _ => 0)) ((fun _ => 0)) ((fun _ => 0)) ((fun _ => 0)) ((fun _ => 0)) ((fun _ => 0))) = wz at hP hD hat hlen kk
  refine va_new (ci := 9) (fs := [.null, .null, .int 0, .null, .int 0, .null, .null, .int 0, .null, .null, .null, .null, .int 0, .null, .null, .null, .int 0, .null, .null, .null, .int 0, .int 0, .int 0, .int 0, .int 0, .int 0, .int 0, .int 0, .int 0, .int 0, .null, .null, .null, .int 0, .null, .null, .null, .null, .int 0]) (C := RX12) (T := TX12) (N := 39) hx hb hw inlX12 tyX12 tyX12_ok hown (hw _ tw_1_3) (hw _ tw_1_4) (hw _ tw_1_5) hK hP hD hS hA rfl dfX12 (Nat.le_of_ble_eq_true rfl) (Nat.le_of_ble_eq_true rfl) dL_law_8 (fun q1 H hP hD hS => ?_)
  have hPz : va_P D cls_l wz H := fun k q hq => hP k q (by rw [List.getElem?_append_left (List.getElem?_eq_some_iff.mp hq).1]; exact hq)
  have hl34 : (wz ++ [(q1, .inr (9, [.null, .null, .int 0, .null, .int 0, .null, .null, .int 0, .null, .null, .null, .null, .int 0, .null, .null, .null, .int 0, .null, .null, .null, .int 0, .int 0, .int 0, .int 0, .int 0, .int 0, .int 0, .int 0, .int 0, .int 0, .null, .null, .null, .int 0, .null, .null, .null, .null, .int 0]))])[34]? = some (q1, .inr (9, [.null, .null, .int 0, .null, .int 0, .null, .null, .int 0, .null, .null, .null, .null, .int 0, .null, .null, .null, .int 0, .null, .null, .null, .int 0, .int 0, .int 0, .int 0, .int 0, .int 0, .int 0, .int 0, .int 0, .int 0, .null, .null, .null, .int 0, .null, .null, .null, .null, .int 0])) := by rw [List.getElem?_append_right (by rw [hlen]; exact Nat.le_refl _), hlen]; rfl
  have hne : ∀ i, i < 34 → ad i ≠ q1 ∧ ad i < H.size := by
    intro i hi
    obtain ⟨e, he⟩ := hat i hi
    have he2 : (wz ++ [(q1, .inr (9, [.null, .null, .int 0, .null, .int 0, .null, .null, .int 0, .null, .null, .null, .null, .int 0, .null, .null, .null, .int 0, .null, .null, .null, .int 0, .int 0, .int 0, .int 0, .int 0, .int 0, .int 0, .int 0, .int 0, .int 0, .null, .null, .null, .int 0, .null, .null, .null, .null, .int 0]))])[i]? = some (ad i, e) := by rw [List.getElem?_append_left (List.getElem?_eq_some_iff.mp he).1]; exact he
    refine ⟨fun q => ?_, va_at.lt (hPz i _ he)⟩
    have h34 := hD.1 i 34 (ad i, e) (q1, .inr (9, [.null, .null, .int 0, .null, .int 0, .null, .null, .int 0, .null, .null, .null, .null, .int 0, .null, .null, .null, .int 0, .null, .null, .null, .int 0, .int 0, .int 0, .int 0, .int 0, .int 0, .int 0, .int 0, .int 0, .int 0, .null, .null, .null, .int 0, .null, .null, .null, .null, .int 0])) he2 hl34 q
    exact absurd hi (by rw [h34]; decide)
  have hP1 : va_P D cls_l [(q1, .inr (9, [.null, .null, .int 0, .null, .int 0, .null, .null, .int 0, .null, .null, .null, .null, .int 0, .null, .null, .null, .int 0, .null, .null, .null, .int 0, .int 0, .int 0, .int 0, .int 0, .int 0, .int 0, .int 0, .int 0, .int 0, .null, .null, .null, .int 0, .null, .null, .null, .null, .int 0]))] H := fun k q hq => by
    match k, hq with
    | 0, hq => exact hP 34 q (by rw [hl34]; exact hq)
    | k + 1, hq => simp at hq
  have hD1 : va_D (fun q : Nat => s.heap.size ≤ q) [(q1, .inr (9, [.null, .null, .int 0, .null, .int 0, .null, .null, .int 0, .null, .null, .null, .null, .int 0, .null, .null, .null, .int 0, .null, .null, .null, .int 0, .int 0, .int 0, .int 0, .int 0, .int 0, .int 0, .int 0, .int 0, .int 0, .null, .null, .null, .int 0, .null, .null, .null, .null, .int 0]))] := ⟨fun i j p q hp hq _ => by
    match i, j, hp, hq with
    | 0, 0, _, _ => rfl
    | i + 1, _, hp, _ => simp at hp
    | 0, j + 1, _, hq => simp at hq, fun k q hq => by
    match k, hq with
    | 0, hq => exact hD.2 34 q (by rw [hl34]; exact hq)
    | k + 1, hq => simp at hq⟩
  exact W.widen (k := 35) (n := 9309) (Nat.le_of_ble_eq_true rfl) (Nat.le_of_ble_eq_true rfl) (kk q1 H hPz hP1 hD1 hne hS ls hl)
set_option maxHeartbeats 8000000 in
set_option maxRecDepth 100000 in
theorem law_s3 {INV : INVT} (hops : OPS INV) {p : Program} {l : Launch} {e : Env} {s : State} {m : MethodId} {below : List Frame} {meth : Method} {c : Code} {b L : Nat} {xs : Nat → Int32} {D : va_G} {ct : Nat → ClassId} {ad : Nat → Nat} {H : Heap} {locs : List Loc} {ls : Array Slot} {q1 : Nat} {z_y_kin : Int32} {z_a_listed : Nat → Int64} {z_a_mkin : Nat → Int64} {z_a_from : Nat → Int32} (hx : p.tables.exec = Jvm.exec) (hb : c.code = code) (hr : meth.sig.returnType = ret) (hlocks : meth.locks = false) (hml : c.maxLocals = 4) (hown : s.vm.findClass RL = some m.cls) (hw : ∀ w ∈ wsL_law, w.before #[Value.ref b] s = true) (hN : NW s) (hK : KK D ct s) (hX : va_X b L xs s s.heap) (hbl : b < s.heap.size) (hbA : ¬ s.heap.size ≤ b) (hL : L ≤ 3584) (hlays : mo_laysLists 0 ((fun _ => 0)) ((fun _ => 0)) ((fun _ => 0)) = some (z_y_kin, z_a_listed, z_a_mkin, z_a_from)) (hinv : INV 0 0 0 0 0 0 0 0 0 0 0 0 0 0 0 0 0 0 0 0 0 0 0 0 0 0 0 ((fun _ => 0)) ((fun _ => 0)) ((fun _ => 0)) ((fun _ => 0)) ((fun _ => 0)) ((fun _ => 0)) ((fun _ => 0)) ((fun _ => 0)) ((fun _ => 0)) ((fun _ => 0)) ((fun _ => 0)) ((fun _ => 0)) ((fun _ => 0)) ((fun _ => 0)) ((fun _ => 0)) ((fun _ => 0)) ((fun _ => 0)) ((fun _ => 0)) ((fun _ => 0)) ((fun _ => 0)) ((fun _ => 0)) ((fun _ => 0)) ((fun _ => 0)) ((fun _ => 0)) ((fun _ => 0)) 0 0 0 z_y_kin 0 0 0 0 0 0 0 0 0 0 0 0 0 ((fun _ => 0)) ((fun _ => 0)) ((fun _ => 0)) ((fun _ => 0)) z_a_from ((fun _ => 0)) ((fun _ => 0)) ((fun _ => 0)) ((fun _ => 0)) ((fun _ => 0)) ((fun _ => 0)) ((fun _ => 0)) ((fun _ => 0)) ((fun _ => 0)) ((fun _ => 0)) ((fun _ => 0)) ((fun _ => 0)) z_a_listed z_a_mkin ((fun _ => 0)) ((fun _ => 0)) ((fun _ => 0))) (hI : cI ad) (hcA : ∀ q, cA ad q → s.heap.size ≤ q) (hPz : va_P D cls_l (cWl ct ad 0 0 0 0 0 0 0 0 0 0 0 0 0 0 0 0 0 0 0 0 0 0 0 0 0 0 0 ((fun _ => 0)) ((fun _ => 0)) ((fun _ => 0)) ((fun _ => 0)) ((fun _ => 0)) ((fun _ => 0)) ((fun _ => 0)) ((fun _ => 0)) ((fun _ => 0)) ((fun _ => 0)) ((fun _ => 0)) ((fun _ => 0)) ((fun _ => 0)) ((fun _ => 0)) ((fun _ => 0)) ((fun _ => 0)) ((fun _ => 0)) ((fun _ => 0)) ((fun _ => 0)) ((fun _ => 0)) ((fun _ => 0)) ((fun _ => 0)) ((fun _ => 0)) ((fun _ => 0)) ((fun _ => 0))) H) (hP : va_P D cls_l [(q1, .inr (9, [.null, .null, .int 0, .null, .int 0, .null, .null, .int 0, .null, .null, .null, .null, .int 0, .null, .null, .null, .int 0, .null, .null, .null, .int 0, .int 0, .int 0, .int 0, .int 0, .int 0, .int 0, .int 0, .int 0, .int 0, .null, .null, .null, .int 0, .null, .null, .null, .null, .int 0]))] H) (hD : va_D (fun q : Nat => s.heap.size ≤ q) [(q1, .inr (9, [.null, .null, .int 0, .null, .int 0, .null, .null, .int 0, .null, .null, .null, .null, .int 0, .null, .null, .null, .int 0, .null, .null, .null, .int 0, .int 0, .int 0, .int 0, .int 0, .int 0, .int 0, .int 0, .int 0, .int 0, .null, .null, .null, .int 0, .null, .null, .null, .null, .int 0]))]) (hne : ∀ i, i < 34 → ad i ≠ q1 ∧ ad i < H.size) (hS : va_S (fun q : Nat => s.heap.size ≤ q) s.heap H locs) (hl : lv_has ls 4 [(1, .ref (ad 0)), (0, .ref b)]) : W p l e room_1 s m #[Value.ref b] below meth c H locs 35 9309 (lw_Z below #[Value.ref b] s) (F0 m 11 ls [.ref q1]) := by
  have hA : ∀ q : Nat, s.heap.size ≤ q → (fun q : Nat => s.heap.size ≤ q) q := fun _ h => h
  have hCP2 : cP D ct ad 0 0 0 0 0 0 0 0 0 0 0 0 0 0 0 0 0 0 0 0 0 0 0 0 0 0 0 ((fun _ => 0)) ((fun _ => 0)) ((fun _ => 0)) ((fun _ => 0)) ((fun _ => 0)) ((fun _ => 0)) ((fun _ => 0)) ((fun _ => 0)) ((fun _ => 0)) ((fun _ => 0)) ((fun _ => 0)) ((fun _ => 0)) ((fun _ => 0)) ((fun _ => 0)) ((fun _ => 0)) ((fun _ => 0)) ((fun _ => 0)) ((fun _ => 0)) ((fun _ => 0)) ((fun _ => 0)) ((fun _ => 0)) ((fun _ => 0)) ((fun _ => 0)) ((fun _ => 0)) ((fun _ => 0)) H := hPz
  refine lv_dup hx hb dL_law_11 rfl ?_
  have hPc := hP.sub (ws' := [(q1, .inr (9, [.null, .null, .int 0, .null, .int 0, .null, .null, .int 0, .null, .null, .null, .null, .int 0, .null, .null, .null, .int 0, .null, .null, .null, .int 0, .int 0, .int 0, .int 0, .int 0, .int 0, .int 0, .int 0, .int 0, .int 0, .null, .null, .null, .int 0, .null, .null, .null, .null, .int 0]))]) [0] rfl
  have hDc := hD.sub (ws' := [(q1, .inr (9, [.null, .null, .int 0, .null, .int 0, .null, .null, .int 0, .null, .null, .null, .null, .int 0, .null, .null, .null, .int 0, .null, .null, .null, .int 0, .int 0, .int 0, .int 0, .int 0, .int 0, .int 0, .int 0, .int 0, .int 0, .null, .null, .null, .int 0, .null, .null, .null, .null, .int 0]))]) [0] (by decide) rfl
  have hFc := va_free (wc := [(q1, .inr (9, [.null, .null, .int 0, .null, .int 0, .null, .null, .int 0, .null, .null, .null, .null, .int 0, .null, .null, .null, .int 0, .null, .null, .null, .int 0, .int 0, .int 0, .int 0, .int 0, .int 0, .int 0, .int 0, .int 0, .int 0, .null, .null, .null, .int 0, .null, .null, .null, .null, .int 0]))]) hD hS hA [0] rfl
  refine ci_o (mc := 22) (ms := 7835) hx hb hml hown hw hN hK (c_mo_init l D ct q1 H.size z_y_kin z_a_listed z_a_mkin z_a_from hlays) tw_5_9 tw_5_11 tw_1_5 tw_5_10 rfl hd_X12_init hPc hDc hFc (rest := [.ref q1]) hl.1 hS dL_law_12 rfl rfl ⟨Nat.le_of_ble_eq_true rfl, Nat.le_of_ble_eq_true rfl⟩ rfl rfl (Nat.le_of_ble_eq_true rfl) ⟨Nat.le_of_ble_eq_true rfl, Nat.le_of_ble_eq_true rfl⟩ (fun H1 locs hB hk1 hS => ?_)
  obtain ⟨am, ham0, hJ, hmA0, hMP⟩ := hB
  have hmA : ∀ q, mA am q → s.heap.size ≤ q := fun q hq => hFc q (hmA0 q hq)
  have hva : ∀ q, cA ad q → ¬ va_A [(q1, .inr (9, [.null, .null, .int 0, .null, .int 0, .null, .null, .int 0, .null, .null, .null, .null, .int 0, .null, .null, .null, .int 0, .null, .null, .null, .int 0, .int 0, .int 0, .int 0, .int 0, .int 0, .int 0, .int 0, .int 0, .int 0, .null, .null, .null, .int 0, .null, .null, .null, .null, .int 0]))] H.size q := by
    intro q hq h
    obtain ⟨i, hi, rfl⟩ := hq
    obtain ⟨h1, h2⟩ := hne i hi
    rcases h with ⟨k, e, h⟩ | h
    · match k, h with
      | 0, h => exact h1 (congrArg Prod.fst (Option.some.inj h)).symm
      | k + 1, h => simp at h
    · exact absurd h2 (Nat.not_lt.mpr h)
  have hap : ∀ q, mA am q → ¬ cA ad q := fun q h1 h2 => hva q h2 (hmA0 q h1)
  have hap2 : ∀ q, cA ad q → ¬ mA am q := fun q h1 h2 => hap q h2 h1
  have hCP3 := cP_keptA hCP2 hk1 hva
  clear hva hFc hPc hDc hk1 hCP2 hmA0
  subst ham0
  refine W.widen (k := 57) (n := 17144) (Nat.le_of_ble_eq_true rfl) (Nat.le_of_ble_eq_true rfl) ?_
  refine lv_astore_n (lv' := [(2, .ref (am 0)), (1, .ref (ad 0)), (0, .ref b)]) hx hb dL_law_15 rfl hl (Nat.le_of_ble_eq_true rfl) rfl (fun ls hl => ?_)
  refine lv_iconst (v := 0) hx hb dL_law_16 ki_0 ?_
  refine lv_istore_n (lv' := [(3, .int 0), (2, .ref (am 0)), (1, .ref (ad 0)), (0, .ref b)]) hx hb dL_law_17 rfl hl (Nat.le_of_ble_eq_true rfl) rfl (fun ls hl => ?_)
  exact law_loop (INV := INV) hops hL hx hb hr hlocks hml hown hw hN hK hX hbl hbA hI hJ hcA hmA hap hap2 (L + 1) 0 (Nat.zero_le L) (Nat.le_of_eq (Nat.zero_add _).symm) _ _ _ (lv_sub hl [0, 3, 2, 1] rfl) hinv hCP3 hMP hS
set_option maxHeartbeats 8000000 in
set_option maxRecDepth 100000 in
theorem whole_open {INV : INVT} (hinit : OP_init INV) (hops : OPS INV) {p : Program} {e : Env} {s : State} {m : MethodId} {below : List Frame} {meth : Method} {c : Code} (l : Launch) {b L : Nat} {xs : Nat → Int32} (hL : L ≤ 3584) (C0 : lw_At p s m meth c b L xs) : W p l e room_1 s m #[Value.ref b] below meth c s.heap [] 0 0 (lw_Z below #[Value.ref b] s) (entryFrame m ([Value.ref b] : List Value).toArray 4) := by
  obtain ⟨hx, hb, hr, hml, hown0, hts, hX, hbl, hlocks, hgv⟩ := id C0
  have hown : s.vm.findClass RL = some m.cls := hown0
  have hw : ∀ w ∈ wsL_law, w.before #[Value.ref b] s = true := fun w h => hts w (wsL_law_in w h)
  have hbA : ¬ s.heap.size ≤ b := Nat.not_le.mpr hbl
  have hA : ∀ q : Nat, s.heap.size ≤ q → (fun q : Nat => s.heap.size ≤ q) q := fun _ h => h
  obtain ⟨D, ct, hK, hN⟩ := law_env C0
  have hS : va_S (fun q : Nat => s.heap.size ≤ q) s.heap s.heap [] := va_S.rf
  have hP : va_P D cls_l [] s.heap := fun k q h => by simp at h
  have hD : va_D (fun q : Nat => s.heap.size ≤ q) [] := ⟨fun i j p q h => by simp at h, fun k q h => by simp at h⟩
  have hl := lv_entry ([.ref b]) (n := 4) (Nat.le_of_ble_eq_true rfl)
  rw [lg_entry_eq]
  generalize (lg_sl ([.ref b]) ++ List.replicate (4 - (lg_sl ([.ref b])).length) Slot.unset).toArray = ls at hl ⊢
  replace hl : lv_has ls 4 [(0, .ref b)] := hl
  obtain ⟨z_y_kin, z_a_listed, z_a_mkin, z_a_from, hlays, hinv⟩ := hinit
  refine va_new (ci := 0) (fs := [.null, .null, .null, .null, .null, .null, .null, .null, .null, .null, .null, .int 0, .int 0]) (C := RX11) (T := TX11) (N := 13) hx hb hw inlX11 tyX11 tyX11_ok hown (hw _ tw_1_0) (hw _ tw_1_1) (hw _ tw_1_2) hK hP hD hS hA rfl dfX11 (Nat.le_of_ble_eq_true rfl) (Nat.le_of_ble_eq_true rfl) dL_law_0 (fun q0 H hP hD hS => ?_)
  replace hP : va_P D cls_l [(q0, .inr (0, [.null, .null, .null, .null, .null, .null, .null, .null, .null, .null, .null, .int 0, .int 0]))] H := hP
  replace hD : va_D (fun q : Nat => s.heap.size ≤ q) [(q0, .inr (0, [.null, .null, .null, .null, .null, .null, .null, .null, .null, .null, .null, .int 0, .int 0]))] := hD
  refine W.widen (k := 1) (n := 13) (Nat.le_of_ble_eq_true rfl) (Nat.le_of_ble_eq_true rfl) ?_
  refine lv_dup hx hb dL_law_3 rfl ?_
  have hPc := hP.sub (ws' := [(q0, .inr (0, [.null, .null, .null, .null, .null, .null, .null, .null, .null, .null, .null, .int 0, .int 0]))]) [0] rfl
  have hDc := hD.sub (ws' := [(q0, .inr (0, [.null, .null, .null, .null, .null, .null, .null, .null, .null, .null, .null, .int 0, .int 0]))]) [0] (by decide) rfl
  have hFc := va_free (wc := [(q0, .inr (0, [.null, .null, .null, .null, .null, .null, .null, .null, .null, .null, .null, .int 0, .int 0]))]) hD hS hA [0] rfl
  refine ci_o (mc := 33) (ms := 9257) hx hb hml hown hw hN hK (c_cf_init l D ct q0 H.size) tw_1_7 tw_1_9 tw_1_2 tw_1_8 rfl hd_X11_init hPc hDc hFc (rest := [.ref q0]) hl.1 hS dL_law_4 rfl rfl ⟨Nat.le_of_ble_eq_true rfl, Nat.le_of_ble_eq_true rfl⟩ rfl rfl (Nat.le_of_ble_eq_true rfl) ⟨Nat.le_of_ble_eq_true rfl, Nat.le_of_ble_eq_true rfl⟩ (fun H1 locs hB hk1 hS => ?_)
  obtain ⟨ad, had0, hI, hcA0, hCP⟩ := hB
  have hcA : ∀ q, cA ad q → s.heap.size ≤ q := fun q hq => hFc q (hcA0 q hq)
  subst had0
  refine W.widen (k := 34) (n := 9270) (Nat.le_of_ble_eq_true rfl) (Nat.le_of_ble_eq_true rfl) ?_
  exact law_s2 hx hb hr hlocks hml hown hw hN hK hX hbl hbA hI hcA hCP hS hl (fun q1 H hPz hP hD hne hS ls hl => law_s3 (INV := INV) hops hx hb hr hlocks hml hown hw hN hK hX hbl hbA hL hlays hinv hI hcA hPz hP hD hne hS hl)
