/-! the start -/
theorem inf_0 {li : Nat → Int64} {fm : Nat → Int32} : DR (fun _ => 0) (fun _ => 0) ∧ KP 0 0 (fun _ => 0) (fun _ => 0) ∧ TP 0 0 (fun _ => 0) (fun _ => 0) ∧ CLs 0 (fun _ => 0) (fun _ => 0) (fun _ => 0) (fun _ => 0) ∧ MK tlF (fun _ => 0) ∧ WYs (fun _ => 0) (fun _ => 0) := by
  refine ⟨fun i _ => ⟨rfl, Or.inl rfl⟩, ⟨0, by omega, rfl, rfl, fun i hi => by omega⟩, ⟨0, by omega, rfl, rfl, fun i hi => by omega⟩, ⟨0, by omega, rfl, ?_⟩, fun i _ w _ => ⟨0, by omega, fun t _ => by rw [bt_zero, Nat.zero_testBit], Or.inl rfl⟩, fun n _ _ => Or.inl ⟨rfl, fun k _ => rfl⟩⟩
  have e0 : eN 0 = 0 := rfl
  refine ⟨fun i hi => by omega, fun i hi => by omega, fun i hi => by omega, fun k n hk hn => ?_⟩
  have n0 : n = 0 := by omega
  subst n0
  show (0 : Int32) = nI (rk k (eN 0))
  rcases (show k = 0 ∨ k = 1 ∨ k = 2 by omega) with rfl | rfl | rfl <;> rfl
theorem init_ok : OP_init INF := by
  obtain ⟨yk, li, B, fm, h1, h2⟩ := laysLists_eq 0 (fun _ => 0) (fun _ => 0) (fun _ => 0)
  obtain ⟨a, b, c, d, e, f⟩ := inf_0 (li := li) (fm := fm)
  exact ⟨yk, li, B, fm, h1, a, b, c, d, e, f, h2⟩
theorem ops_all : OPS INF := ⟨op_feed, op_figure, op_put, op_take, op_told, op_cell, op_number, op_turn, op_alike, op_change, op_list, op_listed, op_place, op_many, op_found, op_crowd, op_kin, op_kinAt, op_way, op_farthest, op_drawn, op_line, op_tiles, op_tilers, op_fill, op_vector, op_owner, op_part, op_inside, op_common, op_keep, op_back, op_join, op_swap, op_share, op_touch, op_count⟩
