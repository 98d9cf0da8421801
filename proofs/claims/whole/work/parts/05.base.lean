/-! base rows: pure combinators, the nest words, calls of static methods -/
def nm {α β : Type} (a : α) (k : α → Option β) : Option β := k a
theorem nm_s {α β : Type} {a : α} {k : α → Option β} {r : β} (h : nm a k = some r) : ∃ v, v = a ∧ k v = some r := ⟨a, rfl, h⟩
def ck {β : Type} (i : Int32) (n : Nat) (k : Option β) : Option β := if i < 0 ∨ n ≤ i.toNatClampNeg then none else k
theorem ck_s {β : Type} {i : Int32} {n : Nat} {k : Option β} {r : β} (h : ck i n k = some r) : vp_in i n ∧ k = some r := by
  unfold ck at h
  split at h
  · cases h
  · rename_i q; exact ⟨q, h⟩
def dzI {β : Type} (y : Int32) (k : Option β) : Option β := if y = 0 then none else k
theorem dzI_s {β : Type} {y : Int32} {k : Option β} {r : β} (h : dzI y k = some r) : ¬ y = 0 ∧ k = some r := by
  unfold dzI at h
  split at h
  · cases h
  · rename_i q; exact ⟨q, h⟩
def dzL {β : Type} (y : Int64) (k : Option β) : Option β := if y = 0 then none else k
theorem dzL_s {β : Type} {y : Int64} {k : Option β} {r : β} (h : dzL y k = some r) : ¬ y = 0 ∧ k = some r := by
  unfold dzL at h
  split at h
  · cases h
  · rename_i q; exact ⟨q, h⟩
def zb {β : Type} (v : Int32) (k : Option β) : Option β := if v = 0 ∨ v = 1 then k else none
theorem zb_s {β : Type} {v : Int32} {k : Option β} {r : β} (h : zb v k = some r) : narrow .boolean (.int v) = .int v ∧ k = some r := by
  unfold zb at h
  split at h
  · rename_i q
    refine ⟨?_, h⟩
    rcases q with rfl | rfl <;> decide
  · cases h
theorem ifp {α : Type} {c : Prop} [Decidable c] {a b r : α} (h : (if c then a else b) = r) (hc : c) : a = r := by rw [if_pos hc] at h; exact h
theorem ifn {α : Type} {c : Prop} [Decidable c] {a b r : α} (h : (if c then a else b) = r) (hc : ¬ c) : b = r := by rw [if_neg hc] at h; exact h
def bd1 {α β : Type} (x : Option α) (k : α → Option β) : Option β := match x with
  | none => none
  | some a => k a
theorem bd1_s {α β : Type} {x : Option α} {k : α → Option β} {r : β} (h : bd1 x k = some r) : ∃ a, x = some a ∧ k a = some r := by
  cases x with
  | none => cases h
  | some a => exact ⟨a, rfl, h⟩
def bd0 {β : Type} (x : Option Unit) (k : Option β) : Option β := match x with
  | none => none
  | some _ => k
theorem bd0_s {β : Type} {x : Option Unit} {k : Option β} {r : β} (h : bd0 x k = some r) : x = some () ∧ k = some r := by
  cases x with
  | none => cases h
  | some a => exact ⟨rfl, h⟩
def sl (x : Int64) (y : Int32) : Int64 := x <<< (y.toInt64 &&& 63)
def su (x : Int64) (y : Int32) : Int64 := (x.toUInt64 >>> (y.toInt64.toUInt64 &&& Int64.toUInt64 63)).toInt64
def ss (x : Int64) (y : Int32) : Int64 := x >>> (y.toInt64 &&& 63)
def il (x y : Int32) : Int32 := x <<< (y &&& 31)
def ir (x y : Int32) : Int32 := x >>> (y &&& 31)
def ui (x y : Int32) : Int32 := (x.toUInt32 >>> (y.toUInt32 &&& Int32.toUInt32 31)).toInt32
def i8 (x : Int32) : Int32 := x.toInt8.toInt32
def nw_l : List (String × Nat × MethodName × String) := [(RX0, 59, yX11_within, RX11), (RX10, 38, yX11_within, RX11), (RX11, 22, yX7_init, RX11), (RX11, 29, yX8_init, RX11), (RX11, 36, yX5_init, RX11), (RX11, 61, yX1_init, RX11), (RX11, 68, yX6_init, RX11), (RX11, 75, yX4_init, RX11), (RX2, 17, yX11_within, RX11), (RX4, 97, yX11_within, RX11), (RX5, 19, yX11_within, RX11), (RX8, 17, yX11_within, RX11)]
def NW (U : State) : Prop := ∀ q ∈ nw_l, va_Nw (.methodLinkNest q.1 q.2.1 q.2.2.1 q.2.2.2) U
theorem NW.warm {s U : State} (hW : s.WarmedH U.vm) (h : NW s) : NW U := fun q hq => va_Nw.warmM hW (h q hq)
theorem NW.calling {U : State} {g : JFrame} {mk : MethodId} {a : Array Value} (h : NW U) : NW (U.calling g mk a) := fun q hq => va_Nw.same (u := U) rfl rfl (h q hq)
abbrev wm (y : MethodName) (cc : ByteArray) (n : Nat) (ret : Option FieldType) : List Cond := Cond.code y cc n ret :: wsL_law
abbrev rmm (f l : Nat) : Room := { frames := f, cells := 0, slots := 0, locals := l }
theorem gS {own : String} {idx : Nat} {y : MethodName} {cc : ByteArray} {n : Nat} {ret : Option FieldType} (h1 : Cond.methodLink own idx y ∈ wsL_law) (h2 : Cond.static y ∈ wsL_law) (h3 : Cond.initialized y.cls ∈ wsL_law) (h4 : Cond.code y cc n ret ∈ wsL_law) : GoodIn wsL_law (va_wsS own idx y (wm y cc n ret)) := by
  intro w hw
  have hm : w ∈ wsL_law := by
    rcases List.mem_append.mp hw with h | h
    · simp only [List.mem_cons, List.not_mem_nil, or_false] at h
      rcases h with rfl | rfl | rfl <;> assumption
    · rcases List.mem_cons.mp h with rfl | h
      · exact h4
      · exact h
  exact ⟨hm, (wsL_law_gi w hm).2⟩
theorem gN {y : MethodName} {cc : ByteArray} {n : Nat} {ret : Option FieldType} (h4 : Cond.code y cc n ret ∈ wsL_law) : GoodIn wsL_law (wm y cc n ret) := by
  intro w hw
  have hm : w ∈ wsL_law := by
    rcases List.mem_cons.mp hw with rfl | h
    · exact h4
    · exact h
  exact ⟨hm, (wsL_law_gi w hm).2⟩
theorem gV {own C : String} {idx : Nat} {y : MethodName} {cc : ByteArray} {n : Nat} {ret : Option FieldType} (h1 : Cond.methodLink own idx y ∈ wsL_law) (h2 : Cond.instanceMethod y ∈ wsL_law) (h5 : Cond.selects C y y ∈ wsL_law) (h3 : Cond.initialized C ∈ wsL_law) (h4 : Cond.code y cc n ret ∈ wsL_law) : GoodIn wsL_law (wsV own idx C y (wm y cc n ret)) := by
  intro w hw
  have hm : w ∈ wsL_law := by
    rcases List.mem_append.mp hw with h | h
    · simp only [List.mem_cons, List.not_mem_nil, or_false] at h
      rcases h with rfl | rfl | rfl | rfl <;> assumption
    · rcases List.mem_cons.mp h with rfl | h
      · exact h4
      · exact h
  exact ⟨hm, (wsL_law_gi w hm).2⟩
def NoA : Nat → Prop := fun _ => False
abbrev Ql (r : Int64) : Array Value → State → Outcome → State → Prop := va_Ql (fun z (_ : Unit) => z = r) (fun _ _ => True) NoA
abbrev Qi (r : Int32) : Array Value → State → Outcome → State → Prop := va_Qi (fun z (_ : Unit) => z = r) (fun _ _ => True) NoA
/-- a static method without a world, from its body -/
theorem met_s {l : Launch} {y : MethodName} {cc : ByteArray} {n : Nat} {ret : Option FieldType} {rm : Room} {Qc : Array Value → State → Outcome → State → Prop} {vs : List Value} {free : Addr → Prop} {Pc : State → Prop}
    (hy : plainName y.cls = true) (hlen : (lg_sl vs).length ≤ n)
    (body : ∀ (p : Program) (e : Env) (s : State) (m : MethodId) (below : List Frame) (meth : Method) (c : Code), p.tables.exec = Jvm.exec → c.code = cc → meth.sig.returnType = ret → (∀ w ∈ wsL_law, w.before vs.toArray s = true) → s.vm.findClass y.cls = some m.cls → meth.locks = false → meth.name = y.name → c.maxLocals = n → Pc s → ∀ ls : Array Slot, lv_has ls n (lv_args 0 vs) → W p l e rm s m vs.toArray below meth c s.heap [] 0 0 (MQ below Qc vs.toArray s rm.cells rm.slots free) (F0 m 0 ls [])) :
    Met l y (wm y cc n ret) rm (va_Pc vs Pc) Qc rm.cells rm.slots free := by
  refine Met.ofW (cc := cc) (maxL := n) (ret := ret) hy rfl ?_
  intro p e s m args below meth c s₁ B hml hv
  obtain ⟨rfl, hN⟩ := hv
  have hts := atoms_spec (ws := wm y cc n ret) B.pre
  have hl := lv_entry vs (n := n) hlen
  rw [lg_entry_eq]
  exact body p e s m below meth c B.exec B.bytes B.returns (fun w h => hts w (List.mem_cons_of_mem _ h)) (findClass_of_methodNamed B.named) B.notSynchronized (name_of_methodNamed B.named B.method).1 hml hN _ hl
section SC
variable {p : Program} {l : Launch} {e : Env} {R : Room} {s : State} {m : MethodId} {args : Array Value} {below : List Frame} {meth : Method} {c : Code} {H : Heap} {locs : List Loc} {cells slots : Nat} {Q : State → Prop} {cc bytes : ByteArray} {pc nL maxL n idx : Nat} {ls : Array Slot} {rest st0 As : List Value} {A : Nat → Prop} {H0 : Heap} {y : MethodName} {ret : Option FieldType} {rm : Room} {own host : String}
theorem nmI {x v : Int32} (hv : v = x) (k : W p l e R s m args below meth c H locs cells slots Q (F0 m pc ls (.int v :: rest))) : W p l e R s m args below meth c H locs cells slots Q (F0 m pc ls (.int x :: rest)) := hv ▸ k
theorem nmL {x v : Int64} (hv : v = x) (k : W p l e R s m args below meth c H locs cells slots Q (F0 m pc ls (.long v :: rest))) : W p l e R s m args below meth c H locs cells slots Q (F0 m pc ls (.long x :: rest)) := hv ▸ k
theorem nmI2 {x v : Int32} {t : Value} (hv : v = x) (k : W p l e R s m args below meth c H locs cells slots Q (F0 m pc ls (t :: .int v :: rest))) : W p l e R s m args below meth c H locs cells slots Q (F0 m pc ls (t :: .int x :: rest)) := hv ▸ k
theorem nmL2 {x v : Int64} {t : Value} (hv : v = x) (k : W p l e R s m args below meth c H locs cells slots Q (F0 m pc ls (t :: .long v :: rest))) : W p l e R s m args below meth c H locs cells slots Q (F0 m pc ls (t :: .long x :: rest)) := hv ▸ k
theorem blind_NW : FrameBlind (va_Pc As NW) := fun a U g mk q => ⟨q.1, q.2.calling⟩
/-- a static method without a world is called -/
theorem sc_l {r : Int64} (hx : p.tables.exec = Jvm.exec) (hb : c.code = cc) (hml : c.maxLocals = nL) (hown : s.vm.findClass own = some m.cls) (hw : ∀ w ∈ wsL_law, w.before args s = true) (hN : NW s) (hM : Met l y (wm y bytes maxL ret) rm (va_Pc As NW) (Ql r) 0 0 NoA) (hG : GoodIn wsL_law (va_wsS own idx y (wm y bytes maxL ret))) (hd : y.cls ≠ "java/lang/invoke/MethodHandle" ∧ y.cls ≠ "java/lang/invoke/VarHandle" ∧ (parseMethodDescriptor y.desc).map (fun d => d.parameters.length) = some n)
    (hls : ls.size = nL) (hS : va_S A H0 H locs) (hdg : decode cc pc = .ok (.invokestatic idx, 3)) (hrc : rm.cells = 0) (hrs : rm.slots = 0) (hR : rm.frames + 1 ≤ R.frames ∧ 8 + (maxL + 11) + rm.locals ≤ R.locals) (hn : As.length = n) (hst : st0 = As.reverse ++ rest) (hW : (rest.map fun v => v.category).sum ≤ 8) (hcs : cells ≤ R.cells ∧ slots ≤ R.slots)
    (kk : ∀ (H1 : Heap) (locs1 : List Loc), (∀ q : Nat, q < H.size → H1[q]? = H[q]?) → va_S A H0 H1 locs1 → W p l e R s m args below meth c H1 locs1 cells slots Q (F0 m (pc + 3) ls (.long r :: rest))) : W p l e R s m args below meth c H locs cells slots Q (F0 m pc ls st0) := by
  refine va_calll (va_runS (As := As) (rest := rest) (g := F0 m pc ls st0) ⟨hx, hb, hml, hown, hw⟩ hM (va_cwS n hw hG rfl hrc hrs hd hR) ⟨blind_NW, fun U hU hW => ⟨rfl, hN.warm hW⟩⟩ rfl hn hls hst (lv_room hW) hdg hcs) hS (fun q _ h => h.elim) (fun q h => h.elim) (fun r' u t H1 locs1 ht hvm hw1 hB hz hk hS1 => ?_)
  subst hw1
  exact kk H1 locs1 (fun q hq => hk q hq (fun h => h)) hS1
theorem sc_i {r : Int32} (hx : p.tables.exec = Jvm.exec) (hb : c.code = cc) (hml : c.maxLocals = nL) (hown : s.vm.findClass own = some m.cls) (hw : ∀ w ∈ wsL_law, w.before args s = true) (hN : NW s) (hM : Met l y (wm y bytes maxL ret) rm (va_Pc As NW) (Qi r) 0 0 NoA) (hG : GoodIn wsL_law (va_wsS own idx y (wm y bytes maxL ret))) (hd : y.cls ≠ "java/lang/invoke/MethodHandle" ∧ y.cls ≠ "java/lang/invoke/VarHandle" ∧ (parseMethodDescriptor y.desc).map (fun d => d.parameters.length) = some n)
    (hls : ls.size = nL) (hS : va_S A H0 H locs) (hdg : decode cc pc = .ok (.invokestatic idx, 3)) (hrc : rm.cells = 0) (hrs : rm.slots = 0) (hR : rm.frames + 1 ≤ R.frames ∧ 8 + (maxL + 11) + rm.locals ≤ R.locals) (hn : As.length = n) (hst : st0 = As.reverse ++ rest) (hW : (rest.map fun v => v.category).sum ≤ 8) (hcs : cells ≤ R.cells ∧ slots ≤ R.slots)
    (kk : ∀ (H1 : Heap) (locs1 : List Loc), (∀ q : Nat, q < H.size → H1[q]? = H[q]?) → va_S A H0 H1 locs1 → W p l e R s m args below meth c H1 locs1 cells slots Q (F0 m (pc + 3) ls (.int r :: rest))) : W p l e R s m args below meth c H locs cells slots Q (F0 m pc ls st0) := by
  refine va_calli (va_runS (As := As) (rest := rest) (g := F0 m pc ls st0) ⟨hx, hb, hml, hown, hw⟩ hM (va_cwS n hw hG rfl hrc hrs hd hR) ⟨blind_NW, fun U hU hW => ⟨rfl, hN.warm hW⟩⟩ rfl hn hls hst (lv_room hW) hdg hcs) hS (fun q _ h => h.elim) (fun q h => h.elim) (fun r' u t H1 locs1 ht hvm hw1 hB hz hk hS1 => ?_)
  subst hw1
  exact kk H1 locs1 (fun q hq => hk q hq (fun h => h)) hS1
/-- the same, of a nest mate's own method -/
theorem sn_i {r : Int32} (hx : p.tables.exec = Jvm.exec) (hb : c.code = cc) (hml : c.maxLocals = nL) (hown : s.vm.findClass own = some m.cls) (hw : ∀ w ∈ wsL_law, w.before args s = true) (hN : NW s) (hM : Met l y (wm y bytes maxL ret) rm (va_Pc As NW) (Qi r) 0 0 NoA) (hq : (own, idx, y, host) ∈ nw_l) (hc : Cond.code y bytes maxL ret ∈ wsL_law) (hst' : Cond.static y ∈ wsL_law) (hin : Cond.initialized y.cls ∈ wsL_law) (hd : y.cls ≠ "java/lang/invoke/MethodHandle" ∧ y.cls ≠ "java/lang/invoke/VarHandle" ∧ (parseMethodDescriptor y.desc).map (fun d => d.parameters.length) = some n)
    (hls : ls.size = nL) (hS : va_S A H0 H locs) (hdg : decode cc pc = .ok (.invokestatic idx, 3)) (hrc : rm.cells = 0) (hrs : rm.slots = 0) (hR : rm.frames + 1 ≤ R.frames ∧ 8 + (maxL + 11) + rm.locals ≤ R.locals) (hn : As.length = n) (hst : st0 = As.reverse ++ rest) (hW : (rest.map fun v => v.category).sum ≤ 8) (hcs : cells ≤ R.cells ∧ slots ≤ R.slots)
    (kk : ∀ (H1 : Heap) (locs1 : List Loc), (∀ q : Nat, q < H.size → H1[q]? = H[q]?) → va_S A H0 H1 locs1 → W p l e R s m args below meth c H1 locs1 cells slots Q (F0 m (pc + 3) ls (.int r :: rest))) : W p l e R s m args below meth c H locs cells slots Q (F0 m pc ls st0) := by
  refine va_calli (va_runSN (As := As) (rest := rest) (host := host) (g := F0 m pc ls st0) ⟨hx, hb, hml, hown, hw⟩ hM ⟨va_cnB n hw (gN hc) rfl hrc hrs (hN _ hq) (hw _ hin) hd hR, hw _ hst', trivial⟩ ⟨blind_NW, fun U hU hW => ⟨rfl, hN.warm hW⟩⟩ rfl hn hls hst (lv_room hW) hdg hcs) hS (fun q _ h => h.elim) (fun q h => h.elim) (fun r' u t H1 locs1 ht hvm hw1 hB hz hk hS1 => ?_)
  subst hw1
  exact kk H1 locs1 (fun q hq => hk q hq (fun h => h)) hS1
theorem rt_l {v r : Int64} (hx : p.tables.exec = Jvm.exec) (hb : c.code = cc) (hr : meth.sig.returnType = some .long) (hlocks : meth.locks = false) (hS : va_S NoA s.heap H locs) (hdg : decode cc pc = .ok (.lreturn, 1)) (h : some v = some r) : W p l e R s m args below meth c H locs cells slots (MQ below (Ql r) args s cells slots NoA) (F0 m pc ls [.long v]) :=
  W.lret hx hb hr (fun t ht hW => ⟨⟨v, (), rfl, Option.some.inj h, trivial⟩, hS.F ht⟩) hS.2.2 hdg hlocks
theorem rt_i {v r : Int32} (hx : p.tables.exec = Jvm.exec) (hb : c.code = cc) (hr : meth.sig.returnType = some .int) (hlocks : meth.locks = false) (hS : va_S NoA s.heap H locs) (hdg : decode cc pc = .ok (.ireturn, 1)) (h : some v = some r) : W p l e R s m args below meth c H locs cells slots (MQ below (Qi r) args s cells slots NoA) (F0 m pc ls [.int v]) :=
  W.iret hx hb hr (fun t ht hW => ⟨⟨v, (), rfl, Option.some.inj h, trivial⟩, hS.F ht⟩) hS.2.2 hdg hlocks
theorem rt_z {v r : Int32} (hx : p.tables.exec = Jvm.exec) (hb : c.code = cc) (hr : meth.sig.returnType = some .boolean) (hlocks : meth.locks = false) (hS : va_S NoA s.heap H locs) (hdg : decode cc pc = .ok (.ireturn, 1)) (h : zb v (some v) = some r) : W p l e R s m args below meth c H locs cells slots (MQ below (Qi r) args s cells slots NoA) (F0 m pc ls [.int v]) := by
  obtain ⟨h1, h2⟩ := zb_s h
  exact W.zret hx hb hr h1 (fun t ht hW => ⟨⟨v, (), rfl, Option.some.inj h2, trivial⟩, hS.F ht⟩) hS.2.2 hdg hlocks
end SC

theorem nq_RX0_59 : (RX0, 59, yX11_within, RX11) ∈ nw_l := List.mem_of_getElem? (i := 0) rfl
theorem nq_RX10_38 : (RX10, 38, yX11_within, RX11) ∈ nw_l := List.mem_of_getElem? (i := 1) rfl
theorem nq_RX11_22 : (RX11, 22, yX7_init, RX11) ∈ nw_l := List.mem_of_getElem? (i := 2) rfl
theorem nq_RX11_29 : (RX11, 29, yX8_init, RX11) ∈ nw_l := List.mem_of_getElem? (i := 3) rfl
theorem nq_RX11_36 : (RX11, 36, yX5_init, RX11) ∈ nw_l := List.mem_of_getElem? (i := 4) rfl
theorem nq_RX11_61 : (RX11, 61, yX1_init, RX11) ∈ nw_l := List.mem_of_getElem? (i := 5) rfl
theorem nq_RX11_68 : (RX11, 68, yX6_init, RX11) ∈ nw_l := List.mem_of_getElem? (i := 6) rfl
theorem nq_RX11_75 : (RX11, 75, yX4_init, RX11) ∈ nw_l := List.mem_of_getElem? (i := 7) rfl
theorem nq_RX2_17 : (RX2, 17, yX11_within, RX11) ∈ nw_l := List.mem_of_getElem? (i := 8) rfl
theorem nq_RX4_97 : (RX4, 97, yX11_within, RX11) ∈ nw_l := List.mem_of_getElem? (i := 9) rfl
theorem nq_RX5_19 : (RX5, 19, yX11_within, RX11) ∈ nw_l := List.mem_of_getElem? (i := 10) rfl
theorem nq_RX8_17 : (RX8, 17, yX11_within, RX11) ∈ nw_l := List.mem_of_getElem? (i := 11) rfl
theorem FU_ex : ∃ n : Nat, 100000 ≤ n := ⟨100000, Nat.le_refl _⟩
noncomputable def FU : Nat := Classical.choose FU_ex
theorem FU_ge : 100000 ≤ FU := Classical.choose_spec FU_ex
theorem FU_lt {n : Nat} (h : n < 100000) : n < FU := Nat.lt_of_lt_of_le h FU_ge
theorem FU_s (k : Nat) (h : k ≤ 100000) : ∃ m, FU = m + k := ⟨FU - k, (Nat.sub_add_cancel (Nat.le_trans h FU_ge)).symm⟩
def remI (x y : Int32) : Int32 := x - x / y * y
def mxI (x y : Int32) : Int32 := if x < y then y else x
def mnI (x y : Int32) : Int32 := if y < x then y else x
def abI (x : Int32) : Int32 := if 0 ≤ x then x else 0 - x
def mnL (x y : Int64) : Int64 := if y < x then y else x
def fl1 {α1 ρ : Type} (B : (α1 → Option ρ) → α1 → Option ρ) : Nat → α1 → Option ρ
  | 0 => fun _ => none
  | n + 1 => B (fl1 B n)
def fl2 {α1 α2 ρ : Type} (B : (α1 → α2 → Option ρ) → α1 → α2 → Option ρ) : Nat → α1 → α2 → Option ρ
  | 0 => fun _ _ => none
  | n + 1 => B (fl2 B n)
def fl3 {α1 α2 α3 ρ : Type} (B : (α1 → α2 → α3 → Option ρ) → α1 → α2 → α3 → Option ρ) : Nat → α1 → α2 → α3 → Option ρ
  | 0 => fun _ _ _ => none
  | n + 1 => B (fl3 B n)
def fl4 {α1 α2 α3 α4 ρ : Type} (B : (α1 → α2 → α3 → α4 → Option ρ) → α1 → α2 → α3 → α4 → Option ρ) : Nat → α1 → α2 → α3 → α4 → Option ρ
  | 0 => fun _ _ _ _ => none
  | n + 1 => B (fl4 B n)
def fl5 {α1 α2 α3 α4 α5 ρ : Type} (B : (α1 → α2 → α3 → α4 → α5 → Option ρ) → α1 → α2 → α3 → α4 → α5 → Option ρ) : Nat → α1 → α2 → α3 → α4 → α5 → Option ρ
  | 0 => fun _ _ _ _ _ => none
  | n + 1 => B (fl5 B n)
def fl6 {α1 α2 α3 α4 α5 α6 ρ : Type} (B : (α1 → α2 → α3 → α4 → α5 → α6 → Option ρ) → α1 → α2 → α3 → α4 → α5 → α6 → Option ρ) : Nat → α1 → α2 → α3 → α4 → α5 → α6 → Option ρ
  | 0 => fun _ _ _ _ _ _ => none
  | n + 1 => B (fl6 B n)
def fl7 {α1 α2 α3 α4 α5 α6 α7 ρ : Type} (B : (α1 → α2 → α3 → α4 → α5 → α6 → α7 → Option ρ) → α1 → α2 → α3 → α4 → α5 → α6 → α7 → Option ρ) : Nat → α1 → α2 → α3 → α4 → α5 → α6 → α7 → Option ρ
  | 0 => fun _ _ _ _ _ _ _ => none
  | n + 1 => B (fl7 B n)
def fl8 {α1 α2 α3 α4 α5 α6 α7 α8 ρ : Type} (B : (α1 → α2 → α3 → α4 → α5 → α6 → α7 → α8 → Option ρ) → α1 → α2 → α3 → α4 → α5 → α6 → α7 → α8 → Option ρ) : Nat → α1 → α2 → α3 → α4 → α5 → α6 → α7 → α8 → Option ρ
  | 0 => fun _ _ _ _ _ _ _ _ => none
  | n + 1 => B (fl8 B n)
def fl9 {α1 α2 α3 α4 α5 α6 α7 α8 α9 ρ : Type} (B : (α1 → α2 → α3 → α4 → α5 → α6 → α7 → α8 → α9 → Option ρ) → α1 → α2 → α3 → α4 → α5 → α6 → α7 → α8 → α9 → Option ρ) : Nat → α1 → α2 → α3 → α4 → α5 → α6 → α7 → α8 → α9 → Option ρ
  | 0 => fun _ _ _ _ _ _ _ _ _ => none
  | n + 1 => B (fl9 B n)
def fl10 {α1 α2 α3 α4 α5 α6 α7 α8 α9 α10 ρ : Type} (B : (α1 → α2 → α3 → α4 → α5 → α6 → α7 → α8 → α9 → α10 → Option ρ) → α1 → α2 → α3 → α4 → α5 → α6 → α7 → α8 → α9 → α10 → Option ρ) : Nat → α1 → α2 → α3 → α4 → α5 → α6 → α7 → α8 → α9 → α10 → Option ρ
  | 0 => fun _ _ _ _ _ _ _ _ _ _ => none
  | n + 1 => B (fl10 B n)
def fl11 {α1 α2 α3 α4 α5 α6 α7 α8 α9 α10 α11 ρ : Type} (B : (α1 → α2 → α3 → α4 → α5 → α6 → α7 → α8 → α9 → α10 → α11 → Option ρ) → α1 → α2 → α3 → α4 → α5 → α6 → α7 → α8 → α9 → α10 → α11 → Option ρ) : Nat → α1 → α2 → α3 → α4 → α5 → α6 → α7 → α8 → α9 → α10 → α11 → Option ρ
  | 0 => fun _ _ _ _ _ _ _ _ _ _ _ => none
  | n + 1 => B (fl11 B n)
def fl12 {α1 α2 α3 α4 α5 α6 α7 α8 α9 α10 α11 α12 ρ : Type} (B : (α1 → α2 → α3 → α4 → α5 → α6 → α7 → α8 → α9 → α10 → α11 → α12 → Option ρ) → α1 → α2 → α3 → α4 → α5 → α6 → α7 → α8 → α9 → α10 → α11 → α12 → Option ρ) : Nat → α1 → α2 → α3 → α4 → α5 → α6 → α7 → α8 → α9 → α10 → α11 → α12 → Option ρ
  | 0 => fun _ _ _ _ _ _ _ _ _ _ _ _ => none
  | n + 1 => B (fl12 B n)
def fl13 {α1 α2 α3 α4 α5 α6 α7 α8 α9 α10 α11 α12 α13 ρ : Type} (B : (α1 → α2 → α3 → α4 → α5 → α6 → α7 → α8 → α9 → α10 → α11 → α12 → α13 → Option ρ) → α1 → α2 → α3 → α4 → α5 → α6 → α7 → α8 → α9 → α10 → α11 → α12 → α13 → Option ρ) : Nat → α1 → α2 → α3 → α4 → α5 → α6 → α7 → α8 → α9 → α10 → α11 → α12 → α13 → Option ρ
  | 0 => fun _ _ _ _ _ _ _ _ _ _ _ _ _ => none
  | n + 1 => B (fl13 B n)
def fl14 {α1 α2 α3 α4 α5 α6 α7 α8 α9 α10 α11 α12 α13 α14 ρ : Type} (B : (α1 → α2 → α3 → α4 → α5 → α6 → α7 → α8 → α9 → α10 → α11 → α12 → α13 → α14 → Option ρ) → α1 → α2 → α3 → α4 → α5 → α6 → α7 → α8 → α9 → α10 → α11 → α12 → α13 → α14 → Option ρ) : Nat → α1 → α2 → α3 → α4 → α5 → α6 → α7 → α8 → α9 → α10 → α11 → α12 → α13 → α14 → Option ρ
  | 0 => fun _ _ _ _ _ _ _ _ _ _ _ _ _ _ => none
  | n + 1 => B (fl14 B n)
def fl15 {α1 α2 α3 α4 α5 α6 α7 α8 α9 α10 α11 α12 α13 α14 α15 ρ : Type} (B : (α1 → α2 → α3 → α4 → α5 → α6 → α7 → α8 → α9 → α10 → α11 → α12 → α13 → α14 → α15 → Option ρ) → α1 → α2 → α3 → α4 → α5 → α6 → α7 → α8 → α9 → α10 → α11 → α12 → α13 → α14 → α15 → Option ρ) : Nat → α1 → α2 → α3 → α4 → α5 → α6 → α7 → α8 → α9 → α10 → α11 → α12 → α13 → α14 → α15 → Option ρ
  | 0 => fun _ _ _ _ _ _ _ _ _ _ _ _ _ _ _ => none
  | n + 1 => B (fl15 B n)
def fl16 {α1 α2 α3 α4 α5 α6 α7 α8 α9 α10 α11 α12 α13 α14 α15 α16 ρ : Type} (B : (α1 → α2 → α3 → α4 → α5 → α6 → α7 → α8 → α9 → α10 → α11 → α12 → α13 → α14 → α15 → α16 → Option ρ) → α1 → α2 → α3 → α4 → α5 → α6 → α7 → α8 → α9 → α10 → α11 → α12 → α13 → α14 → α15 → α16 → Option ρ) : Nat → α1 → α2 → α3 → α4 → α5 → α6 → α7 → α8 → α9 → α10 → α11 → α12 → α13 → α14 → α15 → α16 → Option ρ
  | 0 => fun _ _ _ _ _ _ _ _ _ _ _ _ _ _ _ _ => none
  | n + 1 => B (fl16 B n)
def fl17 {α1 α2 α3 α4 α5 α6 α7 α8 α9 α10 α11 α12 α13 α14 α15 α16 α17 ρ : Type} (B : (α1 → α2 → α3 → α4 → α5 → α6 → α7 → α8 → α9 → α10 → α11 → α12 → α13 → α14 → α15 → α16 → α17 → Option ρ) → α1 → α2 → α3 → α4 → α5 → α6 → α7 → α8 → α9 → α10 → α11 → α12 → α13 → α14 → α15 → α16 → α17 → Option ρ) : Nat → α1 → α2 → α3 → α4 → α5 → α6 → α7 → α8 → α9 → α10 → α11 → α12 → α13 → α14 → α15 → α16 → α17 → Option ρ
  | 0 => fun _ _ _ _ _ _ _ _ _ _ _ _ _ _ _ _ _ => none
  | n + 1 => B (fl17 B n)
def fl18 {α1 α2 α3 α4 α5 α6 α7 α8 α9 α10 α11 α12 α13 α14 α15 α16 α17 α18 ρ : Type} (B : (α1 → α2 → α3 → α4 → α5 → α6 → α7 → α8 → α9 → α10 → α11 → α12 → α13 → α14 → α15 → α16 → α17 → α18 → Option ρ) → α1 → α2 → α3 → α4 → α5 → α6 → α7 → α8 → α9 → α10 → α11 → α12 → α13 → α14 → α15 → α16 → α17 → α18 → Option ρ) : Nat → α1 → α2 → α3 → α4 → α5 → α6 → α7 → α8 → α9 → α10 → α11 → α12 → α13 → α14 → α15 → α16 → α17 → α18 → Option ρ
  | 0 => fun _ _ _ _ _ _ _ _ _ _ _ _ _ _ _ _ _ _ => none
  | n + 1 => B (fl18 B n)
def fl19 {α1 α2 α3 α4 α5 α6 α7 α8 α9 α10 α11 α12 α13 α14 α15 α16 α17 α18 α19 ρ : Type} (B : (α1 → α2 → α3 → α4 → α5 → α6 → α7 → α8 → α9 → α10 → α11 → α12 → α13 → α14 → α15 → α16 → α17 → α18 → α19 → Option ρ) → α1 → α2 → α3 → α4 → α5 → α6 → α7 → α8 → α9 → α10 → α11 → α12 → α13 → α14 → α15 → α16 → α17 → α18 → α19 → Option ρ) : Nat → α1 → α2 → α3 → α4 → α5 → α6 → α7 → α8 → α9 → α10 → α11 → α12 → α13 → α14 → α15 → α16 → α17 → α18 → α19 → Option ρ
  | 0 => fun _ _ _ _ _ _ _ _ _ _ _ _ _ _ _ _ _ _ _ => none
  | n + 1 => B (fl19 B n)
def fl20 {α1 α2 α3 α4 α5 α6 α7 α8 α9 α10 α11 α12 α13 α14 α15 α16 α17 α18 α19 α20 ρ : Type} (B : (α1 → α2 → α3 → α4 → α5 → α6 → α7 → α8 → α9 → α10 → α11 → α12 → α13 → α14 → α15 → α16 → α17 → α18 → α19 → α20 → Option ρ) → α1 → α2 → α3 → α4 → α5 → α6 → α7 → α8 → α9 → α10 → α11 → α12 → α13 → α14 → α15 → α16 → α17 → α18 → α19 → α20 → Option ρ) : Nat → α1 → α2 → α3 → α4 → α5 → α6 → α7 → α8 → α9 → α10 → α11 → α12 → α13 → α14 → α15 → α16 → α17 → α18 → α19 → α20 → Option ρ
  | 0 => fun _ _ _ _ _ _ _ _ _ _ _ _ _ _ _ _ _ _ _ _ => none
  | n + 1 => B (fl20 B n)
def fl21 {α1 α2 α3 α4 α5 α6 α7 α8 α9 α10 α11 α12 α13 α14 α15 α16 α17 α18 α19 α20 α21 ρ : Type} (B : (α1 → α2 → α3 → α4 → α5 → α6 → α7 → α8 → α9 → α10 → α11 → α12 → α13 → α14 → α15 → α16 → α17 → α18 → α19 → α20 → α21 → Option ρ) → α1 → α2 → α3 → α4 → α5 → α6 → α7 → α8 → α9 → α10 → α11 → α12 → α13 → α14 → α15 → α16 → α17 → α18 → α19 → α20 → α21 → Option ρ) : Nat → α1 → α2 → α3 → α4 → α5 → α6 → α7 → α8 → α9 → α10 → α11 → α12 → α13 → α14 → α15 → α16 → α17 → α18 → α19 → α20 → α21 → Option ρ
  | 0 => fun _ _ _ _ _ _ _ _ _ _ _ _ _ _ _ _ _ _ _ _ _ => none
  | n + 1 => B (fl21 B n)
def fl22 {α1 α2 α3 α4 α5 α6 α7 α8 α9 α10 α11 α12 α13 α14 α15 α16 α17 α18 α19 α20 α21 α22 ρ : Type} (B : (α1 → α2 → α3 → α4 → α5 → α6 → α7 → α8 → α9 → α10 → α11 → α12 → α13 → α14 → α15 → α16 → α17 → α18 → α19 → α20 → α21 → α22 → Option ρ) → α1 → α2 → α3 → α4 → α5 → α6 → α7 → α8 → α9 → α10 → α11 → α12 → α13 → α14 → α15 → α16 → α17 → α18 → α19 → α20 → α21 → α22 → Option ρ) : Nat → α1 → α2 → α3 → α4 → α5 → α6 → α7 → α8 → α9 → α10 → α11 → α12 → α13 → α14 → α15 → α16 → α17 → α18 → α19 → α20 → α21 → α22 → Option ρ
  | 0 => fun _ _ _ _ _ _ _ _ _ _ _ _ _ _ _ _ _ _ _ _ _ _ => none
  | n + 1 => B (fl22 B n)
def fl23 {α1 α2 α3 α4 α5 α6 α7 α8 α9 α10 α11 α12 α13 α14 α15 α16 α17 α18 α19 α20 α21 α22 α23 ρ : Type} (B : (α1 → α2 → α3 → α4 → α5 → α6 → α7 → α8 → α9 → α10 → α11 → α12 → α13 → α14 → α15 → α16 → α17 → α18 → α19 → α20 → α21 → α22 → α23 → Option ρ) → α1 → α2 → α3 → α4 → α5 → α6 → α7 → α8 → α9 → α10 → α11 → α12 → α13 → α14 → α15 → α16 → α17 → α18 → α19 → α20 → α21 → α22 → α23 → Option ρ) : Nat → α1 → α2 → α3 → α4 → α5 → α6 → α7 → α8 → α9 → α10 → α11 → α12 → α13 → α14 → α15 → α16 → α17 → α18 → α19 → α20 → α21 → α22 → α23 → Option ρ
  | 0 => fun _ _ _ _ _ _ _ _ _ _ _ _ _ _ _ _ _ _ _ _ _ _ _ => none
  | n + 1 => B (fl23 B n)
def fl24 {α1 α2 α3 α4 α5 α6 α7 α8 α9 α10 α11 α12 α13 α14 α15 α16 α17 α18 α19 α20 α21 α22 α23 α24 ρ : Type} (B : (α1 → α2 → α3 → α4 → α5 → α6 → α7 → α8 → α9 → α10 → α11 → α12 → α13 → α14 → α15 → α16 → α17 → α18 → α19 → α20 → α21 → α22 → α23 → α24 → Option ρ) → α1 → α2 → α3 → α4 → α5 → α6 → α7 → α8 → α9 → α10 → α11 → α12 → α13 → α14 → α15 → α16 → α17 → α18 → α19 → α20 → α21 → α22 → α23 → α24 → Option ρ) : Nat → α1 → α2 → α3 → α4 → α5 → α6 → α7 → α8 → α9 → α10 → α11 → α12 → α13 → α14 → α15 → α16 → α17 → α18 → α19 → α20 → α21 → α22 → α23 → α24 → Option ρ
  | 0 => fun _ _ _ _ _ _ _ _ _ _ _ _ _ _ _ _ _ _ _ _ _ _ _ _ => none
  | n + 1 => B (fl24 B n)
def bd2 {α1 α2 β : Type} (x : Option (α1 × α2)) (k : α1 → α2 → Option β) : Option β := match x with
  | none => none
  | some (a1, a2) => k a1 a2
theorem bd2_s {α1 α2 β : Type} {x : Option (α1 × α2)} {k : α1 → α2 → Option β} {r : β} (h : bd2 x k = some r) : ∃ a1 a2, x = some (a1, a2) ∧ k a1 a2 = some r := by
  match x, h with
  | some (a1, a2), h => exact ⟨a1, a2, rfl, h⟩
def bd3 {α1 α2 α3 β : Type} (x : Option (α1 × α2 × α3)) (k : α1 → α2 → α3 → Option β) : Option β := match x with
  | none => none
  | some (a1, a2, a3) => k a1 a2 a3
theorem bd3_s {α1 α2 α3 β : Type} {x : Option (α1 × α2 × α3)} {k : α1 → α2 → α3 → Option β} {r : β} (h : bd3 x k = some r) : ∃ a1 a2 a3, x = some (a1, a2, a3) ∧ k a1 a2 a3 = some r := by
  match x, h with
  | some (a1, a2, a3), h => exact ⟨a1, a2, a3, rfl, h⟩
def bd4 {α1 α2 α3 α4 β : Type} (x : Option (α1 × α2 × α3 × α4)) (k : α1 → α2 → α3 → α4 → Option β) : Option β := match x with
  | none => none
  | some (a1, a2, a3, a4) => k a1 a2 a3 a4
theorem bd4_s {α1 α2 α3 α4 β : Type} {x : Option (α1 × α2 × α3 × α4)} {k : α1 → α2 → α3 → α4 → Option β} {r : β} (h : bd4 x k = some r) : ∃ a1 a2 a3 a4, x = some (a1, a2, a3, a4) ∧ k a1 a2 a3 a4 = some r := by
  match x, h with
  | some (a1, a2, a3, a4), h => exact ⟨a1, a2, a3, a4, rfl, h⟩
def bd5 {α1 α2 α3 α4 α5 β : Type} (x : Option (α1 × α2 × α3 × α4 × α5)) (k : α1 → α2 → α3 → α4 → α5 → Option β) : Option β := match x with
  | none => none
  | some (a1, a2, a3, a4, a5) => k a1 a2 a3 a4 a5
theorem bd5_s {α1 α2 α3 α4 α5 β : Type} {x : Option (α1 × α2 × α3 × α4 × α5)} {k : α1 → α2 → α3 → α4 → α5 → Option β} {r : β} (h : bd5 x k = some r) : ∃ a1 a2 a3 a4 a5, x = some (a1, a2, a3, a4, a5) ∧ k a1 a2 a3 a4 a5 = some r := by
  match x, h with
  | some (a1, a2, a3, a4, a5), h => exact ⟨a1, a2, a3, a4, a5, rfl, h⟩
def bd6 {α1 α2 α3 α4 α5 α6 β : Type} (x : Option (α1 × α2 × α3 × α4 × α5 × α6)) (k : α1 → α2 → α3 → α4 → α5 → α6 → Option β) : Option β := match x with
  | none => none
  | some (a1, a2, a3, a4, a5, a6) => k a1 a2 a3 a4 a5 a6
theorem bd6_s {α1 α2 α3 α4 α5 α6 β : Type} {x : Option (α1 × α2 × α3 × α4 × α5 × α6)} {k : α1 → α2 → α3 → α4 → α5 → α6 → Option β} {r : β} (h : bd6 x k = some r) : ∃ a1 a2 a3 a4 a5 a6, x = some (a1, a2, a3, a4, a5, a6) ∧ k a1 a2 a3 a4 a5 a6 = some r := by
  match x, h with
  | some (a1, a2, a3, a4, a5, a6), h => exact ⟨a1, a2, a3, a4, a5, a6, rfl, h⟩
def bd7 {α1 α2 α3 α4 α5 α6 α7 β : Type} (x : Option (α1 × α2 × α3 × α4 × α5 × α6 × α7)) (k : α1 → α2 → α3 → α4 → α5 → α6 → α7 → Option β) : Option β := match x with
  | none => none
  | some (a1, a2, a3, a4, a5, a6, a7) => k a1 a2 a3 a4 a5 a6 a7
theorem bd7_s {α1 α2 α3 α4 α5 α6 α7 β : Type} {x : Option (α1 × α2 × α3 × α4 × α5 × α6 × α7)} {k : α1 → α2 → α3 → α4 → α5 → α6 → α7 → Option β} {r : β} (h : bd7 x k = some r) : ∃ a1 a2 a3 a4 a5 a6 a7, x = some (a1, a2, a3, a4, a5, a6, a7) ∧ k a1 a2 a3 a4 a5 a6 a7 = some r := by
  match x, h with
  | some (a1, a2, a3, a4, a5, a6, a7), h => exact ⟨a1, a2, a3, a4, a5, a6, a7, rfl, h⟩
def bd8 {α1 α2 α3 α4 α5 α6 α7 α8 β : Type} (x : Option (α1 × α2 × α3 × α4 × α5 × α6 × α7 × α8)) (k : α1 → α2 → α3 → α4 → α5 → α6 → α7 → α8 → Option β) : Option β := match x with
  | none => none
  | some (a1, a2, a3, a4, a5, a6, a7, a8) => k a1 a2 a3 a4 a5 a6 a7 a8
theorem bd8_s {α1 α2 α3 α4 α5 α6 α7 α8 β : Type} {x : Option (α1 × α2 × α3 × α4 × α5 × α6 × α7 × α8)} {k : α1 → α2 → α3 → α4 → α5 → α6 → α7 → α8 → Option β} {r : β} (h : bd8 x k = some r) : ∃ a1 a2 a3 a4 a5 a6 a7 a8, x = some (a1, a2, a3, a4, a5, a6, a7, a8) ∧ k a1 a2 a3 a4 a5 a6 a7 a8 = some r := by
  match x, h with
  | some (a1, a2, a3, a4, a5, a6, a7, a8), h => exact ⟨a1, a2, a3, a4, a5, a6, a7, a8, rfl, h⟩
def bd9 {α1 α2 α3 α4 α5 α6 α7 α8 α9 β : Type} (x : Option (α1 × α2 × α3 × α4 × α5 × α6 × α7 × α8 × α9)) (k : α1 → α2 → α3 → α4 → α5 → α6 → α7 → α8 → α9 → Option β) : Option β := match x with
  | none => none
  | some (a1, a2, a3, a4, a5, a6, a7, a8, a9) => k a1 a2 a3 a4 a5 a6 a7 a8 a9
theorem bd9_s {α1 α2 α3 α4 α5 α6 α7 α8 α9 β : Type} {x : Option (α1 × α2 × α3 × α4 × α5 × α6 × α7 × α8 × α9)} {k : α1 → α2 → α3 → α4 → α5 → α6 → α7 → α8 → α9 → Option β} {r : β} (h : bd9 x k = some r) : ∃ a1 a2 a3 a4 a5 a6 a7 a8 a9, x = some (a1, a2, a3, a4, a5, a6, a7, a8, a9) ∧ k a1 a2 a3 a4 a5 a6 a7 a8 a9 = some r := by
  match x, h with
  | some (a1, a2, a3, a4, a5, a6, a7, a8, a9), h => exact ⟨a1, a2, a3, a4, a5, a6, a7, a8, a9, rfl, h⟩
def bd10 {α1 α2 α3 α4 α5 α6 α7 α8 α9 α10 β : Type} (x : Option (α1 × α2 × α3 × α4 × α5 × α6 × α7 × α8 × α9 × α10)) (k : α1 → α2 → α3 → α4 → α5 → α6 → α7 → α8 → α9 → α10 → Option β) : Option β := match x with
  | none => none
  | some (a1, a2, a3, a4, a5, a6, a7, a8, a9, a10) => k a1 a2 a3 a4 a5 a6 a7 a8 a9 a10
theorem bd10_s {α1 α2 α3 α4 α5 α6 α7 α8 α9 α10 β : Type} {x : Option (α1 × α2 × α3 × α4 × α5 × α6 × α7 × α8 × α9 × α10)} {k : α1 → α2 → α3 → α4 → α5 → α6 → α7 → α8 → α9 → α10 → Option β} {r : β} (h : bd10 x k = some r) : ∃ a1 a2 a3 a4 a5 a6 a7 a8 a9 a10, x = some (a1, a2, a3, a4, a5, a6, a7, a8, a9, a10) ∧ k a1 a2 a3 a4 a5 a6 a7 a8 a9 a10 = some r := by
  match x, h with
  | some (a1, a2, a3, a4, a5, a6, a7, a8, a9, a10), h => exact ⟨a1, a2, a3, a4, a5, a6, a7, a8, a9, a10, rfl, h⟩
def bd11 {α1 α2 α3 α4 α5 α6 α7 α8 α9 α10 α11 β : Type} (x : Option (α1 × α2 × α3 × α4 × α5 × α6 × α7 × α8 × α9 × α10 × α11)) (k : α1 → α2 → α3 → α4 → α5 → α6 → α7 → α8 → α9 → α10 → α11 → Option β) : Option β := match x with
  | none => none
  | some (a1, a2, a3, a4, a5, a6, a7, a8, a9, a10, a11) => k a1 a2 a3 a4 a5 a6 a7 a8 a9 a10 a11
theorem bd11_s {α1 α2 α3 α4 α5 α6 α7 α8 α9 α10 α11 β : Type} {x : Option (α1 × α2 × α3 × α4 × α5 × α6 × α7 × α8 × α9 × α10 × α11)} {k : α1 → α2 → α3 → α4 → α5 → α6 → α7 → α8 → α9 → α10 → α11 → Option β} {r : β} (h : bd11 x k = some r) : ∃ a1 a2 a3 a4 a5 a6 a7 a8 a9 a10 a11, x = some (a1, a2, a3, a4, a5, a6, a7, a8, a9, a10, a11) ∧ k a1 a2 a3 a4 a5 a6 a7 a8 a9 a10 a11 = some r := by
  match x, h with
  | some (a1, a2, a3, a4, a5, a6, a7, a8, a9, a10, a11), h => exact ⟨a1, a2, a3, a4, a5, a6, a7, a8, a9, a10, a11, rfl, h⟩
def bd12 {α1 α2 α3 α4 α5 α6 α7 α8 α9 α10 α11 α12 β : Type} (x : Option (α1 × α2 × α3 × α4 × α5 × α6 × α7 × α8 × α9 × α10 × α11 × α12)) (k : α1 → α2 → α3 → α4 → α5 → α6 → α7 → α8 → α9 → α10 → α11 → α12 → Option β) : Option β := match x with
  | none => none
  | some (a1, a2, a3, a4, a5, a6, a7, a8, a9, a10, a11, a12) => k a1 a2 a3 a4 a5 a6 a7 a8 a9 a10 a11 a12
theorem bd12_s {α1 α2 α3 α4 α5 α6 α7 α8 α9 α10 α11 α12 β : Type} {x : Option (α1 × α2 × α3 × α4 × α5 × α6 × α7 × α8 × α9 × α10 × α11 × α12)} {k : α1 → α2 → α3 → α4 → α5 → α6 → α7 → α8 → α9 → α10 → α11 → α12 → Option β} {r : β} (h : bd12 x k = some r) : ∃ a1 a2 a3 a4 a5 a6 a7 a8 a9 a10 a11 a12, x = some (a1, a2, a3, a4, a5, a6, a7, a8, a9, a10, a11, a12) ∧ k a1 a2 a3 a4 a5 a6 a7 a8 a9 a10 a11 a12 = some r := by
  match x, h with
  | some (a1, a2, a3, a4, a5, a6, a7, a8, a9, a10, a11, a12), h => exact ⟨a1, a2, a3, a4, a5, a6, a7, a8, a9, a10, a11, a12, rfl, h⟩
def bd13 {α1 α2 α3 α4 α5 α6 α7 α8 α9 α10 α11 α12 α13 β : Type} (x : Option (α1 × α2 × α3 × α4 × α5 × α6 × α7 × α8 × α9 × α10 × α11 × α12 × α13)) (k : α1 → α2 → α3 → α4 → α5 → α6 → α7 → α8 → α9 → α10 → α11 → α12 → α13 → Option β) : Option β := match x with
  | none => none
  | some (a1, a2, a3, a4, a5, a6, a7, a8, a9, a10, a11, a12, a13) => k a1 a2 a3 a4 a5 a6 a7 a8 a9 a10 a11 a12 a13
theorem bd13_s {α1 α2 α3 α4 α5 α6 α7 α8 α9 α10 α11 α12 α13 β : Type} {x : Option (α1 × α2 × α3 × α4 × α5 × α6 × α7 × α8 × α9 × α10 × α11 × α12 × α13)} {k : α1 → α2 → α3 → α4 → α5 → α6 → α7 → α8 → α9 → α10 → α11 → α12 → α13 → Option β} {r : β} (h : bd13 x k = some r) : ∃ a1 a2 a3 a4 a5 a6 a7 a8 a9 a10 a11 a12 a13, x = some (a1, a2, a3, a4, a5, a6, a7, a8, a9, a10, a11, a12, a13) ∧ k a1 a2 a3 a4 a5 a6 a7 a8 a9 a10 a11 a12 a13 = some r := by
  match x, h with
  | some (a1, a2, a3, a4, a5, a6, a7, a8, a9, a10, a11, a12, a13), h => exact ⟨a1, a2, a3, a4, a5, a6, a7, a8, a9, a10, a11, a12, a13, rfl, h⟩
def bd14 {α1 α2 α3 α4 α5 α6 α7 α8 α9 α10 α11 α12 α13 α14 β : Type} (x : Option (α1 × α2 × α3 × α4 × α5 × α6 × α7 × α8 × α9 × α10 × α11 × α12 × α13 × α14)) (k : α1 → α2 → α3 → α4 → α5 → α6 → α7 → α8 → α9 → α10 → α11 → α12 → α13 → α14 → Option β) : Option β := match x with
  | none => none
  | some (a1, a2, a3, a4, a5, a6, a7, a8, a9, a10, a11, a12, a13, a14) => k a1 a2 a3 a4 a5 a6 a7 a8 a9 a10 a11 a12 a13 a14
theorem bd14_s {α1 α2 α3 α4 α5 α6 α7 α8 α9 α10 α11 α12 α13 α14 β : Type} {x : Option (α1 × α2 × α3 × α4 × α5 × α6 × α7 × α8 × α9 × α10 × α11 × α12 × α13 × α14)} {k : α1 → α2 → α3 → α4 → α5 → α6 → α7 → α8 → α9 → α10 → α11 → α12 → α13 → α14 → Option β} {r : β} (h : bd14 x k = some r) : ∃ a1 a2 a3 a4 a5 a6 a7 a8 a9 a10 a11 a12 a13 a14, x = some (a1, a2, a3, a4, a5, a6, a7, a8, a9, a10, a11, a12, a13, a14) ∧ k a1 a2 a3 a4 a5 a6 a7 a8 a9 a10 a11 a12 a13 a14 = some r := by
  match x, h with
  | some (a1, a2, a3, a4, a5, a6, a7, a8, a9, a10, a11, a12, a13, a14), h => exact ⟨a1, a2, a3, a4, a5, a6, a7, a8, a9, a10, a11, a12, a13, a14, rfl, h⟩
def bd15 {α1 α2 α3 α4 α5 α6 α7 α8 α9 α10 α11 α12 α13 α14 α15 β : Type} (x : Option (α1 × α2 × α3 × α4 × α5 × α6 × α7 × α8 × α9 × α10 × α11 × α12 × α13 × α14 × α15)) (k : α1 → α2 → α3 → α4 → α5 → α6 → α7 → α8 → α9 → α10 → α11 → α12 → α13 → α14 → α15 → Option β) : Option β := match x with
  | none => none
  | some (a1, a2, a3, a4, a5, a6, a7, a8, a9, a10, a11, a12, a13, a14, a15) => k a1 a2 a3 a4 a5 a6 a7 a8 a9 a10 a11 a12 a13 a14 a15
theorem bd15_s {α1 α2 α3 α4 α5 α6 α7 α8 α9 α10 α11 α12 α13 α14 α15 β : Type} {x : Option (α1 × α2 × α3 × α4 × α5 × α6 × α7 × α8 × α9 × α10 × α11 × α12 × α13 × α14 × α15)} {k : α1 → α2 → α3 → α4 → α5 → α6 → α7 → α8 → α9 → α10 → α11 → α12 → α13 → α14 → α15 → Option β} {r : β} (h : bd15 x k = some r) : ∃ a1 a2 a3 a4 a5 a6 a7 a8 a9 a10 a11 a12 a13 a14 a15, x = some (a1, a2, a3, a4, a5, a6, a7, a8, a9, a10, a11, a12, a13, a14, a15) ∧ k a1 a2 a3 a4 a5 a6 a7 a8 a9 a10 a11 a12 a13 a14 a15 = some r := by
  match x, h with
  | some (a1, a2, a3, a4, a5, a6, a7, a8, a9, a10, a11, a12, a13, a14, a15), h => exact ⟨a1, a2, a3, a4, a5, a6, a7, a8, a9, a10, a11, a12, a13, a14, a15, rfl, h⟩
def bd16 {α1 α2 α3 α4 α5 α6 α7 α8 α9 α10 α11 α12 α13 α14 α15 α16 β : Type} (x : Option (α1 × α2 × α3 × α4 × α5 × α6 × α7 × α8 × α9 × α10 × α11 × α12 × α13 × α14 × α15 × α16)) (k : α1 → α2 → α3 → α4 → α5 → α6 → α7 → α8 → α9 → α10 → α11 → α12 → α13 → α14 → α15 → α16 → Option β) : Option β := match x with
  | none => none
  | some (a1, a2, a3, a4, a5, a6, a7, a8, a9, a10, a11, a12, a13, a14, a15, a16) => k a1 a2 a3 a4 a5 a6 a7 a8 a9 a10 a11 a12 a13 a14 a15 a16
theorem bd16_s {α1 α2 α3 α4 α5 α6 α7 α8 α9 α10 α11 α12 α13 α14 α15 α16 β : Type} {x : Option (α1 × α2 × α3 × α4 × α5 × α6 × α7 × α8 × α9 × α10 × α11 × α12 × α13 × α14 × α15 × α16)} {k : α1 → α2 → α3 → α4 → α5 → α6 → α7 → α8 → α9 → α10 → α11 → α12 → α13 → α14 → α15 → α16 → Option β} {r : β} (h : bd16 x k = some r) : ∃ a1 a2 a3 a4 a5 a6 a7 a8 a9 a10 a11 a12 a13 a14 a15 a16, x = some (a1, a2, a3, a4, a5, a6, a7, a8, a9, a10, a11, a12, a13, a14, a15, a16) ∧ k a1 a2 a3 a4 a5 a6 a7 a8 a9 a10 a11 a12 a13 a14 a15 a16 = some r := by
  match x, h with
  | some (a1, a2, a3, a4, a5, a6, a7, a8, a9, a10, a11, a12, a13, a14, a15, a16), h => exact ⟨a1, a2, a3, a4, a5, a6, a7, a8, a9, a10, a11, a12, a13, a14, a15, a16, rfl, h⟩
def bd17 {α1 α2 α3 α4 α5 α6 α7 α8 α9 α10 α11 α12 α13 α14 α15 α16 α17 β : Type} (x : Option (α1 × α2 × α3 × α4 × α5 × α6 × α7 × α8 × α9 × α10 × α11 × α12 × α13 × α14 × α15 × α16 × α17)) (k : α1 → α2 → α3 → α4 → α5 → α6 → α7 → α8 → α9 → α10 → α11 → α12 → α13 → α14 → α15 → α16 → α17 → Option β) : Option β := match x with
  | none => none
  | some (a1, a2, a3, a4, a5, a6, a7, a8, a9, a10, a11, a12, a13, a14, a15, a16, a17) => k a1 a2 a3 a4 a5 a6 a7 a8 a9 a10 a11 a12 a13 a14 a15 a16 a17
theorem bd17_s {α1 α2 α3 α4 α5 α6 α7 α8 α9 α10 α11 α12 α13 α14 α15 α16 α17 β : Type} {x : Option (α1 × α2 × α3 × α4 × α5 × α6 × α7 × α8 × α9 × α10 × α11 × α12 × α13 × α14 × α15 × α16 × α17)} {k : α1 → α2 → α3 → α4 → α5 → α6 → α7 → α8 → α9 → α10 → α11 → α12 → α13 → α14 → α15 → α16 → α17 → Option β} {r : β} (h : bd17 x k = some r) : ∃ a1 a2 a3 a4 a5 a6 a7 a8 a9 a10 a11 a12 a13 a14 a15 a16 a17, x = some (a1, a2, a3, a4, a5, a6, a7, a8, a9, a10, a11, a12, a13, a14, a15, a16, a17) ∧ k a1 a2 a3 a4 a5 a6 a7 a8 a9 a10 a11 a12 a13 a14 a15 a16 a17 = some r := by
  match x, h with
  | some (a1, a2, a3, a4, a5, a6, a7, a8, a9, a10, a11, a12, a13, a14, a15, a16, a17), h => exact ⟨a1, a2, a3, a4, a5, a6, a7, a8, a9, a10, a11, a12, a13, a14, a15, a16, a17, rfl, h⟩
def bd18 {α1 α2 α3 α4 α5 α6 α7 α8 α9 α10 α11 α12 α13 α14 α15 α16 α17 α18 β : Type} (x : Option (α1 × α2 × α3 × α4 × α5 × α6 × α7 × α8 × α9 × α10 × α11 × α12 × α13 × α14 × α15 × α16 × α17 × α18)) (k : α1 → α2 → α3 → α4 → α5 → α6 → α7 → α8 → α9 → α10 → α11 → α12 → α13 → α14 → α15 → α16 → α17 → α18 → Option β) : Option β := match x with
  | none => none
  | some (a1, a2, a3, a4, a5, a6, a7, a8, a9, a10, a11, a12, a13, a14, a15, a16, a17, a18) => k a1 a2 a3 a4 a5 a6 a7 a8 a9 a10 a11 a12 a13 a14 a15 a16 a17 a18
theorem bd18_s {α1 α2 α3 α4 α5 α6 α7 α8 α9 α10 α11 α12 α13 α14 α15 α16 α17 α18 β : Type} {x : Option (α1 × α2 × α3 × α4 × α5 × α6 × α7 × α8 × α9 × α10 × α11 × α12 × α13 × α14 × α15 × α16 × α17 × α18)} {k : α1 → α2 → α3 → α4 → α5 → α6 → α7 → α8 → α9 → α10 → α11 → α12 → α13 → α14 → α15 → α16 → α17 → α18 → Option β} {r : β} (h : bd18 x k = some r) : ∃ a1 a2 a3 a4 a5 a6 a7 a8 a9 a10 a11 a12 a13 a14 a15 a16 a17 a18, x = some (a1, a2, a3, a4, a5, a6, a7, a8, a9, a10, a11, a12, a13, a14, a15, a16, a17, a18) ∧ k a1 a2 a3 a4 a5 a6 a7 a8 a9 a10 a11 a12 a13 a14 a15 a16 a17 a18 = some r := by
  match x, h with
  | some (a1, a2, a3, a4, a5, a6, a7, a8, a9, a10, a11, a12, a13, a14, a15, a16, a17, a18), h => exact ⟨a1, a2, a3, a4, a5, a6, a7, a8, a9, a10, a11, a12, a13, a14, a15, a16, a17, a18, rfl, h⟩
def bd19 {α1 α2 α3 α4 α5 α6 α7 α8 α9 α10 α11 α12 α13 α14 α15 α16 α17 α18 α19 β : Type} (x : Option (α1 × α2 × α3 × α4 × α5 × α6 × α7 × α8 × α9 × α10 × α11 × α12 × α13 × α14 × α15 × α16 × α17 × α18 × α19)) (k : α1 → α2 → α3 → α4 → α5 → α6 → α7 → α8 → α9 → α10 → α11 → α12 → α13 → α14 → α15 → α16 → α17 → α18 → α19 → Option β) : Option β := match x with
  | none => none
  | some (a1, a2, a3, a4, a5, a6, a7, a8, a9, a10, a11, a12, a13, a14, a15, a16, a17, a18, a19) => k a1 a2 a3 a4 a5 a6 a7 a8 a9 a10 a11 a12 a13 a14 a15 a16 a17 a18 a19
theorem bd19_s {α1 α2 α3 α4 α5 α6 α7 α8 α9 α10 α11 α12 α13 α14 α15 α16 α17 α18 α19 β : Type} {x : Option (α1 × α2 × α3 × α4 × α5 × α6 × α7 × α8 × α9 × α10 × α11 × α12 × α13 × α14 × α15 × α16 × α17 × α18 × α19)} {k : α1 → α2 → α3 → α4 → α5 → α6 → α7 → α8 → α9 → α10 → α11 → α12 → α13 → α14 → α15 → α16 → α17 → α18 → α19 → Option β} {r : β} (h : bd19 x k = some r) : ∃ a1 a2 a3 a4 a5 a6 a7 a8 a9 a10 a11 a12 a13 a14 a15 a16 a17 a18 a19, x = some (a1, a2, a3, a4, a5, a6, a7, a8, a9, a10, a11, a12, a13, a14, a15, a16, a17, a18, a19) ∧ k a1 a2 a3 a4 a5 a6 a7 a8 a9 a10 a11 a12 a13 a14 a15 a16 a17 a18 a19 = some r := by
  match x, h with
  | some (a1, a2, a3, a4, a5, a6, a7, a8, a9, a10, a11, a12, a13, a14, a15, a16, a17, a18, a19), h => exact ⟨a1, a2, a3, a4, a5, a6, a7, a8, a9, a10, a11, a12, a13, a14, a15, a16, a17, a18, a19, rfl, h⟩
theorem kb_m20 : (Int8.ofInt (-20)).toInt32 = (-20) := by decide
theorem kb_m8 : (Int8.ofInt (-8)).toInt32 = (-8) := by decide
theorem kb_m7 : (Int8.ofInt (-7)).toInt32 = (-7) := by decide
theorem kb_m6 : (Int8.ofInt (-6)).toInt32 = (-6) := by decide
theorem kb_m4 : (Int8.ofInt (-4)).toInt32 = (-4) := by decide
theorem kb_m3 : (Int8.ofInt (-3)).toInt32 = (-3) := by decide
theorem kb_m2 : (Int8.ofInt (-2)).toInt32 = (-2) := by decide
theorem kb_6 : (Int8.ofInt 6).toInt32 = 6 := by decide
theorem kb_7 : (Int8.ofInt 7).toInt32 = 7 := by decide
theorem kb_8 : (Int8.ofInt 8).toInt32 = 8 := by decide
theorem kb_9 : (Int8.ofInt 9).toInt32 = 9 := by decide
theorem kb_10 : (Int8.ofInt 10).toInt32 = 10 := by decide
theorem kb_12 : (Int8.ofInt 12).toInt32 = 12 := by decide
theorem kb_14 : (Int8.ofInt 14).toInt32 = 14 := by decide
theorem kb_15 : (Int8.ofInt 15).toInt32 = 15 := by decide
theorem kb_16 : (Int8.ofInt 16).toInt32 = 16 := by decide
theorem kb_17 : (Int8.ofInt 17).toInt32 = 17 := by decide
theorem kb_20 : (Int8.ofInt 20).toInt32 = 20 := by decide
theorem kb_24 : (Int8.ofInt 24).toInt32 = 24 := by decide
theorem kb_28 : (Int8.ofInt 28).toInt32 = 28 := by decide
theorem kb_32 : (Int8.ofInt 32).toInt32 = 32 := by decide
theorem kb_35 : (Int8.ofInt 35).toInt32 = 35 := by decide
theorem kb_36 : (Int8.ofInt 36).toInt32 = 36 := by decide
theorem kb_46 : (Int8.ofInt 46).toInt32 = 46 := by decide
theorem kb_47 : (Int8.ofInt 47).toInt32 = 47 := by decide
theorem kb_51 : (Int8.ofInt 51).toInt32 = 51 := by decide
theorem kb_52 : (Int8.ofInt 52).toInt32 = 52 := by decide
theorem kb_56 : (Int8.ofInt 56).toInt32 = 56 := by decide
theorem kb_60 : (Int8.ofInt 60).toInt32 = 60 := by decide
theorem kb_63 : (Int8.ofInt 63).toInt32 = 63 := by decide
theorem kb_64 : (Int8.ofInt 64).toInt32 = 64 := by decide
theorem kb_81 : (Int8.ofInt 81).toInt32 = 81 := by decide
theorem kb_100 : (Int8.ofInt 100).toInt32 = 100 := by decide
theorem kb_120 : (Int8.ofInt 120).toInt32 = 120 := by decide
theorem kb_127 : (Int8.ofInt 127).toInt32 = 127 := by decide
theorem ki_m1 : Int32.ofInt (-1) = (-1) := by decide
theorem ki_0 : Int32.ofInt 0 = 0 := by decide
theorem ki_1 : Int32.ofInt 1 = 1 := by decide
theorem ki_2 : Int32.ofInt 2 = 2 := by decide
theorem ki_3 : Int32.ofInt 3 = 3 := by decide
theorem ki_4 : Int32.ofInt 4 = 4 := by decide
theorem ki_5 : Int32.ofInt 5 = 5 := by decide
theorem kl_0 : Int64.ofNat ((0 : Fin 2) : Nat) = 0 := by decide
theorem kl_1 : Int64.ofNat ((1 : Fin 2) : Nat) = 1 := by decide
theorem ks_m5000 : (Int16.ofInt (-5000)).toInt32 = (-5000) := by decide
theorem ks_m4000 : (Int16.ofInt (-4000)).toInt32 = (-4000) := by decide
theorem ks_m3000 : (Int16.ofInt (-3000)).toInt32 = (-3000) := by decide
theorem ks_m2000 : (Int16.ofInt (-2000)).toInt32 = (-2000) := by decide
theorem ks_m1000 : (Int16.ofInt (-1000)).toInt32 = (-1000) := by decide
theorem ks_164 : (Int16.ofInt 164).toInt32 = 164 := by decide
theorem ks_255 : (Int16.ofInt 255).toInt32 = 255 := by decide
theorem ks_285 : (Int16.ofInt 285).toInt32 = 285 := by decide
theorem ks_575 : (Int16.ofInt 575).toInt32 = 575 := by decide
theorem ks_576 : (Int16.ofInt 576).toInt32 = 576 := by decide
theorem ks_1066 : (Int16.ofInt 1066).toInt32 = 1066 := by decide
theorem ks_1067 : (Int16.ofInt 1067).toInt32 = 1067 := by decide
theorem ks_10000 : (Int16.ofInt 10000).toInt32 = 10000 := by decide
theorem ks_13849 : (Int16.ofInt 13849).toInt32 = 13849 := by decide
theorem ks_20000 : (Int16.ofInt 20000).toInt32 = 20000 := by decide
theorem ks_25173 : (Int16.ofInt 25173).toInt32 = 25173 := by decide
theorem hd_X2_columns : yX2_columns.cls ≠ "java/lang/invoke/MethodHandle" ∧ yX2_columns.cls ≠ "java/lang/invoke/VarHandle" ∧ (parseMethodDescriptor yX2_columns.desc).map (fun d => d.parameters.length) = some 1 := by decide +kernel
theorem hd_J13_bitCount_95d88 : yJ13_bitCount_95d88.cls ≠ "java/lang/invoke/MethodHandle" ∧ yJ13_bitCount_95d88.cls ≠ "java/lang/invoke/VarHandle" ∧ (parseMethodDescriptor yJ13_bitCount_95d88.desc).map (fun d => d.parameters.length) = some 1 := by decide +kernel
theorem hd_X2_width : yX2_width.cls ≠ "java/lang/invoke/MethodHandle" ∧ yX2_width.cls ≠ "java/lang/invoke/VarHandle" ∧ (parseMethodDescriptor yX2_width.desc).map (fun d => d.parameters.length) = some 1 := by decide +kernel
theorem hd_X2_height : yX2_height.cls ≠ "java/lang/invoke/MethodHandle" ∧ yX2_height.cls ≠ "java/lang/invoke/VarHandle" ∧ (parseMethodDescriptor yX2_height.desc).map (fun d => d.parameters.length) = some 1 := by decide +kernel
theorem hd_X2_roomed : yX2_roomed.cls ≠ "java/lang/invoke/MethodHandle" ∧ yX2_roomed.cls ≠ "java/lang/invoke/VarHandle" ∧ (parseMethodDescriptor yX2_roomed.desc).map (fun d => d.parameters.length) = some 1 := by decide +kernel
theorem hd_X2_around : yX2_around.cls ≠ "java/lang/invoke/MethodHandle" ∧ yX2_around.cls ≠ "java/lang/invoke/VarHandle" ∧ (parseMethodDescriptor yX2_around.desc).map (fun d => d.parameters.length) = some 1 := by decide +kernel
theorem hd_X2_sites : yX2_sites.cls ≠ "java/lang/invoke/MethodHandle" ∧ yX2_sites.cls ≠ "java/lang/invoke/VarHandle" ∧ (parseMethodDescriptor yX2_sites.desc).map (fun d => d.parameters.length) = some 2 := by decide +kernel
theorem hd_X2_settled : yX2_settled.cls ≠ "java/lang/invoke/MethodHandle" ∧ yX2_settled.cls ≠ "java/lang/invoke/VarHandle" ∧ (parseMethodDescriptor yX2_settled.desc).map (fun d => d.parameters.length) = some 1 := by decide +kernel
theorem hd_X0_insert : yX0_insert.cls ≠ "java/lang/invoke/MethodHandle" ∧ yX0_insert.cls ≠ "java/lang/invoke/VarHandle" ∧ (parseMethodDescriptor yX0_insert.desc).map (fun d => d.parameters.length) = some 2 := by decide +kernel
theorem hd_X0_insertGrown : yX0_insertGrown.cls ≠ "java/lang/invoke/MethodHandle" ∧ yX0_insertGrown.cls ≠ "java/lang/invoke/VarHandle" ∧ (parseMethodDescriptor yX0_insertGrown.desc).map (fun d => d.parameters.length) = some 2 := by decide +kernel
theorem hd_X0_makeFixed : yX0_makeFixed.cls ≠ "java/lang/invoke/MethodHandle" ∧ yX0_makeFixed.cls ≠ "java/lang/invoke/VarHandle" ∧ (parseMethodDescriptor yX0_makeFixed.desc).map (fun d => d.parameters.length) = some 1 := by decide +kernel
theorem hd_X11_within : yX11_within.cls ≠ "java/lang/invoke/MethodHandle" ∧ yX11_within.cls ≠ "java/lang/invoke/VarHandle" ∧ (parseMethodDescriptor yX11_within.desc).map (fun d => d.parameters.length) = some 3 := by decide +kernel
theorem hd_X0_end : yX0_end.cls ≠ "java/lang/invoke/MethodHandle" ∧ yX0_end.cls ≠ "java/lang/invoke/VarHandle" ∧ (parseMethodDescriptor yX0_end.desc).map (fun d => d.parameters.length) = some 2 := by decide +kernel
theorem hd_X2_turnsOf : yX2_turnsOf.cls ≠ "java/lang/invoke/MethodHandle" ∧ yX2_turnsOf.cls ≠ "java/lang/invoke/VarHandle" ∧ (parseMethodDescriptor yX2_turnsOf.desc).map (fun d => d.parameters.length) = some 1 := by decide +kernel
theorem hd_X2_transposed : yX2_transposed.cls ≠ "java/lang/invoke/MethodHandle" ∧ yX2_transposed.cls ≠ "java/lang/invoke/VarHandle" ∧ (parseMethodDescriptor yX2_transposed.desc).map (fun d => d.parameters.length) = some 1 := by decide +kernel
theorem hd_X2_flipped : yX2_flipped.cls ≠ "java/lang/invoke/MethodHandle" ∧ yX2_flipped.cls ≠ "java/lang/invoke/VarHandle" ∧ (parseMethodDescriptor yX2_flipped.desc).map (fun d => d.parameters.length) = some 1 := by decide +kernel
theorem hd_X2_quarter : yX2_quarter.cls ≠ "java/lang/invoke/MethodHandle" ∧ yX2_quarter.cls ≠ "java/lang/invoke/VarHandle" ∧ (parseMethodDescriptor yX2_quarter.desc).map (fun d => d.parameters.length) = some 1 := by decide +kernel
theorem hd_X2_mirrored : yX2_mirrored.cls ≠ "java/lang/invoke/MethodHandle" ∧ yX2_mirrored.cls ≠ "java/lang/invoke/VarHandle" ∧ (parseMethodDescriptor yX2_mirrored.desc).map (fun d => d.parameters.length) = some 1 := by decide +kernel
theorem hd_X2_isLeast : yX2_isLeast.cls ≠ "java/lang/invoke/MethodHandle" ∧ yX2_isLeast.cls ≠ "java/lang/invoke/VarHandle" ∧ (parseMethodDescriptor yX2_isLeast.desc).map (fun d => d.parameters.length) = some 2 := by decide +kernel
theorem hd_X0_sortKinds : yX0_sortKinds.cls ≠ "java/lang/invoke/MethodHandle" ∧ yX0_sortKinds.cls ≠ "java/lang/invoke/VarHandle" ∧ (parseMethodDescriptor yX0_sortKinds.desc).map (fun d => d.parameters.length) = some 1 := by decide +kernel
theorem hd_X0_prepare : yX0_prepare.cls ≠ "java/lang/invoke/MethodHandle" ∧ yX0_prepare.cls ≠ "java/lang/invoke/VarHandle" ∧ (parseMethodDescriptor yX0_prepare.desc).map (fun d => d.parameters.length) = some 1 := by decide +kernel
theorem hd_X0_size : yX0_size.cls ≠ "java/lang/invoke/MethodHandle" ∧ yX0_size.cls ≠ "java/lang/invoke/VarHandle" ∧ (parseMethodDescriptor yX0_size.desc).map (fun d => d.parameters.length) = some 2 := by decide +kernel
theorem hd_X0_member : yX0_member.cls ≠ "java/lang/invoke/MethodHandle" ∧ yX0_member.cls ≠ "java/lang/invoke/VarHandle" ∧ (parseMethodDescriptor yX0_member.desc).map (fun d => d.parameters.length) = some 2 := by decide +kernel
theorem hd_X0_numberOf : yX0_numberOf.cls ≠ "java/lang/invoke/MethodHandle" ∧ yX0_numberOf.cls ≠ "java/lang/invoke/VarHandle" ∧ (parseMethodDescriptor yX0_numberOf.desc).map (fun d => d.parameters.length) = some 1 := by decide +kernel
theorem hd_X0_at : yX0_at.cls ≠ "java/lang/invoke/MethodHandle" ∧ yX0_at.cls ≠ "java/lang/invoke/VarHandle" ∧ (parseMethodDescriptor yX0_at.desc).map (fun d => d.parameters.length) = some 3 := by decide +kernel
theorem hd_X0_indexOf : yX0_indexOf.cls ≠ "java/lang/invoke/MethodHandle" ∧ yX0_indexOf.cls ≠ "java/lang/invoke/VarHandle" ∧ (parseMethodDescriptor yX0_indexOf.desc).map (fun d => d.parameters.length) = some 3 := by decide +kernel
theorem hd_X9_twos : yX9_twos.cls ≠ "java/lang/invoke/MethodHandle" ∧ yX9_twos.cls ≠ "java/lang/invoke/VarHandle" ∧ (parseMethodDescriptor yX9_twos.desc).map (fun d => d.parameters.length) = some 1 := by decide +kernel
theorem hd_X9_same : yX9_same.cls ≠ "java/lang/invoke/MethodHandle" ∧ yX9_same.cls ≠ "java/lang/invoke/VarHandle" ∧ (parseMethodDescriptor yX9_same.desc).map (fun d => d.parameters.length) = some 1 := by decide +kernel
theorem hd_X9_isColumnWhole : yX9_isColumnWhole.cls ≠ "java/lang/invoke/MethodHandle" ∧ yX9_isColumnWhole.cls ≠ "java/lang/invoke/VarHandle" ∧ (parseMethodDescriptor yX9_isColumnWhole.desc).map (fun d => d.parameters.length) = some 1 := by decide +kernel
theorem hd_X9_isRowWhole : yX9_isRowWhole.cls ≠ "java/lang/invoke/MethodHandle" ∧ yX9_isRowWhole.cls ≠ "java/lang/invoke/VarHandle" ∧ (parseMethodDescriptor yX9_isRowWhole.desc).map (fun d => d.parameters.length) = some 1 := by decide +kernel
theorem hd_X9_squares : yX9_squares.cls ≠ "java/lang/invoke/MethodHandle" ∧ yX9_squares.cls ≠ "java/lang/invoke/VarHandle" ∧ (parseMethodDescriptor yX9_squares.desc).map (fun d => d.parameters.length) = some 1 := by decide +kernel
theorem hd_X9_threes : yX9_threes.cls ≠ "java/lang/invoke/MethodHandle" ∧ yX9_threes.cls ≠ "java/lang/invoke/VarHandle" ∧ (parseMethodDescriptor yX9_threes.desc).map (fun d => d.parameters.length) = some 1 := by decide +kernel
theorem hd_X9_aslant : yX9_aslant.cls ≠ "java/lang/invoke/MethodHandle" ∧ yX9_aslant.cls ≠ "java/lang/invoke/VarHandle" ∧ (parseMethodDescriptor yX9_aslant.desc).map (fun d => d.parameters.length) = some 1 := by decide +kernel
theorem hd_X9_outer : yX9_outer.cls ≠ "java/lang/invoke/MethodHandle" ∧ yX9_outer.cls ≠ "java/lang/invoke/VarHandle" ∧ (parseMethodDescriptor yX9_outer.desc).map (fun d => d.parameters.length) = some 1 := by decide +kernel
theorem hd_X9_beside : yX9_beside.cls ≠ "java/lang/invoke/MethodHandle" ∧ yX9_beside.cls ≠ "java/lang/invoke/VarHandle" ∧ (parseMethodDescriptor yX9_beside.desc).map (fun d => d.parameters.length) = some 1 := by decide +kernel
theorem hd_X2_reach : yX2_reach.cls ≠ "java/lang/invoke/MethodHandle" ∧ yX2_reach.cls ≠ "java/lang/invoke/VarHandle" ∧ (parseMethodDescriptor yX2_reach.desc).map (fun d => d.parameters.length) = some 2 := by decide +kernel
theorem hd_X2_hangs : yX2_hangs.cls ≠ "java/lang/invoke/MethodHandle" ∧ yX2_hangs.cls ≠ "java/lang/invoke/VarHandle" ∧ (parseMethodDescriptor yX2_hangs.desc).map (fun d => d.parameters.length) = some 1 := by decide +kernel
theorem hd_X9_cutCells : yX9_cutCells.cls ≠ "java/lang/invoke/MethodHandle" ∧ yX9_cutCells.cls ≠ "java/lang/invoke/VarHandle" ∧ (parseMethodDescriptor yX9_cutCells.desc).map (fun d => d.parameters.length) = some 1 := by decide +kernel
theorem hd_X9_hollow : yX9_hollow.cls ≠ "java/lang/invoke/MethodHandle" ∧ yX9_hollow.cls ≠ "java/lang/invoke/VarHandle" ∧ (parseMethodDescriptor yX9_hollow.desc).map (fun d => d.parameters.length) = some 1 := by decide +kernel
theorem hd_X9_holes : yX9_holes.cls ≠ "java/lang/invoke/MethodHandle" ∧ yX9_holes.cls ≠ "java/lang/invoke/VarHandle" ∧ (parseMethodDescriptor yX9_holes.desc).map (fun d => d.parameters.length) = some 1 := by decide +kernel
theorem hd_X9_sides : yX9_sides.cls ≠ "java/lang/invoke/MethodHandle" ∧ yX9_sides.cls ≠ "java/lang/invoke/VarHandle" ∧ (parseMethodDescriptor yX9_sides.desc).map (fun d => d.parameters.length) = some 1 := by decide +kernel
theorem hd_X9_of : yX9_of.cls ≠ "java/lang/invoke/MethodHandle" ∧ yX9_of.cls ≠ "java/lang/invoke/VarHandle" ∧ (parseMethodDescriptor yX9_of.desc).map (fun d => d.parameters.length) = some 2 := by decide +kernel
theorem hd_X2_lowest : yX2_lowest.cls ≠ "java/lang/invoke/MethodHandle" ∧ yX2_lowest.cls ≠ "java/lang/invoke/VarHandle" ∧ (parseMethodDescriptor yX2_lowest.desc).map (fun d => d.parameters.length) = some 1 := by decide +kernel
theorem hd_X5_stepX : yX5_stepX.cls ≠ "java/lang/invoke/MethodHandle" ∧ yX5_stepX.cls ≠ "java/lang/invoke/VarHandle" ∧ (parseMethodDescriptor yX5_stepX.desc).map (fun d => d.parameters.length) = some 1 := by decide +kernel
theorem hd_X5_stepY : yX5_stepY.cls ≠ "java/lang/invoke/MethodHandle" ∧ yX5_stepY.cls ≠ "java/lang/invoke/VarHandle" ∧ (parseMethodDescriptor yX5_stepY.desc).map (fun d => d.parameters.length) = some 1 := by decide +kernel
theorem hd_X2_has : yX2_has.cls ≠ "java/lang/invoke/MethodHandle" ∧ yX2_has.cls ≠ "java/lang/invoke/VarHandle" ∧ (parseMethodDescriptor yX2_has.desc).map (fun d => d.parameters.length) = some 3 := by decide +kernel
theorem hd_X5_nextLetter : yX5_nextLetter.cls ≠ "java/lang/invoke/MethodHandle" ∧ yX5_nextLetter.cls ≠ "java/lang/invoke/VarHandle" ∧ (parseMethodDescriptor yX5_nextLetter.desc).map (fun d => d.parameters.length) = some 4 := by decide +kernel
theorem hd_X5_trace : yX5_trace.cls ≠ "java/lang/invoke/MethodHandle" ∧ yX5_trace.cls ≠ "java/lang/invoke/VarHandle" ∧ (parseMethodDescriptor yX5_trace.desc).map (fun d => d.parameters.length) = some 1 := by decide +kernel
theorem hd_X5_isOpposed : yX5_isOpposed.cls ≠ "java/lang/invoke/MethodHandle" ∧ yX5_isOpposed.cls ≠ "java/lang/invoke/VarHandle" ∧ (parseMethodDescriptor yX5_isOpposed.desc).map (fun d => d.parameters.length) = some 2 := by decide +kernel
theorem hd_X5_note : yX5_note.cls ≠ "java/lang/invoke/MethodHandle" ∧ yX5_note.cls ≠ "java/lang/invoke/VarHandle" ∧ (parseMethodDescriptor yX5_note.desc).map (fun d => d.parameters.length) = some 4 := by decide +kernel
theorem hd_X5_cutFrom : yX5_cutFrom.cls ≠ "java/lang/invoke/MethodHandle" ∧ yX5_cutFrom.cls ≠ "java/lang/invoke/VarHandle" ∧ (parseMethodDescriptor yX5_cutFrom.desc).map (fun d => d.parameters.length) = some 2 := by decide +kernel
theorem hd_X5_cut : yX5_cut.cls ≠ "java/lang/invoke/MethodHandle" ∧ yX5_cut.cls ≠ "java/lang/invoke/VarHandle" ∧ (parseMethodDescriptor yX5_cut.desc).map (fun d => d.parameters.length) = some 0 := by decide +kernel
theorem hd_X5_tilesBy : yX5_tilesBy.cls ≠ "java/lang/invoke/MethodHandle" ∧ yX5_tilesBy.cls ≠ "java/lang/invoke/VarHandle" ∧ (parseMethodDescriptor yX5_tilesBy.desc).map (fun d => d.parameters.length) = some 1 := by decide +kernel
theorem hd_X0_trait : yX0_trait.cls ≠ "java/lang/invoke/MethodHandle" ∧ yX0_trait.cls ≠ "java/lang/invoke/VarHandle" ∧ (parseMethodDescriptor yX0_trait.desc).map (fun d => d.parameters.length) = some 4 := by decide +kernel
theorem hd_X0_crowds : yX0_crowds.cls ≠ "java/lang/invoke/MethodHandle" ∧ yX0_crowds.cls ≠ "java/lang/invoke/VarHandle" ∧ (parseMethodDescriptor yX0_crowds.desc).map (fun d => d.parameters.length) = some 4 := by decide +kernel
theorem hd_X8_size : yX8_size.cls ≠ "java/lang/invoke/MethodHandle" ∧ yX8_size.cls ≠ "java/lang/invoke/VarHandle" ∧ (parseMethodDescriptor yX8_size.desc).map (fun d => d.parameters.length) = some 0 := by decide +kernel
theorem hd_X8_at : yX8_at.cls ≠ "java/lang/invoke/MethodHandle" ∧ yX8_at.cls ≠ "java/lang/invoke/VarHandle" ∧ (parseMethodDescriptor yX8_at.desc).map (fun d => d.parameters.length) = some 1 := by decide +kernel
theorem hd_X1_measure : yX1_measure.cls ≠ "java/lang/invoke/MethodHandle" ∧ yX1_measure.cls ≠ "java/lang/invoke/VarHandle" ∧ (parseMethodDescriptor yX1_measure.desc).map (fun d => d.parameters.length) = some 1 := by decide +kernel
theorem hd_X1_open : yX1_open.cls ≠ "java/lang/invoke/MethodHandle" ∧ yX1_open.cls ≠ "java/lang/invoke/VarHandle" ∧ (parseMethodDescriptor yX1_open.desc).map (fun d => d.parameters.length) = some 2 := by decide +kernel
theorem hd_X1_laid : yX1_laid.cls ≠ "java/lang/invoke/MethodHandle" ∧ yX1_laid.cls ≠ "java/lang/invoke/VarHandle" ∧ (parseMethodDescriptor yX1_laid.desc).map (fun d => d.parameters.length) = some 4 := by decide +kernel
theorem hd_X1_search : yX1_search.cls ≠ "java/lang/invoke/MethodHandle" ∧ yX1_search.cls ≠ "java/lang/invoke/VarHandle" ∧ (parseMethodDescriptor yX1_search.desc).map (fun d => d.parameters.length) = some 3 := by decide +kernel
theorem hd_X2_moved : yX2_moved.cls ≠ "java/lang/invoke/MethodHandle" ∧ yX2_moved.cls ≠ "java/lang/invoke/VarHandle" ∧ (parseMethodDescriptor yX2_moved.desc).map (fun d => d.parameters.length) = some 3 := by decide +kernel
theorem hd_X2_united : yX2_united.cls ≠ "java/lang/invoke/MethodHandle" ∧ yX2_united.cls ≠ "java/lang/invoke/VarHandle" ∧ (parseMethodDescriptor yX2_united.desc).map (fun d => d.parameters.length) = some 4 := by decide +kernel
theorem hd_X2_isFigure : yX2_isFigure.cls ≠ "java/lang/invoke/MethodHandle" ∧ yX2_isFigure.cls ≠ "java/lang/invoke/VarHandle" ∧ (parseMethodDescriptor yX2_isFigure.desc).map (fun d => d.parameters.length) = some 1 := by decide +kernel
theorem hd_X2_turned : yX2_turned.cls ≠ "java/lang/invoke/MethodHandle" ∧ yX2_turned.cls ≠ "java/lang/invoke/VarHandle" ∧ (parseMethodDescriptor yX2_turned.desc).map (fun d => d.parameters.length) = some 2 := by decide +kernel
theorem hd_X2_least : yX2_least.cls ≠ "java/lang/invoke/MethodHandle" ∧ yX2_least.cls ≠ "java/lang/invoke/VarHandle" ∧ (parseMethodDescriptor yX2_least.desc).map (fun d => d.parameters.length) = some 2 := by decide +kernel
theorem hd_X8_add : yX8_add.cls ≠ "java/lang/invoke/MethodHandle" ∧ yX8_add.cls ≠ "java/lang/invoke/VarHandle" ∧ (parseMethodDescriptor yX8_add.desc).map (fun d => d.parameters.length) = some 1 := by decide +kernel
theorem hd_X3_addForms : yX3_addForms.cls ≠ "java/lang/invoke/MethodHandle" ∧ yX3_addForms.cls ≠ "java/lang/invoke/VarHandle" ∧ (parseMethodDescriptor yX3_addForms.desc).map (fun d => d.parameters.length) = some 3 := by decide +kernel
theorem hd_X8_clear : yX8_clear.cls ≠ "java/lang/invoke/MethodHandle" ∧ yX8_clear.cls ≠ "java/lang/invoke/VarHandle" ∧ (parseMethodDescriptor yX8_clear.desc).map (fun d => d.parameters.length) = some 0 := by decide +kernel
theorem hd_X3_gatherShrunk : yX3_gatherShrunk.cls ≠ "java/lang/invoke/MethodHandle" ∧ yX3_gatherShrunk.cls ≠ "java/lang/invoke/VarHandle" ∧ (parseMethodDescriptor yX3_gatherShrunk.desc).map (fun d => d.parameters.length) = some 3 := by decide +kernel
theorem hd_X3_gatherGrown : yX3_gatherGrown.cls ≠ "java/lang/invoke/MethodHandle" ∧ yX3_gatherGrown.cls ≠ "java/lang/invoke/VarHandle" ∧ (parseMethodDescriptor yX3_gatherGrown.desc).map (fun d => d.parameters.length) = some 3 := by decide +kernel
theorem hd_X3_gather : yX3_gather.cls ≠ "java/lang/invoke/MethodHandle" ∧ yX3_gather.cls ≠ "java/lang/invoke/VarHandle" ∧ (parseMethodDescriptor yX3_gather.desc).map (fun d => d.parameters.length) = some 4 := by decide +kernel
theorem hd_X3_bitOf : yX3_bitOf.cls ≠ "java/lang/invoke/MethodHandle" ∧ yX3_bitOf.cls ≠ "java/lang/invoke/VarHandle" ∧ (parseMethodDescriptor yX3_bitOf.desc).map (fun d => d.parameters.length) = some 2 := by decide +kernel
theorem hd_X3_byLots : yX3_byLots.cls ≠ "java/lang/invoke/MethodHandle" ∧ yX3_byLots.cls ≠ "java/lang/invoke/VarHandle" ∧ (parseMethodDescriptor yX3_byLots.desc).map (fun d => d.parameters.length) = some 2 := by decide +kernel
theorem hd_X4_overlap : yX4_overlap.cls ≠ "java/lang/invoke/MethodHandle" ∧ yX4_overlap.cls ≠ "java/lang/invoke/VarHandle" ∧ (parseMethodDescriptor yX4_overlap.desc).map (fun d => d.parameters.length) = some 4 := by decide +kernel
theorem hd_X4_sharedSides : yX4_sharedSides.cls ≠ "java/lang/invoke/MethodHandle" ∧ yX4_sharedSides.cls ≠ "java/lang/invoke/VarHandle" ∧ (parseMethodDescriptor yX4_sharedSides.desc).map (fun d => d.parameters.length) = some 4 := by decide +kernel
theorem hd_X4_placings : yX4_placings.cls ≠ "java/lang/invoke/MethodHandle" ∧ yX4_placings.cls ≠ "java/lang/invoke/VarHandle" ∧ (parseMethodDescriptor yX4_placings.desc).map (fun d => d.parameters.length) = some 2 := by decide +kernel
theorem hd_X4_largestPart : yX4_largestPart.cls ≠ "java/lang/invoke/MethodHandle" ∧ yX4_largestPart.cls ≠ "java/lang/invoke/VarHandle" ∧ (parseMethodDescriptor yX4_largestPart.desc).map (fun d => d.parameters.length) = some 2 := by decide +kernel
theorem hd_X4_largestCommon : yX4_largestCommon.cls ≠ "java/lang/invoke/MethodHandle" ∧ yX4_largestCommon.cls ≠ "java/lang/invoke/VarHandle" ∧ (parseMethodDescriptor yX4_largestCommon.desc).map (fun d => d.parameters.length) = some 2 := by decide +kernel
theorem hd_X4_overlapAt : yX4_overlapAt.cls ≠ "java/lang/invoke/MethodHandle" ∧ yX4_overlapAt.cls ≠ "java/lang/invoke/VarHandle" ∧ (parseMethodDescriptor yX4_overlapAt.desc).map (fun d => d.parameters.length) = some 2 := by decide +kernel
theorem hd_X4_noteShared : yX4_noteShared.cls ≠ "java/lang/invoke/MethodHandle" ∧ yX4_noteShared.cls ≠ "java/lang/invoke/VarHandle" ∧ (parseMethodDescriptor yX4_noteShared.desc).map (fun d => d.parameters.length) = some 2 := by decide +kernel
theorem hd_X4_around : yX4_around.cls ≠ "java/lang/invoke/MethodHandle" ∧ yX4_around.cls ≠ "java/lang/invoke/VarHandle" ∧ (parseMethodDescriptor yX4_around.desc).map (fun d => d.parameters.length) = some 3 := by decide +kernel
theorem hd_X4_noteBox : yX4_noteBox.cls ≠ "java/lang/invoke/MethodHandle" ∧ yX4_noteBox.cls ≠ "java/lang/invoke/VarHandle" ∧ (parseMethodDescriptor yX4_noteBox.desc).map (fun d => d.parameters.length) = some 1 := by decide +kernel
theorem hd_X4_measure : yX4_measure.cls ≠ "java/lang/invoke/MethodHandle" ∧ yX4_measure.cls ≠ "java/lang/invoke/VarHandle" ∧ (parseMethodDescriptor yX4_measure.desc).map (fun d => d.parameters.length) = some 2 := by decide +kernel
theorem hd_X4_measured : yX4_measured.cls ≠ "java/lang/invoke/MethodHandle" ∧ yX4_measured.cls ≠ "java/lang/invoke/VarHandle" ∧ (parseMethodDescriptor yX4_measured.desc).map (fun d => d.parameters.length) = some 1 := by decide +kernel
theorem hd_X5_length : yX5_length.cls ≠ "java/lang/invoke/MethodHandle" ∧ yX5_length.cls ≠ "java/lang/invoke/VarHandle" ∧ (parseMethodDescriptor yX5_length.desc).map (fun d => d.parameters.length) = some 0 := by decide +kernel
theorem hd_X5_letter : yX5_letter.cls ≠ "java/lang/invoke/MethodHandle" ∧ yX5_letter.cls ≠ "java/lang/invoke/VarHandle" ∧ (parseMethodDescriptor yX5_letter.desc).map (fun d => d.parameters.length) = some 1 := by decide +kernel
theorem hd_X5_cuttings : yX5_cuttings.cls ≠ "java/lang/invoke/MethodHandle" ∧ yX5_cuttings.cls ≠ "java/lang/invoke/VarHandle" ∧ (parseMethodDescriptor yX5_cuttings.desc).map (fun d => d.parameters.length) = some 0 := by decide +kernel
theorem hd_X5_cutting : yX5_cutting.cls ≠ "java/lang/invoke/MethodHandle" ∧ yX5_cutting.cls ≠ "java/lang/invoke/VarHandle" ∧ (parseMethodDescriptor yX5_cutting.desc).map (fun d => d.parameters.length) = some 1 := by decide +kernel
theorem hd_X5_findMoves : yX5_findMoves.cls ≠ "java/lang/invoke/MethodHandle" ∧ yX5_findMoves.cls ≠ "java/lang/invoke/VarHandle" ∧ (parseMethodDescriptor yX5_findMoves.desc).map (fun d => d.parameters.length) = some 0 := by decide +kernel
theorem hd_X5_crossed : yX5_crossed.cls ≠ "java/lang/invoke/MethodHandle" ∧ yX5_crossed.cls ≠ "java/lang/invoke/VarHandle" ∧ (parseMethodDescriptor yX5_crossed.desc).map (fun d => d.parameters.length) = some 4 := by decide +kernel
theorem hd_X5_move : yX5_move.cls ≠ "java/lang/invoke/MethodHandle" ∧ yX5_move.cls ≠ "java/lang/invoke/VarHandle" ∧ (parseMethodDescriptor yX5_move.desc).map (fun d => d.parameters.length) = some 1 := by decide +kernel
theorem hd_X5_copyAt : yX5_copyAt.cls ≠ "java/lang/invoke/MethodHandle" ∧ yX5_copyAt.cls ≠ "java/lang/invoke/VarHandle" ∧ (parseMethodDescriptor yX5_copyAt.desc).map (fun d => d.parameters.length) = some 4 := by decide +kernel
theorem hd_X6_index : yX6_index.cls ≠ "java/lang/invoke/MethodHandle" ∧ yX6_index.cls ≠ "java/lang/invoke/VarHandle" ∧ (parseMethodDescriptor yX6_index.desc).map (fun d => d.parameters.length) = some 1 := by decide +kernel
theorem hd_J6_bitCount_0f7a4 : yJ6_bitCount_0f7a4.cls ≠ "java/lang/invoke/MethodHandle" ∧ yJ6_bitCount_0f7a4.cls ≠ "java/lang/invoke/VarHandle" ∧ (parseMethodDescriptor yJ6_bitCount_0f7a4.desc).map (fun d => d.parameters.length) = some 1 := by decide +kernel
theorem hd_X6_fillMatrix : yX6_fillMatrix.cls ≠ "java/lang/invoke/MethodHandle" ∧ yX6_fillMatrix.cls ≠ "java/lang/invoke/VarHandle" ∧ (parseMethodDescriptor yX6_fillMatrix.desc).map (fun d => d.parameters.length) = some 1 := by decide +kernel
theorem hd_X6_eliminate : yX6_eliminate.cls ≠ "java/lang/invoke/MethodHandle" ∧ yX6_eliminate.cls ≠ "java/lang/invoke/VarHandle" ∧ (parseMethodDescriptor yX6_eliminate.desc).map (fun d => d.parameters.length) = some 3 := by decide +kernel
theorem hd_X6_trees : yX6_trees.cls ≠ "java/lang/invoke/MethodHandle" ∧ yX6_trees.cls ≠ "java/lang/invoke/VarHandle" ∧ (parseMethodDescriptor yX6_trees.desc).map (fun d => d.parameters.length) = some 0 := by decide +kernel
theorem hd_X6_longestWay : yX6_longestWay.cls ≠ "java/lang/invoke/MethodHandle" ∧ yX6_longestWay.cls ≠ "java/lang/invoke/VarHandle" ∧ (parseMethodDescriptor yX6_longestWay.desc).map (fun d => d.parameters.length) = some 1 := by decide +kernel
theorem hd_X6_boardOf : yX6_boardOf.cls ≠ "java/lang/invoke/MethodHandle" ∧ yX6_boardOf.cls ≠ "java/lang/invoke/VarHandle" ∧ (parseMethodDescriptor yX6_boardOf.desc).map (fun d => d.parameters.length) = some 1 := by decide +kernel
theorem hd_X6_areAlike : yX6_areAlike.cls ≠ "java/lang/invoke/MethodHandle" ∧ yX6_areAlike.cls ≠ "java/lang/invoke/VarHandle" ∧ (parseMethodDescriptor yX6_areAlike.desc).map (fun d => d.parameters.length) = some 3 := by decide +kernel
theorem hd_X6_halvings : yX6_halvings.cls ≠ "java/lang/invoke/MethodHandle" ∧ yX6_halvings.cls ≠ "java/lang/invoke/VarHandle" ∧ (parseMethodDescriptor yX6_halvings.desc).map (fun d => d.parameters.length) = some 2 := by decide +kernel
theorem hd_X6_pairings : yX6_pairings.cls ≠ "java/lang/invoke/MethodHandle" ∧ yX6_pairings.cls ≠ "java/lang/invoke/VarHandle" ∧ (parseMethodDescriptor yX6_pairings.desc).map (fun d => d.parameters.length) = some 0 := by decide +kernel
theorem hd_X6_orders : yX6_orders.cls ≠ "java/lang/invoke/MethodHandle" ∧ yX6_orders.cls ≠ "java/lang/invoke/VarHandle" ∧ (parseMethodDescriptor yX6_orders.desc).map (fun d => d.parameters.length) = some 0 := by decide +kernel
theorem hd_X6_of : yX6_of.cls ≠ "java/lang/invoke/MethodHandle" ∧ yX6_of.cls ≠ "java/lang/invoke/VarHandle" ∧ (parseMethodDescriptor yX6_of.desc).map (fun d => d.parameters.length) = some 2 := by decide +kernel
theorem hd_X7_endRow : yX7_endRow.cls ≠ "java/lang/invoke/MethodHandle" ∧ yX7_endRow.cls ≠ "java/lang/invoke/VarHandle" ∧ (parseMethodDescriptor yX7_endRow.desc).map (fun d => d.parameters.length) = some 0 := by decide +kernel
theorem hd_X7_accept : yX7_accept.cls ≠ "java/lang/invoke/MethodHandle" ∧ yX7_accept.cls ≠ "java/lang/invoke/VarHandle" ∧ (parseMethodDescriptor yX7_accept.desc).map (fun d => d.parameters.length) = some 1 := by decide +kernel
theorem hd_X7_read : yX7_read.cls ≠ "java/lang/invoke/MethodHandle" ∧ yX7_read.cls ≠ "java/lang/invoke/VarHandle" ∧ (parseMethodDescriptor yX7_read.desc).map (fun d => d.parameters.length) = some 2 := by decide +kernel
theorem hd_X7_board : yX7_board.cls ≠ "java/lang/invoke/MethodHandle" ∧ yX7_board.cls ≠ "java/lang/invoke/VarHandle" ∧ (parseMethodDescriptor yX7_board.desc).map (fun d => d.parameters.length) = some 0 := by decide +kernel
theorem hd_X10_setOf : yX10_setOf.cls ≠ "java/lang/invoke/MethodHandle" ∧ yX10_setOf.cls ≠ "java/lang/invoke/VarHandle" ∧ (parseMethodDescriptor yX10_setOf.desc).map (fun d => d.parameters.length) = some 2 := by decide +kernel
theorem hd_X10_beyond : yX10_beyond.cls ≠ "java/lang/invoke/MethodHandle" ∧ yX10_beyond.cls ≠ "java/lang/invoke/VarHandle" ∧ (parseMethodDescriptor yX10_beyond.desc).map (fun d => d.parameters.length) = some 2 := by decide +kernel
theorem hd_X10_steps : yX10_steps.cls ≠ "java/lang/invoke/MethodHandle" ∧ yX10_steps.cls ≠ "java/lang/invoke/VarHandle" ∧ (parseMethodDescriptor yX10_steps.desc).map (fun d => d.parameters.length) = some 3 := by decide +kernel
theorem hd_X10_edge : yX10_edge.cls ≠ "java/lang/invoke/MethodHandle" ∧ yX10_edge.cls ≠ "java/lang/invoke/VarHandle" ∧ (parseMethodDescriptor yX10_edge.desc).map (fun d => d.parameters.length) = some 3 := by decide +kernel
theorem hd_X10_regrown : yX10_regrown.cls ≠ "java/lang/invoke/MethodHandle" ∧ yX10_regrown.cls ≠ "java/lang/invoke/VarHandle" ∧ (parseMethodDescriptor yX10_regrown.desc).map (fun d => d.parameters.length) = some 2 := by decide +kernel
theorem hd_X10_prepare : yX10_prepare.cls ≠ "java/lang/invoke/MethodHandle" ∧ yX10_prepare.cls ≠ "java/lang/invoke/VarHandle" ∧ (parseMethodDescriptor yX10_prepare.desc).map (fun d => d.parameters.length) = some 1 := by decide +kernel
theorem hd_X11_append : yX11_append.cls ≠ "java/lang/invoke/MethodHandle" ∧ yX11_append.cls ≠ "java/lang/invoke/VarHandle" ∧ (parseMethodDescriptor yX11_append.desc).map (fun d => d.parameters.length) = some 1 := by decide +kernel
theorem hd_X11_feed : yX11_feed.cls ≠ "java/lang/invoke/MethodHandle" ∧ yX11_feed.cls ≠ "java/lang/invoke/VarHandle" ∧ (parseMethodDescriptor yX11_feed.desc).map (fun d => d.parameters.length) = some 5 := by decide +kernel
theorem hd_X11_isDrawer : yX11_isDrawer.cls ≠ "java/lang/invoke/MethodHandle" ∧ yX11_isDrawer.cls ≠ "java/lang/invoke/VarHandle" ∧ (parseMethodDescriptor yX11_isDrawer.desc).map (fun d => d.parameters.length) = some 1 := by decide +kernel
theorem hd_X11_store : yX11_store.cls ≠ "java/lang/invoke/MethodHandle" ∧ yX11_store.cls ≠ "java/lang/invoke/VarHandle" ∧ (parseMethodDescriptor yX11_store.desc).map (fun d => d.parameters.length) = some 2 := by decide +kernel
theorem hd_X11_figure : yX11_figure.cls ≠ "java/lang/invoke/MethodHandle" ∧ yX11_figure.cls ≠ "java/lang/invoke/VarHandle" ∧ (parseMethodDescriptor yX11_figure.desc).map (fun d => d.parameters.length) = some 2 := by decide +kernel
theorem hd_X11_put : yX11_put.cls ≠ "java/lang/invoke/MethodHandle" ∧ yX11_put.cls ≠ "java/lang/invoke/VarHandle" ∧ (parseMethodDescriptor yX11_put.desc).map (fun d => d.parameters.length) = some 2 := by decide +kernel
theorem hd_X11_take : yX11_take.cls ≠ "java/lang/invoke/MethodHandle" ∧ yX11_take.cls ≠ "java/lang/invoke/VarHandle" ∧ (parseMethodDescriptor yX11_take.desc).map (fun d => d.parameters.length) = some 1 := by decide +kernel
theorem hd_X11_told : yX11_told.cls ≠ "java/lang/invoke/MethodHandle" ∧ yX11_told.cls ≠ "java/lang/invoke/VarHandle" ∧ (parseMethodDescriptor yX11_told.desc).map (fun d => d.parameters.length) = some 2 := by decide +kernel
theorem hd_X11_cell : yX11_cell.cls ≠ "java/lang/invoke/MethodHandle" ∧ yX11_cell.cls ≠ "java/lang/invoke/VarHandle" ∧ (parseMethodDescriptor yX11_cell.desc).map (fun d => d.parameters.length) = some 3 := by decide +kernel
theorem hd_X11_isKind : yX11_isKind.cls ≠ "java/lang/invoke/MethodHandle" ∧ yX11_isKind.cls ≠ "java/lang/invoke/VarHandle" ∧ (parseMethodDescriptor yX11_isKind.desc).map (fun d => d.parameters.length) = some 1 := by decide +kernel
theorem hd_X11_number : yX11_number.cls ≠ "java/lang/invoke/MethodHandle" ∧ yX11_number.cls ≠ "java/lang/invoke/VarHandle" ∧ (parseMethodDescriptor yX11_number.desc).map (fun d => d.parameters.length) = some 2 := by decide +kernel
theorem hd_X11_turn : yX11_turn.cls ≠ "java/lang/invoke/MethodHandle" ∧ yX11_turn.cls ≠ "java/lang/invoke/VarHandle" ∧ (parseMethodDescriptor yX11_turn.desc).map (fun d => d.parameters.length) = some 2 := by decide +kernel
theorem hd_X11_alike : yX11_alike.cls ≠ "java/lang/invoke/MethodHandle" ∧ yX11_alike.cls ≠ "java/lang/invoke/VarHandle" ∧ (parseMethodDescriptor yX11_alike.desc).map (fun d => d.parameters.length) = some 3 := by decide +kernel
theorem hd_X11_change : yX11_change.cls ≠ "java/lang/invoke/MethodHandle" ∧ yX11_change.cls ≠ "java/lang/invoke/VarHandle" ∧ (parseMethodDescriptor yX11_change.desc).map (fun d => d.parameters.length) = some 4 := by decide +kernel
theorem hd_X11_isList : yX11_isList.cls ≠ "java/lang/invoke/MethodHandle" ∧ yX11_isList.cls ≠ "java/lang/invoke/VarHandle" ∧ (parseMethodDescriptor yX11_isList.desc).map (fun d => d.parameters.length) = some 2 := by decide +kernel
theorem hd_X11_list : yX11_list.cls ≠ "java/lang/invoke/MethodHandle" ∧ yX11_list.cls ≠ "java/lang/invoke/VarHandle" ∧ (parseMethodDescriptor yX11_list.desc).map (fun d => d.parameters.length) = some 2 := by decide +kernel
theorem hd_X11_listed : yX11_listed.cls ≠ "java/lang/invoke/MethodHandle" ∧ yX11_listed.cls ≠ "java/lang/invoke/VarHandle" ∧ (parseMethodDescriptor yX11_listed.desc).map (fun d => d.parameters.length) = some 3 := by decide +kernel
theorem hd_X11_place : yX11_place.cls ≠ "java/lang/invoke/MethodHandle" ∧ yX11_place.cls ≠ "java/lang/invoke/VarHandle" ∧ (parseMethodDescriptor yX11_place.desc).map (fun d => d.parameters.length) = some 2 := by decide +kernel
theorem hd_X11_many : yX11_many.cls ≠ "java/lang/invoke/MethodHandle" ∧ yX11_many.cls ≠ "java/lang/invoke/VarHandle" ∧ (parseMethodDescriptor yX11_many.desc).map (fun d => d.parameters.length) = some 5 := by decide +kernel
theorem hd_X11_found : yX11_found.cls ≠ "java/lang/invoke/MethodHandle" ∧ yX11_found.cls ≠ "java/lang/invoke/VarHandle" ∧ (parseMethodDescriptor yX11_found.desc).map (fun d => d.parameters.length) = some 6 := by decide +kernel
theorem hd_X11_crowd : yX11_crowd.cls ≠ "java/lang/invoke/MethodHandle" ∧ yX11_crowd.cls ≠ "java/lang/invoke/VarHandle" ∧ (parseMethodDescriptor yX11_crowd.desc).map (fun d => d.parameters.length) = some 4 := by decide +kernel
theorem hd_X11_kin : yX11_kin.cls ≠ "java/lang/invoke/MethodHandle" ∧ yX11_kin.cls ≠ "java/lang/invoke/VarHandle" ∧ (parseMethodDescriptor yX11_kin.desc).map (fun d => d.parameters.length) = some 3 := by decide +kernel
theorem hd_X11_kinAt : yX11_kinAt.cls ≠ "java/lang/invoke/MethodHandle" ∧ yX11_kinAt.cls ≠ "java/lang/invoke/VarHandle" ∧ (parseMethodDescriptor yX11_kinAt.desc).map (fun d => d.parameters.length) = some 4 := by decide +kernel
theorem hd_X11_way : yX11_way.cls ≠ "java/lang/invoke/MethodHandle" ∧ yX11_way.cls ≠ "java/lang/invoke/VarHandle" ∧ (parseMethodDescriptor yX11_way.desc).map (fun d => d.parameters.length) = some 2 := by decide +kernel
theorem hd_X11_farthest : yX11_farthest.cls ≠ "java/lang/invoke/MethodHandle" ∧ yX11_farthest.cls ≠ "java/lang/invoke/VarHandle" ∧ (parseMethodDescriptor yX11_farthest.desc).map (fun d => d.parameters.length) = some 2 := by decide +kernel
theorem hd_X11_drawn : yX11_drawn.cls ≠ "java/lang/invoke/MethodHandle" ∧ yX11_drawn.cls ≠ "java/lang/invoke/VarHandle" ∧ (parseMethodDescriptor yX11_drawn.desc).map (fun d => d.parameters.length) = some 3 := by decide +kernel
theorem hd_X11_line : yX11_line.cls ≠ "java/lang/invoke/MethodHandle" ∧ yX11_line.cls ≠ "java/lang/invoke/VarHandle" ∧ (parseMethodDescriptor yX11_line.desc).map (fun d => d.parameters.length) = some 2 := by decide +kernel
theorem hd_X11_tiles : yX11_tiles.cls ≠ "java/lang/invoke/MethodHandle" ∧ yX11_tiles.cls ≠ "java/lang/invoke/VarHandle" ∧ (parseMethodDescriptor yX11_tiles.desc).map (fun d => d.parameters.length) = some 2 := by decide +kernel
theorem hd_X11_tilers : yX11_tilers.cls ≠ "java/lang/invoke/MethodHandle" ∧ yX11_tilers.cls ≠ "java/lang/invoke/VarHandle" ∧ (parseMethodDescriptor yX11_tilers.desc).map (fun d => d.parameters.length) = some 2 := by decide +kernel
theorem hd_X11_fill : yX11_fill.cls ≠ "java/lang/invoke/MethodHandle" ∧ yX11_fill.cls ≠ "java/lang/invoke/VarHandle" ∧ (parseMethodDescriptor yX11_fill.desc).map (fun d => d.parameters.length) = some 4 := by decide +kernel
theorem hd_X11_prepareMoves : yX11_prepareMoves.cls ≠ "java/lang/invoke/MethodHandle" ∧ yX11_prepareMoves.cls ≠ "java/lang/invoke/VarHandle" ∧ (parseMethodDescriptor yX11_prepareMoves.desc).map (fun d => d.parameters.length) = some 1 := by decide +kernel
theorem hd_X11_vector : yX11_vector.cls ≠ "java/lang/invoke/MethodHandle" ∧ yX11_vector.cls ≠ "java/lang/invoke/VarHandle" ∧ (parseMethodDescriptor yX11_vector.desc).map (fun d => d.parameters.length) = some 2 := by decide +kernel
theorem hd_X11_owner : yX11_owner.cls ≠ "java/lang/invoke/MethodHandle" ∧ yX11_owner.cls ≠ "java/lang/invoke/VarHandle" ∧ (parseMethodDescriptor yX11_owner.desc).map (fun d => d.parameters.length) = some 4 := by decide +kernel
theorem hd_X11_part : yX11_part.cls ≠ "java/lang/invoke/MethodHandle" ∧ yX11_part.cls ≠ "java/lang/invoke/VarHandle" ∧ (parseMethodDescriptor yX11_part.desc).map (fun d => d.parameters.length) = some 2 := by decide +kernel
theorem hd_X11_inside : yX11_inside.cls ≠ "java/lang/invoke/MethodHandle" ∧ yX11_inside.cls ≠ "java/lang/invoke/VarHandle" ∧ (parseMethodDescriptor yX11_inside.desc).map (fun d => d.parameters.length) = some 3 := by decide +kernel
theorem hd_X11_common : yX11_common.cls ≠ "java/lang/invoke/MethodHandle" ∧ yX11_common.cls ≠ "java/lang/invoke/VarHandle" ∧ (parseMethodDescriptor yX11_common.desc).map (fun d => d.parameters.length) = some 2 := by decide +kernel
theorem hd_X11_keep : yX11_keep.cls ≠ "java/lang/invoke/MethodHandle" ∧ yX11_keep.cls ≠ "java/lang/invoke/VarHandle" ∧ (parseMethodDescriptor yX11_keep.desc).map (fun d => d.parameters.length) = some 0 := by decide +kernel
theorem hd_X11_back : yX11_back.cls ≠ "java/lang/invoke/MethodHandle" ∧ yX11_back.cls ≠ "java/lang/invoke/VarHandle" ∧ (parseMethodDescriptor yX11_back.desc).map (fun d => d.parameters.length) = some 0 := by decide +kernel
theorem hd_X11_isMove : yX11_isMove.cls ≠ "java/lang/invoke/MethodHandle" ∧ yX11_isMove.cls ≠ "java/lang/invoke/VarHandle" ∧ (parseMethodDescriptor yX11_isMove.desc).map (fun d => d.parameters.length) = some 2 := by decide +kernel
theorem hd_X11_join : yX11_join.cls ≠ "java/lang/invoke/MethodHandle" ∧ yX11_join.cls ≠ "java/lang/invoke/VarHandle" ∧ (parseMethodDescriptor yX11_join.desc).map (fun d => d.parameters.length) = some 5 := by decide +kernel
theorem hd_X11_swap : yX11_swap.cls ≠ "java/lang/invoke/MethodHandle" ∧ yX11_swap.cls ≠ "java/lang/invoke/VarHandle" ∧ (parseMethodDescriptor yX11_swap.desc).map (fun d => d.parameters.length) = some 2 := by decide +kernel
theorem hd_X11_share : yX11_share.cls ≠ "java/lang/invoke/MethodHandle" ∧ yX11_share.cls ≠ "java/lang/invoke/VarHandle" ∧ (parseMethodDescriptor yX11_share.desc).map (fun d => d.parameters.length) = some 4 := by decide +kernel
theorem hd_X11_touch : yX11_touch.cls ≠ "java/lang/invoke/MethodHandle" ∧ yX11_touch.cls ≠ "java/lang/invoke/VarHandle" ∧ (parseMethodDescriptor yX11_touch.desc).map (fun d => d.parameters.length) = some 3 := by decide +kernel
theorem hd_X11_count : yX11_count.cls ≠ "java/lang/invoke/MethodHandle" ∧ yX11_count.cls ≠ "java/lang/invoke/VarHandle" ∧ (parseMethodDescriptor yX11_count.desc).map (fun d => d.parameters.length) = some 1 := by decide +kernel
theorem hd_X12_in : yX12_in.cls ≠ "java/lang/invoke/MethodHandle" ∧ yX12_in.cls ≠ "java/lang/invoke/VarHandle" ∧ (parseMethodDescriptor yX12_in.desc).map (fun d => d.parameters.length) = some 3 := by decide +kernel
theorem hd_X12_has : yX12_has.cls ≠ "java/lang/invoke/MethodHandle" ∧ yX12_has.cls ≠ "java/lang/invoke/VarHandle" ∧ (parseMethodDescriptor yX12_has.desc).map (fun d => d.parameters.length) = some 2 := by decide +kernel
theorem hd_X12_bits : yX12_bits.cls ≠ "java/lang/invoke/MethodHandle" ∧ yX12_bits.cls ≠ "java/lang/invoke/VarHandle" ∧ (parseMethodDescriptor yX12_bits.desc).map (fun d => d.parameters.length) = some 1 := by decide +kernel
theorem hd_X12_lowest : yX12_lowest.cls ≠ "java/lang/invoke/MethodHandle" ∧ yX12_lowest.cls ≠ "java/lang/invoke/VarHandle" ∧ (parseMethodDescriptor yX12_lowest.desc).map (fun d => d.parameters.length) = some 1 := by decide +kernel
theorem hd_X12_cellBit : yX12_cellBit.cls ≠ "java/lang/invoke/MethodHandle" ∧ yX12_cellBit.cls ≠ "java/lang/invoke/VarHandle" ∧ (parseMethodDescriptor yX12_cellBit.desc).map (fun d => d.parameters.length) = some 2 := by decide +kernel
theorem hd_X12_isCell : yX12_isCell.cls ≠ "java/lang/invoke/MethodHandle" ∧ yX12_isCell.cls ≠ "java/lang/invoke/VarHandle" ∧ (parseMethodDescriptor yX12_isCell.desc).map (fun d => d.parameters.length) = some 3 := by decide +kernel
theorem hd_X12_moved : yX12_moved.cls ≠ "java/lang/invoke/MethodHandle" ∧ yX12_moved.cls ≠ "java/lang/invoke/VarHandle" ∧ (parseMethodDescriptor yX12_moved.desc).map (fun d => d.parameters.length) = some 1 := by decide +kernel
theorem hd_X12_around : yX12_around.cls ≠ "java/lang/invoke/MethodHandle" ∧ yX12_around.cls ≠ "java/lang/invoke/VarHandle" ∧ (parseMethodDescriptor yX12_around.desc).map (fun d => d.parameters.length) = some 1 := by decide +kernel
theorem hd_X12_hangs : yX12_hangs.cls ≠ "java/lang/invoke/MethodHandle" ∧ yX12_hangs.cls ≠ "java/lang/invoke/VarHandle" ∧ (parseMethodDescriptor yX12_hangs.desc).map (fun d => d.parameters.length) = some 1 := by decide +kernel
theorem hd_X12_isFigure : yX12_isFigure.cls ≠ "java/lang/invoke/MethodHandle" ∧ yX12_isFigure.cls ≠ "java/lang/invoke/VarHandle" ∧ (parseMethodDescriptor yX12_isFigure.desc).map (fun d => d.parameters.length) = some 1 := by decide +kernel
theorem hd_X12_wide : yX12_wide.cls ≠ "java/lang/invoke/MethodHandle" ∧ yX12_wide.cls ≠ "java/lang/invoke/VarHandle" ∧ (parseMethodDescriptor yX12_wide.desc).map (fun d => d.parameters.length) = some 1 := by decide +kernel
theorem hd_X12_high : yX12_high.cls ≠ "java/lang/invoke/MethodHandle" ∧ yX12_high.cls ≠ "java/lang/invoke/VarHandle" ∧ (parseMethodDescriptor yX12_high.desc).map (fun d => d.parameters.length) = some 1 := by decide +kernel
theorem hd_X12_quarter : yX12_quarter.cls ≠ "java/lang/invoke/MethodHandle" ∧ yX12_quarter.cls ≠ "java/lang/invoke/VarHandle" ∧ (parseMethodDescriptor yX12_quarter.desc).map (fun d => d.parameters.length) = some 1 := by decide +kernel
theorem hd_X12_mirrored : yX12_mirrored.cls ≠ "java/lang/invoke/MethodHandle" ∧ yX12_mirrored.cls ≠ "java/lang/invoke/VarHandle" ∧ (parseMethodDescriptor yX12_mirrored.desc).map (fun d => d.parameters.length) = some 1 := by decide +kernel
theorem hd_X12_turned : yX12_turned.cls ≠ "java/lang/invoke/MethodHandle" ∧ yX12_turned.cls ≠ "java/lang/invoke/VarHandle" ∧ (parseMethodDescriptor yX12_turned.desc).map (fun d => d.parameters.length) = some 2 := by decide +kernel
theorem hd_X12_ownOf : yX12_ownOf.cls ≠ "java/lang/invoke/MethodHandle" ∧ yX12_ownOf.cls ≠ "java/lang/invoke/VarHandle" ∧ (parseMethodDescriptor yX12_ownOf.desc).map (fun d => d.parameters.length) = some 2 := by decide +kernel
theorem hd_X12_isDrawer : yX12_isDrawer.cls ≠ "java/lang/invoke/MethodHandle" ∧ yX12_isDrawer.cls ≠ "java/lang/invoke/VarHandle" ∧ (parseMethodDescriptor yX12_isDrawer.desc).map (fun d => d.parameters.length) = some 1 := by decide +kernel
theorem hd_X12_typed4 : yX12_typed4.cls ≠ "java/lang/invoke/MethodHandle" ∧ yX12_typed4.cls ≠ "java/lang/invoke/VarHandle" ∧ (parseMethodDescriptor yX12_typed4.desc).map (fun d => d.parameters.length) = some 1 := by decide +kernel
theorem hd_X12_feed : yX12_feed.cls ≠ "java/lang/invoke/MethodHandle" ∧ yX12_feed.cls ≠ "java/lang/invoke/VarHandle" ∧ (parseMethodDescriptor yX12_feed.desc).map (fun d => d.parameters.length) = some 5 := by decide +kernel
theorem hd_X12_figure : yX12_figure.cls ≠ "java/lang/invoke/MethodHandle" ∧ yX12_figure.cls ≠ "java/lang/invoke/VarHandle" ∧ (parseMethodDescriptor yX12_figure.desc).map (fun d => d.parameters.length) = some 2 := by decide +kernel
theorem hd_X12_put : yX12_put.cls ≠ "java/lang/invoke/MethodHandle" ∧ yX12_put.cls ≠ "java/lang/invoke/VarHandle" ∧ (parseMethodDescriptor yX12_put.desc).map (fun d => d.parameters.length) = some 2 := by decide +kernel
theorem hd_X12_take : yX12_take.cls ≠ "java/lang/invoke/MethodHandle" ∧ yX12_take.cls ≠ "java/lang/invoke/VarHandle" ∧ (parseMethodDescriptor yX12_take.desc).map (fun d => d.parameters.length) = some 1 := by decide +kernel
theorem hd_X12_comes : yX12_comes.cls ≠ "java/lang/invoke/MethodHandle" ∧ yX12_comes.cls ≠ "java/lang/invoke/VarHandle" ∧ (parseMethodDescriptor yX12_comes.desc).map (fun d => d.parameters.length) = some 4 := by decide +kernel
theorem hd_X12_laysHoles : yX12_laysHoles.cls ≠ "java/lang/invoke/MethodHandle" ∧ yX12_laysHoles.cls ≠ "java/lang/invoke/VarHandle" ∧ (parseMethodDescriptor yX12_laysHoles.desc).map (fun d => d.parameters.length) = some 1 := by decide +kernel
theorem hd_X12_inHoles : yX12_inHoles.cls ≠ "java/lang/invoke/MethodHandle" ∧ yX12_inHoles.cls ≠ "java/lang/invoke/VarHandle" ∧ (parseMethodDescriptor yX12_inHoles.desc).map (fun d => d.parameters.length) = some 1 := by decide +kernel
theorem hd_X12_twos : yX12_twos.cls ≠ "java/lang/invoke/MethodHandle" ∧ yX12_twos.cls ≠ "java/lang/invoke/VarHandle" ∧ (parseMethodDescriptor yX12_twos.desc).map (fun d => d.parameters.length) = some 1 := by decide +kernel
theorem hd_X12_cutCells : yX12_cutCells.cls ≠ "java/lang/invoke/MethodHandle" ∧ yX12_cutCells.cls ≠ "java/lang/invoke/VarHandle" ∧ (parseMethodDescriptor yX12_cutCells.desc).map (fun d => d.parameters.length) = some 1 := by decide +kernel
theorem hd_X12_isBeside : yX12_isBeside.cls ≠ "java/lang/invoke/MethodHandle" ∧ yX12_isBeside.cls ≠ "java/lang/invoke/VarHandle" ∧ (parseMethodDescriptor yX12_isBeside.desc).map (fun d => d.parameters.length) = some 3 := by decide +kernel
theorem hd_X12_besideOf : yX12_besideOf.cls ≠ "java/lang/invoke/MethodHandle" ∧ yX12_besideOf.cls ≠ "java/lang/invoke/VarHandle" ∧ (parseMethodDescriptor yX12_besideOf.desc).map (fun d => d.parameters.length) = some 1 := by decide +kernel
theorem hd_X12_pointsOf : yX12_pointsOf.cls ≠ "java/lang/invoke/MethodHandle" ∧ yX12_pointsOf.cls ≠ "java/lang/invoke/VarHandle" ∧ (parseMethodDescriptor yX12_pointsOf.desc).map (fun d => d.parameters.length) = some 2 := by decide +kernel
theorem hd_X12_rowWhole : yX12_rowWhole.cls ≠ "java/lang/invoke/MethodHandle" ∧ yX12_rowWhole.cls ≠ "java/lang/invoke/VarHandle" ∧ (parseMethodDescriptor yX12_rowWhole.desc).map (fun d => d.parameters.length) = some 1 := by decide +kernel
theorem hd_X12_sameOf : yX12_sameOf.cls ≠ "java/lang/invoke/MethodHandle" ∧ yX12_sameOf.cls ≠ "java/lang/invoke/VarHandle" ∧ (parseMethodDescriptor yX12_sameOf.desc).map (fun d => d.parameters.length) = some 1 := by decide +kernel
theorem hd_X12_toldOf : yX12_toldOf.cls ≠ "java/lang/invoke/MethodHandle" ∧ yX12_toldOf.cls ≠ "java/lang/invoke/VarHandle" ∧ (parseMethodDescriptor yX12_toldOf.desc).map (fun d => d.parameters.length) = some 2 := by decide +kernel
theorem hd_X12_told : yX12_told.cls ≠ "java/lang/invoke/MethodHandle" ∧ yX12_told.cls ≠ "java/lang/invoke/VarHandle" ∧ (parseMethodDescriptor yX12_told.desc).map (fun d => d.parameters.length) = some 2 := by decide +kernel
theorem hd_X12_cell : yX12_cell.cls ≠ "java/lang/invoke/MethodHandle" ∧ yX12_cell.cls ≠ "java/lang/invoke/VarHandle" ∧ (parseMethodDescriptor yX12_cell.desc).map (fun d => d.parameters.length) = some 3 := by decide +kernel
theorem hd_X12_isKind : yX12_isKind.cls ≠ "java/lang/invoke/MethodHandle" ∧ yX12_isKind.cls ≠ "java/lang/invoke/VarHandle" ∧ (parseMethodDescriptor yX12_isKind.desc).map (fun d => d.parameters.length) = some 1 := by decide +kernel
theorem hd_X12_number : yX12_number.cls ≠ "java/lang/invoke/MethodHandle" ∧ yX12_number.cls ≠ "java/lang/invoke/VarHandle" ∧ (parseMethodDescriptor yX12_number.desc).map (fun d => d.parameters.length) = some 2 := by decide +kernel
theorem hd_X12_turn : yX12_turn.cls ≠ "java/lang/invoke/MethodHandle" ∧ yX12_turn.cls ≠ "java/lang/invoke/VarHandle" ∧ (parseMethodDescriptor yX12_turn.desc).map (fun d => d.parameters.length) = some 2 := by decide +kernel
theorem hd_X12_alike : yX12_alike.cls ≠ "java/lang/invoke/MethodHandle" ∧ yX12_alike.cls ≠ "java/lang/invoke/VarHandle" ∧ (parseMethodDescriptor yX12_alike.desc).map (fun d => d.parameters.length) = some 3 := by decide +kernel
theorem hd_X12_clears : yX12_clears.cls ≠ "java/lang/invoke/MethodHandle" ∧ yX12_clears.cls ≠ "java/lang/invoke/VarHandle" ∧ (parseMethodDescriptor yX12_clears.desc).map (fun d => d.parameters.length) = some 0 := by decide +kernel
theorem hd_X12_lays : yX12_lays.cls ≠ "java/lang/invoke/MethodHandle" ∧ yX12_lays.cls ≠ "java/lang/invoke/VarHandle" ∧ (parseMethodDescriptor yX12_lays.desc).map (fun d => d.parameters.length) = some 4 := by decide +kernel
theorem hd_X12_taken : yX12_taken.cls ≠ "java/lang/invoke/MethodHandle" ∧ yX12_taken.cls ≠ "java/lang/invoke/VarHandle" ∧ (parseMethodDescriptor yX12_taken.desc).map (fun d => d.parameters.length) = some 0 := by decide +kernel
theorem hd_X12_change : yX12_change.cls ≠ "java/lang/invoke/MethodHandle" ∧ yX12_change.cls ≠ "java/lang/invoke/VarHandle" ∧ (parseMethodDescriptor yX12_change.desc).map (fun d => d.parameters.length) = some 4 := by decide +kernel
theorem hd_X12_join : yX12_join.cls ≠ "java/lang/invoke/MethodHandle" ∧ yX12_join.cls ≠ "java/lang/invoke/VarHandle" ∧ (parseMethodDescriptor yX12_join.desc).map (fun d => d.parameters.length) = some 5 := by decide +kernel
theorem hd_X12_swap : yX12_swap.cls ≠ "java/lang/invoke/MethodHandle" ∧ yX12_swap.cls ≠ "java/lang/invoke/VarHandle" ∧ (parseMethodDescriptor yX12_swap.desc).map (fun d => d.parameters.length) = some 2 := by decide +kernel
theorem hd_X12_keep : yX12_keep.cls ≠ "java/lang/invoke/MethodHandle" ∧ yX12_keep.cls ≠ "java/lang/invoke/VarHandle" ∧ (parseMethodDescriptor yX12_keep.desc).map (fun d => d.parameters.length) = some 0 := by decide +kernel
theorem hd_X12_back : yX12_back.cls ≠ "java/lang/invoke/MethodHandle" ∧ yX12_back.cls ≠ "java/lang/invoke/VarHandle" ∧ (parseMethodDescriptor yX12_back.desc).map (fun d => d.parameters.length) = some 0 := by decide +kernel
theorem hd_X12_count : yX12_count.cls ≠ "java/lang/invoke/MethodHandle" ∧ yX12_count.cls ≠ "java/lang/invoke/VarHandle" ∧ (parseMethodDescriptor yX12_count.desc).map (fun d => d.parameters.length) = some 1 := by decide +kernel
theorem hd_X12_isWithin : yX12_isWithin.cls ≠ "java/lang/invoke/MethodHandle" ∧ yX12_isWithin.cls ≠ "java/lang/invoke/VarHandle" ∧ (parseMethodDescriptor yX12_isWithin.desc).map (fun d => d.parameters.length) = some 3 := by decide +kernel
theorem hd_X12_with : yX12_with.cls ≠ "java/lang/invoke/MethodHandle" ∧ yX12_with.cls ≠ "java/lang/invoke/VarHandle" ∧ (parseMethodDescriptor yX12_with.desc).map (fun d => d.parameters.length) = some 3 := by decide +kernel
theorem hd_X12_drawn : yX12_drawn.cls ≠ "java/lang/invoke/MethodHandle" ∧ yX12_drawn.cls ≠ "java/lang/invoke/VarHandle" ∧ (parseMethodDescriptor yX12_drawn.desc).map (fun d => d.parameters.length) = some 3 := by decide +kernel
theorem hd_X12_comesIn : yX12_comesIn.cls ≠ "java/lang/invoke/MethodHandle" ∧ yX12_comesIn.cls ≠ "java/lang/invoke/VarHandle" ∧ (parseMethodDescriptor yX12_comesIn.desc).map (fun d => d.parameters.length) = some 4 := by decide +kernel
theorem hd_X12_laysGrown : yX12_laysGrown.cls ≠ "java/lang/invoke/MethodHandle" ∧ yX12_laysGrown.cls ≠ "java/lang/invoke/VarHandle" ∧ (parseMethodDescriptor yX12_laysGrown.desc).map (fun d => d.parameters.length) = some 2 := by decide +kernel
theorem hd_X12_laysLists : yX12_laysLists.cls ≠ "java/lang/invoke/MethodHandle" ∧ yX12_laysLists.cls ≠ "java/lang/invoke/VarHandle" ∧ (parseMethodDescriptor yX12_laysLists.desc).map (fun d => d.parameters.length) = some 0 := by decide +kernel
theorem hd_X12_laysShrunk : yX12_laysShrunk.cls ≠ "java/lang/invoke/MethodHandle" ∧ yX12_laysShrunk.cls ≠ "java/lang/invoke/VarHandle" ∧ (parseMethodDescriptor yX12_laysShrunk.desc).map (fun d => d.parameters.length) = some 2 := by decide +kernel
theorem hd_X12_isList : yX12_isList.cls ≠ "java/lang/invoke/MethodHandle" ∧ yX12_isList.cls ≠ "java/lang/invoke/VarHandle" ∧ (parseMethodDescriptor yX12_isList.desc).map (fun d => d.parameters.length) = some 2 := by decide +kernel
theorem hd_X12_begin : yX12_begin.cls ≠ "java/lang/invoke/MethodHandle" ∧ yX12_begin.cls ≠ "java/lang/invoke/VarHandle" ∧ (parseMethodDescriptor yX12_begin.desc).map (fun d => d.parameters.length) = some 2 := by decide +kernel
theorem hd_X12_end : yX12_end.cls ≠ "java/lang/invoke/MethodHandle" ∧ yX12_end.cls ≠ "java/lang/invoke/VarHandle" ∧ (parseMethodDescriptor yX12_end.desc).map (fun d => d.parameters.length) = some 2 := by decide +kernel
theorem hd_X12_list : yX12_list.cls ≠ "java/lang/invoke/MethodHandle" ∧ yX12_list.cls ≠ "java/lang/invoke/VarHandle" ∧ (parseMethodDescriptor yX12_list.desc).map (fun d => d.parameters.length) = some 2 := by decide +kernel
theorem hd_X12_listed : yX12_listed.cls ≠ "java/lang/invoke/MethodHandle" ∧ yX12_listed.cls ≠ "java/lang/invoke/VarHandle" ∧ (parseMethodDescriptor yX12_listed.desc).map (fun d => d.parameters.length) = some 3 := by decide +kernel
theorem hd_X12_place : yX12_place.cls ≠ "java/lang/invoke/MethodHandle" ∧ yX12_place.cls ≠ "java/lang/invoke/VarHandle" ∧ (parseMethodDescriptor yX12_place.desc).map (fun d => d.parameters.length) = some 2 := by decide +kernel
theorem hd_X12_lookedFor : yX12_lookedFor.cls ≠ "java/lang/invoke/MethodHandle" ∧ yX12_lookedFor.cls ≠ "java/lang/invoke/VarHandle" ∧ (parseMethodDescriptor yX12_lookedFor.desc).map (fun d => d.parameters.length) = some 6 := by decide +kernel
theorem hd_X12_many : yX12_many.cls ≠ "java/lang/invoke/MethodHandle" ∧ yX12_many.cls ≠ "java/lang/invoke/VarHandle" ∧ (parseMethodDescriptor yX12_many.desc).map (fun d => d.parameters.length) = some 5 := by decide +kernel
theorem hd_X12_found : yX12_found.cls ≠ "java/lang/invoke/MethodHandle" ∧ yX12_found.cls ≠ "java/lang/invoke/VarHandle" ∧ (parseMethodDescriptor yX12_found.desc).map (fun d => d.parameters.length) = some 6 := by decide +kernel
theorem hd_X12_crowd : yX12_crowd.cls ≠ "java/lang/invoke/MethodHandle" ∧ yX12_crowd.cls ≠ "java/lang/invoke/VarHandle" ∧ (parseMethodDescriptor yX12_crowd.desc).map (fun d => d.parameters.length) = some 4 := by decide +kernel
theorem hd_X12_kin : yX12_kin.cls ≠ "java/lang/invoke/MethodHandle" ∧ yX12_kin.cls ≠ "java/lang/invoke/VarHandle" ∧ (parseMethodDescriptor yX12_kin.desc).map (fun d => d.parameters.length) = some 3 := by decide +kernel
theorem hd_X12_kinAt : yX12_kinAt.cls ≠ "java/lang/invoke/MethodHandle" ∧ yX12_kinAt.cls ≠ "java/lang/invoke/VarHandle" ∧ (parseMethodDescriptor yX12_kinAt.desc).map (fun d => d.parameters.length) = some 4 := by decide +kernel
theorem hd_X12_reaches : yX12_reaches.cls ≠ "java/lang/invoke/MethodHandle" ∧ yX12_reaches.cls ≠ "java/lang/invoke/VarHandle" ∧ (parseMethodDescriptor yX12_reaches.desc).map (fun d => d.parameters.length) = some 3 := by decide +kernel
theorem hd_X12_laysSteps : yX12_laysSteps.cls ≠ "java/lang/invoke/MethodHandle" ∧ yX12_laysSteps.cls ≠ "java/lang/invoke/VarHandle" ∧ (parseMethodDescriptor yX12_laysSteps.desc).map (fun d => d.parameters.length) = some 1 := by decide +kernel
theorem hd_X12_way : yX12_way.cls ≠ "java/lang/invoke/MethodHandle" ∧ yX12_way.cls ≠ "java/lang/invoke/VarHandle" ∧ (parseMethodDescriptor yX12_way.desc).map (fun d => d.parameters.length) = some 2 := by decide +kernel
theorem hd_X12_farthest : yX12_farthest.cls ≠ "java/lang/invoke/MethodHandle" ∧ yX12_farthest.cls ≠ "java/lang/invoke/VarHandle" ∧ (parseMethodDescriptor yX12_farthest.desc).map (fun d => d.parameters.length) = some 2 := by decide +kernel
theorem hd_X12_stepX : yX12_stepX.cls ≠ "java/lang/invoke/MethodHandle" ∧ yX12_stepX.cls ≠ "java/lang/invoke/VarHandle" ∧ (parseMethodDescriptor yX12_stepX.desc).map (fun d => d.parameters.length) = some 1 := by decide +kernel
theorem hd_X12_stepY : yX12_stepY.cls ≠ "java/lang/invoke/MethodHandle" ∧ yX12_stepY.cls ≠ "java/lang/invoke/VarHandle" ∧ (parseMethodDescriptor yX12_stepY.desc).map (fun d => d.parameters.length) = some 1 := by decide +kernel
theorem hd_X12_isSide : yX12_isSide.cls ≠ "java/lang/invoke/MethodHandle" ∧ yX12_isSide.cls ≠ "java/lang/invoke/VarHandle" ∧ (parseMethodDescriptor yX12_isSide.desc).map (fun d => d.parameters.length) = some 4 := by decide +kernel
theorem hd_X12_hasLine : yX12_hasLine.cls ≠ "java/lang/invoke/MethodHandle" ∧ yX12_hasLine.cls ≠ "java/lang/invoke/VarHandle" ∧ (parseMethodDescriptor yX12_hasLine.desc).map (fun d => d.parameters.length) = some 1 := by decide +kernel
theorem hd_X12_letterAt : yX12_letterAt.cls ≠ "java/lang/invoke/MethodHandle" ∧ yX12_letterAt.cls ≠ "java/lang/invoke/VarHandle" ∧ (parseMethodDescriptor yX12_letterAt.desc).map (fun d => d.parameters.length) = some 1 := by decide +kernel
theorem hd_X12_comesAgain : yX12_comesAgain.cls ≠ "java/lang/invoke/MethodHandle" ∧ yX12_comesAgain.cls ≠ "java/lang/invoke/VarHandle" ∧ (parseMethodDescriptor yX12_comesAgain.desc).map (fun d => d.parameters.length) = some 3 := by decide +kernel
theorem hd_X12_laysCuttings : yX12_laysCuttings.cls ≠ "java/lang/invoke/MethodHandle" ∧ yX12_laysCuttings.cls ≠ "java/lang/invoke/VarHandle" ∧ (parseMethodDescriptor yX12_laysCuttings.desc).map (fun d => d.parameters.length) = some 0 := by decide +kernel
theorem hd_X12_line : yX12_line.cls ≠ "java/lang/invoke/MethodHandle" ∧ yX12_line.cls ≠ "java/lang/invoke/VarHandle" ∧ (parseMethodDescriptor yX12_line.desc).map (fun d => d.parameters.length) = some 2 := by decide +kernel
theorem hd_X12_tiles : yX12_tiles.cls ≠ "java/lang/invoke/MethodHandle" ∧ yX12_tiles.cls ≠ "java/lang/invoke/VarHandle" ∧ (parseMethodDescriptor yX12_tiles.desc).map (fun d => d.parameters.length) = some 2 := by decide +kernel
theorem hd_X12_tilers : yX12_tilers.cls ≠ "java/lang/invoke/MethodHandle" ∧ yX12_tilers.cls ≠ "java/lang/invoke/VarHandle" ∧ (parseMethodDescriptor yX12_tilers.desc).map (fun d => d.parameters.length) = some 2 := by decide +kernel
theorem hd_X12_laysMoves : yX12_laysMoves.cls ≠ "java/lang/invoke/MethodHandle" ∧ yX12_laysMoves.cls ≠ "java/lang/invoke/VarHandle" ∧ (parseMethodDescriptor yX12_laysMoves.desc).map (fun d => d.parameters.length) = some 1 := by decide +kernel
theorem hd_X12_area : yX12_area.cls ≠ "java/lang/invoke/MethodHandle" ∧ yX12_area.cls ≠ "java/lang/invoke/VarHandle" ∧ (parseMethodDescriptor yX12_area.desc).map (fun d => d.parameters.length) = some 0 := by decide +kernel
theorem hd_X12_vector : yX12_vector.cls ≠ "java/lang/invoke/MethodHandle" ∧ yX12_vector.cls ≠ "java/lang/invoke/VarHandle" ∧ (parseMethodDescriptor yX12_vector.desc).map (fun d => d.parameters.length) = some 2 := by decide +kernel
theorem hd_X12_owner : yX12_owner.cls ≠ "java/lang/invoke/MethodHandle" ∧ yX12_owner.cls ≠ "java/lang/invoke/VarHandle" ∧ (parseMethodDescriptor yX12_owner.desc).map (fun d => d.parameters.length) = some 4 := by decide +kernel
theorem hd_X12_putAt : yX12_putAt.cls ≠ "java/lang/invoke/MethodHandle" ∧ yX12_putAt.cls ≠ "java/lang/invoke/VarHandle" ∧ (parseMethodDescriptor yX12_putAt.desc).map (fun d => d.parameters.length) = some 3 := by decide +kernel
theorem hd_X12_fill : yX12_fill.cls ≠ "java/lang/invoke/MethodHandle" ∧ yX12_fill.cls ≠ "java/lang/invoke/VarHandle" ∧ (parseMethodDescriptor yX12_fill.desc).map (fun d => d.parameters.length) = some 4 := by decide +kernel
theorem hd_X12_laysCells : yX12_laysCells.cls ≠ "java/lang/invoke/MethodHandle" ∧ yX12_laysCells.cls ≠ "java/lang/invoke/VarHandle" ∧ (parseMethodDescriptor yX12_laysCells.desc).map (fun d => d.parameters.length) = some 1 := by decide +kernel
theorem hd_X12_besideAll : yX12_besideAll.cls ≠ "java/lang/invoke/MethodHandle" ∧ yX12_besideAll.cls ≠ "java/lang/invoke/VarHandle" ∧ (parseMethodDescriptor yX12_besideAll.desc).map (fun d => d.parameters.length) = some 1 := by decide +kernel
theorem hd_X12_figureOf : yX12_figureOf.cls ≠ "java/lang/invoke/MethodHandle" ∧ yX12_figureOf.cls ≠ "java/lang/invoke/VarHandle" ∧ (parseMethodDescriptor yX12_figureOf.desc).map (fun d => d.parameters.length) = some 1 := by decide +kernel
theorem hd_X12_orders : yX12_orders.cls ≠ "java/lang/invoke/MethodHandle" ∧ yX12_orders.cls ≠ "java/lang/invoke/VarHandle" ∧ (parseMethodDescriptor yX12_orders.desc).map (fun d => d.parameters.length) = some 0 := by decide +kernel
theorem hd_X12_paired : yX12_paired.cls ≠ "java/lang/invoke/MethodHandle" ∧ yX12_paired.cls ≠ "java/lang/invoke/VarHandle" ∧ (parseMethodDescriptor yX12_paired.desc).map (fun d => d.parameters.length) = some 0 := by decide +kernel
theorem hd_X12_halved : yX12_halved.cls ≠ "java/lang/invoke/MethodHandle" ∧ yX12_halved.cls ≠ "java/lang/invoke/VarHandle" ∧ (parseMethodDescriptor yX12_halved.desc).map (fun d => d.parameters.length) = some 1 := by decide +kernel
theorem hd_X12_across : yX12_across.cls ≠ "java/lang/invoke/MethodHandle" ∧ yX12_across.cls ≠ "java/lang/invoke/VarHandle" ∧ (parseMethodDescriptor yX12_across.desc).map (fun d => d.parameters.length) = some 0 := by decide +kernel
theorem hd_X12_trees : yX12_trees.cls ≠ "java/lang/invoke/MethodHandle" ∧ yX12_trees.cls ≠ "java/lang/invoke/VarHandle" ∧ (parseMethodDescriptor yX12_trees.desc).map (fun d => d.parameters.length) = some 0 := by decide +kernel
theorem hd_X12_unlike : yX12_unlike.cls ≠ "java/lang/invoke/MethodHandle" ∧ yX12_unlike.cls ≠ "java/lang/invoke/VarHandle" ∧ (parseMethodDescriptor yX12_unlike.desc).map (fun d => d.parameters.length) = some 0 := by decide +kernel
theorem hd_X12_part : yX12_part.cls ≠ "java/lang/invoke/MethodHandle" ∧ yX12_part.cls ≠ "java/lang/invoke/VarHandle" ∧ (parseMethodDescriptor yX12_part.desc).map (fun d => d.parameters.length) = some 2 := by decide +kernel
theorem hd_X12_liesIn : yX12_liesIn.cls ≠ "java/lang/invoke/MethodHandle" ∧ yX12_liesIn.cls ≠ "java/lang/invoke/VarHandle" ∧ (parseMethodDescriptor yX12_liesIn.desc).map (fun d => d.parameters.length) = some 2 := by decide +kernel
theorem hd_X12_inside : yX12_inside.cls ≠ "java/lang/invoke/MethodHandle" ∧ yX12_inside.cls ≠ "java/lang/invoke/VarHandle" ∧ (parseMethodDescriptor yX12_inside.desc).map (fun d => d.parameters.length) = some 3 := by decide +kernel
theorem hd_X12_common : yX12_common.cls ≠ "java/lang/invoke/MethodHandle" ∧ yX12_common.cls ≠ "java/lang/invoke/VarHandle" ∧ (parseMethodDescriptor yX12_common.desc).map (fun d => d.parameters.length) = some 2 := by decide +kernel
theorem hd_X12_shared : yX12_shared.cls ≠ "java/lang/invoke/MethodHandle" ∧ yX12_shared.cls ≠ "java/lang/invoke/VarHandle" ∧ (parseMethodDescriptor yX12_shared.desc).map (fun d => d.parameters.length) = some 4 := by decide +kernel
theorem hd_X12_share : yX12_share.cls ≠ "java/lang/invoke/MethodHandle" ∧ yX12_share.cls ≠ "java/lang/invoke/VarHandle" ∧ (parseMethodDescriptor yX12_share.desc).map (fun d => d.parameters.length) = some 4 := by decide +kernel
theorem hd_X12_spans : yX12_spans.cls ≠ "java/lang/invoke/MethodHandle" ∧ yX12_spans.cls ≠ "java/lang/invoke/VarHandle" ∧ (parseMethodDescriptor yX12_spans.desc).map (fun d => d.parameters.length) = some 3 := by decide +kernel
theorem hd_X12_touch : yX12_touch.cls ≠ "java/lang/invoke/MethodHandle" ∧ yX12_touch.cls ≠ "java/lang/invoke/VarHandle" ∧ (parseMethodDescriptor yX12_touch.desc).map (fun d => d.parameters.length) = some 3 := by decide +kernel
theorem g_RX0_102 : GoodIn wsL_law (va_wsS RX0 102 yJ13_bitCount_95d88 (wm yJ13_bitCount_95d88 cJ13_bitCount_95d88 2 (some .int))) := gS tw_24_5 tw_11_12 tw_11_13 tw_11_14
theorem g_RX0_107 : GoodIn wsL_law (va_wsS RX0 107 yX2_settled (wm yX2_settled cX2_settled 6 (some .long))) := gS tw_24_6 tw_11_9 tw_10_16 tw_11_10
theorem g_RX0_116 : GoodIn wsL_law (va_wsS RX0 116 yX2_isLeast (wm yX2_isLeast cX2_isLeast 6 (some .boolean))) := gS tw_24_15 tw_24_16 tw_10_16 tw_24_17
theorem g_RX0_41 : GoodIn wsL_law (wsV RX0 41 RX0 yX0_makeFixed (wm yX0_makeFixed cX0_makeFixed 3 none)) := gV tw_23_4 tw_23_5 tw_23_6 tw_2_8 tw_23_7
theorem g_RX0_45 : GoodIn wsL_law (wsV RX0 45 RX0 yX0_sortKinds (wm yX0_sortKinds cX0_sortKinds 5 none)) := gV tw_24_7 tw_24_8 tw_24_9 tw_2_8 tw_24_10
theorem g_RX0_48 : GoodIn wsL_law (wsV RX0 48 RX0 yX0_end (wm yX0_end cX0_end 4 (some .int))) := gV tw_24_11 tw_24_12 tw_24_13 tw_2_8 tw_24_14
theorem g_RX0_52 : GoodIn wsL_law (wsV RX0 52 RX0 yX0_member (wm yX0_member cX0_member 4 (some .int))) := gV tw_25_22 tw_25_23 tw_26_0 tw_2_8 tw_26_1
theorem g_RX0_55 : GoodIn wsL_law (wsV RX0 55 RX0 yX0_numberOf (wm yX0_numberOf cX0_numberOf 2 (some .long))) := gV tw_26_2 tw_26_3 tw_26_4 tw_2_8 tw_26_5
theorem g_RX0_63 : GoodIn wsL_law (wsV RX0 63 RX5 yX5_tilesBy (wm yX5_tilesBy cX5_tilesBy 3 (some .int))) := gV tw_27_6 tw_27_7 tw_27_8 tw_2_4 tw_27_9
theorem g_RX0_69 : GoodIn wsL_law (va_wsS RX0 69 yX9_of (wm yX9_of cX9_of 3 (some .int))) := gS tw_29_5 tw_13_22 tw_13_23 tw_14_0
theorem g_RX0_75 : GoodIn wsL_law (wsV RX0 75 RX0 yX0_size (wm yX0_size cX0_size 3 (some .int))) := gV tw_30_7 tw_24_19 tw_24_20 tw_2_8 tw_24_21
theorem g_RX0_78 : GoodIn wsL_law (wsV RX0 78 RX0 yX0_trait (wm yX0_trait cX0_trait 9 (some .int))) := gV tw_30_8 tw_27_3 tw_27_4 tw_2_8 tw_27_5
theorem g_RX0_87 : GoodIn wsL_law (wsV RX0 87 RX0 yX0_insert (wm yX0_insert cX0_insert 9 none)) := gV tw_23_8 tw_23_9 tw_23_10 tw_2_8 tw_23_11
theorem g_RX0_91 : GoodIn wsL_law (wsV RX0 91 RX0 yX0_insertGrown (wm yX0_insertGrown cX0_insertGrown 12 none)) := gV tw_23_16 tw_23_17 tw_23_18 tw_2_8 tw_23_19
theorem g_RX0_94 : GoodIn wsL_law (va_wsS RX0 94 yX2_roomed (wm yX2_roomed cX2_roomed 4 (some .long))) := gS tw_23_20 tw_23_21 tw_10_16 tw_23_22
theorem g_RX0_98 : GoodIn wsL_law (va_wsS RX0 98 yX2_sites (wm yX2_sites cX2_sites 6 (some .long))) := gS tw_23_23 tw_24_0 tw_10_16 tw_24_1
theorem g_RX10_23 : GoodIn wsL_law (wsV RX10 23 RX10 yX10_setOf (wm yX10_setOf cX10_setOf 5 (some .long))) := gV tw_34_1 tw_34_2 tw_34_3 tw_2_12 tw_34_4
theorem g_RX10_27 : GoodIn wsL_law (wsV RX10 27 RX10 yX10_beyond (wm yX10_beyond cX10_beyond 8 (some .long))) := gV tw_34_5 tw_34_6 tw_34_7 tw_2_12 tw_34_8
theorem g_RX10_32 : GoodIn wsL_law (va_wsS RX10 32 yJ13_bitCount_95d88 (wm yJ13_bitCount_95d88 cJ13_bitCount_95d88 2 (some .int))) := gS tw_33_16 tw_11_12 tw_11_13 tw_11_14
theorem g_RX10_42 : GoodIn wsL_law (wsV RX10 42 RX0 yX0_size (wm yX0_size cX0_size 3 (some .int))) := gV tw_33_9 tw_24_19 tw_24_20 tw_2_8 tw_24_21
theorem g_RX10_53 : GoodIn wsL_law (wsV RX10 53 RX0 yX0_at (wm yX0_at cX0_at 4 (some .long))) := gV tw_33_10 tw_25_19 tw_25_20 tw_2_8 tw_25_21
theorem g_RX10_57 : GoodIn wsL_law (wsV RX10 57 RX10 yX10_regrown (wm yX10_regrown cX10_regrown 17 (some .long))) := gV tw_33_11 tw_33_12 tw_33_13 tw_2_12 tw_33_14
theorem g_RX10_60 : GoodIn wsL_law (va_wsS RX10 60 yX2_least (wm yX2_least cX2_least 8 (some .long))) := gS tw_33_19 tw_19_19 tw_10_16 tw_19_20
theorem g_RX10_66 : GoodIn wsL_law (wsV RX10 66 RX0 yX0_indexOf (wm yX0_indexOf cX0_indexOf 10 (some .int))) := gV tw_33_20 tw_26_15 tw_26_16 tw_2_8 tw_26_17
theorem g_RX10_70 : GoodIn wsL_law (va_wsS RX10 70 yX2_around (wm yX2_around cX2_around 2 (some .long))) := gS tw_33_15 tw_10_22 tw_10_16 tw_10_23
theorem g_RX10_74 : GoodIn wsL_law (va_wsS RX10 74 yX2_settled (wm yX2_settled cX2_settled 6 (some .long))) := gS tw_33_17 tw_11_9 tw_10_16 tw_11_10
theorem g_RX10_77 : GoodIn wsL_law (va_wsS RX10 77 yX2_hangs (wm yX2_hangs cX2_hangs 2 (some .boolean))) := gS tw_33_18 tw_10_15 tw_10_16 tw_10_17
theorem g_RX11_103 : GoodIn wsL_law (wsV RX11 103 RX7 yX7_board (wm yX7_board cX7_board 1 (some .long))) := gV tw_11_0 tw_11_1 tw_11_2 tw_1_20 tw_11_3
theorem g_RX11_107 : GoodIn wsL_law (wsV RX11 107 RX11 yX11_store (wm yX11_store cX11_store 6 (some .int))) := gV tw_11_4 tw_11_5 tw_11_6 tw_1_2 tw_11_7
theorem g_RX11_111 : GoodIn wsL_law (va_wsS RX11 111 yX2_isFigure (wm yX2_isFigure cX2_isFigure 2 (some .boolean))) := gS tw_11_22 tw_11_23 tw_10_16 tw_12_0
theorem g_RX11_117 : GoodIn wsL_law (va_wsS RX11 117 yX9_of (wm yX9_of cX9_of 3 (some .int))) := gS tw_13_21 tw_13_22 tw_13_23 tw_14_0
theorem g_RX11_123 : GoodIn wsL_law (va_wsS RX11 123 yX2_has (wm yX2_has cX2_has 4 (some .boolean))) := gS tw_19_2 tw_19_3 tw_10_16 tw_19_4
theorem g_RX11_127 : GoodIn wsL_law (va_wsS RX11 127 yX11_isKind (wm yX11_isKind cX11_isKind 1 (some .boolean))) := gS tw_19_15 tw_19_16 tw_1_2 tw_19_17
theorem g_RX11_134 : GoodIn wsL_law (va_wsS RX11 134 yX2_least (wm yX2_least cX2_least 8 (some .long))) := gS tw_19_18 tw_19_19 tw_10_16 tw_19_20
theorem g_RX11_138 : GoodIn wsL_law (va_wsS RX11 138 yX2_turned (wm yX2_turned cX2_turned 6 (some .long))) := gS tw_20_18 tw_20_19 tw_10_16 tw_20_20
theorem g_RX11_141 : GoodIn wsL_law (va_wsS RX11 141 yX2_united (wm yX2_united cX2_united 10 (some .long))) := gS tw_21_13 tw_21_14 tw_10_16 tw_21_15
theorem g_RX11_145 : GoodIn wsL_law (va_wsS RX11 145 yX2_moved (wm yX2_moved cX2_moved 6 (some .long))) := gS tw_22_0 tw_21_22 tw_10_16 tw_21_23
theorem g_RX11_149 : GoodIn wsL_law (va_wsS RX11 149 yX11_isList (wm yX11_isList cX11_isList 2 (some .boolean))) := gS tw_22_21 tw_22_22 tw_1_2 tw_22_23
theorem g_RX11_153 : GoodIn wsL_law (wsV RX11 153 RX0 yX0_prepare (wm yX0_prepare cX0_prepare 3 none)) := gV tw_23_0 tw_23_1 tw_23_2 tw_2_8 tw_23_3
theorem g_RX11_156 : GoodIn wsL_law (wsV RX11 156 RX0 yX0_size (wm yX0_size cX0_size 3 (some .int))) := gV tw_24_18 tw_24_19 tw_24_20 tw_2_8 tw_24_21
theorem g_RX11_160 : GoodIn wsL_law (wsV RX11 160 RX0 yX0_at (wm yX0_at cX0_at 4 (some .long))) := gV tw_25_18 tw_25_19 tw_25_20 tw_2_8 tw_25_21
theorem g_RX11_164 : GoodIn wsL_law (va_wsS RX11 164 yJ13_bitCount_95d88 (wm yJ13_bitCount_95d88 cJ13_bitCount_95d88 2 (some .int))) := gS tw_12_4 tw_11_12 tw_11_13 tw_11_14
theorem g_RX11_170 : GoodIn wsL_law (wsV RX11 170 RX0 yX0_indexOf (wm yX0_indexOf cX0_indexOf 10 (some .int))) := gV tw_26_14 tw_26_15 tw_26_16 tw_2_8 tw_26_17
theorem g_RX11_174 : GoodIn wsL_law (wsV RX11 174 RX0 yX0_trait (wm yX0_trait cX0_trait 9 (some .int))) := gV tw_27_2 tw_27_3 tw_27_4 tw_2_8 tw_27_5
theorem g_RX11_178 : GoodIn wsL_law (wsV RX11 178 RX0 yX0_crowds (wm yX0_crowds cX0_crowds 10 (some .int))) := gV tw_30_2 tw_30_3 tw_30_4 tw_2_8 tw_30_5
theorem g_RX11_182 : GoodIn wsL_law (va_wsS RX11 182 yX3_gather (wm yX3_gather cX3_gather 5 none)) := gS tw_30_17 tw_30_18 tw_30_19 tw_30_20
theorem g_RX11_188 : GoodIn wsL_law (wsV RX11 188 RX8 yX8_size (wm yX8_size cX8_size 1 (some .int))) := gV tw_31_19 tw_31_20 tw_31_21 tw_2_0 tw_31_22
theorem g_RX11_191 : GoodIn wsL_law (wsV RX11 191 RX8 yX8_at (wm yX8_at cX8_at 2 (some .long))) := gV tw_32_12 tw_32_13 tw_32_14 tw_2_0 tw_32_15
theorem g_RX11_196 : GoodIn wsL_law (wsV RX11 196 RX10 yX10_prepare (wm yX10_prepare cX10_prepare 9 none)) := gV tw_33_1 tw_33_2 tw_33_3 tw_2_12 tw_33_4
theorem g_RX11_197 : GoodIn wsL_law (wsV RX11 197 RX10 yX10_steps (wm yX10_steps cX10_steps 11 (some .int))) := gV tw_33_21 tw_33_22 tw_33_23 tw_2_12 tw_34_0
theorem g_RX11_201 : GoodIn wsL_law (wsV RX11 201 RX10 yX10_edge (wm yX10_edge cX10_edge 12 (some .int))) := gV tw_35_3 tw_35_4 tw_35_5 tw_2_12 tw_35_6
theorem g_RX11_205 : GoodIn wsL_law (va_wsS RX11 205 yX3_byLots (wm yX3_byLots cX3_byLots 11 (some .long))) := gS tw_35_15 tw_35_16 tw_30_19 tw_35_17
theorem g_RX11_209 : GoodIn wsL_law (wsV RX11 209 RX5 yX5_trace (wm yX5_trace cX5_trace 8 (some .boolean))) := gV tw_36_8 tw_27_12 tw_27_13 tw_2_4 tw_27_14
theorem g_RX11_212 : GoodIn wsL_law (wsV RX11 212 RX5 yX5_length (wm yX5_length cX5_length 1 (some .int))) := gV tw_36_9 tw_36_10 tw_36_11 tw_2_4 tw_36_12
theorem g_RX11_215 : GoodIn wsL_law (wsV RX11 215 RX5 yX5_letter (wm yX5_letter cX5_letter 2 (some .int))) := gV tw_36_13 tw_36_14 tw_36_15 tw_2_4 tw_36_16
theorem g_RX11_219 : GoodIn wsL_law (wsV RX11 219 RX5 yX5_cut (wm yX5_cut cX5_cut 4 none)) := gV tw_37_18 tw_28_9 tw_28_10 tw_2_4 tw_28_11
theorem g_RX11_222 : GoodIn wsL_law (wsV RX11 222 RX5 yX5_cuttings (wm yX5_cuttings cX5_cuttings 1 (some .int))) := gV tw_37_19 tw_37_20 tw_37_21 tw_2_4 tw_37_22
theorem g_RX11_225 : GoodIn wsL_law (wsV RX11 225 RX5 yX5_cutting (wm yX5_cutting cX5_cutting 2 (some .int))) := gV tw_37_23 tw_38_0 tw_38_1 tw_2_4 tw_38_2
theorem g_RX11_228 : GoodIn wsL_law (wsV RX11 228 RX8 yX8_clear (wm yX8_clear cX8_clear 1 none)) := gV tw_39_12 tw_30_22 tw_30_23 tw_2_0 tw_31_0
theorem g_RX11_231 : GoodIn wsL_law (va_wsS RX11 231 yX3_addForms (wm yX3_addForms cX3_addForms 7 none)) := gS tw_39_13 tw_39_14 tw_30_19 tw_39_15
theorem g_RX11_235 : GoodIn wsL_law (wsV RX11 235 RX1 yX1_search (wm yX1_search cX1_search 11 (some .int))) := gV tw_39_18 tw_39_19 tw_39_20 tw_2_16 tw_39_21
theorem g_RX11_239 : GoodIn wsL_law (wsV RX11 239 RX11 yX11_prepareMoves (wm yX11_prepareMoves cX11_prepareMoves 2 (some .int))) := gV tw_41_9 tw_41_10 tw_41_11 tw_1_2 tw_41_12
theorem g_RX11_242 : GoodIn wsL_law (wsV RX11 242 RX5 yX5_move (wm yX5_move cX5_move 2 (some .int))) := gV tw_41_22 tw_41_23 tw_42_0 tw_2_4 tw_42_1
theorem g_RX11_245 : GoodIn wsL_law (wsV RX11 245 RX5 yX5_copyAt (wm yX5_copyAt cX5_copyAt 16 (some .int))) := gV tw_43_4 tw_43_5 tw_43_6 tw_2_4 tw_43_7
theorem g_RX11_249 : GoodIn wsL_law (wsV RX11 249 RX6 yX6_of (wm yX6_of cX6_of 4 (some .long))) := gV tw_43_17 tw_43_18 tw_43_19 tw_2_20 tw_43_20
theorem g_RX11_251 : GoodIn wsL_law (va_wsS RX11 251 yX4_placings (wm yX4_placings cX4_placings 11 (some .int))) := gS tw_48_3 tw_48_4 tw_3_0 tw_48_5
theorem g_RX11_255 : GoodIn wsL_law (va_wsS RX11 255 yX4_largestCommon (wm yX4_largestCommon cX4_largestCommon 9 (some .int))) := gS tw_48_22 tw_48_23 tw_3_0 tw_49_0
theorem g_RX11_264 : GoodIn wsL_law (va_wsS RX11 264 yX11_isMove (wm yX11_isMove cX11_isMove 2 (some .boolean))) := gS tw_50_10 tw_50_11 tw_1_2 tw_50_12
theorem g_RX11_267 : GoodIn wsL_law (va_wsS RX11 267 yX4_overlap (wm yX4_overlap cX4_overlap 6 (some .int))) := gS tw_51_5 tw_51_6 tw_3_0 tw_51_7
theorem g_RX11_271 : GoodIn wsL_law (va_wsS RX11 271 yX4_sharedSides (wm yX4_sharedSides cX4_sharedSides 6 (some .int))) := gS tw_51_8 tw_51_9 tw_3_0 tw_51_10
theorem g_RX11_274 : GoodIn wsL_law (wsV RX11 274 RX4 yX4_measure (wm yX4_measure cX4_measure 7 none)) := gV tw_51_23 tw_52_0 tw_52_1 tw_3_0 tw_52_2
theorem g_RX11_278 : GoodIn wsL_law (wsV RX11 278 RX4 yX4_measured (wm yX4_measured cX4_measured 2 (some .int))) := gV tw_53_1 tw_53_2 tw_53_3 tw_3_0 tw_53_4
theorem g_RX11_281 : GoodIn wsL_law (va_wsS RX11 281 yX2_settled (wm yX2_settled cX2_settled 6 (some .long))) := gS tw_11_8 tw_11_9 tw_10_16 tw_11_10
theorem g_RX11_285 : GoodIn wsL_law (wsV RX11 285 RX5 yX5_findMoves (wm yX5_findMoves cX5_findMoves 3 none)) := gV tw_41_13 tw_41_14 tw_41_15 tw_2_4 tw_41_16
theorem g_RX11_87 : GoodIn wsL_law (wsV RX11 87 RX11 yX11_append (wm yX11_append cX11_append 3 none)) := gV tw_8_23 tw_9_0 tw_9_1 tw_1_2 tw_9_2
theorem g_RX11_91 : GoodIn wsL_law (va_wsS RX11 91 yX11_isDrawer (wm yX11_isDrawer cX11_isDrawer 1 (some .boolean))) := gS tw_9_16 tw_9_17 tw_1_2 tw_9_18
theorem g_RX11_95 : GoodIn wsL_law (va_wsS RX11 95 yX11_within (wm yX11_within cX11_within 3 (some .boolean))) := gS tw_9_19 tw_9_20 tw_1_2 tw_9_21
theorem g_RX11_99 : GoodIn wsL_law (wsV RX11 99 RX7 yX7_read (wm yX7_read cX7_read 5 (some .int))) := gV tw_9_22 tw_9_23 tw_10_0 tw_1_20 tw_10_1
theorem g_RX12_100 : GoodIn wsL_law (va_wsS RX12 100 yX12_around (wm yX12_around cX12_around 6 (some .long))) := gS tw_12_15 tw_12_16 tw_1_5 tw_12_17
theorem g_RX12_106 : GoodIn wsL_law (va_wsS RX12 106 yX12_bits (wm yX12_bits cX12_bits 5 (some .int))) := gS tw_6_20 tw_6_21 tw_1_5 tw_6_22
theorem g_RX12_110 : GoodIn wsL_law (va_wsS RX12 110 yX12_hangs (wm yX12_hangs cX12_hangs 6 (some .boolean))) := gS tw_12_12 tw_12_13 tw_1_5 tw_12_14
theorem g_RX12_114 : GoodIn wsL_law (va_wsS RX12 114 yX12_moved (wm yX12_moved cX12_moved 4 (some .long))) := gS tw_8_10 tw_8_11 tw_1_5 tw_8_12
theorem g_RX12_117 : GoodIn wsL_law (va_wsS RX12 117 yX12_cellBit (wm yX12_cellBit cX12_cellBit 2 (some .long))) := gS tw_8_1 tw_8_2 tw_1_5 tw_8_3
theorem g_RX12_121 : GoodIn wsL_law (va_wsS RX12 121 yX12_mirrored (wm yX12_mirrored cX12_mirrored 6 (some .long))) := gS tw_8_7 tw_8_8 tw_1_5 tw_8_9
theorem g_RX12_124 : GoodIn wsL_law (va_wsS RX12 124 yX12_quarter (wm yX12_quarter cX12_quarter 6 (some .long))) := gS tw_8_13 tw_8_14 tw_1_5 tw_8_15
theorem g_RX12_131 : GoodIn wsL_law (wsV RX12 131 RX12 yX12_typed4 (wm yX12_typed4 cX12_typed4 3 none)) := gV tw_9_8 tw_9_9 tw_9_10 tw_1_5 tw_9_11
theorem g_RX12_135 : GoodIn wsL_law (va_wsS RX12 135 yX12_isDrawer (wm yX12_isDrawer cX12_isDrawer 1 (some .boolean))) := gS tw_12_9 tw_12_10 tw_1_5 tw_12_11
theorem g_RX12_139 : GoodIn wsL_law (va_wsS RX12 139 yX12_isFigure (wm yX12_isFigure cX12_isFigure 2 (some .boolean))) := gS tw_13_5 tw_13_6 tw_1_5 tw_13_7
theorem g_RX12_142 : GoodIn wsL_law (va_wsS RX12 142 yX12_isCell (wm yX12_isCell cX12_isCell 4 (some .boolean))) := gS tw_7_2 tw_7_3 tw_1_5 tw_7_4
theorem g_RX12_149 : GoodIn wsL_law (wsV RX12 149 RX12 yX12_comes (wm yX12_comes cX12_comes 6 none)) := gV tw_17_20 tw_17_21 tw_17_22 tw_1_5 tw_17_23
theorem g_RX12_153 : GoodIn wsL_law (wsV RX12 153 RX12 yX12_laysHoles (wm yX12_laysHoles cX12_laysHoles 8 (some .int))) := gV tw_17_15 tw_17_16 tw_17_17 tw_1_5 tw_17_18
theorem g_RX12_156 : GoodIn wsL_law (va_wsS RX12 156 yX12_isBeside (wm yX12_isBeside cX12_isBeside 4 (some .boolean))) := gS tw_6_23 tw_7_0 tw_1_5 tw_7_1
theorem g_RX12_159 : GoodIn wsL_law (va_wsS RX12 159 yX12_turned (wm yX12_turned cX12_turned 6 (some .long))) := gS tw_18_19 tw_18_20 tw_1_5 tw_18_21
theorem g_RX12_163 : GoodIn wsL_law (va_wsS RX12 163 yX12_wide (wm yX12_wide cX12_wide 4 (some .int))) := gS tw_7_14 tw_7_15 tw_1_5 tw_7_16
theorem g_RX12_166 : GoodIn wsL_law (va_wsS RX12 166 yX12_high (wm yX12_high cX12_high 4 (some .int))) := gS tw_7_18 tw_7_19 tw_1_5 tw_7_20
theorem g_RX12_169 : GoodIn wsL_law (va_wsS RX12 169 yX12_twos (wm yX12_twos cX12_twos 2 (some .int))) := gS tw_17_12 tw_17_13 tw_1_5 tw_17_14
theorem g_RX12_172 : GoodIn wsL_law (wsV RX12 172 RX12 yX12_inHoles (wm yX12_inHoles cX12_inHoles 5 (some .int))) := gV tw_18_0 tw_18_1 tw_18_2 tw_1_5 tw_18_3
theorem g_RX12_175 : GoodIn wsL_law (va_wsS RX12 175 yX12_cutCells (wm yX12_cutCells cX12_cutCells 7 (some .int))) := gS tw_18_4 tw_18_5 tw_1_5 tw_18_6
theorem g_RX12_178 : GoodIn wsL_law (va_wsS RX12 178 yX12_besideOf (wm yX12_besideOf cX12_besideOf 5 (some .int))) := gS tw_18_7 tw_18_8 tw_1_5 tw_18_9
theorem g_RX12_181 : GoodIn wsL_law (va_wsS RX12 181 yX12_pointsOf (wm yX12_pointsOf cX12_pointsOf 12 (some .int))) := gS tw_18_10 tw_18_11 tw_1_5 tw_18_12
theorem g_RX12_185 : GoodIn wsL_law (va_wsS RX12 185 yX12_rowWhole (wm yX12_rowWhole cX12_rowWhole 7 (some .int))) := gS tw_18_13 tw_18_14 tw_1_5 tw_18_15
theorem g_RX12_188 : GoodIn wsL_law (va_wsS RX12 188 yX12_sameOf (wm yX12_sameOf cX12_sameOf 4 (some .int))) := gS tw_18_16 tw_18_17 tw_1_5 tw_18_18
theorem g_RX12_191 : GoodIn wsL_law (wsV RX12 191 RX12 yX12_toldOf (wm yX12_toldOf cX12_toldOf 4 (some .int))) := gV tw_17_8 tw_17_9 tw_17_10 tw_1_5 tw_17_11
theorem g_RX12_194 : GoodIn wsL_law (va_wsS RX12 194 yX12_isKind (wm yX12_isKind cX12_isKind 1 (some .boolean))) := gS tw_20_11 tw_20_12 tw_1_5 tw_20_13
theorem g_RX12_199 : GoodIn wsL_law (va_wsS RX12 199 yX12_ownOf (wm yX12_ownOf cX12_ownOf 8 (some .long))) := gS tw_8_4 tw_8_5 tw_1_5 tw_8_6
theorem g_RX12_202 : GoodIn wsL_law (wsV RX12 202 RX12 yX12_clears (wm yX12_clears cX12_clears 2 none)) := gV tw_22_5 tw_22_6 tw_22_7 tw_1_5 tw_22_8
theorem g_RX12_205 : GoodIn wsL_law (wsV RX12 205 RX12 yX12_lays (wm yX12_lays cX12_lays 8 none)) := gV tw_22_9 tw_22_10 tw_22_11 tw_1_5 tw_22_12
theorem g_RX12_209 : GoodIn wsL_law (wsV RX12 209 RX12 yX12_taken (wm yX12_taken cX12_taken 8 (some .long))) := gV tw_22_13 tw_22_14 tw_22_15 tw_1_5 tw_22_16
theorem g_RX12_217 : GoodIn wsL_law (va_wsS RX12 217 yX12_isWithin (wm yX12_isWithin cX12_isWithin 4 (some .boolean))) := gS tw_7_11 tw_7_12 tw_1_5 tw_7_13
theorem g_RX12_221 : GoodIn wsL_law (va_wsS RX12 221 yX12_with (wm yX12_with cX12_with 6 (some .long))) := gS tw_7_22 tw_7_23 tw_1_5 tw_8_0
theorem g_RX12_225 : GoodIn wsL_law (wsV RX12 225 RX12 yX12_laysGrown (wm yX12_laysGrown cX12_laysGrown 6 none)) := gV tw_6_16 tw_6_17 tw_6_18 tw_1_5 tw_6_19
theorem g_RX12_232 : GoodIn wsL_law (va_wsS RX12 232 yX12_comesIn (wm yX12_comesIn cX12_comesIn 8 (some .int))) := gS tw_8_16 tw_8_17 tw_1_5 tw_8_18
theorem g_RX12_236 : GoodIn wsL_law (wsV RX12 236 RX12 yX12_isList (wm yX12_isList cX12_isList 3 (some .boolean))) := gV tw_25_2 tw_25_3 tw_25_4 tw_1_5 tw_25_5
theorem g_RX12_240 : GoodIn wsL_law (wsV RX12 240 RX12 yX12_end (wm yX12_end cX12_end 3 (some .int))) := gV tw_25_6 tw_25_7 tw_25_8 tw_1_5 tw_25_9
theorem g_RX12_244 : GoodIn wsL_law (wsV RX12 244 RX12 yX12_begin (wm yX12_begin cX12_begin 3 (some .int))) := gV tw_25_10 tw_25_11 tw_25_12 tw_1_5 tw_25_13
theorem g_RX12_247 : GoodIn wsL_law (wsV RX12 247 RX12 yX12_lookedFor (wm yX12_lookedFor cX12_lookedFor 9 (some .long))) := gV tw_29_10 tw_29_11 tw_29_12 tw_1_5 tw_29_13
theorem g_RX12_251 : GoodIn wsL_law (wsV RX12 251 RX12 yX12_laysShrunk (wm yX12_laysShrunk cX12_laysShrunk 8 none)) := gV tw_32_3 tw_32_4 tw_32_5 tw_1_5 tw_32_6
theorem g_RX12_259 : GoodIn wsL_law (wsV RX12 259 RX12 yX12_reaches (wm yX12_reaches cX12_reaches 8 none)) := gV tw_34_18 tw_34_19 tw_34_20 tw_1_5 tw_34_21
theorem g_RX12_263 : GoodIn wsL_law (wsV RX12 263 RX12 yX12_laysSteps (wm yX12_laysSteps cX12_laysSteps 17 none)) := gV tw_34_13 tw_34_14 tw_34_15 tw_1_5 tw_34_16
theorem g_RX12_267 : GoodIn wsL_law (wsV RX12 267 RX12 yX12_place (wm yX12_place cX12_place 7 (some .int))) := gV tw_34_22 tw_26_19 tw_26_20 tw_1_5 tw_26_21
theorem g_RX12_270 : GoodIn wsL_law (va_wsS RX12 270 yX12_lowest (wm yX12_lowest cX12_lowest 3 (some .int))) := gS tw_37_2 tw_37_3 tw_1_5 tw_37_4
theorem g_RX12_276 : GoodIn wsL_law (va_wsS RX12 276 yX12_isSide (wm yX12_isSide cX12_isSide 5 (some .boolean))) := gS tw_37_5 tw_37_6 tw_1_5 tw_37_7
theorem g_RX12_280 : GoodIn wsL_law (va_wsS RX12 280 yX12_stepX (wm yX12_stepX cX12_stepX 1 (some .int))) := gS tw_37_8 tw_37_9 tw_1_5 tw_37_10
theorem g_RX12_284 : GoodIn wsL_law (va_wsS RX12 284 yX12_stepY (wm yX12_stepY cX12_stepY 1 (some .int))) := gS tw_37_11 tw_37_12 tw_1_5 tw_37_13
theorem g_RX12_287 : GoodIn wsL_law (wsV RX12 287 RX12 yX12_letterAt (wm yX12_letterAt cX12_letterAt 2 (some .int))) := gV tw_38_20 tw_38_21 tw_38_22 tw_1_5 tw_38_23
theorem g_RX12_296 : GoodIn wsL_law (wsV RX12 296 RX12 yX12_comesAgain (wm yX12_comesAgain cX12_comesAgain 5 (some .boolean))) := gV tw_38_16 tw_38_17 tw_38_18 tw_1_5 tw_38_19
theorem g_RX12_308 : GoodIn wsL_law (wsV RX12 308 RX12 yX12_hasLine (wm yX12_hasLine cX12_hasLine 7 (some .boolean))) := gV tw_36_22 tw_36_23 tw_37_0 tw_1_5 tw_37_1
theorem g_RX12_311 : GoodIn wsL_law (wsV RX12 311 RX12 yX12_laysCuttings (wm yX12_laysCuttings cX12_laysCuttings 6 none)) := gV tw_38_12 tw_38_13 tw_38_14 tw_1_5 tw_38_15
theorem g_RX12_326 : GoodIn wsL_law (wsV RX12 326 RX12 yX12_laysMoves (wm yX12_laysMoves cX12_laysMoves 4 (some .int))) := gV tw_42_16 tw_42_17 tw_42_18 tw_1_5 tw_42_19
theorem g_RX12_329 : GoodIn wsL_law (wsV RX12 329 RX12 yX12_area (wm yX12_area cX12_area 1 (some .int))) := gV tw_42_20 tw_42_21 tw_42_22 tw_1_5 tw_42_23
theorem g_RX12_336 : GoodIn wsL_law (va_wsS RX12 336 yX12_putAt (wm yX12_putAt cX12_putAt 4 (some .long))) := gS tw_41_2 tw_41_3 tw_1_5 tw_41_4
theorem g_RX12_342 : GoodIn wsL_law (wsV RX12 342 RX12 yX12_besideAll (wm yX12_besideAll cX12_besideAll 4 (some .int))) := gV tw_46_19 tw_46_20 tw_46_21 tw_1_5 tw_46_22
theorem g_RX12_345 : GoodIn wsL_law (wsV RX12 345 RX12 yX12_figureOf (wm yX12_figureOf cX12_figureOf 5 (some .long))) := gV tw_47_7 tw_47_8 tw_47_9 tw_1_5 tw_47_10
theorem g_RX12_349 : GoodIn wsL_law (wsV RX12 349 RX12 yX12_laysCells (wm yX12_laysCells cX12_laysCells 7 none)) := gV tw_46_10 tw_46_11 tw_46_12 tw_1_5 tw_46_13
theorem g_RX12_352 : GoodIn wsL_law (wsV RX12 352 RX12 yX12_orders (wm yX12_orders cX12_orders 5 (some .long))) := gV tw_46_15 tw_46_16 tw_46_17 tw_1_5 tw_46_18
theorem g_RX12_355 : GoodIn wsL_law (wsV RX12 355 RX12 yX12_paired (wm yX12_paired cX12_paired 5 (some .long))) := gV tw_46_23 tw_47_0 tw_47_1 tw_1_5 tw_47_2
theorem g_RX12_358 : GoodIn wsL_law (wsV RX12 358 RX12 yX12_halved (wm yX12_halved cX12_halved 9 (some .long))) := gV tw_47_3 tw_47_4 tw_47_5 tw_1_5 tw_47_6
theorem g_RX12_361 : GoodIn wsL_law (wsV RX12 361 RX12 yX12_across (wm yX12_across cX12_across 5 (some .long))) := gV tw_47_11 tw_47_12 tw_47_13 tw_1_5 tw_47_14
theorem g_RX12_364 : GoodIn wsL_law (wsV RX12 364 RX12 yX12_trees (wm yX12_trees cX12_trees 9 (some .long))) := gV tw_47_15 tw_47_16 tw_47_17 tw_1_5 tw_47_18
theorem g_RX12_367 : GoodIn wsL_law (wsV RX12 367 RX12 yX12_unlike (wm yX12_unlike cX12_unlike 3 (some .long))) := gV tw_47_19 tw_47_20 tw_47_21 tw_1_5 tw_47_22
theorem g_RX12_370 : GoodIn wsL_law (va_wsS RX12 370 yX12_liesIn (wm yX12_liesIn cX12_liesIn 9 (some .int))) := gS tw_48_15 tw_48_16 tw_1_5 tw_48_17
theorem g_RX12_374 : GoodIn wsL_law (va_wsS RX12 374 yX12_shared (wm yX12_shared cX12_shared 10 (some .int))) := gS tw_51_16 tw_51_17 tw_1_5 tw_51_18
theorem g_RX12_378 : GoodIn wsL_law (va_wsS RX12 378 yX12_spans (wm yX12_spans cX12_spans 5 (some .int))) := gS tw_53_9 tw_53_10 tw_1_5 tw_53_11
theorem g_RX12_82 : GoodIn wsL_law (va_wsS RX12 82 yX12_in (wm yX12_in cX12_in 3 (some .boolean))) := gS tw_7_5 tw_7_6 tw_1_5 tw_7_7
theorem g_RX12_86 : GoodIn wsL_law (va_wsS RX12 86 yX12_has (wm yX12_has cX12_has 3 (some .boolean))) := gS tw_7_8 tw_7_9 tw_1_5 tw_7_10
theorem g_RX1_36 : GoodIn wsL_law (wsV RX1 36 RX1 yX1_measure (wm yX1_measure cX1_measure 3 none)) := gV tw_40_3 tw_40_4 tw_40_5 tw_2_16 tw_40_6
theorem g_RX1_48 : GoodIn wsL_law (wsV RX1 48 RX1 yX1_open (wm yX1_open cX1_open 4 none)) := gV tw_40_13 tw_40_14 tw_40_15 tw_2_16 tw_40_16
theorem g_RX1_57 : GoodIn wsL_law (wsV RX1 57 RX1 yX1_laid (wm yX1_laid cX1_laid 9 (some .long))) := gV tw_40_17 tw_40_18 tw_40_19 tw_2_16 tw_40_20
theorem g_RX1_61 : GoodIn wsL_law (wsV RX1 61 RX8 yX8_size (wm yX8_size cX8_size 1 (some .int))) := gV tw_40_8 tw_31_20 tw_31_21 tw_2_0 tw_31_22
theorem g_RX1_70 : GoodIn wsL_law (wsV RX1 70 RX8 yX8_at (wm yX8_at cX8_at 2 (some .long))) := gV tw_40_9 tw_32_13 tw_32_14 tw_2_0 tw_32_15
theorem g_RX1_74 : GoodIn wsL_law (va_wsS RX1 74 yX2_lowest (wm yX2_lowest cX2_lowest 2 (some .int))) := gS tw_40_10 tw_27_20 tw_10_16 tw_27_21
theorem g_RX1_78 : GoodIn wsL_law (va_wsS RX1 78 yX2_width (wm yX2_width cX2_width 2 (some .int))) := gS tw_40_11 tw_14_3 tw_10_16 tw_14_4
theorem g_RX1_81 : GoodIn wsL_law (va_wsS RX1 81 yX2_height (wm yX2_height cX2_height 4 (some .int))) := gS tw_40_12 tw_14_6 tw_10_16 tw_14_7
theorem g_RX2_11 : GoodIn wsL_law (va_wsS RX2 11 yJ13_bitCount_95d88 (wm yJ13_bitCount_95d88 cJ13_bitCount_95d88 2 (some .int))) := gS tw_11_11 tw_11_12 tw_11_13 tw_11_14
theorem g_RX2_23 : GoodIn wsL_law (va_wsS RX2 23 yX2_columns (wm yX2_columns cX2_columns 4 (some .long))) := gS tw_11_18 tw_11_19 tw_10_16 tw_11_20
theorem g_RX2_35 : GoodIn wsL_law (va_wsS RX2 35 yX2_width (wm yX2_width cX2_width 2 (some .int))) := gS tw_21_19 tw_14_3 tw_10_16 tw_14_4
theorem g_RX2_38 : GoodIn wsL_law (va_wsS RX2 38 yX2_height (wm yX2_height cX2_height 4 (some .int))) := gS tw_21_20 tw_14_6 tw_10_16 tw_14_7
theorem g_RX2_41 : GoodIn wsL_law (va_wsS RX2 41 yX2_moved (wm yX2_moved cX2_moved 6 (some .long))) := gS tw_21_21 tw_21_22 tw_10_16 tw_21_23
theorem g_RX2_45 : GoodIn wsL_law (va_wsS RX2 45 yX2_around (wm yX2_around cX2_around 2 (some .long))) := gS tw_10_21 tw_10_22 tw_10_16 tw_10_23
theorem g_RX2_48 : GoodIn wsL_law (va_wsS RX2 48 yX2_reach (wm yX2_reach cX2_reach 9 (some .long))) := gS tw_10_18 tw_10_19 tw_10_16 tw_10_20
theorem g_RX2_54 : GoodIn wsL_law (va_wsS RX2 54 yX2_hangs (wm yX2_hangs cX2_hangs 2 (some .boolean))) := gS tw_12_3 tw_10_15 tw_10_16 tw_10_17
theorem g_RX2_70 : GoodIn wsL_law (va_wsS RX2 70 yX2_flipped (wm yX2_flipped cX2_flipped 4 (some .long))) := gS tw_16_12 tw_16_13 tw_10_16 tw_16_14
theorem g_RX2_73 : GoodIn wsL_law (va_wsS RX2 73 yX2_settled (wm yX2_settled cX2_settled 6 (some .long))) := gS tw_16_18 tw_11_9 tw_10_16 tw_11_10
theorem g_RX2_76 : GoodIn wsL_law (va_wsS RX2 76 yX2_transposed (wm yX2_transposed cX2_transposed 6 (some .long))) := gS tw_16_22 tw_16_23 tw_10_16 tw_17_0
theorem g_RX2_79 : GoodIn wsL_law (va_wsS RX2 79 yX2_mirrored (wm yX2_mirrored cX2_mirrored 2 (some .long))) := gS tw_20_4 tw_16_10 tw_10_16 tw_16_11
theorem g_RX2_82 : GoodIn wsL_law (va_wsS RX2 82 yX2_quarter (wm yX2_quarter cX2_quarter 2 (some .long))) := gS tw_20_5 tw_16_20 tw_10_16 tw_16_21
theorem g_RX2_85 : GoodIn wsL_law (va_wsS RX2 85 yX2_turnsOf (wm yX2_turnsOf cX2_turnsOf 1 (some .int))) := gS tw_20_1 tw_20_2 tw_10_16 tw_20_3
theorem g_RX3_15 : GoodIn wsL_law (va_wsS RX3 15 yX2_mirrored (wm yX2_mirrored cX2_mirrored 2 (some .long))) := gS tw_39_16 tw_16_10 tw_10_16 tw_16_11
theorem g_RX3_21 : GoodIn wsL_law (va_wsS RX3 21 yX2_quarter (wm yX2_quarter cX2_quarter 2 (some .long))) := gS tw_39_17 tw_16_20 tw_10_16 tw_16_21
theorem g_RX3_24 : GoodIn wsL_law (wsV RX3 24 RX8 yX8_clear (wm yX8_clear cX8_clear 1 none)) := gV tw_30_21 tw_30_22 tw_30_23 tw_2_0 tw_31_0
theorem g_RX3_27 : GoodIn wsL_law (va_wsS RX3 27 yX3_gatherGrown (wm yX3_gatherGrown cX3_gatherGrown 12 none)) := gS tw_31_2 tw_31_3 tw_30_19 tw_31_4
theorem g_RX3_33 : GoodIn wsL_law (va_wsS RX3 33 yX3_gatherShrunk (wm yX3_gatherShrunk cX3_gatherShrunk 10 none)) := gS tw_31_15 tw_31_16 tw_30_19 tw_31_17
theorem g_RX3_36 : GoodIn wsL_law (va_wsS RX3 36 yJ13_bitCount_95d88 (wm yJ13_bitCount_95d88 cJ13_bitCount_95d88 2 (some .int))) := gS tw_31_5 tw_11_12 tw_11_13 tw_11_14
theorem g_RX3_42 : GoodIn wsL_law (va_wsS RX3 42 yX2_roomed (wm yX2_roomed cX2_roomed 4 (some .long))) := gS tw_31_6 tw_23_21 tw_10_16 tw_23_22
theorem g_RX3_45 : GoodIn wsL_law (va_wsS RX3 45 yX2_sites (wm yX2_sites cX2_sites 6 (some .long))) := gS tw_31_7 tw_24_0 tw_10_16 tw_24_1
theorem g_RX3_49 : GoodIn wsL_law (va_wsS RX3 49 yX2_settled (wm yX2_settled cX2_settled 6 (some .long))) := gS tw_31_8 tw_11_9 tw_10_16 tw_11_10
theorem g_RX3_52 : GoodIn wsL_law (va_wsS RX3 52 yX2_least (wm yX2_least cX2_least 8 (some .long))) := gS tw_31_9 tw_19_19 tw_10_16 tw_19_20
theorem g_RX3_56 : GoodIn wsL_law (va_wsS RX3 56 yX2_hangs (wm yX2_hangs cX2_hangs 2 (some .boolean))) := gS tw_31_18 tw_10_15 tw_10_16 tw_10_17
theorem g_RX3_61 : GoodIn wsL_law (va_wsS RX3 61 yX3_bitOf (wm yX3_bitOf cX3_bitOf 6 (some .long))) := gS tw_35_19 tw_35_20 tw_30_19 tw_35_21
theorem g_RX3_9 : GoodIn wsL_law (wsV RX3 9 RX8 yX8_add (wm yX8_add cX8_add 5 none)) := gV tw_31_10 tw_31_11 tw_31_12 tw_2_0 tw_31_13
theorem g_RX4_15 : GoodIn wsL_law (va_wsS RX4 15 yX2_moved (wm yX2_moved cX2_moved 6 (some .long))) := gS tw_49_1 tw_21_22 tw_10_16 tw_21_23
theorem g_RX4_21 : GoodIn wsL_law (va_wsS RX4 21 yJ13_bitCount_95d88 (wm yJ13_bitCount_95d88 cJ13_bitCount_95d88 2 (some .int))) := gS tw_49_6 tw_11_12 tw_11_13 tw_11_14
theorem g_RX4_27 : GoodIn wsL_law (va_wsS RX4 27 yX4_overlap (wm yX4_overlap cX4_overlap 6 (some .int))) := gS tw_51_11 tw_51_6 tw_3_0 tw_51_7
theorem g_RX4_31 : GoodIn wsL_law (wsV RX4 31 RX8 yX8_size (wm yX8_size cX8_size 1 (some .int))) := gV tw_48_7 tw_31_20 tw_31_21 tw_2_0 tw_31_22
theorem g_RX4_37 : GoodIn wsL_law (wsV RX4 37 RX8 yX8_at (wm yX8_at cX8_at 2 (some .long))) := gV tw_48_8 tw_32_13 tw_32_14 tw_2_0 tw_32_15
theorem g_RX4_41 : GoodIn wsL_law (va_wsS RX4 41 yX2_height (wm yX2_height cX2_height 4 (some .int))) := gS tw_48_9 tw_14_6 tw_10_16 tw_14_7
theorem g_RX4_44 : GoodIn wsL_law (va_wsS RX4 44 yX2_width (wm yX2_width cX2_width 2 (some .int))) := gS tw_48_10 tw_14_3 tw_10_16 tw_14_4
theorem g_RX4_49 : GoodIn wsL_law (va_wsS RX4 49 yX4_largestPart (wm yX4_largestPart cX4_largestPart 9 (some .int))) := gS tw_49_2 tw_49_3 tw_3_0 tw_49_4
theorem g_RX4_53 : GoodIn wsL_law (va_wsS RX4 53 yX2_reach (wm yX2_reach cX2_reach 9 (some .long))) := gS tw_49_7 tw_10_19 tw_10_16 tw_10_20
theorem g_RX4_82 : GoodIn wsL_law (wsV RX4 82 RX4 yX4_overlapAt (wm yX4_overlapAt cX4_overlapAt 4 (some .int))) := gV tw_52_9 tw_52_10 tw_52_11 tw_3_0 tw_52_12
theorem g_RX4_85 : GoodIn wsL_law (wsV RX4 85 RX4 yX4_noteShared (wm yX4_noteShared cX4_noteShared 4 none)) := gV tw_52_13 tw_52_14 tw_52_15 tw_3_0 tw_52_16
theorem g_RX4_89 : GoodIn wsL_law (va_wsS RX4 89 yX4_around (wm yX4_around cX4_around 3 (some .int))) := gS tw_52_17 tw_52_18 tw_3_0 tw_52_19
theorem g_RX4_93 : GoodIn wsL_law (wsV RX4 93 RX4 yX4_noteBox (wm yX4_noteBox cX4_noteBox 2 none)) := gV tw_52_21 tw_52_22 tw_52_23 tw_3_0 tw_53_0
theorem g_RX5_105 : GoodIn wsL_law (wsV RX5 105 RX5 yX5_letter (wm yX5_letter cX5_letter 2 (some .int))) := gV tw_41_21 tw_36_14 tw_36_15 tw_2_4 tw_36_16
theorem g_RX5_108 : GoodIn wsL_law (va_wsS RX5 108 yX5_crossed (wm yX5_crossed cX5_crossed 4 (some .int))) := gS tw_42_5 tw_42_6 tw_2_4 tw_42_7
theorem g_RX5_117 : GoodIn wsL_law (va_wsS RX5 117 yJ13_bitCount_95d88 (wm yJ13_bitCount_95d88 cJ13_bitCount_95d88 2 (some .int))) := gS tw_43_8 tw_11_12 tw_11_13 tw_11_14
theorem g_RX5_26 : GoodIn wsL_law (wsV RX5 26 RX5 yX5_trace (wm yX5_trace cX5_trace 8 (some .boolean))) := gV tw_27_11 tw_27_12 tw_27_13 tw_2_4 tw_27_14
theorem g_RX5_30 : GoodIn wsL_law (wsV RX5 30 RX5 yX5_cut (wm yX5_cut cX5_cut 4 none)) := gV tw_28_8 tw_28_9 tw_28_10 tw_2_4 tw_28_11
theorem g_RX5_33 : GoodIn wsL_law (va_wsS RX5 33 yX9_hollow (wm yX9_hollow cX9_hollow 6 (some .long))) := gS tw_27_16 tw_14_19 tw_13_23 tw_14_20
theorem g_RX5_39 : GoodIn wsL_law (va_wsS RX5 39 yX9_aslant (wm yX9_aslant cX9_aslant 6 (some .long))) := gS tw_27_17 tw_15_19 tw_13_23 tw_15_20
theorem g_RX5_42 : GoodIn wsL_law (va_wsS RX5 42 yX9_sides (wm yX9_sides cX9_sides 2 (some .int))) := gS tw_27_18 tw_14_9 tw_13_23 tw_14_10
theorem g_RX5_46 : GoodIn wsL_law (va_wsS RX5 46 yX2_lowest (wm yX2_lowest cX2_lowest 2 (some .int))) := gS tw_27_19 tw_27_20 tw_10_16 tw_27_21
theorem g_RX5_51 : GoodIn wsL_law (va_wsS RX5 51 yX5_stepX (wm yX5_stepX cX5_stepX 1 (some .int))) := gS tw_27_22 tw_27_23 tw_2_4 tw_28_0
theorem g_RX5_55 : GoodIn wsL_law (va_wsS RX5 55 yX5_stepY (wm yX5_stepY cX5_stepY 1 (some .int))) := gS tw_28_1 tw_28_2 tw_2_4 tw_28_3
theorem g_RX5_58 : GoodIn wsL_law (va_wsS RX5 58 yX5_nextLetter (wm yX5_nextLetter cX5_nextLetter 9 (some .int))) := gS tw_28_4 tw_28_5 tw_2_4 tw_28_6
theorem g_RX5_62 : GoodIn wsL_law (va_wsS RX5 62 yX2_has (wm yX2_has cX2_has 4 (some .boolean))) := gS tw_28_7 tw_19_3 tw_10_16 tw_19_4
theorem g_RX5_69 : GoodIn wsL_law (wsV RX5 69 RX5 yX5_isOpposed (wm yX5_isOpposed cX5_isOpposed 5 (some .boolean))) := gV tw_28_13 tw_28_14 tw_28_15 tw_2_4 tw_28_16
theorem g_RX5_73 : GoodIn wsL_law (wsV RX5 73 RX5 yX5_cutFrom (wm yX5_cutFrom cX5_cutFrom 6 none)) := gV tw_28_17 tw_28_18 tw_28_19 tw_2_4 tw_28_20
theorem g_RX5_77 : GoodIn wsL_law (wsV RX5 77 RX5 yX5_note (wm yX5_note cX5_note 5 none)) := gV tw_28_21 tw_28_22 tw_28_23 tw_2_4 tw_29_0
theorem g_RX6_101 : GoodIn wsL_law (wsV RX6 101 RX6 yX6_fillMatrix (wm yX6_fillMatrix cX6_fillMatrix 4 none)) := gV tw_45_22 tw_45_23 tw_46_0 tw_2_20 tw_46_1
theorem g_RX6_105 : GoodIn wsL_law (wsV RX6 105 RX6 yX6_eliminate (wm yX6_eliminate cX6_eliminate 9 none)) := gV tw_46_2 tw_46_3 tw_46_4 tw_2_20 tw_46_5
theorem g_RX6_25 : GoodIn wsL_law (wsV RX6 25 RX6 yX6_index (wm yX6_index cX6_index 7 none)) := gV tw_44_0 tw_44_1 tw_44_2 tw_2_20 tw_44_3
theorem g_RX6_29 : GoodIn wsL_law (wsV RX6 29 RX6 yX6_orders (wm yX6_orders cX6_orders 5 (some .long))) := gV tw_44_8 tw_44_9 tw_44_10 tw_2_20 tw_44_11
theorem g_RX6_33 : GoodIn wsL_law (wsV RX6 33 RX6 yX6_pairings (wm yX6_pairings cX6_pairings 6 (some .long))) := gV tw_44_19 tw_44_20 tw_44_21 tw_2_20 tw_44_22
theorem g_RX6_36 : GoodIn wsL_law (wsV RX6 36 RX6 yX6_halvings (wm yX6_halvings cX6_halvings 6 (some .long))) := gV tw_44_23 tw_45_0 tw_45_1 tw_2_20 tw_45_2
theorem g_RX6_40 : GoodIn wsL_law (wsV RX6 40 RX6 yX6_longestWay (wm yX6_longestWay cX6_longestWay 8 (some .long))) := gV tw_45_13 tw_45_14 tw_45_15 tw_2_20 tw_45_16
theorem g_RX6_44 : GoodIn wsL_law (wsV RX6 44 RX6 yX6_trees (wm yX6_trees cX6_trees 5 (some .long))) := gV tw_45_18 tw_45_19 tw_45_20 tw_2_20 tw_45_21
theorem g_RX6_49 : GoodIn wsL_law (va_wsS RX6 49 yJ13_bitCount_95d88 (wm yJ13_bitCount_95d88 cJ13_bitCount_95d88 2 (some .int))) := gS tw_44_6 tw_11_12 tw_11_13 tw_11_14
theorem g_RX6_71 : GoodIn wsL_law (va_wsS RX6 71 yX2_around (wm yX2_around cX2_around 2 (some .long))) := gS tw_44_7 tw_10_22 tw_10_16 tw_10_23
theorem g_RX6_76 : GoodIn wsL_law (va_wsS RX6 76 yJ6_bitCount_0f7a4 (wm yJ6_bitCount_0f7a4 cJ6_bitCount_0f7a4 1 (some .int))) := gS tw_44_12 tw_44_13 tw_44_14 tw_44_15
theorem g_RX6_80 : GoodIn wsL_law (wsV RX6 80 RX6 yX6_boardOf (wm yX6_boardOf cX6_boardOf 5 (some .long))) := gV tw_45_3 tw_45_4 tw_45_5 tw_2_20 tw_45_6
theorem g_RX6_84 : GoodIn wsL_law (va_wsS RX6 84 yX6_areAlike (wm yX6_areAlike cX6_areAlike 7 (some .boolean))) := gS tw_45_7 tw_45_8 tw_2_20 tw_45_9
theorem g_RX6_88 : GoodIn wsL_law (va_wsS RX6 88 yX2_hangs (wm yX2_hangs cX2_hangs 2 (some .boolean))) := gS tw_45_10 tw_10_15 tw_10_16 tw_10_17
theorem g_RX6_92 : GoodIn wsL_law (va_wsS RX6 92 yX2_settled (wm yX2_settled cX2_settled 6 (some .long))) := gS tw_45_11 tw_11_9 tw_10_16 tw_11_10
theorem g_RX6_95 : GoodIn wsL_law (va_wsS RX6 95 yX2_least (wm yX2_least cX2_least 8 (some .long))) := gS tw_45_12 tw_19_19 tw_10_16 tw_19_20
theorem g_RX7_25 : GoodIn wsL_law (wsV RX7 25 RX7 yX7_accept (wm yX7_accept cX7_accept 2 (some .int))) := gV tw_10_6 tw_10_7 tw_10_8 tw_1_20 tw_10_9
theorem g_RX7_29 : GoodIn wsL_law (va_wsS RX7 29 yX2_hangs (wm yX2_hangs cX2_hangs 2 (some .boolean))) := gS tw_10_14 tw_10_15 tw_10_16 tw_10_17
theorem g_RX7_35 : GoodIn wsL_law (wsV RX7 35 RX7 yX7_endRow (wm yX7_endRow cX7_endRow 1 (some .int))) := gV tw_10_10 tw_10_11 tw_10_12 tw_1_20 tw_10_13
theorem g_RX9_15 : GoodIn wsL_law (va_wsS RX9 15 yX2_width (wm yX2_width cX2_width 2 (some .int))) := gS tw_14_2 tw_14_3 tw_10_16 tw_14_4
theorem g_RX9_20 : GoodIn wsL_law (va_wsS RX9 20 yX2_height (wm yX2_height cX2_height 4 (some .int))) := gS tw_14_5 tw_14_6 tw_10_16 tw_14_7
theorem g_RX9_23 : GoodIn wsL_law (va_wsS RX9 23 yX9_sides (wm yX9_sides cX9_sides 2 (some .int))) := gS tw_14_8 tw_14_9 tw_13_23 tw_14_10
theorem g_RX9_28 : GoodIn wsL_law (va_wsS RX9 28 yX9_holes (wm yX9_holes cX9_holes 6 (some .int))) := gS tw_14_14 tw_14_15 tw_13_23 tw_14_16
theorem g_RX9_31 : GoodIn wsL_law (va_wsS RX9 31 yX9_hollow (wm yX9_hollow cX9_hollow 6 (some .long))) := gS tw_14_18 tw_14_19 tw_13_23 tw_14_20
theorem g_RX9_35 : GoodIn wsL_law (va_wsS RX9 35 yX9_cutCells (wm yX9_cutCells cX9_cutCells 9 (some .int))) := gS tw_15_0 tw_15_1 tw_13_23 tw_15_2
theorem g_RX9_38 : GoodIn wsL_law (va_wsS RX9 38 yX9_beside (wm yX9_beside cX9_beside 2 (some .int))) := gS tw_15_4 tw_15_5 tw_13_23 tw_15_6
theorem g_RX9_41 : GoodIn wsL_law (va_wsS RX9 41 yX9_outer (wm yX9_outer cX9_outer 4 (some .int))) := gS tw_15_12 tw_15_13 tw_13_23 tw_15_14
theorem g_RX9_44 : GoodIn wsL_law (va_wsS RX9 44 yX9_threes (wm yX9_threes cX9_threes 10 (some .long))) := gS tw_15_15 tw_15_16 tw_13_23 tw_15_17
theorem g_RX9_47 : GoodIn wsL_law (va_wsS RX9 47 yX9_squares (wm yX9_squares cX9_squares 2 (some .int))) := gS tw_15_21 tw_15_22 tw_13_23 tw_15_23
theorem g_RX9_50 : GoodIn wsL_law (va_wsS RX9 50 yX9_isRowWhole (wm yX9_isRowWhole cX9_isRowWhole 2 (some .boolean))) := gS tw_16_0 tw_16_1 tw_13_23 tw_16_2
theorem g_RX9_54 : GoodIn wsL_law (va_wsS RX9 54 yX9_isColumnWhole (wm yX9_isColumnWhole cX9_isColumnWhole 2 (some .boolean))) := gS tw_16_3 tw_16_4 tw_13_23 tw_16_5
theorem g_RX9_57 : GoodIn wsL_law (va_wsS RX9 57 yX9_same (wm yX9_same cX9_same 6 (some .int))) := gS tw_16_6 tw_16_7 tw_13_23 tw_16_8
theorem g_RX9_60 : GoodIn wsL_law (va_wsS RX9 60 yX9_twos (wm yX9_twos cX9_twos 2 (some .int))) := gS tw_14_11 tw_14_12 tw_13_23 tw_14_13
theorem g_RX9_69 : GoodIn wsL_law (va_wsS RX9 69 yX2_reach (wm yX2_reach cX2_reach 9 (some .long))) := gS tw_14_23 tw_10_19 tw_10_16 tw_10_20
theorem g_RX9_73 : GoodIn wsL_law (va_wsS RX9 73 yX2_hangs (wm yX2_hangs cX2_hangs 2 (some .boolean))) := gS tw_15_3 tw_10_15 tw_10_16 tw_10_17
theorem g_RX9_76 : GoodIn wsL_law (va_wsS RX9 76 yX2_around (wm yX2_around cX2_around 2 (some .long))) := gS tw_15_11 tw_10_22 tw_10_16 tw_10_23
theorem g_RX9_87 : GoodIn wsL_law (va_wsS RX9 87 yX9_aslant (wm yX9_aslant cX9_aslant 6 (some .long))) := gS tw_15_18 tw_15_19 tw_13_23 tw_15_20
theorem g_RX9_9 : GoodIn wsL_law (va_wsS RX9 9 yJ13_bitCount_95d88 (wm yJ13_bitCount_95d88 cJ13_bitCount_95d88 2 (some .int))) := gS tw_14_1 tw_11_12 tw_11_13 tw_11_14
theorem g_RX9_90 : GoodIn wsL_law (va_wsS RX9 90 yX2_mirrored (wm yX2_mirrored cX2_mirrored 2 (some .long))) := gS tw_16_9 tw_16_10 tw_10_16 tw_16_11
theorem g_RX9_93 : GoodIn wsL_law (va_wsS RX9 93 yX2_quarter (wm yX2_quarter cX2_quarter 2 (some .long))) := gS tw_16_19 tw_16_20 tw_10_16 tw_16_21
