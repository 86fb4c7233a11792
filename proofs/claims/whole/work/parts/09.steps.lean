/-! a branch, taken or not -/
section AKB
variable {p : Program} {l : Launch} {e : Env} {R : Room} {s : State} {m : MethodId} {args : Array Value} {below : List Frame} {meth : Method} {c : Code} {H : Heap} {locs : List Loc} {cells slots : Nat} {Q : State → Prop}
variable {cc : ByteArray} {pc t : Nat} {ls : Array Slot} {rest : List Value}
theorem ak_nn_if_eq (hx : p.tables.exec = Jvm.exec) (hb : c.code = cc) {x : Int32} {off : Int} (hdg : decode cc pc = .ok (.ifCond .eq off, 3)) (hc : ¬ x = 0) (k : W p l e R s m args below meth c H locs cells slots Q (F0 m (pc + 3) ls rest)) : W p l e R s m args below meth c H locs cells slots Q (F0 m pc ls (.int x :: rest)) := by
  intro T hT X
  obtain ⟨t, a, b⟩ := k T hT X
  refine ⟨t, ?_, b⟩
  jvm_step X.here [X.here.top, hx, hb, hdg, Op.ifCond.holds, hc]
  exact a
theorem ak_nn_icmp_eq (hx : p.tables.exec = Jvm.exec) (hb : c.code = cc) {x y : Int32} {off : Int} (hdg : decode cc pc = .ok (.if_icmp .eq off, 3)) (hc : ¬ x = y) (k : W p l e R s m args below meth c H locs cells slots Q (F0 m (pc + 3) ls rest)) : W p l e R s m args below meth c H locs cells slots Q (F0 m pc ls (.int y :: .int x :: rest)) := by
  intro T hT X
  obtain ⟨t, a, b⟩ := k T hT X
  refine ⟨t, ?_, b⟩
  jvm_step X.here [X.here.top, hx, hb, hdg, Op.if_icmp.holds, hc]
  exact a
theorem ak_nn_if_ne (hx : p.tables.exec = Jvm.exec) (hb : c.code = cc) {x : Int32} {off : Int} (hdg : decode cc pc = .ok (.ifCond .ne off, 3)) (hc : x = 0) (k : W p l e R s m args below meth c H locs cells slots Q (F0 m (pc + 3) ls rest)) : W p l e R s m args below meth c H locs cells slots Q (F0 m pc ls (.int x :: rest)) := by
  intro T hT X
  obtain ⟨t, a, b⟩ := k T hT X
  refine ⟨t, ?_, b⟩
  jvm_step X.here [X.here.top, hx, hb, hdg, Op.ifCond.holds, hc]
  exact a
theorem ak_nn_icmp_ne (hx : p.tables.exec = Jvm.exec) (hb : c.code = cc) {x y : Int32} {off : Int} (hdg : decode cc pc = .ok (.if_icmp .ne off, 3)) (hc : x = y) (k : W p l e R s m args below meth c H locs cells slots Q (F0 m (pc + 3) ls rest)) : W p l e R s m args below meth c H locs cells slots Q (F0 m pc ls (.int y :: .int x :: rest)) := by
  intro T hT X
  obtain ⟨t, a, b⟩ := k T hT X
  refine ⟨t, ?_, b⟩
  jvm_step X.here [X.here.top, hx, hb, hdg, Op.if_icmp.holds, hc]
  exact a
theorem ak_nn_if_lt (hx : p.tables.exec = Jvm.exec) (hb : c.code = cc) {x : Int32} {off : Int} (hdg : decode cc pc = .ok (.ifCond .lt off, 3)) (hc : ¬ x < 0) (k : W p l e R s m args below meth c H locs cells slots Q (F0 m (pc + 3) ls rest)) : W p l e R s m args below meth c H locs cells slots Q (F0 m pc ls (.int x :: rest)) := by
  intro T hT X
  obtain ⟨t, a, b⟩ := k T hT X
  refine ⟨t, ?_, b⟩
  jvm_step X.here [X.here.top, hx, hb, hdg, Op.ifCond.holds, hc]
  exact a
theorem ak_nn_icmp_lt (hx : p.tables.exec = Jvm.exec) (hb : c.code = cc) {x y : Int32} {off : Int} (hdg : decode cc pc = .ok (.if_icmp .lt off, 3)) (hc : ¬ x < y) (k : W p l e R s m args below meth c H locs cells slots Q (F0 m (pc + 3) ls rest)) : W p l e R s m args below meth c H locs cells slots Q (F0 m pc ls (.int y :: .int x :: rest)) := by
  intro T hT X
  obtain ⟨t, a, b⟩ := k T hT X
  refine ⟨t, ?_, b⟩
  jvm_step X.here [X.here.top, hx, hb, hdg, Op.if_icmp.holds, hc]
  exact a
theorem ak_nn_if_ge (hx : p.tables.exec = Jvm.exec) (hb : c.code = cc) {x : Int32} {off : Int} (hdg : decode cc pc = .ok (.ifCond .ge off, 3)) (hc : ¬ 0 ≤ x) (k : W p l e R s m args below meth c H locs cells slots Q (F0 m (pc + 3) ls rest)) : W p l e R s m args below meth c H locs cells slots Q (F0 m pc ls (.int x :: rest)) := by
  intro T hT X
  obtain ⟨t, a, b⟩ := k T hT X
  refine ⟨t, ?_, b⟩
  jvm_step X.here [X.here.top, hx, hb, hdg, Op.ifCond.holds, hc]
  exact a
theorem ak_nn_icmp_ge (hx : p.tables.exec = Jvm.exec) (hb : c.code = cc) {x y : Int32} {off : Int} (hdg : decode cc pc = .ok (.if_icmp .ge off, 3)) (hc : ¬ y ≤ x) (k : W p l e R s m args below meth c H locs cells slots Q (F0 m (pc + 3) ls rest)) : W p l e R s m args below meth c H locs cells slots Q (F0 m pc ls (.int y :: .int x :: rest)) := by
  intro T hT X
  obtain ⟨t, a, b⟩ := k T hT X
  refine ⟨t, ?_, b⟩
  jvm_step X.here [X.here.top, hx, hb, hdg, Op.if_icmp.holds, hc]
  exact a
theorem ak_nn_if_gt (hx : p.tables.exec = Jvm.exec) (hb : c.code = cc) {x : Int32} {off : Int} (hdg : decode cc pc = .ok (.ifCond .gt off, 3)) (hc : ¬ 0 < x) (k : W p l e R s m args below meth c H locs cells slots Q (F0 m (pc + 3) ls rest)) : W p l e R s m args below meth c H locs cells slots Q (F0 m pc ls (.int x :: rest)) := by
  intro T hT X
  obtain ⟨t, a, b⟩ := k T hT X
  refine ⟨t, ?_, b⟩
  jvm_step X.here [X.here.top, hx, hb, hdg, Op.ifCond.holds, hc]
  exact a
theorem ak_nn_icmp_gt (hx : p.tables.exec = Jvm.exec) (hb : c.code = cc) {x y : Int32} {off : Int} (hdg : decode cc pc = .ok (.if_icmp .gt off, 3)) (hc : ¬ y < x) (k : W p l e R s m args below meth c H locs cells slots Q (F0 m (pc + 3) ls rest)) : W p l e R s m args below meth c H locs cells slots Q (F0 m pc ls (.int y :: .int x :: rest)) := by
  intro T hT X
  obtain ⟨t, a, b⟩ := k T hT X
  refine ⟨t, ?_, b⟩
  jvm_step X.here [X.here.top, hx, hb, hdg, Op.if_icmp.holds, hc]
  exact a
theorem ak_nn_if_le (hx : p.tables.exec = Jvm.exec) (hb : c.code = cc) {x : Int32} {off : Int} (hdg : decode cc pc = .ok (.ifCond .le off, 3)) (hc : ¬ x ≤ 0) (k : W p l e R s m args below meth c H locs cells slots Q (F0 m (pc + 3) ls rest)) : W p l e R s m args below meth c H locs cells slots Q (F0 m pc ls (.int x :: rest)) := by
  intro T hT X
  obtain ⟨t, a, b⟩ := k T hT X
  refine ⟨t, ?_, b⟩
  jvm_step X.here [X.here.top, hx, hb, hdg, Op.ifCond.holds, hc]
  exact a
theorem ak_nn_icmp_le (hx : p.tables.exec = Jvm.exec) (hb : c.code = cc) {x y : Int32} {off : Int} (hdg : decode cc pc = .ok (.if_icmp .le off, 3)) (hc : ¬ x ≤ y) (k : W p l e R s m args below meth c H locs cells slots Q (F0 m (pc + 3) ls rest)) : W p l e R s m args below meth c H locs cells slots Q (F0 m pc ls (.int y :: .int x :: rest)) := by
  intro T hT X
  obtain ⟨t, a, b⟩ := k T hT X
  refine ⟨t, ?_, b⟩
  jvm_step X.here [X.here.top, hx, hb, hdg, Op.if_icmp.holds, hc]
  exact a
theorem ak_t_if_eq (hx : p.tables.exec = Jvm.exec) (hb : c.code = cc) {x : Int32} {off : Int} (hdg : decode cc pc = .ok (.ifCond .eq off, 3)) (hc : x = 0) (ht : (pc : Int) + off = Int.ofNat t) (k : W p l e R s m args below meth c H locs cells slots Q (F0 m t ls rest)) : W p l e R s m args below meth c H locs cells slots Q (F0 m pc ls (.int x :: rest)) := lv_if_eq hx hb hdg ht (fun _ => k) (fun z => absurd hc z)
theorem ak_n_if_eq (hx : p.tables.exec = Jvm.exec) (hb : c.code = cc) {x : Int32} {off : Int} (hdg : decode cc pc = .ok (.ifCond .eq off, 3)) (hc : ¬ x = 0) (ht : ((pc + 3 : Nat) : Int) = Int.ofNat t) (k : W p l e R s m args below meth c H locs cells slots Q (F0 m t ls rest)) : W p l e R s m args below meth c H locs cells slots Q (F0 m pc ls (.int x :: rest)) := by
  obtain rfl : pc + 3 = t := Int.ofNat.inj ht
  exact ak_nn_if_eq hx hb hdg hc k
theorem ak_t_icmp_eq (hx : p.tables.exec = Jvm.exec) (hb : c.code = cc) {x y : Int32} {off : Int} (hdg : decode cc pc = .ok (.if_icmp .eq off, 3)) (hc : x = y) (ht : (pc : Int) + off = Int.ofNat t) (k : W p l e R s m args below meth c H locs cells slots Q (F0 m t ls rest)) : W p l e R s m args below meth c H locs cells slots Q (F0 m pc ls (.int y :: .int x :: rest)) := lv_icmp_eq hx hb hdg ht (fun _ => k) (fun z => absurd hc z)
theorem ak_n_icmp_eq (hx : p.tables.exec = Jvm.exec) (hb : c.code = cc) {x y : Int32} {off : Int} (hdg : decode cc pc = .ok (.if_icmp .eq off, 3)) (hc : ¬ x = y) (ht : ((pc + 3 : Nat) : Int) = Int.ofNat t) (k : W p l e R s m args below meth c H locs cells slots Q (F0 m t ls rest)) : W p l e R s m args below meth c H locs cells slots Q (F0 m pc ls (.int y :: .int x :: rest)) := by
  obtain rfl : pc + 3 = t := Int.ofNat.inj ht
  exact ak_nn_icmp_eq hx hb hdg hc k
theorem ak_t_if_ne (hx : p.tables.exec = Jvm.exec) (hb : c.code = cc) {x : Int32} {off : Int} (hdg : decode cc pc = .ok (.ifCond .ne off, 3)) (hc : ¬ x = 0) (ht : (pc : Int) + off = Int.ofNat t) (k : W p l e R s m args below meth c H locs cells slots Q (F0 m t ls rest)) : W p l e R s m args below meth c H locs cells slots Q (F0 m pc ls (.int x :: rest)) := lv_if_ne hx hb hdg ht (fun _ => k) (fun z => absurd z hc)
theorem ak_n_if_ne (hx : p.tables.exec = Jvm.exec) (hb : c.code = cc) {x : Int32} {off : Int} (hdg : decode cc pc = .ok (.ifCond .ne off, 3)) (hc : x = 0) (ht : ((pc + 3 : Nat) : Int) = Int.ofNat t) (k : W p l e R s m args below meth c H locs cells slots Q (F0 m t ls rest)) : W p l e R s m args below meth c H locs cells slots Q (F0 m pc ls (.int x :: rest)) := by
  obtain rfl : pc + 3 = t := Int.ofNat.inj ht
  exact ak_nn_if_ne hx hb hdg hc k
theorem ak_t_icmp_ne (hx : p.tables.exec = Jvm.exec) (hb : c.code = cc) {x y : Int32} {off : Int} (hdg : decode cc pc = .ok (.if_icmp .ne off, 3)) (hc : ¬ x = y) (ht : (pc : Int) + off = Int.ofNat t) (k : W p l e R s m args below meth c H locs cells slots Q (F0 m t ls rest)) : W p l e R s m args below meth c H locs cells slots Q (F0 m pc ls (.int y :: .int x :: rest)) := lv_icmp_ne hx hb hdg ht (fun _ => k) (fun z => absurd z hc)
theorem ak_n_icmp_ne (hx : p.tables.exec = Jvm.exec) (hb : c.code = cc) {x y : Int32} {off : Int} (hdg : decode cc pc = .ok (.if_icmp .ne off, 3)) (hc : x = y) (ht : ((pc + 3 : Nat) : Int) = Int.ofNat t) (k : W p l e R s m args below meth c H locs cells slots Q (F0 m t ls rest)) : W p l e R s m args below meth c H locs cells slots Q (F0 m pc ls (.int y :: .int x :: rest)) := by
  obtain rfl : pc + 3 = t := Int.ofNat.inj ht
  exact ak_nn_icmp_ne hx hb hdg hc k
theorem ak_t_if_lt (hx : p.tables.exec = Jvm.exec) (hb : c.code = cc) {x : Int32} {off : Int} (hdg : decode cc pc = .ok (.ifCond .lt off, 3)) (hc : x < 0) (ht : (pc : Int) + off = Int.ofNat t) (k : W p l e R s m args below meth c H locs cells slots Q (F0 m t ls rest)) : W p l e R s m args below meth c H locs cells slots Q (F0 m pc ls (.int x :: rest)) := lv_if_lt hx hb hdg ht (fun _ => k) (fun z => absurd hc z)
theorem ak_n_if_lt (hx : p.tables.exec = Jvm.exec) (hb : c.code = cc) {x : Int32} {off : Int} (hdg : decode cc pc = .ok (.ifCond .lt off, 3)) (hc : ¬ x < 0) (ht : ((pc + 3 : Nat) : Int) = Int.ofNat t) (k : W p l e R s m args below meth c H locs cells slots Q (F0 m t ls rest)) : W p l e R s m args below meth c H locs cells slots Q (F0 m pc ls (.int x :: rest)) := by
  obtain rfl : pc + 3 = t := Int.ofNat.inj ht
  exact ak_nn_if_lt hx hb hdg hc k
theorem ak_t_icmp_lt (hx : p.tables.exec = Jvm.exec) (hb : c.code = cc) {x y : Int32} {off : Int} (hdg : decode cc pc = .ok (.if_icmp .lt off, 3)) (hc : x < y) (ht : (pc : Int) + off = Int.ofNat t) (k : W p l e R s m args below meth c H locs cells slots Q (F0 m t ls rest)) : W p l e R s m args below meth c H locs cells slots Q (F0 m pc ls (.int y :: .int x :: rest)) := lv_icmp_lt hx hb hdg ht (fun _ => k) (fun z => absurd hc z)
theorem ak_n_icmp_lt (hx : p.tables.exec = Jvm.exec) (hb : c.code = cc) {x y : Int32} {off : Int} (hdg : decode cc pc = .ok (.if_icmp .lt off, 3)) (hc : ¬ x < y) (ht : ((pc + 3 : Nat) : Int) = Int.ofNat t) (k : W p l e R s m args below meth c H locs cells slots Q (F0 m t ls rest)) : W p l e R s m args below meth c H locs cells slots Q (F0 m pc ls (.int y :: .int x :: rest)) := by
  obtain rfl : pc + 3 = t := Int.ofNat.inj ht
  exact ak_nn_icmp_lt hx hb hdg hc k
theorem ak_t_if_ge (hx : p.tables.exec = Jvm.exec) (hb : c.code = cc) {x : Int32} {off : Int} (hdg : decode cc pc = .ok (.ifCond .ge off, 3)) (hc : 0 ≤ x) (ht : (pc : Int) + off = Int.ofNat t) (k : W p l e R s m args below meth c H locs cells slots Q (F0 m t ls rest)) : W p l e R s m args below meth c H locs cells slots Q (F0 m pc ls (.int x :: rest)) := lv_if_ge hx hb hdg ht (fun _ => k) (fun z => absurd hc z)
theorem ak_n_if_ge (hx : p.tables.exec = Jvm.exec) (hb : c.code = cc) {x : Int32} {off : Int} (hdg : decode cc pc = .ok (.ifCond .ge off, 3)) (hc : ¬ 0 ≤ x) (ht : ((pc + 3 : Nat) : Int) = Int.ofNat t) (k : W p l e R s m args below meth c H locs cells slots Q (F0 m t ls rest)) : W p l e R s m args below meth c H locs cells slots Q (F0 m pc ls (.int x :: rest)) := by
  obtain rfl : pc + 3 = t := Int.ofNat.inj ht
  exact ak_nn_if_ge hx hb hdg hc k
theorem ak_t_icmp_ge (hx : p.tables.exec = Jvm.exec) (hb : c.code = cc) {x y : Int32} {off : Int} (hdg : decode cc pc = .ok (.if_icmp .ge off, 3)) (hc : y ≤ x) (ht : (pc : Int) + off = Int.ofNat t) (k : W p l e R s m args below meth c H locs cells slots Q (F0 m t ls rest)) : W p l e R s m args below meth c H locs cells slots Q (F0 m pc ls (.int y :: .int x :: rest)) := lv_icmp_ge hx hb hdg ht (fun _ => k) (fun z => absurd hc z)
theorem ak_n_icmp_ge (hx : p.tables.exec = Jvm.exec) (hb : c.code = cc) {x y : Int32} {off : Int} (hdg : decode cc pc = .ok (.if_icmp .ge off, 3)) (hc : ¬ y ≤ x) (ht : ((pc + 3 : Nat) : Int) = Int.ofNat t) (k : W p l e R s m args below meth c H locs cells slots Q (F0 m t ls rest)) : W p l e R s m args below meth c H locs cells slots Q (F0 m pc ls (.int y :: .int x :: rest)) := by
  obtain rfl : pc + 3 = t := Int.ofNat.inj ht
  exact ak_nn_icmp_ge hx hb hdg hc k
theorem ak_t_if_gt (hx : p.tables.exec = Jvm.exec) (hb : c.code = cc) {x : Int32} {off : Int} (hdg : decode cc pc = .ok (.ifCond .gt off, 3)) (hc : 0 < x) (ht : (pc : Int) + off = Int.ofNat t) (k : W p l e R s m args below meth c H locs cells slots Q (F0 m t ls rest)) : W p l e R s m args below meth c H locs cells slots Q (F0 m pc ls (.int x :: rest)) := lv_if_gt hx hb hdg ht (fun _ => k) (fun z => absurd hc z)
theorem ak_n_if_gt (hx : p.tables.exec = Jvm.exec) (hb : c.code = cc) {x : Int32} {off : Int} (hdg : decode cc pc = .ok (.ifCond .gt off, 3)) (hc : ¬ 0 < x) (ht : ((pc + 3 : Nat) : Int) = Int.ofNat t) (k : W p l e R s m args below meth c H locs cells slots Q (F0 m t ls rest)) : W p l e R s m args below meth c H locs cells slots Q (F0 m pc ls (.int x :: rest)) := by
  obtain rfl : pc + 3 = t := Int.ofNat.inj ht
  exact ak_nn_if_gt hx hb hdg hc k
theorem ak_t_icmp_gt (hx : p.tables.exec = Jvm.exec) (hb : c.code = cc) {x y : Int32} {off : Int} (hdg : decode cc pc = .ok (.if_icmp .gt off, 3)) (hc : y < x) (ht : (pc : Int) + off = Int.ofNat t) (k : W p l e R s m args below meth c H locs cells slots Q (F0 m t ls rest)) : W p l e R s m args below meth c H locs cells slots Q (F0 m pc ls (.int y :: .int x :: rest)) := lv_icmp_gt hx hb hdg ht (fun _ => k) (fun z => absurd hc z)
theorem ak_n_icmp_gt (hx : p.tables.exec = Jvm.exec) (hb : c.code = cc) {x y : Int32} {off : Int} (hdg : decode cc pc = .ok (.if_icmp .gt off, 3)) (hc : ¬ y < x) (ht : ((pc + 3 : Nat) : Int) = Int.ofNat t) (k : W p l e R s m args below meth c H locs cells slots Q (F0 m t ls rest)) : W p l e R s m args below meth c H locs cells slots Q (F0 m pc ls (.int y :: .int x :: rest)) := by
  obtain rfl : pc + 3 = t := Int.ofNat.inj ht
  exact ak_nn_icmp_gt hx hb hdg hc k
theorem ak_t_if_le (hx : p.tables.exec = Jvm.exec) (hb : c.code = cc) {x : Int32} {off : Int} (hdg : decode cc pc = .ok (.ifCond .le off, 3)) (hc : x ≤ 0) (ht : (pc : Int) + off = Int.ofNat t) (k : W p l e R s m args below meth c H locs cells slots Q (F0 m t ls rest)) : W p l e R s m args below meth c H locs cells slots Q (F0 m pc ls (.int x :: rest)) := lv_if_le hx hb hdg ht (fun _ => k) (fun z => absurd hc z)
theorem ak_n_if_le (hx : p.tables.exec = Jvm.exec) (hb : c.code = cc) {x : Int32} {off : Int} (hdg : decode cc pc = .ok (.ifCond .le off, 3)) (hc : ¬ x ≤ 0) (ht : ((pc + 3 : Nat) : Int) = Int.ofNat t) (k : W p l e R s m args below meth c H locs cells slots Q (F0 m t ls rest)) : W p l e R s m args below meth c H locs cells slots Q (F0 m pc ls (.int x :: rest)) := by
  obtain rfl : pc + 3 = t := Int.ofNat.inj ht
  exact ak_nn_if_le hx hb hdg hc k
theorem ak_t_icmp_le (hx : p.tables.exec = Jvm.exec) (hb : c.code = cc) {x y : Int32} {off : Int} (hdg : decode cc pc = .ok (.if_icmp .le off, 3)) (hc : x ≤ y) (ht : (pc : Int) + off = Int.ofNat t) (k : W p l e R s m args below meth c H locs cells slots Q (F0 m t ls rest)) : W p l e R s m args below meth c H locs cells slots Q (F0 m pc ls (.int y :: .int x :: rest)) := lv_icmp_le hx hb hdg ht (fun _ => k) (fun z => absurd hc z)
theorem ak_n_icmp_le (hx : p.tables.exec = Jvm.exec) (hb : c.code = cc) {x y : Int32} {off : Int} (hdg : decode cc pc = .ok (.if_icmp .le off, 3)) (hc : ¬ x ≤ y) (ht : ((pc + 3 : Nat) : Int) = Int.ofNat t) (k : W p l e R s m args below meth c H locs cells slots Q (F0 m t ls rest)) : W p l e R s m args below meth c H locs cells slots Q (F0 m pc ls (.int y :: .int x :: rest)) := by
  obtain rfl : pc + 3 = t := Int.ofNat.inj ht
  exact ak_nn_icmp_le hx hb hdg hc k
end AKB
/-! the small machine's steps are the bytecode's: instructions of the stack, of locals, branches -/
def ak_tys (E : ak_E) : List (ClassId × FieldType) := [(E.2.1 0, .int), (E.2.1 1, .boolean), (E.2.1 2, .object RX10), (E.2.1 3, .object RX3), (E.2.1 4, .object RX7)]
/-- what holds through a frame of a method -/
def ak_C (E : ak_E) (Z : ak_Z) (p : Program) (s : State) (m : MethodId) (args : Array Value) (meth : Method) (c : Code) (q : ak_Q) : Prop :=
  p.tables.exec = Jvm.exec ∧ c.code = q.2.1 ∧ c.maxLocals = q.2.2.1 ∧ s.vm.findClass q.1.cls = some m.cls ∧ (∀ w ∈ ak_Ts, w.before args s = true) ∧ va_K E.1 vwCl (ak_tys E) s ∧ ak_G E Z s s.heap ∧ E.2.2.1 ≤ s.heap.size ∧ ((q.1.name == "<init>") = true → meth.name = "<init>")
/-- our cells, as the machine's heap has them -/
def ak_J (E : ak_E) (s : State) (h : ak_H) (H : Heap) (locs : List Loc) : Prop := (h.1.length < ak_N0 → H.size = E.2.2.1 + h.1.length) ∧ h.1.length ≤ ak_N0 ∧ va_P E.1 vwCl (ak_ws E h) H ∧ va_S (fun a => E.2.2.1 ≤ a) s.heap H locs
section AKS
variable {p : Program} {l : Launch} {e : Env} {R : Room} {s : State} {m : MethodId} {args : Array Value} {below : List Frame} {meth : Method} {c : Code} {H : Heap} {locs : List Loc} {cells slots : Nat} {Q : State → Prop}
variable {pc w : Nat} {ls : Array Slot} {E : ak_E} {Z : ak_Z} {q : ak_Q} {ins : Instr} {x : ak_X}
set_option maxHeartbeats 4000000 in
theorem ak_stk_ok (C : ak_C E Z p s m args meth c q) (hdg : decode q.2.1 pc = .ok (ins, w)) (hwd : ak_wd ins w = true) (hok : ∀ i, ak_idx ins = some i → ak_okr q.1.cls i x) {S S' : List Value} (h : ak_stk ins x S = some S')
    (k : W p l e R s m args below meth c H locs cells slots Q (F0 m (pc + w) ls (S'.map (ak_cv E)))) : W p l e R s m args below meth c H locs cells slots Q (F0 m pc ls (S.map (ak_cv E))) := by
  obtain ⟨hx, hb, hml, hown, hts, hK, hG, hbs, hini⟩ := C
  cases ins
  case iconst n =>
    obtain rfl : w = 1 := by simpa [ak_wd] using hwd
    cases h
    exact lv_iconst hx hb hdg rfl k
  case bipush n =>
    obtain rfl : w = 2 := by simpa [ak_wd] using hwd
    cases h
    exact lv_bipush hx hb hdg rfl k
  case sipush n =>
    obtain rfl : w = 3 := by simpa [ak_wd] using hwd
    cases h
    exact lv_sipush hx hb hdg rfl k
  case lconst n =>
    obtain rfl : w = 1 := by simpa [ak_wd] using hwd
    cases h
    exact lv_lconst hx hb hdg rfl k
  case ldc i =>
    obtain rfl : w = 2 := by simpa [ak_wd] using hwd
    have ho := hok i rfl
    simp only [ak_stk] at h
    split at h
    · cases h
      exact lv_ldc hx hb hown (hts _ ho) hdg k
    · rename_i kk _ _
      cases h
      obtain ⟨ho1, tx, ho2⟩ := ho
      refine va_ldcS hx hb (own := q.1.cls) hown (by rw [ho1]; exact hG.2.2.2.1 _ _ _ ho2) hdg ?_
      have e : ak_cv E (.ref (1000000 + kk)) = .ref (E.2.2.2.1 (1000000 + kk)) := by
        show Value.ref (ak_ad E (1000000 + kk)) = _
        unfold ak_ad
        rw [if_neg (by omega)]
      rw [← e]
      exact k
    · cases h
  case ldc_w i =>
    obtain rfl : w = 3 := by simpa [ak_wd] using hwd
    have ho := hok i rfl
    simp only [ak_stk] at h
    split at h
    · cases h
      exact lv_ldcw hx hb hown (hts _ ho) hdg k
    · cases h
  case ldc2_w i =>
    obtain rfl : w = 3 := by simpa [ak_wd] using hwd
    have ho := hok i rfl
    simp only [ak_stk] at h
    split at h
    · cases h
      exact lv_ldc2 hx hb hown (hts _ ho) hdg k
    · cases h
  case iadd =>
    obtain rfl : w = 1 := by simpa [ak_wd] using hwd
    simp only [ak_stk] at h
    split at h
    · cases h
      exact lv_iadd hx hb hdg k
    · cases h
  case isub =>
    obtain rfl : w = 1 := by simpa [ak_wd] using hwd
    simp only [ak_stk] at h
    split at h
    · cases h
      exact lv_isub hx hb hdg k
    · cases h
  case imul =>
    obtain rfl : w = 1 := by simpa [ak_wd] using hwd
    simp only [ak_stk] at h
    split at h
    · cases h
      exact lv_imul hx hb hdg k
    · cases h
  case iand =>
    obtain rfl : w = 1 := by simpa [ak_wd] using hwd
    simp only [ak_stk] at h
    split at h
    · cases h
      exact lv_iand hx hb hdg k
    · cases h
  case ior =>
    obtain rfl : w = 1 := by simpa [ak_wd] using hwd
    simp only [ak_stk] at h
    split at h
    · cases h
      exact lv_ior hx hb hdg k
    · cases h
  case ixor =>
    obtain rfl : w = 1 := by simpa [ak_wd] using hwd
    simp only [ak_stk] at h
    split at h
    · cases h
      exact lv_ixor hx hb hdg k
    · cases h
  case ineg =>
    obtain rfl : w = 1 := by simpa [ak_wd] using hwd
    simp only [ak_stk] at h
    split at h
    · cases h
      exact lv_ineg hx hb hdg k
    · cases h
  case ishl =>
    obtain rfl : w = 1 := by simpa [ak_wd] using hwd
    simp only [ak_stk] at h
    split at h
    · cases h
      exact lv_ishl hx hb hdg k
    · cases h
  case ishr =>
    obtain rfl : w = 1 := by simpa [ak_wd] using hwd
    simp only [ak_stk] at h
    split at h
    · cases h
      exact lv_ishr hx hb hdg k
    · cases h
  case ladd =>
    obtain rfl : w = 1 := by simpa [ak_wd] using hwd
    simp only [ak_stk] at h
    split at h
    · cases h
      exact lv_ladd hx hb hdg k
    · cases h
  case lsub =>
    obtain rfl : w = 1 := by simpa [ak_wd] using hwd
    simp only [ak_stk] at h
    split at h
    · cases h
      exact lv_lsub hx hb hdg k
    · cases h
  case lmul =>
    obtain rfl : w = 1 := by simpa [ak_wd] using hwd
    simp only [ak_stk] at h
    split at h
    · cases h
      exact lv_lmul hx hb hdg k
    · cases h
  case lcmp =>
    obtain rfl : w = 1 := by simpa [ak_wd] using hwd
    simp only [ak_stk] at h
    split at h
    · cases h
      exact W.lcmp hx hb hdg k
    · cases h
  case iushr =>
    obtain rfl : w = 1 := by simpa [ak_wd] using hwd
    simp only [ak_stk] at h
    split at h
    · cases h
      exact lv_iushr hx hb hdg rfl k
    · cases h
  case i2l =>
    obtain rfl : w = 1 := by simpa [ak_wd] using hwd
    simp only [ak_stk] at h
    split at h
    · cases h
      exact lv_i2l hx hb hdg rfl k
    · cases h
  case l2i =>
    obtain rfl : w = 1 := by simpa [ak_wd] using hwd
    simp only [ak_stk] at h
    split at h
    · cases h
      exact lv_l2i hx hb hdg rfl k
    · cases h
  case i2b =>
    obtain rfl : w = 1 := by simpa [ak_wd] using hwd
    simp only [ak_stk] at h
    split at h
    · cases h
      exact lv_i2b hx hb hdg rfl k
    · cases h
  case i2s =>
    obtain rfl : w = 1 := by simpa [ak_wd] using hwd
    simp only [ak_stk] at h
    split at h
    · cases h
      exact lv_i2s hx hb hdg rfl k
    · cases h
  case i2c =>
    obtain rfl : w = 1 := by simpa [ak_wd] using hwd
    simp only [ak_stk] at h
    split at h
    · cases h
      exact lv_i2c hx hb hdg rfl k
    · cases h
  case idiv =>
    obtain rfl : w = 1 := by simpa [ak_wd] using hwd
    simp only [ak_stk] at h
    split at h
    · split at h
      · cases h
      · rename_i hne
        cases h
        exact lv_idiv hx hb hdg hne k
    · cases h
  case irem =>
    obtain rfl : w = 1 := by simpa [ak_wd] using hwd
    simp only [ak_stk] at h
    split at h
    · split at h
      · cases h
      · rename_i hne
        cases h
        exact lv_irem hx hb hdg hne k
    · cases h
  case ldiv =>
    obtain rfl : w = 1 := by simpa [ak_wd] using hwd
    simp only [ak_stk] at h
    split at h
    · split at h
      · cases h
      · rename_i hne
        cases h
        exact lv_ldiv hx hb hdg hne k
    · cases h
  case lrem =>
    obtain rfl : w = 1 := by simpa [ak_wd] using hwd
    simp only [ak_stk] at h
    split at h
    · split at h
      · cases h
      · rename_i hne
        cases h
        exact lv_lrem hx hb hdg hne k
    · cases h
  case dup =>
    obtain rfl : w = 1 := by simpa [ak_wd] using hwd
    simp only [ak_stk] at h
    split at h
    · cases h
      exact lv_dup hx hb hdg rfl k
    · cases h
      exact lv_dup hx hb hdg rfl k
    · cases h
  case pop =>
    obtain rfl : w = 1 := by simpa [ak_wd] using hwd
    simp only [ak_stk] at h
    split at h
    · cases h
      exact lv_pop hx hb (va := .int _) hdg rfl k
    · cases h
  case dup2 =>
    obtain rfl : w = 1 := by simpa [ak_wd] using hwd
    simp only [ak_stk] at h
    split at h
    · cases h
      exact lv_dup2_11 hx hb hdg rfl rfl k
    · cases h
  all_goals (exact absurd h (by simp [ak_stk]))
theorem ak_ldi_ok {L : ak_L} {k : Nat} {S S' : List Value} (h : ak_ldi L k S = some S') : ∃ v, L[k]? = some (some (.int v)) ∧ S' = .int v :: S := by
  unfold ak_ldi at h
  split at h
  · rename_i v e
    cases h
    exact ⟨v, e, rfl⟩
  · cases h
theorem ak_ldl_ok {L : ak_L} {k : Nat} {S S' : List Value} (h : ak_ldl L k S = some S') : ∃ v, L[k]? = some (some (.long v)) ∧ S' = .long v :: S := by
  unfold ak_ldl at h
  split at h
  · rename_i v e
    cases h
    exact ⟨v, e, rfl⟩
  · cases h
theorem ak_lda_ok {L : ak_L} {k : Nat} {S S' : List Value} (h : ak_lda L k S = some S') : ∃ v, L[k]? = some (some (.ref v)) ∧ S' = .ref v :: S := by
  unfold ak_lda at h
  split at h
  · rename_i v e
    cases h
    exact ⟨v, e, rfl⟩
  · cases h
set_option maxHeartbeats 4000000 in
theorem ak_load_ok (C : ak_C E Z p s m args meth c q) (hdg : decode q.2.1 pc = .ok (ins, w)) (hwd : ak_wd ins w = true) {L : ak_L} (hl : ak_ls E ls q.2.2.1 L) {S S' : List Value} (h : ak_load ins L S = some S')
    (k : W p l e R s m args below meth c H locs cells slots Q (F0 m (pc + w) ls (S'.map (ak_cv E)))) : W p l e R s m args below meth c H locs cells slots Q (F0 m pc ls (S.map (ak_cv E))) := by
  obtain ⟨hx, hb, hml, hown, hts, hK, hG, hbs, hini⟩ := C
  cases ins
  case iload_n i =>
    obtain rfl : w = 1 := by simpa [ak_wd] using hwd
    simp only [ak_load] at h
    obtain ⟨v, hv, rfl⟩ := ak_ldi_ok h
    exact lv_iload_n hx hb hdg rfl (ak_ls_at hl hv) k
  case iload i =>
    obtain rfl : w = 2 := by simpa [ak_wd] using hwd
    simp only [ak_load] at h
    obtain ⟨v, hv, rfl⟩ := ak_ldi_ok h
    exact lv_iload hx hb hdg (ak_ls_at hl hv) k
  case lload_n i =>
    obtain rfl : w = 1 := by simpa [ak_wd] using hwd
    simp only [ak_load] at h
    obtain ⟨v, hv, rfl⟩ := ak_ldl_ok h
    exact lv_lload_n hx hb hdg rfl (ak_ls_at hl hv) k
  case lload i =>
    obtain rfl : w = 2 := by simpa [ak_wd] using hwd
    simp only [ak_load] at h
    obtain ⟨v, hv, rfl⟩ := ak_ldl_ok h
    exact lv_lload hx hb hdg (ak_ls_at hl hv) k
  case aload_n i =>
    obtain rfl : w = 1 := by simpa [ak_wd] using hwd
    simp only [ak_load] at h
    obtain ⟨v, hv, rfl⟩ := ak_lda_ok h
    exact lv_aload_n hx hb hdg rfl (ak_ls_at hl hv) k
  case aload i =>
    obtain rfl : w = 2 := by simpa [ak_wd] using hwd
    simp only [ak_load] at h
    obtain ⟨v, hv, rfl⟩ := ak_lda_ok h
    exact lv_aload hx hb hdg (ak_ls_at hl hv) k
  all_goals (exact absurd h (by simp [ak_load]))
theorem ak_stoi_ok {L : ak_L} {k : Nat} {S : List Value} {t : ak_L × List Value} (h : ak_stoi L k S = some t) : ∃ v, S = .int v :: t.2 ∧ ak_st1 L k (.int v) = some t.1 := by
  unfold ak_stoi at h
  split at h
  · rename_i v r
    cases hs : ak_st1 L k (.int v) with
    | none => rw [hs] at h; cases h
    | some l => rw [hs] at h; cases h; exact ⟨v, rfl, hs⟩
  · cases h
theorem ak_stol_ok {L : ak_L} {k : Nat} {S : List Value} {t : ak_L × List Value} (h : ak_stol L k S = some t) : ∃ v, S = .long v :: t.2 ∧ ak_st2 L k (.long v) = some t.1 := by
  unfold ak_stol at h
  split at h
  · rename_i v r
    cases hs : ak_st2 L k (.long v) with
    | none => rw [hs] at h; cases h
    | some l => rw [hs] at h; cases h; exact ⟨v, rfl, hs⟩
  · cases h
theorem ak_stoa_ok {L : ak_L} {k : Nat} {S : List Value} {t : ak_L × List Value} (h : ak_stoa L k S = some t) : ∃ v, S = .ref v :: t.2 ∧ ak_st1 L k (.ref v) = some t.1 := by
  unfold ak_stoa at h
  split at h
  · rename_i v r
    cases hs : ak_st1 L k (.ref v) with
    | none => rw [hs] at h; cases h
    | some l => rw [hs] at h; cases h; exact ⟨v, rfl, hs⟩
  · cases h
set_option maxHeartbeats 4000000 in
theorem ak_store_ok (C : ak_C E Z p s m args meth c q) (hdg : decode q.2.1 pc = .ok (ins, w)) (hwd : ak_wd ins w = true) {L : ak_L} (hl : ak_ls E ls q.2.2.1 L) {S : List Value} {t : ak_L × List Value} (h : ak_store ins L S = some t)
    (k : ∀ ls' : Array Slot, ak_ls E ls' q.2.2.1 t.1 → W p l e R s m args below meth c H locs cells slots Q (F0 m (pc + w) ls' (t.2.map (ak_cv E)))) : W p l e R s m args below meth c H locs cells slots Q (F0 m pc ls (S.map (ak_cv E))) := by
  obtain ⟨hx, hb, hml, hown, hts, hK, hG, hbs, hini⟩ := C
  have hz : E.2.2.2.2.category = 1 := hG.2.2.2.2.2.2.2
  cases ins
  case istore_n i =>
    obtain rfl : w = 1 := by simpa [ak_wd] using hwd
    simp only [ak_store] at h
    obtain ⟨v, rfl, hs⟩ := ak_stoi_ok h
    obtain ⟨g1, g2, g3⟩ := ak_st1_ok hz hs
    exact lv_istore_n hx hb hdg rfl hl.1 (by rw [← hl.2]; exact g1) rfl (fun ls' h' => k ls' (ak_ls_of h' (g2.trans hl.2) g3))
  case istore i =>
    obtain rfl : w = 2 := by simpa [ak_wd] using hwd
    simp only [ak_store] at h
    obtain ⟨v, rfl, hs⟩ := ak_stoi_ok h
    obtain ⟨g1, g2, g3⟩ := ak_st1_ok hz hs
    exact lv_istore hx hb hdg hl.1 (by rw [← hl.2]; exact g1) rfl (fun ls' h' => k ls' (ak_ls_of h' (g2.trans hl.2) g3))
  case lstore_n i =>
    obtain rfl : w = 1 := by simpa [ak_wd] using hwd
    simp only [ak_store] at h
    obtain ⟨v, rfl, hs⟩ := ak_stol_ok h
    obtain ⟨g1, g2, g3⟩ := ak_st2_ok hz hs
    exact lv_lstore_n hx hb hdg rfl hl.1 (by rw [← hl.2]; exact g1) rfl (fun ls' h' => k ls' (ak_ls_of h' (g2.trans hl.2) g3))
  case lstore i =>
    obtain rfl : w = 2 := by simpa [ak_wd] using hwd
    simp only [ak_store] at h
    obtain ⟨v, rfl, hs⟩ := ak_stol_ok h
    obtain ⟨g1, g2, g3⟩ := ak_st2_ok hz hs
    exact lv_lstore hx hb hdg hl.1 (by rw [← hl.2]; exact g1) rfl (fun ls' h' => k ls' (ak_ls_of h' (g2.trans hl.2) g3))
  case astore_n i =>
    obtain rfl : w = 1 := by simpa [ak_wd] using hwd
    simp only [ak_store] at h
    obtain ⟨v, rfl, hs⟩ := ak_stoa_ok h
    obtain ⟨g1, g2, g3⟩ := ak_st1_ok hz hs
    exact lv_astore_n hx hb hdg rfl hl.1 (by rw [← hl.2]; exact g1) rfl (fun ls' h' => k ls' (ak_ls_of h' (g2.trans hl.2) g3))
  case astore i =>
    obtain rfl : w = 2 := by simpa [ak_wd] using hwd
    simp only [ak_store] at h
    obtain ⟨v, rfl, hs⟩ := ak_stoa_ok h
    obtain ⟨g1, g2, g3⟩ := ak_st1_ok hz hs
    exact lv_astore hx hb hdg hl.1 (by rw [← hl.2]; exact g1) rfl (fun ls' h' => k ls' (ak_ls_of h' (g2.trans hl.2) g3))
  case iinc i n =>
    obtain rfl : w = 3 := by simpa [ak_wd] using hwd
    simp only [ak_store] at h
    split at h
    · rename_i v e
      cases hs : ak_st1 L i (.int (v + Int32.ofInt n)) with
      | none => rw [hs] at h; cases h
      | some l' =>
        rw [hs] at h
        cases h
        obtain ⟨g1, g2, g3⟩ := ak_st1_ok hz hs
        have hin := ak_fl_in (E := E) (i := 0) e
        rw [Nat.zero_add] at hin
        obtain ⟨kk, hkk⟩ := List.getElem?_of_mem hin
        exact lv_iinc hx hb hdg hl.1 hkk rfl (by rw [← hl.2]; exact g1) rfl (fun ls' h' => k ls' (ak_ls_of h' (g2.trans hl.2) g3))
    · cases h
  all_goals (exact absurd h (by simp [ak_store]))
set_option maxHeartbeats 4000000 in
theorem ak_jump_ok (C : ak_C E Z p s m args meth c q) (hdg : decode q.2.1 pc = .ok (ins, w)) (hwd : ak_wd ins w = true) {S : List Value} {t : Nat} {S' : List Value} (h : ak_jump ins w pc S = some (.ofNat t, S'))
    (k : W p l e R s m args below meth c H locs cells slots Q (F0 m t ls (S'.map (ak_cv E)))) : W p l e R s m args below meth c H locs cells slots Q (F0 m pc ls (S.map (ak_cv E))) := by
  obtain ⟨hx, hb, hml, hown, hts, hK, hG, hbs, hini⟩ := C
  cases ins
  case goto off =>
    obtain rfl : w = 3 := by simpa [ak_wd] using hwd
    simp only [ak_jump, Option.some.injEq, Prod.mk.injEq] at h
    obtain ⟨h1, rfl⟩ := h
    exact lv_goto hx hb hdg h1 k
  case ifCond cnd off =>
    obtain rfl : w = 3 := by simpa [ak_wd] using hwd
    simp only [ak_jump] at h
    split at h
    · rename_i a r
      simp only [Option.some.injEq, Prod.mk.injEq] at h
      obtain ⟨h1, rfl⟩ := h
      cases cnd
      case eq =>
        by_cases hc : a = 0
        · have h2 : (pc : Int) + off = Int.ofNat t := by simpa [ak_cnd, hc] using h1
          exact ak_t_if_eq hx hb hdg hc h2 k
        · have h2 : ((pc + 3 : Nat) : Int) = Int.ofNat t := by simpa [ak_cnd, hc] using h1
          exact ak_n_if_eq hx hb hdg hc h2 k
      case ne =>
        by_cases hc : a = 0
        · have h2 : ((pc + 3 : Nat) : Int) = Int.ofNat t := by simpa [ak_cnd, hc] using h1
          exact ak_n_if_ne hx hb hdg hc h2 k
        · have h2 : (pc : Int) + off = Int.ofNat t := by simpa [ak_cnd, hc] using h1
          exact ak_t_if_ne hx hb hdg hc h2 k
      case lt =>
        by_cases hc : a < 0
        · have h2 : (pc : Int) + off = Int.ofNat t := by simpa [ak_cnd, hc] using h1
          exact ak_t_if_lt hx hb hdg hc h2 k
        · have h2 : ((pc + 3 : Nat) : Int) = Int.ofNat t := by simpa [ak_cnd, hc] using h1
          exact ak_n_if_lt hx hb hdg hc h2 k
      case ge =>
        by_cases hc : 0 ≤ a
        · have h2 : (pc : Int) + off = Int.ofNat t := by simpa [ak_cnd, hc] using h1
          exact ak_t_if_ge hx hb hdg hc h2 k
        · have h2 : ((pc + 3 : Nat) : Int) = Int.ofNat t := by simpa [ak_cnd, hc] using h1
          exact ak_n_if_ge hx hb hdg hc h2 k
      case gt =>
        by_cases hc : 0 < a
        · have h2 : (pc : Int) + off = Int.ofNat t := by simpa [ak_cnd, hc] using h1
          exact ak_t_if_gt hx hb hdg hc h2 k
        · have h2 : ((pc + 3 : Nat) : Int) = Int.ofNat t := by simpa [ak_cnd, hc] using h1
          exact ak_n_if_gt hx hb hdg hc h2 k
      case le =>
        by_cases hc : a ≤ 0
        · have h2 : (pc : Int) + off = Int.ofNat t := by simpa [ak_cnd, hc] using h1
          exact ak_t_if_le hx hb hdg hc h2 k
        · have h2 : ((pc + 3 : Nat) : Int) = Int.ofNat t := by simpa [ak_cnd, hc] using h1
          exact ak_n_if_le hx hb hdg hc h2 k
    · cases h
  case if_icmp cnd off =>
    obtain rfl : w = 3 := by simpa [ak_wd] using hwd
    simp only [ak_jump] at h
    split at h
    · rename_i b a r
      simp only [Option.some.injEq, Prod.mk.injEq] at h
      obtain ⟨h1, rfl⟩ := h
      cases cnd
      case eq =>
        by_cases hc : a = b
        · have h2 : (pc : Int) + off = Int.ofNat t := by simpa [ak_cnd, hc] using h1
          exact ak_t_icmp_eq hx hb hdg hc h2 k
        · have h2 : ((pc + 3 : Nat) : Int) = Int.ofNat t := by simpa [ak_cnd, hc] using h1
          exact ak_n_icmp_eq hx hb hdg hc h2 k
      case ne =>
        by_cases hc : a = b
        · have h2 : ((pc + 3 : Nat) : Int) = Int.ofNat t := by simpa [ak_cnd, hc] using h1
          exact ak_n_icmp_ne hx hb hdg hc h2 k
        · have h2 : (pc : Int) + off = Int.ofNat t := by simpa [ak_cnd, hc] using h1
          exact ak_t_icmp_ne hx hb hdg hc h2 k
      case lt =>
        by_cases hc : a < b
        · have h2 : (pc : Int) + off = Int.ofNat t := by simpa [ak_cnd, hc] using h1
          exact ak_t_icmp_lt hx hb hdg hc h2 k
        · have h2 : ((pc + 3 : Nat) : Int) = Int.ofNat t := by simpa [ak_cnd, hc] using h1
          exact ak_n_icmp_lt hx hb hdg hc h2 k
      case ge =>
        by_cases hc : b ≤ a
        · have h2 : (pc : Int) + off = Int.ofNat t := by simpa [ak_cnd, hc] using h1
          exact ak_t_icmp_ge hx hb hdg hc h2 k
        · have h2 : ((pc + 3 : Nat) : Int) = Int.ofNat t := by simpa [ak_cnd, hc] using h1
          exact ak_n_icmp_ge hx hb hdg hc h2 k
      case gt =>
        by_cases hc : b < a
        · have h2 : (pc : Int) + off = Int.ofNat t := by simpa [ak_cnd, hc] using h1
          exact ak_t_icmp_gt hx hb hdg hc h2 k
        · have h2 : ((pc + 3 : Nat) : Int) = Int.ofNat t := by simpa [ak_cnd, hc] using h1
          exact ak_n_icmp_gt hx hb hdg hc h2 k
      case le =>
        by_cases hc : a ≤ b
        · have h2 : (pc : Int) + off = Int.ofNat t := by simpa [ak_cnd, hc] using h1
          exact ak_t_icmp_le hx hb hdg hc h2 k
        · have h2 : ((pc + 3 : Nat) : Int) = Int.ofNat t := by simpa [ak_cnd, hc] using h1
          exact ak_n_icmp_le hx hb hdg hc h2 k
    · cases h
  case tableswitch dflt lo hi offs =>
    simp only [ak_jump] at h
    split at h
    · rename_i a r
      split at h
      · rename_i hc
        simp only [Option.some.injEq, Prod.mk.injEq] at h
        obtain ⟨h1, rfl⟩ := h
        exact lv_tableOut hx hb hdg hc h1 k
      · rename_i hc
        cases ho : offs[(a.toInt - lo).toNat]? with
        | none => rw [ho] at h; cases h
        | some o =>
          rw [ho] at h
          simp only [Option.map_some, Option.some.injEq, Prod.mk.injEq] at h
          obtain ⟨h1, rfl⟩ := h
          exact lv_tableIn hx hb hdg (fun z => hc (Or.inl z)) (fun z => hc (Or.inr z)) ho h1 k
    · cases h
  all_goals (exact absurd h (by simp [ak_jump]))
end AKS
