/-! what the tables say of each entry, and what stands fast beside our cells -/
def ak_Ts : List Cond := lw_tbl.filter goodWord
theorem ak_w {w : Cond} (i : Nat) (h : lw_tbl[i]? = some w) (g : goodWord w = true) : w ∈ ak_Ts := List.mem_filter.mpr ⟨List.mem_of_getElem? h, g⟩
theorem ak_Ts_in {args : Array Value} {s : State} (h : ∀ w ∈ lw_tbl, w.before args s = true) : ∀ w ∈ ak_Ts, w.before args s = true := fun w hw => h w (List.mem_filter.mp hw).1
theorem ak_Ts_good {ws : List Cond} (h : ∀ w ∈ ws, w ∈ ak_Ts) : GoodIn ak_Ts ws := fun w hw => ⟨h w hw, good_of_word (List.mem_filter.mp (h w hw)).2⟩
def ak_sx : List (Nat × String) := [(139, "joys"), (145, "earns"), (147, "may"), (149, "or"), (151, "and"), (153, "not"), (155, "week"), (157, "wished"), (159, "number"), (161, "length"), (163, "points"), (165, "away")]
def ak_nw : List Cond := [.methodLinkNest RX8 67 yX11_isWeek RX11, .methodLinkNest RX5 82 yX11_isWeek RX11, .castable RX2 RX4, .castable RX1 RX9, .castable RX4 RX3, .castable RX9 RX3, .castable RX2 RX3, .castable RX1 RX3, .castable RX0 RX3]
def ak_idx : Instr → Option Nat
  | .ldc i => some i
  | .ldc_w i => some i
  | .ldc2_w i => some i
  | .getfield i => some i
  | .putfield i => some i
  | .getstatic i => some i
  | .new i => some i
  | .anewarray i => some i
  | .instanceof i => some i
  | .invokevirtual i => some i
  | .invokespecial i => some i
  | .invokestatic i => some i
  | _ => none
def ak_par (y : MethodName) : Option Nat := (parseMethodDescriptor y.desc).map (fun d => d.parameters.length)
def ak_nmh (C : String) : Prop := C ≠ "java/lang/invoke/MethodHandle" ∧ C ≠ "java/lang/invoke/VarHandle"
/-- a method that may be called: its words -/
def ak_mok (q : ak_Q) : Prop := Cond.code q.1 q.2.1 q.2.2.1 q.2.2.2.1 ∈ ak_Ts ∧ Cond.initialized q.1.cls ∈ ak_Ts ∧ ak_nmh q.1.cls ∧ plainName q.1.cls = true ∧ q.2.2.1 ≤ 20
def ak_stn : List (String × String × String) := [("NotBothInAugust$Shop", "FROM", "[I"), ("NotBothInAugust$Shop", "TO", "[I"), ("java/lang/String", "COMPACT_STRINGS", "Z"), ("jdk/internal/util/Preconditions", "SIOOBE_FORMATTER", "Ljava/util/function/BiFunction;")]
/-- an entry of a class's pool: what the tables say of it -/
def ak_okr (own : String) (idx : Nat) (x : ak_X) : Prop := match x with
  | (1, ci, k, fin) => ∃ q : vw_C, vwCl[ci]? = some q ∧ k < q.2.2 ∧ Cond.fieldLink own idx (q.2.1 k).1 (q.2.1 k).2.1 (q.2.1 k).2.2.1 ∈ ak_Ts ∧ (q.2.1 k).2.2.2 = !decide (fin = 0)
  | (2, f, _, _) => Cond.fieldLink own idx "java/lang/String" (if f = 0 then "value" else "coder") (if f = 0 then "[B" else "B") ∈ ak_Ts
  | (3, a, _, _) => ∃ q, ak_stn[a]? = some q ∧ Cond.fieldLink own idx q.1 q.2.1 q.2.2 ∈ ak_Ts
  | (4, _, _, v) => Cond.constant own idx (Int32.ofInt v) ∈ ak_Ts
  | (5, k, _, _) => own = RX10 ∧ ∃ tx, ak_sx[k]? = some (idx, tx)
  | (6, _, _, v) => Cond.constantLong own idx (Int64.ofInt v) ∈ ak_Ts
  | (7, ci, _, _) => ∃ q : vw_C, vwCl[ci]? = some q ∧ Cond.classLink own idx q.1 ∈ ak_Ts
  | (8, mi, n, ci) => ∃ (m : ak_Q) (q : vw_C), ak_M[mi]? = some m ∧ ak_mok m ∧ vwCl[ci.toNat]? = some q ∧ m.1.cls = q.1 ∧ ak_par m.1 = some n ∧ Cond.methodLink own idx m.1 ∈ ak_Ts ∧ Cond.instanceMethod m.1 ∈ ak_Ts ∧ Cond.selects q.1 m.1 m.1 ∈ ak_Ts
  | (9, mi, n, _) => ∃ (m : ak_Q), ak_M[mi]? = some m ∧ ak_mok m ∧ m.1.cls = "java/lang/String" ∧ ak_par m.1 = some n ∧ Cond.methodLink own idx m.1 ∈ ak_Ts ∧ Cond.instanceMethod m.1 ∈ ak_Ts ∧ Cond.selects "java/lang/String" m.1 m.1 ∈ ak_Ts
  | (10, f, n, _) => ∃ (z : ak_Q), ak_mok z ∧ z.1.cls = RX3 ∧ Cond.methodLink own idx z.1 ∈ ak_Ts ∧ Cond.sameMethod RX3 RX3 z.1.name z.1.desc ∈ ak_Ts ∧ Cond.instanceMethod z.1 ∈ ak_Ts ∧ ak_par z.1 = some n ∧
      ∀ c mi, ak_fam f c = some mi → ∃ (m : ak_Q) (q : vw_C), ak_M[mi]? = some m ∧ ak_mok m ∧ vwCl[c]? = some q ∧ Cond.selects q.1 z.1 m.1 ∈ ak_Ts ∧ Cond.instanceMethod m.1 ∈ ak_Ts
  | (11, mi, n, _) => ∃ (m : ak_Q), ak_M[mi]? = some m ∧ ak_mok m ∧ ak_par m.1 = some n ∧ Cond.methodLink own idx m.1 ∈ ak_Ts ∧ Cond.static m.1 ∈ ak_Ts
  | (12, mi, n, _) => ∃ (m : ak_Q), ak_M[mi]? = some m ∧ ak_mok m ∧ ak_par m.1 = some n ∧ Cond.methodLinkNest own idx m.1 RX11 ∈ ak_nw ∧ Cond.static m.1 ∈ ak_Ts
  | (13, mi, n, _) => ∃ (m : ak_Q), ak_M[mi]? = some m ∧ ak_mok m ∧ ak_par m.1 = some n ∧ Cond.methodLink own idx ⟨own, m.1.name, m.1.desc⟩ ∈ ak_Ts ∧ Cond.sameMethod own m.1.cls m.1.name m.1.desc ∈ ak_Ts ∧ Cond.static m.1 ∈ ak_Ts
  | (14, mi, n, ci) => ∃ (m : ak_Q) (q : vw_C), ak_M[mi]? = some m ∧ ak_mok m ∧ vwCl[ci.toNat]? = some q ∧ m.1.cls = q.1 ∧ m.1.name = "<init>" ∧ m.2.2.2.1 = none ∧ ak_par m.1 = some n ∧ Cond.methodLink own idx m.1 ∈ ak_Ts ∧ Cond.instanceMethod m.1 ∈ ak_Ts
  | (15, mi, n, _) => ∃ (m : ak_Q), ak_M[mi]? = some m ∧ ak_mok m ∧ ak_par m.1 = some n ∧ m.1.name ≠ "<init>" ∧ Cond.methodLink own idx m.1 ∈ ak_Ts ∧ Cond.sameMethod m.1.cls m.1.cls m.1.name m.1.desc ∈ ak_Ts ∧ Cond.superclass own m.1.cls ∈ ak_Ts ∧ Cond.instanceMethod m.1 ∈ ak_Ts
  | (18, mi, n, _) => ∃ (m : ak_Q), ak_M[mi]? = some m ∧ ak_mok m ∧ ak_par m.1 = some n ∧ m.1.name ≠ "<init>" ∧ own = RX2 ∧ m.1.cls = RX3 ∧ Cond.methodLink own idx ⟨RX4, m.1.name, m.1.desc⟩ ∈ ak_Ts ∧ Cond.sameMethod RX4 m.1.cls m.1.name m.1.desc ∈ ak_Ts ∧ Cond.superclass own RX4 ∈ ak_Ts ∧ Cond.superclass RX4 m.1.cls ∈ ak_Ts ∧ Cond.instanceMethod m.1 ∈ ak_Ts
  | (16, _, _, _) => Cond.methodLink own idx objectInit ∈ ak_Ts
  | (17, _, _, _) => Cond.methodLink own idx arraycopyName ∈ ak_Ts
  | (19, _, _, _) => Cond.methodLink own idx Lib.Math.min.name ∈ ak_Ts
  | (20, _, _, _) => Cond.methodLink own idx Lib.Math.max.name ∈ ak_Ts
  | _ => True
/-- what stands fast: static arrays, the texts' constants, statics, words of the tables that aren't of the common sort -/
def ak_G (E : ak_E) (Z : ak_Z) (U : State) (H : Heap) : Prop :=
  (∀ r b n f, ak_sa Z r = some (b, n, f) → va_T (if b = true then .byte else .int) (E.2.2.2.1 r) n (fun j => .int (f j)) (fun a => E.2.2.1 ≤ a) U H) ∧
  (∀ k, k < 12 → va_O "java/lang/String" (E.2.2.2.1 (1000000 + k)) (fun a => E.2.2.1 ≤ a) U H ∧ va_OF "java/lang/String" "coder" "B" (.int 0) (E.2.2.2.1 (1000000 + k)) (fun a => E.2.2.1 ≤ a) U H ∧ va_OF "java/lang/String" "value" "[B" (.ref (E.2.2.2.1 (1000100 + k))) (E.2.2.2.1 (1000000 + k)) (fun a => E.2.2.1 ≤ a) U H) ∧
  (va_Z "NotBothInAugust$Shop" "FROM" "[I" (.ref (E.2.2.2.1 2000000)) (fun a => E.2.2.1 ≤ a) U H ∧ va_Z "NotBothInAugust$Shop" "TO" "[I" (.ref (E.2.2.2.1 2000001)) (fun a => E.2.2.1 ≤ a) U H ∧ va_Z "java/lang/String" "COMPACT_STRINGS" "Z" (.int 1) (fun a => E.2.2.1 ≤ a) U H ∧ va_Z "jdk/internal/util/Preconditions" "SIOOBE_FORMATTER" "Ljava/util/function/BiFunction;" E.2.2.2.2 (fun a => E.2.2.1 ≤ a) U H) ∧
  (∀ k idx tx, ak_sx[k]? = some (idx, tx) → vk_R RX10 idx tx (E.2.2.2.1 (1000000 + k)) U) ∧
  (∀ w ∈ ak_nw, va_Nw w U) ∧
  (∀ c ∈ [RX0, RX1, RX2, RX3, RX4, RX9], ∀ t ∈ [RX0, RX1, RX2, RX4, RX9], c ≠ t → (c = RX2 ∧ t = RX4) ∨ (c = RX1 ∧ t = RX9) ∨ va_Nc c t U) ∧
  (∀ C ∈ [RX10, RX3, RX7], va_AO C U) ∧
  E.2.2.2.2.category = 1
theorem ak_nw_warm {s U : State} (hW : s.WarmedH U.vm) {w : Cond} (hw : w ∈ ak_nw) (h : va_Nw w s) : va_Nw w U := by
  simp only [ak_nw, List.mem_cons, List.not_mem_nil, or_false] at hw
  rcases hw with rfl | rfl | rfl | rfl | rfl | rfl | rfl | rfl | rfl
  · exact va_Nw.warmM hW h
  · exact va_Nw.warmM hW h
  all_goals exact va_Nw.warmC hW h
theorem ak_nw_same {s U : State} (hv : s.vm = U.vm) {w : Cond} (hw : w ∈ ak_nw) (h : va_Nw w s) : va_Nw w U := by
  simp only [ak_nw, List.mem_cons, List.not_mem_nil, or_false] at hw
  rcases hw with rfl | rfl | rfl | rfl | rfl | rfl | rfl | rfl | rfl
  all_goals exact va_Nw.same rfl hv h
/-- from a frame's start to a call's start -/
theorem ak_G.warm {E : ak_E} {Z : ak_Z} {s U : State} {H0 H : Heap} (h : ak_G E Z s H0) (hW : s.WarmedH U.vm) (hq : ∀ a : Nat, a < H0.size → ¬ E.2.2.1 ≤ a → H[a]? = H0[a]?) : ak_G E Z U H := by
  obtain ⟨h1, h2, ⟨h3, h4, h5, h6⟩, h7, h8, h9, h10, h11⟩ := h
  refine ⟨fun r b n f hs => ((h1 r b n f hs).kept hq).moved hW.alike, fun k hk => ?_, ⟨(h3.kept hq).moved hW.alike, (h4.kept hq).moved hW.alike, (h5.kept hq).moved hW.alike, (h6.kept hq).moved hW.alike⟩, fun k idx tx hk => (h7 k idx tx hk).warm hW, fun w hw => ak_nw_warm hW hw (h8 w hw), fun c hc t ht hct => ?_, fun C hC => (h10 C hC).moved hW.alike, h11⟩
  · obtain ⟨g1, g2, g3⟩ := h2 k hk
    exact ⟨(g1.kept hq).moved hW.alike, (g2.kept hq).moved hW.alike, (g3.kept hq).moved hW.alike⟩
  · rcases h9 c hc t ht hct with g | g | g
    · exact Or.inl g
    · exact Or.inr (Or.inl g)
    · exact Or.inr (Or.inr (g.moved hW.alike))
theorem ak_G.same {E : ak_E} {Z : ak_Z} {s U : State} {H : Heap} (h : ak_G E Z s H) (hv : U.vm = s.vm) : ak_G E Z U H := by
  have ha : s.vm.Alike U.vm := by rw [hv]; exact Vm.Alike.refl s.vm
  obtain ⟨h1, h2, ⟨h3, h4, h5, h6⟩, h7, h8, h9, h10, h11⟩ := h
  refine ⟨fun r b n f hs => (h1 r b n f hs).moved ha, fun k hk => ?_, ⟨h3.moved ha, h4.moved ha, h5.moved ha, h6.moved ha⟩, fun k idx tx hk => (h7 k idx tx hk).same hv, fun w hw => ak_nw_same hv.symm hw (h8 w hw), fun c hc t ht hct => ?_, fun C hC => (h10 C hC).moved ha, h11⟩
  · obtain ⟨g1, g2, g3⟩ := h2 k hk
    exact ⟨g1.moved ha, g2.moved ha, g3.moved ha⟩
  · rcases h9 c hc t ht hct with g | g | g
    · exact Or.inl g
    · exact Or.inr (Or.inl g)
    · exact Or.inr (Or.inr (g.moved ha))
