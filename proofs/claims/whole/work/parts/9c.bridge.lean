/-! the bridge: what stands at the law's entry is what the small machine asks for -/
theorem st_in : ∀ q ∈ vwCl, ∀ w ∈ u_ws q.1 q.2.1 q.2.2, w ∈ lw_tbl := by decide +kernel
theorem st_inst : ∀ q ∈ vwCl, Cond.instantiable q.1 q.2.2 ∈ lw_tbl := by decide +kernel
theorem st_cls {s : State} {args : Array Value} (hts : ∀ w ∈ lw_tbl, w.before args s = true) (c0 : ClassId) : ∃ (dC : Nat → ClassId) (dI : Nat → Nat → Nat), ∀ (k : Nat) (q : vw_C), vwCl[k]? = some q → u_Kn s q.1 q.2.1 q.2.2 (dC k) (dI k) := by
  have key : ∀ k : Nat, ∃ cd : ClassId × (Nat → Nat), ∀ q : vw_C, vwCl[k]? = some q → u_Kn s q.1 q.2.1 q.2.2 cd.1 cd.2 := by
    intro k
    cases hk : vwCl[k]? with
    | none => exact ⟨(c0, fun _ => 0), fun q h => by cases h⟩
    | some q0 =>
      have hm := List.mem_of_getElem? hk
      obtain ⟨cC, iS, h⟩ := u_known (C := q0.1) (T := q0.2.1) (N := q0.2.2) (n := q0.2.2) hts (st_in q0 hm) (hts _ (st_inst q0 hm))
      exact ⟨(cC, iS), fun q e => by cases e; exact h⟩
  exact ⟨fun k => (Classical.choose (key k)).1, fun k => (Classical.choose (key k)).2, fun k q h => Classical.choose_spec (key k) q h⟩
theorem st_ao {s : State} {args : Array Value} {C : String} (h : (Cond.arrayOver (.object C)).before args s = true) : ∃ cA : ClassId, ArrOfT s cA (.object C) ∧ va_RA s cA (.object C) := by
  obtain ⟨comp, cA, kA, h1, -, h2, h3, h4⟩ := Cond.arrayOver_spec h
  exact ⟨cA, fun n z => ⟨fun k h => (by cases h), kA, h2, comp, h3⟩, kA, comp, h2, h3, h1, h4⟩
theorem st_ac {s : State} {args : Array Value} (hts : ∀ w ∈ lw_tbl, w.before args s = true) : ∃ aC : Nat → ClassId, ∀ (k : Nat) (q : ClassId × FieldType), [(aC 0, FieldType.int), (aC 1, .boolean), (aC 2, .object RX10), (aC 3, .object RX3), (aC 4, .object RX7)][k]? = some q → ArrOfT s q.1 q.2 ∧ va_RA s q.1 q.2 := by
  obtain ⟨c0, k0, p0, e1, e2, e3⟩ := Cond.arrayClass_spec (hts (.arrayClass .int) (by decide +kernel))
  obtain ⟨c1, k1, p1, f1, f2, f3⟩ := Cond.arrayClass_spec (hts (.arrayClass .boolean) (by decide +kernel))
  obtain ⟨c2, g1, g2⟩ := st_ao (hts (.arrayOver (.object RX10)) (by decide +kernel))
  obtain ⟨c3, i1, i2⟩ := st_ao (hts (.arrayOver (.object RX3)) (by decide +kernel))
  obtain ⟨c4, j1, j2⟩ := st_ao (hts (.arrayOver (.object RX7)) (by decide +kernel))
  refine ⟨fun k => if k = 0 then c0 else if k = 1 then c1 else if k = 2 then c2 else if k = 3 then c3 else c4, fun k q hq => ?_⟩
  match k, hq with
  | 0, hq => cases hq; exact ⟨fun n z => ⟨fun k h => (by cases h), k0, e2, p0, e3⟩, e1⟩
  | 1, hq => cases hq; exact ⟨fun n z => ⟨fun k h => (by cases h), k1, f2, p1, f3⟩, f1⟩
  | 2, hq => cases hq; exact ⟨g1, g2⟩
  | 3, hq => cases hq; exact ⟨i1, i2⟩
  | 4, hq => cases hq; exact ⟨j1, j2⟩
  | k + 5, hq => simp at hq
abbrev st_gv : Cond := Jvm.Cond.and given_1 narrow_1
def st_tm (k : Nat) : Term := Term.string RX10 ((ak_sx.getD k (0, "")).1)
theorem st_s1 : ∀ i < 12, Cond.exactly (st_tm i) "java/lang/String" ∈ flatC st_gv ∧ Cond.eq (.field (st_tm i) "java/lang/String" "coder" "B") (.int 0) ∈ flatC st_gv ∧ Cond.arrayOf (.field (st_tm i) "java/lang/String" "value" "[B") .byte ∈ flatC st_gv ∧ Cond.eq (.length (.field (st_tm i) "java/lang/String" "value" "[B")) (.int (Int32.ofNat ((ak_strs.map List.length).getD i 0))) ∈ flatC st_gv := by decide +kernel
theorem st_s2 : ∀ i < 12, ∀ j < (ak_strs.map List.length).getD i 0, Cond.eq (.elem (.field (st_tm i) "java/lang/String" "value" "[B") (.int (Int32.ofNat j))) (.int ((ak_strs.getD i []).getD j 0)) ∈ flatC st_gv := by decide +kernel
theorem st_f : ∀ j < 7, Cond.eq (.elem (.static "NotBothInAugust$Shop" "FROM" "[I") (.int (Int32.ofNat j))) (.int (ak_from.getD j 0)) ∈ flatC st_gv ∧ Cond.eq (.elem (.static "NotBothInAugust$Shop" "TO" "[I") (.int (Int32.ofNat j))) (.int (ak_to.getD j 0)) ∈ flatC st_gv := by decide +kernel
theorem st_nc : ∀ c ∈ [RX0, RX1, RX2, RX3, RX4, RX9], ∀ t ∈ [RX0, RX1, RX2, RX4, RX9], c = t ∨ (c = RX2 ∧ t = RX4) ∨ (c = RX1 ∧ t = RX9) ∨ Cond.not (Cond.castable c t) ∈ flatC st_gv := by decide +kernel
theorem st_nw : ∀ w ∈ ak_nw, w.onTables = true ∧ w ∈ lw_tbl := by decide +kernel
theorem st_sr : ∀ i < 12, Cond.stringRef RX10 (ak_sx.getD i (0, "")).1 (ak_sx.getD i (0, "")).2 ∈ lw_tbl := by decide +kernel
theorem st_sl : Cond.laysStatic "NotBothInAugust$Shop" "FROM" "[I" ∈ lw_tbl ∧ Cond.laysStatic "NotBothInAugust$Shop" "TO" "[I" ∈ lw_tbl ∧ Cond.laysStatic "java/lang/String" "COMPACT_STRINGS" "Z" ∈ lw_tbl ∧ Cond.laysStatic "jdk/internal/util/Preconditions" "SIOOBE_FORMATTER" "Ljava/util/function/BiFunction;" ∈ lw_tbl ∧ Cond.initialized "NotBothInAugust$Shop" ∈ lw_tbl ∧ Cond.initialized "java/lang/String" ∈ lw_tbl ∧ Cond.initialized "jdk/internal/util/Preconditions" ∈ lw_tbl := by decide +kernel
set_option maxRecDepth 100000 in
theorem st_G {s : State} {b L : Nat} {xs : Nat → Int32} (hts : ∀ w ∈ lw_tbl, w.before #[Value.ref b] s = true) (hgv : st_gv.before #[Value.ref b] s = true) (hX : va_X b L xs s s.heap) (hbl : b < s.heap.size) : ∃ (ρ : Nat → Nat) (v : Value), ρ 4000000 = b ∧ ∀ (D : va_G) (aC : Nat → ClassId), ak_G (D, aC, s.heap.size, ρ, v) (L, xs) s s.heap := by
  have fl := flat_of_before _ hgv
  have hA : ∀ a : Nat, a < s.heap.size → ¬ (fun a => s.heap.size ≤ a) a := fun a h => Nat.not_le.mpr h
  obtain ⟨tF, eF, hF⟩ := va_Tof (tm := .static "NotBothInAugust$Shop" "FROM" "[I") (ty := .int) (N := 7) (f := fun j => .int (ak_from.getD j 0)) (by decide) (fl _ (by decide +kernel)) (va_eqt (fl (.eq (.length (.static "NotBothInAugust$Shop" "FROM" "[I")) (.int 7)) (by decide +kernel))) (fun j hj => va_eqt (fl _ (st_f j hj).1)) hA
  obtain ⟨tT, eT, hT⟩ := va_Tof (tm := .static "NotBothInAugust$Shop" "TO" "[I") (ty := .int) (N := 7) (f := fun j => .int (ak_to.getD j 0)) (by decide) (fl _ (by decide +kernel)) (va_eqt (fl (.eq (.length (.static "NotBothInAugust$Shop" "TO" "[I")) (.int 7)) (by decide +kernel))) (fun j hj => va_eqt (fl _ (st_f j hj).2)) hA
  have h0 : ∀ i : Nat, ∃ q : Nat × Nat, i < 12 → (st_tm i).eval #[Value.ref b] s none [] s = some (.ref q.1) ∧ va_O "java/lang/String" q.1 (fun a => s.heap.size ≤ a) s s.heap ∧ va_OF "java/lang/String" "coder" "B" (.int 0) q.1 (fun a => s.heap.size ≤ a) s s.heap ∧ va_OF "java/lang/String" "value" "[B" (.ref q.2) q.1 (fun a => s.heap.size ≤ a) s s.heap ∧ va_T .byte q.2 ((ak_strs.map List.length).getD i 0) (fun j => .int ((ak_strs.getD i []).getD j 0)) (fun a => s.heap.size ≤ a) s s.heap := by
    intro i
    by_cases hi : i < 12
    · obtain ⟨e1, e2, e3, e4⟩ := st_s1 i hi
      obtain ⟨a, c, cA, kA, q1, -⟩ := Cond.exactly_spec (args := #[Value.ref b]) (first := s) (o := none) (s := s) (idx := []) (t := st_tm i) (cls := "java/lang/String") (fl _ e1)
      have hN : ∀ k < 12, (ak_strs.map List.length).getD k 0 < 2 ^ 31 := by decide +kernel
      obtain ⟨t, ht, hT⟩ := va_Tof (f := fun j => .int ((ak_strs.getD i []).getD j 0)) (A := fun a => s.heap.size ≤ a) (hN i hi) (fl _ e3) (va_eqt (fl _ e4)) (fun j hj => va_eqt (fl _ (st_s2 i hi j hj))) hA
      exact ⟨(a, t), fun _ => ⟨q1, va_Oof (fl _ e1) q1 hA, vk_OFof q1 (va_eqt (fl _ e2)) hA, vk_OFof q1 ht hA, hT⟩⟩
    · exact ⟨(0, 0), fun h => absurd h hi⟩
  obtain ⟨adK, adV, hS, hE⟩ : ∃ adK adV : Nat → Nat, (∀ i, i < 12 → va_O "java/lang/String" (adK i) (fun a => s.heap.size ≤ a) s s.heap ∧ va_OF "java/lang/String" "coder" "B" (.int 0) (adK i) (fun a => s.heap.size ≤ a) s s.heap ∧ va_OF "java/lang/String" "value" "[B" (.ref (adV i)) (adK i) (fun a => s.heap.size ≤ a) s s.heap ∧ va_T .byte (adV i) ((ak_strs.map List.length).getD i 0) (fun j => .int ((ak_strs.getD i []).getD j 0)) (fun a => s.heap.size ≤ a) s s.heap) ∧ ∀ i, i < 12 → (st_tm i).eval #[Value.ref b] s none [] s = some (.ref (adK i)) := ⟨fun i => (Classical.choose (h0 i)).1, fun i => (Classical.choose (h0 i)).2, fun i hi => (Classical.choose_spec (h0 i) hi).2, fun i hi => (Classical.choose_spec (h0 i) hi).1⟩
  obtain ⟨l1, l2, l3, l4, l5, l6, l7⟩ := st_sl
  have hq : ∃ v : Value, v.category = 1 ∧ va_Z "jdk/internal/util/Preconditions" "SIOOBE_FORMATTER" "Ljava/util/function/BiFunction;" v (fun a => s.heap.size ≤ a) s s.heap := by
    rcases va_Zqof (hts _ l4) (hts _ l7) (fl (.isRef (.static "jdk/internal/util/Preconditions" "SIOOBE_FORMATTER" "Ljava/util/function/BiFunction;")) (by decide +kernel)) hA with h | ⟨t, h⟩
    · exact ⟨_, rfl, h⟩
    · exact ⟨_, rfl, h⟩
  obtain ⟨v, hv1, hv2⟩ := hq
  refine ⟨fun r => if r = 2000000 then tF else if r = 2000001 then tT else if r = 4000000 then b else if r < 1000100 then adK (r - 1000000) else adV (r - 1000100), v, rfl, fun D aC => ⟨fun r b1 n f h => ?_, fun k hk => ?_, ⟨va_Zof (hts _ l1) (hts _ l5) eF hA, va_Zof (hts _ l2) (hts _ l5) eT hA, va_Zof (hts _ l3) (hts _ l6) (va_eqi (fl _ (by decide +kernel))) hA, hv2⟩, fun k idx tx h => ?_, fun w hw => va_Nw.of (st_nw w hw).1 (hts _ (st_nw w hw).2), fun c hc t ht hct => ?_, fun C hC => ?_, hv1⟩⟩
  · unfold ak_sa at h
    split at h
    · rename_i e; cases h; subst e; exact hF
    · split at h
      · rename_i e; cases h; subst e; exact hT
      · split at h
        · rename_i e
          cases h
          subst e
          obtain ⟨scr, h1, h2, h3, h4, h5⟩ := hX
          exact ⟨scr, h1, h2, h3, Nat.le_of_eq h4.symm, by rw [h4], h5, hA b hbl⟩
        · split at h
          · rename_i n1 n2 n3 e
            obtain ⟨rfl, h3⟩ := Prod.mk.inj (Option.some.inj h)
            obtain ⟨rfl, rfl⟩ := Prod.mk.inj h3
            have := (hS (r - 1000100) (by omega)).2.2.2
            have e1 : ¬ r < 1000100 := by omega
            show va_T .byte (if r = 2000000 then tF else if r = 2000001 then tT else if r = 4000000 then b else if r < 1000100 then adK (r - 1000000) else adV (r - 1000100)) _ _ _ _ _
            rw [if_neg n1, if_neg n2, if_neg n3, if_neg e1]
            have e2 : (ak_strs.map List.length).getD (r - 1000100) 0 = (ak_strs.getD (r - 1000100) []).length := by
              have : ∀ k < 12, (ak_strs.map List.length).getD k 0 = (ak_strs.getD k []).length := by decide +kernel
              exact this _ (by omega)
            rw [← e2]
            exact this
          · cases h
  · have q := hS k hk
    have eK : (if 1000000 + k = 2000000 then tF else if 1000000 + k = 2000001 then tT else if 1000000 + k = 4000000 then b else if 1000000 + k < 1000100 then adK (1000000 + k - 1000000) else adV (1000000 + k - 1000100)) = adK k := by
      rw [if_neg (by omega), if_neg (by omega), if_neg (by omega), if_pos (by omega), Nat.add_sub_cancel_left]
    have eV : (if 1000100 + k = 2000000 then tF else if 1000100 + k = 2000001 then tT else if 1000100 + k = 4000000 then b else if 1000100 + k < 1000100 then adK (1000100 + k - 1000000) else adV (1000100 + k - 1000100)) = adV k := by
      rw [if_neg (by omega), if_neg (by omega), if_neg (by omega), if_neg (by omega), Nat.add_sub_cancel_left]
    dsimp only
    rw [eK, eV]
    exact ⟨q.1, q.2.1, q.2.2.1⟩
  · have hk : k < 12 := (List.getElem?_eq_some_iff.mp h).1
    have e0 : ak_sx.getD k (0, "") = (idx, tx) := by rw [List.getD_eq_getElem?_getD, h]; rfl
    have q1 := hts _ (st_sr k hk)
    have q2 := hE k hk
    unfold st_tm at q2
    rw [e0] at q1 q2
    have eK : (if 1000000 + k = 2000000 then tF else if 1000000 + k = 2000001 then tT else if 1000000 + k = 4000000 then b else if 1000000 + k < 1000100 then adK (1000000 + k - 1000000) else adV (1000000 + k - 1000100)) = adK k := by
      rw [if_neg (by omega), if_neg (by omega), if_neg (by omega), if_pos (by omega), Nat.add_sub_cancel_left]
    dsimp only
    rw [eK]
    exact vk_R.of q1 q2
  · rcases st_nc c hc t ht with e | e | e | e
    · exact absurd e hct
    · exact Or.inl e
    · exact Or.inr (Or.inl e)
    · exact Or.inr (Or.inr (va_Nc.of (fl _ e)))
  · refine va_AO.of (A := #[Value.ref b]) (hts _ ?_)
    have : ∀ C ∈ [RX10, RX3, RX7], Cond.arrayOver (.object C) ∈ lw_tbl := by decide +kernel
    exact this C hC
theorem st_ret {ins : Instr} {SR : List Value} (h : ak_ret (some .boolean) ins SR = some (some (.int 1))) : ins = .ireturn ∧ SR = [.int 1] := by
  unfold ak_ret at h
  split at h
  · rename_i v
    dsimp only at h
    split at h
    · cases h; exact ⟨rfl, rfl⟩
    · cases h
  · cases h
  · cases h
  · cases h
  · cases h
theorem st_q : q_245.2.1 = code ∧ q_245.1.cls = R_law ∧ (q_245.1.name == "<init>") = false := by
  refine ⟨rfl, rfl, ?_⟩
  · decide +kernel
theorem st_nS (M : mm_M) : ak_nS (mm_H M) = ak_nS (mm_H (fun _ _ => 0, 0, 0)) := rfl
theorem st_nS0 : ak_nS (mm_H (fun _ _ => 0, 0, 0)) ≤ 100000 := by decide +kernel
/-- YOUR PART: from the entry, for every script of at most 3072 ints, the law comes to its end with true -/
theorem whole_start {p : Program} {e : Env} {s : State} {m : MethodId} {below : List Frame} {meth : Method} {c : Code} (l : Launch) (hflags : l.flags = flags0) {b L : Nat} {xs : Nat → Int32} (hL : L ≤ 3072) (C0 : lw_At p s m meth c b L xs) : W p l e room_1 s m #[Value.ref b] below meth c s.heap [] 0 0 (lw_Z below #[Value.ref b] s) (entryFrame m ([Value.ref b] : List Value).toArray 4) := by
  obtain ⟨hx, hb, hr, hml, hown, hts, hX, hbl, hlocks, hgv⟩ := C0
  obtain ⟨dC, dI, hK1⟩ := st_cls hts m.cls
  obtain ⟨aC, hK2⟩ := st_ac hts
  obtain ⟨ρ, v, hρ, hG⟩ := st_G hts hgv hX hbl
  have G := hG (dC, dI) aC
  obtain ⟨n, M, hrun⟩ := zi_law (Z := (L, xs)) hL
  obtain ⟨q1, q2, q3⟩ := st_q
  have C : ak_C ((dC, dI), aC, s.heap.size, ρ, v) (L, xs) p s m #[Value.ref b] meth c q_245 := ⟨hx, hb.trans q1.symm, hml, by rw [q2]; exact hown, ak_Ts_in hts, ⟨hK1, hK2⟩, G, Nat.le_refl _, fun z => by rw [q3] at z; cases z⟩
  have J : ak_J ((dC, dI), aC, s.heap.size, ρ, v) s zi_h0 s.heap [] := ⟨fun _ => rfl, Nat.zero_le _, fun k q h => (by cases h), va_S.rf⟩
  have hl := lv_entry ([.ref b]) (n := 4) (Nat.le_of_ble_eq_true rfl)
  rw [lg_entry_eq]
  generalize (lg_sl ([.ref b]) ++ List.replicate (4 - (lg_sl ([.ref b])).length) Slot.unset).toArray = ls at hl ⊢
  have hl : lv_has ls 4 [(0, .ref b)] := hl
  have hls : ak_ls ((dC, dI), aC, s.heap.size, ρ, v) ls 4 [some (.ref 4000000), none, none, none] := by
    refine ak_ls_of hl rfl (fun j u hj => ?_)
    match j, hj with
    | 0, hj =>
      cases hj
      have : ak_cv ((dC, dI), aC, s.heap.size, ρ, v) (.ref 4000000) = .ref b := by
        show Value.ref (ak_ad ((dC, dI), aC, s.heap.size, ρ, v) 4000000) = .ref b
        unfold ak_ad
        rw [if_neg (by decide)]
        exact congrArg Value.ref hρ
      rw [this]
      exact List.mem_cons_self
    | 1, hj => cases hj
    | 2, hj => cases hj
    | 3, hj => cases hj
    | j + 4, hj => simp at hj
  have hlen : (mm_H M).1.length = 93 := rfl
  refine ak_sound (l := l) _ _ _ _ _ _ _ _ _ hrun q_245 hm_245 p e room_1 s m #[Value.ref b] below meth c s.heap [] 0 0 93 (ak_nS (mm_H M)) (lw_Z below #[Value.ref b] s) ls C J hls (Nat.le_of_ble_eq_true rfl) (Nat.le_of_ble_eq_true rfl) (Nat.le_of_ble_eq_true rfl) ?_ rfl ?_ ?_
  · rw [st_nS]
    exact Nat.le_trans st_nS0 (Nat.le_of_ble_eq_true rfl)
  · show 0 + ak_nS (mm_H M) = ak_nS (mm_H M) + 0
    omega
  · intro pcR w ins x lsR SR H1 locs1 hdg hwd hret J1
    obtain ⟨rfl, rfl⟩ := st_ret hret
    obtain rfl : w = 1 := by simpa [ak_wd] using hwd
    rw [q1] at hdg
    have hn : ak_nS (mm_H M) ≤ 7302250 := by rw [st_nS]; exact Nat.le_trans st_nS0 (by decide)
    refine va_forget J1.2.2.2.2.2 (W.widen (k := 600000) (n := 7302250) (by decide) hn ?_)
    exact lw_ret hx hb hr hlocks hdg
