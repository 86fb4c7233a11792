/-! runs -/
theorem ak_ent_in {E : ak_E} (hz : E.2.2.2.2.category = 1) : ∀ (as : List Value) (n i j : Nat) (u : Value), (ak_ent n as)[j]? = some (some u) → (i + j, ak_cv E u) ∈ lv_args i (as.map (ak_cv E))
  | [], n, i, j, u, h => by
    unfold ak_ent at h
    rw [List.getElem?_replicate] at h
    split at h <;> cases h
  | v :: r, n, i, j, u, h => by
    unfold ak_ent at h
    show _ ∈ (i, ak_cv E v) :: lv_args (if (ak_cv E v).category = 2 then i + 2 else i + 1) (r.map (ak_cv E))
    rw [ak_cat hz]
    split at h
    · rename_i hc
      rw [if_pos hc]
      match j, h with
      | 0, h =>
        rw [List.getElem?_cons_zero] at h
        cases h
        exact List.mem_cons_self
      | 1, h => rw [List.getElem?_cons_succ, List.getElem?_cons_zero] at h; cases h
      | j + 2, h =>
        rw [List.getElem?_cons_succ, List.getElem?_cons_succ] at h
        have := ak_ent_in hz r (n - 2) (i + 2) j u h
        rw [show i + 2 + j = i + (j + 2) by omega] at this
        exact List.mem_cons_of_mem _ this
    · rename_i hc
      rw [if_neg hc]
      match j, h with
      | 0, h =>
        rw [List.getElem?_cons_zero] at h
        cases h
        exact List.mem_cons_self
      | j + 1, h =>
        rw [List.getElem?_cons_succ] at h
        have := ak_ent_in hz r (n - 1) (i + 1) j u h
        rw [show i + 1 + j = i + (j + 1) by omega] at this
        exact List.mem_cons_of_mem _ this
theorem ak_ent_len {E : ak_E} (hz : E.2.2.2.2.category = 1) : ∀ (as : List Value) (n : Nat), (lg_sl (as.map (ak_cv E))).length ≤ (ak_ent n as).length
  | [], n => by simp [lg_sl]
  | v :: r, n => by
    have h1 := ak_ent_len hz r (n - 1)
    have h2 := ak_ent_len hz r (n - 2)
    have hv := ak_cat hz v
    have e : lg_sl ((v :: r).map (ak_cv E)) = (if (ak_cv E v).category = 2 then [Slot.val (ak_cv E v), Slot.second] else [Slot.val (ak_cv E v)]) ++ lg_sl (r.map (ak_cv E)) := by
      unfold lg_sl
      rw [List.map_cons, List.flatMap_cons]
    rw [e, List.length_append, hv]
    unfold ak_ent
    by_cases hc : v.category = 2
    · rw [if_pos hc, if_pos hc]
      simp only [List.length_cons, List.length_nil]
      omega
    · rw [if_neg hc, if_neg hc]
      simp only [List.length_cons, List.length_nil]
      omega
/-- a run's step -/
theorem ak_run_inv {Z : ak_Z} {n d mi pc : Nat} {L : ak_L} {S : List Value} {h hf : ak_H} {r : Option Value} (hr : ak_run Z (n + 1) d mi pc L S h = some (r, hf)) : ∃ (q : ak_Q) (ins : Instr) (w : Nat) (x : ak_X) (o : ak_O), ak_M[mi]? = some q ∧ q.2.2.2.2.1[pc]? = some (some (ins, w, x)) ∧ ak_step Z d q.2.2.2.2.2 (q.1.name == "<init>") q.2.2.2.1 ins w x pc L S h = some o ∧
    ((∃ pc' L' S' h', o = .inl (pc', L', S', h') ∧ ak_run Z n d mi pc' L' S' h' = some (r, hf)) ∨ (o = .inr (.inl r) ∧ hf = h) ∨
      ∃ mj as rest d' qj r1 h1, o = .inr (.inr (mj, as, rest)) ∧ d = d' + 1 ∧ ak_M[mj]? = some qj ∧ (ak_ent qj.2.2.1 as).length = qj.2.2.1 ∧ ak_run Z n d' mj 0 (ak_ent qj.2.2.1 as) [] h = some (r1, h1) ∧ ak_run Z n d mi (pc + 3) L (r1.toList ++ rest) h1 = some (r, hf)) := by
  rw [ak_run] at hr
  split at hr
  · cases hr
  · rename_i q hq
    split at hr
    · rename_i ins w x hi
      refine ⟨q, ins, w, x, ?_⟩
      split at hr
      · rename_i pc' L' S' h' hs
        exact ⟨_, hq, hi, hs, Or.inl ⟨_, _, _, _, rfl, hr⟩⟩
      · rename_i r' hs
        cases hr
        exact ⟨_, hq, hi, hs, Or.inr (Or.inl ⟨rfl, rfl⟩)⟩
      · rename_i mj as rest hs
        split at hr
        · cases hr
        · rename_i d'
          split at hr
          · cases hr
          · rename_i qj hqj
            split at hr
            · rename_i hlen
              split at hr
              · rename_i r1 h1 hrun
                exact ⟨_, hq, hi, hs, Or.inr (Or.inr ⟨_, _, _, _, _, _, _, rfl, rfl, hqj, hlen, hrun, hr⟩)⟩
              · cases hr
            · cases hr
      · cases hr
    · cases hr
theorem ak_step_grow {Z : ak_Z} {d own : Nat} {b : Bool} {rt : Option FieldType} {ins : Instr} {w pc : Nat} {x : ak_X} {L L' : ak_L} {S S' : List Value} {h h' : ak_H} {pc' : Nat} (hs : ak_step Z d own b rt ins w x pc L S h = some (.inl (pc', L', S', h'))) : ∃ l, h'.1 = h.1 ++ l := by
  unfold ak_step at hs
  split at hs
  · cases h1 : ak_stk ins x S with
    | none => rw [h1] at hs; cases hs
    | some a => rw [h1] at hs; cases hs; exact ⟨[], by simp⟩
  · cases h1 : ak_load ins L S with
    | none => rw [h1] at hs; cases hs
    | some a => rw [h1] at hs; cases hs; exact ⟨[], by simp⟩
  · cases h1 : ak_store ins L S with
    | none => rw [h1] at hs; cases hs
    | some a => rw [h1] at hs; cases hs; exact ⟨[], by simp⟩
  · split at hs
    · cases hs; exact ⟨[], by simp⟩
    · cases hs
  · cases h1 : ak_mem Z d own b ins x S h with
    | none => rw [h1] at hs; cases hs
    | some a => rw [h1] at hs; cases hs; exact ak_mem_grow h1
  · split at hs
    · rename_i a h1
      cases hs
      exact ak_mem_grow h1
    · cases h1 : ak_call ins x S h with
      | none => rw [h1] at hs; cases hs
      | some a => rw [h1] at hs; cases hs
  · cases h1 : ak_ret rt ins S with
    | none => rw [h1] at hs; cases hs
    | some a => rw [h1] at hs; cases hs
  · cases hs
theorem ak_run_grow {Z : ak_Z} : ∀ (n d mi pc : Nat) (L : ak_L) (S : List Value) (h : ak_H) (r : Option Value) (hf : ak_H), ak_run Z n d mi pc L S h = some (r, hf) → ∃ l, hf.1 = h.1 ++ l := by
  intro n
  induction n with
  | zero => intro d mi pc L S h r hf hr; rw [ak_run] at hr; cases hr
  | succ n ih =>
    intro d mi pc L S h r hf hr
    obtain ⟨q, ins, w, x, o, -, -, hs, ⟨pc', L', S', h', rfl, h2⟩ | ⟨rfl, rfl⟩ | ⟨mj, as, rest, d', qj, r1, h1, rfl, rfl, h3, -, h4, h5⟩⟩ := ak_run_inv hr
    · obtain ⟨l1, e1⟩ := ak_step_grow hs
      obtain ⟨l2, e2⟩ := ih _ _ _ _ _ _ _ _ h2
      exact ⟨l1 ++ l2, by rw [e2, e1, List.append_assoc]⟩
    · exact ⟨[], by simp⟩
    · obtain ⟨l1, e1⟩ := ih _ _ _ _ _ _ _ _ h4
      obtain ⟨l2, e2⟩ := ih _ _ _ _ _ _ _ _ h5
      exact ⟨l1 ++ l2, by rw [e2, e1, List.append_assoc]⟩
/-- whom a call calls -/
theorem ak_call_mok {own : String} {idx : Nat} {ins : Instr} {x : ak_X} {S as rest : List Value} {h : ak_H} {mj : Nat} (hx : ak_idx ins = some idx) (ho : ak_okr own idx x) (hm : ak_call ins x S h = some (mj, as, rest)) : ∃ m, ak_M[mj]? = some m ∧ ak_mok m := by
  cases ins
  case invokevirtual i =>
    simp only [ak_call] at hm
    split at hm
    · split at hm
      · cases hm
        obtain ⟨m0, k0, o1, o2, -⟩ := ho
        exact ⟨m0, o1, o2⟩
      · cases hm
    · split at hm
      · cases hm
        obtain ⟨m0, o1, o2, -⟩ := ho
        exact ⟨m0, o1, o2⟩
      · cases hm
    · split at hm
      · rename_i cc _
        split at hm
        · rename_i mi hfam
          split at hm
          · cases hm
            obtain ⟨z, z2, z3, z4, z5, z6, z7, zall⟩ := ho
            obtain ⟨m0, k0, o1, o2, -⟩ := zall cc _ hfam
            exact ⟨m0, o1, o2⟩
          · cases hm
        · cases hm
      · cases hm
    · cases hm
  case invokespecial i =>
    simp only [ak_call] at hm
    split at hm
    · split at hm
      · cases hm
        obtain ⟨m0, k0, o1, o2, -⟩ := ho
        exact ⟨m0, o1, o2⟩
      · cases hm
    · split at hm
      · split at hm
        · cases hm
          obtain ⟨m0, o1, o2, -⟩ := ho
          exact ⟨m0, o1, o2⟩
        · cases hm
      · cases hm
    · split at hm
      · split at hm
        · cases hm
          obtain ⟨m0, o1, o2, -⟩ := ho
          exact ⟨m0, o1, o2⟩
        · cases hm
      · cases hm
    · cases hm
  case invokestatic i =>
    simp only [ak_call] at hm
    split at hm
    · split at hm
      · cases hm
        obtain ⟨m0, o1, o2, -⟩ := ho
        exact ⟨m0, o1, o2⟩
      · cases hm
    · split at hm
      · cases hm
        obtain ⟨m0, o1, o2, -⟩ := ho
        exact ⟨m0, o1, o2⟩
      · cases hm
    · split at hm
      · cases hm
        obtain ⟨m0, o1, o2, -⟩ := ho
        exact ⟨m0, o1, o2⟩
      · cases hm
    · cases hm
  all_goals (simp [ak_call] at hm)
theorem ak_call_plain {q qj : ak_Q} {pc w : Nat} {ins : Instr} {x : ak_X} {S as rest : List Value} {h : ak_H} {mj : Nat} (hall : ak_mall q) (hi : q.2.2.2.2.1[pc]? = some (some (ins, w, x))) (hm : ak_call ins x S h = some (mj, as, rest)) (hM : ak_M[mj]? = some qj) : plainName qj.1.cls = true := by
  have hx : ∃ idx, ak_idx ins = some idx := by
    cases ins
    case invokevirtual i => exact ⟨i, rfl⟩
    case invokespecial i => exact ⟨i, rfl⟩
    case invokestatic i => exact ⟨i, rfl⟩
    all_goals (simp [ak_call] at hm)
  obtain ⟨idx, hx⟩ := hx
  obtain ⟨m0, o1, o2⟩ := ak_call_mok hx (hall.2.1 pc (ins, w, x) idx hi hx) hm
  obtain rfl : m0 = qj := Option.some.inj (o1.symm.trans hM)
  exact o2.2.2.2.1
section AKT
variable {l : Launch} {E : ak_E} {Z : ak_Z}
/-- what a run says of the machine, at any frame that stands so -/
def ak_Says (l : Launch) (E : ak_E) (Z : ak_Z) (d mi pc : Nat) (L : ak_L) (S : List Value) (h : ak_H) (r : Option Value) (hf : ak_H) : Prop :=
  ∀ (q : ak_Q), ak_M[mi]? = some q → ∀ (p : Program) (e : Env) (R : Room) (s : State) (m : MethodId) (args : Array Value) (below : List Frame) (meth : Method) (c : Code) (H : Heap) (locs : List Loc) (cells slots CM SM : Nat) (Q : State → Prop) (ls : Array Slot),
    ak_C E Z p s m args meth c q → ak_J E s h H locs → ak_ls E ls q.2.2.1 L → d ≤ R.frames → 40 * d ≤ R.locals → CM ≤ R.cells → SM ≤ R.slots → cells + hf.1.length = CM + h.1.length → slots + ak_nS hf = SM + ak_nS h →
    (∀ (pcR w : Nat) (ins : Instr) (x : ak_X) (lsR : Array Slot) (SR : List Value) (H1 : Heap) (locs1 : List Loc), decode q.2.1 pcR = .ok (ins, w) → ak_wd ins w = true → ak_ret q.2.2.2.1 ins SR = some r → ak_J E s hf H1 locs1 → W p l e R s m args below meth c H1 locs1 CM SM Q (F0 m pcR lsR (SR.map (ak_cv E)))) →
    W p l e R s m args below meth c H locs cells slots Q (F0 m pc ls (S.map (ak_cv E)))
set_option maxHeartbeats 4000000 in
/-- a callee's contract out of what its run says -/
theorem ak_Met_of {d mj : Nat} {qj : ak_Q} {as : List Value} {h h1 : ak_H} {r1 : Option Value} (hz : E.2.2.2.2.category = 1) (hM : ak_M[mj]? = some qj) (hpl : plainName qj.1.cls = true) (hlen : (ak_ent qj.2.2.1 as).length = qj.2.2.1) (hg : ∃ l, h1.1 = h.1 ++ l) (hs : ak_Says l E Z d mj 0 (ak_ent qj.2.2.1 as) [] h r1 h1) : ak_Met l E Z d qj as h r1 h1 := by
  refine Met.ofW (cc := qj.2.1) (maxL := qj.2.2.1) (ret := qj.2.2.2.1) hpl rfl ?_
  intro p e s m args below meth c s₁ B hml hv
  obtain ⟨rfl, hK, hG, hbs, hsz, hN, hP⟩ := hv
  have hx := B.exec
  have hb := B.bytes
  have hr := B.returns
  have hts0 := atoms_spec (ws := Cond.code qj.1 qj.2.1 qj.2.2.1 qj.2.2.2.1 :: ak_Ts) B.pre
  have hown : s.vm.findClass qj.1.cls = some m.cls := findClass_of_methodNamed B.named
  have hlocks := B.notSynchronized
  have hname : meth.name = qj.1.name := (name_of_methodNamed B.named B.method).1
  have hent := lv_entry (as.map (ak_cv E)) (n := qj.2.2.1) (by have := ak_ent_len (E := E) hz as qj.2.2.1; omega)
  rw [lg_entry_eq]
  have hls := ak_ls_of (E := E) (L := ak_ent qj.2.2.1 as) hent hlen (fun j u hj => by have := ak_ent_in (E := E) hz as qj.2.2.1 0 j u hj; rwa [Nat.zero_add] at this)
  obtain ⟨lx, e1⟩ := hg
  have e2 := ak_nS_app e1
  have e3 : h1.1.length = h.1.length + lx.length := by rw [e1]; simp
  refine hs qj hM p e _ s m _ below meth c s.heap [] 0 0 (h1.1.length - h.1.length) (ak_nS h1 - ak_nS h) _ _ ⟨hx, hb, hml, hown, fun w hw => hts0 w (List.mem_cons_of_mem _ hw), hK, hG, hbs, fun z => by rw [hname]; exact eq_of_beq z⟩ ⟨hsz, hN, hP, va_S.rf⟩ hls (Nat.le_refl _) (Nat.le_refl _) (Nat.le_refl _) (Nat.le_refl _) (by omega) (by omega) ?_
  intro pcR w ins x lsR SR H1 locs1 hdg hwd hret J1
  have hQ : ∀ t : State, t.heap = H1 → s.WarmedH t.vm → ak_Qc E r1 h1 (as.map (ak_cv E)).toArray s (.returned (r1.map (ak_cv E))) t := fun t ht hW => ⟨rfl, ⟨by rw [ht]; exact J1.1, J1.2.1, by rw [ht]; exact J1.2.2.1⟩, J1.2.2.2.F ht⟩
  unfold ak_ret at hret
  split at hret
  · rename_i v
    obtain rfl : w = 1 := by simpa [ak_wd] using hwd
    split at hret
    · rename_i hrt
      cases hret
      exact W.iret hx hb (hr.trans hrt) hQ J1.2.2.2.2.2 hdg
    · rename_i hrt
      split at hret
      · rename_i hv
        cases hret
        exact W.zret hx hb (hr.trans hrt) (by rcases hv with rfl | rfl <;> rfl) hQ J1.2.2.2.2.2 hdg
      · cases hret
    · rename_i hrt
      split at hret
      · rename_i hv
        cases hret
        exact W.zret hx hb (hr.trans hrt) hv hQ J1.2.2.2.2.2 hdg
      · cases hret
    · rename_i hrt
      split at hret
      · rename_i hv
        cases hret
        exact W.zret hx hb (hr.trans hrt) hv hQ J1.2.2.2.2.2 hdg
      · cases hret
    · cases hret
  · rename_i v
    obtain rfl : w = 1 := by simpa [ak_wd] using hwd
    split at hret
    · rename_i hrt
      cases hret
      exact W.lret hx hb (hr.trans hrt) hQ J1.2.2.2.2.2 hdg
    · cases hret
  · rename_i v
    obtain rfl : w = 1 := by simpa [ak_wd] using hwd
    split at hret
    · rename_i hrt
      cases hret
      exact W.aret hx hb (hr.trans hrt) (Or.inl ⟨_, rfl⟩) (Or.inr ⟨_, rfl⟩) hQ J1.2.2.2.2.2 hdg
    · rename_i hrt
      cases hret
      exact W.aret hx hb (hr.trans hrt) (Or.inr ⟨_, rfl⟩) (Or.inr ⟨_, rfl⟩) hQ J1.2.2.2.2.2 hdg
    · cases hret
  · obtain rfl : w = 1 := by simpa [ak_wd] using hwd
    split at hret
    · rename_i hrt
      cases hret
      exact W.vret hx hb (hr.trans hrt) hQ J1.2.2.2.2.2 hdg
    · cases hret
  · cases hret
set_option maxHeartbeats 8000000 in
/-- THE SMALL MACHINE SAYS WHAT THE BYTECODE DOES -/
theorem ak_sound : ∀ (n d mi pc : Nat) (L : ak_L) (S : List Value) (h : ak_H) (r : Option Value) (hf : ak_H), ak_run Z n d mi pc L S h = some (r, hf) → ak_Says l E Z d mi pc L S h r hf := by
  intro n
  induction n with
  | zero => intro d mi pc L S h r hf hr; rw [ak_run] at hr; cases hr
  | succ n ih =>
    intro d mi pc L S h r hf hr q0 hq0 p e R s m args below meth c H locs cells slots CM SM Q ls C J hls hdf hdl hCM hSM hcs hss hend
    obtain ⟨q, ins, w, x, o, hq, hi, hs, hor⟩ := ak_run_inv hr
    obtain rfl : q = q0 := Option.some.inj (hq.symm.trans hq0)
    have hall := ak_all q (List.mem_of_getElem? hq)
    have hz : E.2.2.2.2.category = 1 := C.2.2.2.2.2.2.1.2.2.2.2.2.2.2
    obtain ⟨hdg, hwd⟩ := ak_chk_at _ _ hall.1 pc _ hi
    rw [Nat.zero_add] at hdg
    dsimp only at hdg hwd
    have hok : ∀ i, ak_idx ins = some i → ak_okr q.1.cls i x := fun i hx => hall.2.1 pc (ins, w, x) i hi hx
    have hlz : ls.size = q.2.2.1 := hls.1.1
    have mem : ∀ {S' : List Value} {h' : ak_H}, ak_mem Z d q.2.2.2.2.2 (q.1.name == "<init>") ins x S h = some (S', h') → ak_run Z n d mi (pc + w) L S' h' = some (r, hf) → W p l e R s m args below meth c H locs cells slots Q (F0 m pc ls (S.map (ak_cv E))) := by
      intro S' h' hm h2
      obtain ⟨l1, e1⟩ := ak_mem_grow hm
      obtain ⟨l2, e2⟩ := ak_run_grow _ _ _ _ _ _ _ _ _ h2
      have e3 := ak_nS_app e1
      have e4 := ak_nS_app e2
      have e5 : h'.1.length = h.1.length + l1.length := by rw [e1]; simp
      have e6 : hf.1.length = h'.1.length + l2.length := by rw [e2]; simp
      cases hnew : ak_new ins with
      | false =>
        refine ak_mem_ok C hall J hnew hdg hwd hok hdf hdl (by omega) (by omega) hlz hm (fun H1 locs1 h1 J1 => ?_)
        have e7 : ak_nS h' = ak_nS h := by unfold ak_nS; rw [h1]
        exact ih _ _ _ _ _ _ _ _ h2 q hq0 p e R s m args below meth c H1 locs1 cells slots CM SM Q ls C J1 hls hdf hdl hCM hSM (by rw [h1]; exact hcs) (by rw [e7]; exact hss) hend
      | true =>
        refine ak_new_ok C J hnew hdg hwd hok hm (by omega) (by omega) (fun H1 J1 => ?_)
        exact ih _ _ _ _ _ _ _ _ h2 q hq0 p e R s m args below meth c H1 locs _ _ CM SM Q ls C J1 hls hdf hdl hCM hSM (by omega) (by omega) hend
    have next : ∀ {H1 : Heap} {locs1 : List Loc} {ls1 : Array Slot} {pc' : Nat} {L' : ak_L} {S' : List Value}, ak_J E s h H1 locs1 → ak_ls E ls1 q.2.2.1 L' → ak_run Z n d mi pc' L' S' h = some (r, hf) → W p l e R s m args below meth c H1 locs1 cells slots Q (F0 m pc' ls1 (S'.map (ak_cv E))) := fun J1 hl1 h2 => ih _ _ _ _ _ _ _ _ h2 q hq0 p e R s m args below meth c _ _ cells slots CM SM Q _ C J1 hl1 hdf hdl hCM hSM hcs hss hend
    unfold ak_step at hs
    split at hs
    · cases h1 : ak_stk ins x S with
      | none => rw [h1] at hs; cases hs
      | some a =>
        rw [h1] at hs
        cases hs
        rcases hor with ⟨pc', L', S', h', e1, h2⟩ | ⟨e1, -⟩ | ⟨mj, as, rest, d', qj, r1, h1', e1, -⟩
        · cases e1
          exact ak_stk_ok C hdg hwd hok h1 (next J hls h2)
        · cases e1
        · cases e1
    · cases h1 : ak_load ins L S with
      | none => rw [h1] at hs; cases hs
      | some a =>
        rw [h1] at hs
        cases hs
        rcases hor with ⟨pc', L', S', h', e1, h2⟩ | ⟨e1, -⟩ | ⟨mj, as, rest, d', qj, r1, h1', e1, -⟩
        · cases e1
          exact ak_load_ok C hdg hwd hls h1 (next J hls h2)
        · cases e1
        · cases e1
    · cases h1 : ak_store ins L S with
      | none => rw [h1] at hs; cases hs
      | some a =>
        rw [h1] at hs
        cases hs
        rcases hor with ⟨pc', L', S', h', e1, h2⟩ | ⟨e1, -⟩ | ⟨mj, as, rest, d', qj, r1, h1', e1, -⟩
        · cases e1
          exact ak_store_ok C hdg hwd hls h1 (fun ls' hl' => next J hl' h2)
        · cases e1
        · cases e1
    · split at hs
      · rename_i t S' h1
        cases hs
        rcases hor with ⟨pc', L', S', h', e1, h2⟩ | ⟨e1, -⟩ | ⟨mj, as, rest, d', qj, r1, h1', e1, -⟩
        · cases e1
          exact ak_jump_ok C hdg hwd h1 (next J hls h2)
        · cases e1
        · cases e1
      · cases hs
    · cases h1 : ak_mem Z d q.2.2.2.2.2 (q.1.name == "<init>") ins x S h with
      | none => rw [h1] at hs; cases hs
      | some a =>
        rw [h1] at hs
        cases hs
        rcases hor with ⟨pc', L', S', h', e1, h2⟩ | ⟨e1, -⟩ | ⟨mj, as, rest, d', qj, r1, h1', e1, -⟩
        · cases e1
          exact mem h1 h2
        · cases e1
        · cases e1
    · split at hs
      · rename_i a h1
        cases hs
        rcases hor with ⟨pc', L', S', h', e1, h2⟩ | ⟨e1, -⟩ | ⟨mj, as, rest, d', qj, r1, h1', e1, -⟩
        · cases e1
          exact mem h1 h2
        · cases e1
        · cases e1
      · cases h1 : ak_call ins x S h with
        | none => rw [h1] at hs; cases hs
        | some a =>
          rw [h1] at hs
          cases hs
          rcases hor with ⟨pc', L', S', h', e1, h2⟩ | ⟨e1, -⟩ | ⟨mj, as, rest, d', qj, r1, hc1, e1, e2, h3, hlen, h4, h5⟩
          · cases e1
          · cases e1
          · cases e1
            subst e2
            obtain ⟨l1, g1⟩ := ak_run_grow _ _ _ _ _ _ _ _ _ h4
            obtain ⟨l2, g2⟩ := ak_run_grow _ _ _ _ _ _ _ _ _ h5
            have g3 := ak_nS_app g1
            have g4 := ak_nS_app g2
            have g5 : hc1.1.length = h.1.length + l1.length := by rw [g1]; simp
            have g6 : hf.1.length = hc1.1.length + l2.length := by rw [g2]; simp
            have hpl : plainName qj.1.cls = true := ak_call_plain hall hi h1 h3
            have hMet := ak_Met_of (l := l) hz h3 hpl hlen ⟨l1, g1⟩ (ih _ _ _ _ _ _ _ _ h4)
            refine ak_call_ok C J hdg hwd hok hdf hdl hlz h1 h3 hMet (by omega) (by omega) (fun H1 locs1 J1 => ?_)
            exact ih _ _ _ _ _ _ _ _ h5 q hq0 p e R s m args below meth c H1 locs1 _ _ CM SM Q ls C J1 hls hdf hdl hCM hSM (by omega) (by omega) hend
    · cases h1 : ak_ret q.2.2.2.1 ins S with
      | none => rw [h1] at hs; cases hs
      | some a =>
        rw [h1] at hs
        cases hs
        rcases hor with ⟨pc', L', S', h', e1, h2⟩ | ⟨e1, rfl⟩ | ⟨mj, as, rest, d', qj, r1, h1', e1, -⟩
        · cases e1
        · cases e1
          obtain rfl : cells = CM := by omega
          obtain rfl : slots = SM := by omega
          exact hend pc w ins x ls S H locs hdg hwd h1 J
        · cases e1
    · cases hs
end AKT
