/-! the small machine is the bytecode -/
theorem ak_nS_app {h h' : ak_H} {l : List ak_K} (e : h'.1 = h.1 ++ l) : ak_nS h' = ak_nS h + (l.map ak_sz).sum := by
  unfold ak_nS
  rw [e, List.map_append, List.sum_append]
/-- cells only come -/
theorem ak_mem_grow {Z : ak_Z} {d own : Nat} {b : Bool} {ins : Instr} {x : ak_X} {S S' : List Value} {h h' : ak_H} (hm : ak_mem Z d own b ins x S h = some (S', h')) : ∃ l, h'.1 = h.1 ++ l := by
  cases ins
  case getfield idx =>
    simp only [ak_mem] at hm
    split at hm
    · split at hm
      · rename_i ci kf _ r st _
        cases hfv : ak_fv h ci r kf with
        | none => rw [hfv] at hm; cases hm
        | some v => rw [hfv] at hm; cases hm; exact ⟨[], by simp⟩
      · cases hm
    · split at hm
      · split at hm
        · cases hm; exact ⟨[], by simp⟩
        · cases hm; exact ⟨[], by simp⟩
      · cases hm
    · cases hm
  case putfield idx =>
    simp only [ak_mem] at hm
    split at hm
    · split at hm
      · rename_i ci kf fin v r st _
        cases hfv : ak_fp h ci r kf v with
        | none => rw [hfv] at hm; cases hm
        | some h2 => rw [hfv] at hm; cases hm; exact ⟨[], by rw [ak_fp_1 hfv]; simp⟩
      · cases hm
    · cases hm
  all_goals first
    | (simp [ak_mem] at hm; done)
    | (simp only [ak_mem] at hm
       repeat' (split at hm)
       all_goals first
         | (cases hm; done)
         | (cases hm; exact ⟨_, rfl⟩)
         | (cases hm; exact ⟨[], (List.append_nil _).symm⟩))
section AKR
variable {p : Program} {l : Launch} {e : Env} {R : Room} {s : State} {m : MethodId} {args : Array Value} {below : List Frame} {meth : Method} {c : Code} {H : Heap} {locs : List Loc} {cells slots : Nat} {Q : State → Prop}
variable {pc w d : Nat} {ls : Array Slot} {E : ak_E} {Z : ak_Z} {q : ak_Q} {ins : Instr} {x : ak_X} {h h' : ak_H}
theorem ak_fvc_new {E : ak_E} {h : ak_H} {ci j n : Nat} {r : vw_C} (hc : vwCl[ci]? = some r) (ty : Nat → FieldType) (ht : ak_tyb ((ak_F.getD ci []).getD j 9) (ty j) = true) (e1 : h.2.1 n j = 0) (e2 : h.2.2.1 n j = 0) (e3 : h.2.2.2 n j = none) : defaultValue (ty j) = ak_fvc E h ci n j := by
  unfold ak_fvc ak_fv
  generalize (ak_F.getD ci []).getD j 9 = t at ht ⊢
  match t, ty j, ht with
  | 0, .int, _ => simp [e1, ak_cv, defaultValue]
  | 1, .boolean, _ => simp [e1, ak_cv, defaultValue]
  | 2, .long, _ => simp [e2, ak_cv, defaultValue]
  | 3, .object _, _ => simp [e3, ak_cv, va_rf, defaultValue]
  | 3, .array _, _ => simp [e3, ak_cv, va_rf, defaultValue]
set_option maxHeartbeats 4000000 in
theorem ak_new_ok (C : ak_C E Z p s m args meth c q) (J : ak_J E s h H locs) (hnew : ak_new ins = true) (hdg : decode q.2.1 pc = .ok (ins, w)) (hwd : ak_wd ins w = true) (hok : ∀ i, ak_idx ins = some i → ak_okr q.1.cls i x)
    {S S' : List Value} (hm : ak_mem Z d q.2.2.2.2.2 (q.1.name == "<init>") ins x S h = some (S', h')) (hcc : cells + (h'.1.length - h.1.length) ≤ R.cells) (hss : slots + (ak_nS h' - ak_nS h) ≤ R.slots)
    (k : ∀ (H1 : Heap), ak_J E s h' H1 locs → W p l e R s m args below meth c H1 locs (cells + (h'.1.length - h.1.length)) (slots + (ak_nS h' - ak_nS h)) Q (F0 m (pc + w) ls (S'.map (ak_cv E)))) : W p l e R s m args below meth c H locs cells slots Q (F0 m pc ls (S.map (ak_cv E))) := by
  obtain ⟨hx, hb, hml, hown, hts, hK, hG, hbs, hini⟩ := C
  have num : ∀ {kk : ak_K}, h'.1 = h.1 ++ [kk] → h'.1.length - h.1.length = 1 ∧ ak_nS h' - ak_nS h = ak_sz kk := by
    intro kk e
    have := ak_nS_app e
    rw [e]
    simp at this ⊢
    omega
  cases ins
  case new idx =>
    obtain rfl : w = 3 := by simpa [ak_wd] using hwd
    have ho := hok idx rfl
    simp only [ak_mem] at hm
    split at hm
    · rename_i ci _ _
      split at hm
      · rename_i hcn
        cases hm
        obtain ⟨n1, n2⟩ := num rfl
        rw [n1] at hcc
        rw [n2] at hss
        rw [n1, n2] at k
        obtain ⟨⟨Cn, T, N⟩, hc, hlink⟩ := ho
        obtain ⟨hin, ⟨ty, hty, htk⟩, hnm, hlen, hdecl, hins, hinit⟩ := ak_cls hc
        dsimp only at hlink hin hty htk hnm hlen hdecl hins hinit
        have hsz : ak_sz (.inl ci) = N := hlen
        rw [hsz] at hss k
        have hKn := hK.1 ci _ hc
        refine W.newcK hx hb hown (hts _ hlink) (hts _ hins) (hts _ hinit) rfl hdg hcc hss hKn.2.1 rfl fun H1 kC hkC e1 z1 o1 => ?_
        have hJ := J.push hbs (h' := (h.1 ++ [.inl ci], fun a k => if a = h.1.length then 0 else h.2.1 a k, fun a k => if a = h.1.length then 0 else h.2.2.1 a k, fun a k => if a = h.1.length then none else h.2.2.2 a k)) (k := .inl ci) (H1 := H1) hcn.2 rfl (fun i kk hi => by
          have hi' : i ≠ h.1.length := by omega
          exact ak_cell_eq (by funext b; simp [hi']) (by funext b; simp [hi']) (by funext b; simp [hi'])) ?_ z1 o1
        · obtain ⟨hJ1, had⟩ := hJ
          have := k H1 hJ1
          rw [← had]
          exact this
        · refine ⟨_, hc, (u_born ty hts hin hKn hkC e1 hty).to fun j hj => ?_⟩
          have hj' : j < (ak_F.getD ci []).length := by rw [hlen]; exact hj
          show _ = vp_V (ak_fs E _ ci h.1.length) j
          unfold vp_V ak_fs
          rw [List.getD_eq_getElem?_getD, List.getElem?_map, List.getElem?_range hj']
          exact ak_fvc_new (n := h.1.length) hc ty (htk j hj) (by simp) (by simp) (by simp)
      · cases hm
    · cases hm
  case newarray at_ =>
    obtain rfl : w = 2 := by simpa [ak_wd] using hwd
    simp only [ak_mem] at hm
    split at hm
    · rename_i n st
      split at hm
      · rename_i hcn
        cases hm
        obtain ⟨n1, n2⟩ := num rfl
        rw [n1] at hcc
        rw [n2] at hss
        rw [n1, n2] at k
        obtain ⟨hat, hn0, hn1, hl⟩ := hcn
        have key : ∀ (t : Nat) (ty : FieldType), newarray.typeOf at_ = ty → (if at_ = .int then 0 else 1) = t → (ak_tys E)[t]? = some (E.2.1 t, ty) → ak_arr t = false → Cond.arrayClass ty ∈ ak_Ts → componentBytes ty ≤ 8 → (defaultValue ty = .int 0) → va_RA s (E.2.1 t) ty → (va_RA s (E.2.1 t) ty → s.vm.findClass ("[" ++ ty.toString) = some (E.2.1 t)) → W p l e R s m args below meth c H locs cells slots Q (F0 m pc ls ((Value.int n :: st).map (ak_cv E))) := by
          intro t ty hty ht htt harr hw hcb hdv hra hra2
          subst hty
          refine va_newaK hx hb (hts _ hw) rfl hdg rfl hn0 rfl (by
            have : n.toNatClampNeg * componentBytes (newarray.typeOf at_) ≤ 10000 * 8 := Nat.mul_le_mul hn1 hcb
            omega) hcc hss rfl fun H1 cA e1 z1 o1 hAr hNm => ?_
          have hcA : cA = E.2.1 t := Option.some.inj (hNm.symm.trans (hra2 hra))
          subst hcA
          rw [ht] at k
          have hJ := J.push hbs (h' := (h.1 ++ [.inr (t, n.toNatClampNeg)], fun a k => if a = h.1.length then 0 else h.2.1 a k, h.2.2.1, h.2.2.2)) (k := .inr (t, n.toNatClampNeg)) (H1 := H1) hl rfl (fun i kk hi => by
            have hi' : i ≠ h.1.length := by omega
            exact ak_cell_eq (by funext b; simp [hi']) rfl rfl) ?_ z1 o1
          · obtain ⟨hJ1, had⟩ := hJ
            have := k H1 hJ1
            rw [← had]
            exact this
          · show H1[H.size]? = some (vp_cell (E.2.1 t) (ak_as E _ h.1.length t n.toNatClampNeg))
            rw [e1]
            unfold ak_as
            rw [if_neg (by rw [harr]; decide), vp_cell_i]
            congr 2
            funext j
            rw [hdv]
            simp
        rcases hat with rfl | rfl
        · exact key 0 .int rfl rfl rfl rfl ak_arrw.1 (by decide) rfl ((hK.2 0 _ rfl).2) (fun z => z)
        · exact key 1 .boolean rfl rfl rfl rfl ak_arrw.2 (by decide) rfl ((hK.2 1 _ rfl).2) (fun z => z)
      · cases hm
    · cases hm
  case anewarray idx =>
    obtain rfl : w = 3 := by simpa [ak_wd] using hwd
    have ho := hok idx rfl
    simp only [ak_mem] at hm
    split at hm
    · rename_i ci t _ n st
      split at hm
      · rename_i hcn
        cases hm
        obtain ⟨n1, n2⟩ := num rfl
        rw [n1] at hcc
        rw [n2] at hss
        rw [n1, n2] at k
        obtain ⟨hat, hci, hn0, hn1, hl⟩ := hcn
        obtain ⟨⟨Cn, T, N⟩, hc, hlink⟩ := ho
        obtain ⟨htt, hrn, hrm⟩ := ak_rn_tys (E := E) hat
        have hCn : Cn = ak_rn t := by
          rw [← hci] at hrn
          have hc' : vwCl[ci]? = some (Cn, T, N) := hc
          rw [hc'] at hrn
          exact Option.some.inj hrn
        dsimp only at hlink
        rw [hCn] at hlink
        refine W.anew hx hb hown (hts _ hlink) (va_AO.use (hG.2.2.2.2.2.2.1 _ hrm)) rfl hdg rfl hn0 (by omega) hcc hss fun cA kA comp f1 f2 f3 f4 => ?_
        generalize hH1 : H.push ({ cls := cA, slots := Array.replicate n.toNatClampNeg .null, vm := .none } : Cell) = H1
        have z1 : H1.size = H.size + 1 := by rw [← hH1, Array.size_push]
        have e1 : H1[H.size]? = some (arrV cA n.toNatClampNeg (fun _ => .null)) := by rw [← hH1, Array.getElem?_push_size, ← arrV_new]
        have o1 : ∀ q : Nat, q < H.size → H1[q]? = H[q]? := fun q hq => by rw [← hH1, Array.getElem?_push, if_neg (Nat.ne_of_lt hq)]
        obtain ⟨kA2, comp2, g1, g2, g3, g4⟩ := (hK.2 t _ htt).2
        have hcA : cA = E.2.1 t := Option.some.inj (f1.symm.trans g4)
        subst hcA
        have hJ := J.push hbs (h' := (h.1 ++ [.inr (t, n.toNatClampNeg)], h.2.1, h.2.2.1, fun a k => if a = h.1.length then none else h.2.2.2 a k)) (k := .inr (t, n.toNatClampNeg)) (H1 := H1) hl rfl (fun i kk hi => by
          have hi' : i ≠ h.1.length := by omega
          exact ak_cell_eq rfl rfl (by funext b; simp [hi'])) ?_ z1 o1
        · obtain ⟨hJ1, had⟩ := hJ
          have := k H1 hJ1
          rw [← had]
          exact this
        · show H1[H.size]? = some (vp_cell (E.2.1 t) (ak_as E _ h.1.length t n.toNatClampNeg))
          rw [e1]
          unfold ak_as
          rw [if_pos hat, vp_cell_q]
          congr 2
          funext j
          simp [va_rf]
      · cases hm
    · cases hm
  all_goals (simp [ak_new] at hnew)
/-- a method's start and end -/
def ak_Pc (E : ak_E) (Z : ak_Z) (as : List Value) (h : ak_H) : Array Value → State → Prop := fun v U => v = (as.map (ak_cv E)).toArray ∧ va_K E.1 vwCl (ak_tys E) U ∧ ak_G E Z U U.heap ∧ E.2.2.1 ≤ U.heap.size ∧ (h.1.length < ak_N0 → U.heap.size = E.2.2.1 + h.1.length) ∧ h.1.length ≤ ak_N0 ∧ va_P E.1 vwCl (ak_ws E h) U.heap
def ak_Qc (E : ak_E) (r : Option Value) (h : ak_H) : Array Value → State → Outcome → State → Prop := fun _ st o t => o = .returned (r.map (ak_cv E)) ∧ ((h.1.length < ak_N0 → t.heap.size = E.2.2.1 + h.1.length) ∧ h.1.length ≤ ak_N0 ∧ va_P E.1 vwCl (ak_ws E h) t.heap) ∧ va_F (fun a => E.2.2.1 ≤ a) st t
def ak_rm (d mc ms : Nat) : Room := { frames := d, cells := mc, slots := ms, locals := 40 * d }
def ak_Met (l : Launch) (E : ak_E) (Z : ak_Z) (d : Nat) (q : ak_Q) (as : List Value) (h : ak_H) (r : Option Value) (h' : ak_H) : Prop :=
  Met l q.1 (Cond.code q.1 q.2.1 q.2.2.1 q.2.2.2.1 :: ak_Ts) (ak_rm d (h'.1.length - h.1.length) (ak_nS h' - ak_nS h)) (ak_Pc E Z as h) (ak_Qc E r h') (h'.1.length - h.1.length) (ak_nS h' - ak_nS h) (fun a => E.2.2.1 ≤ a)
theorem ak_blind (E : ak_E) (Z : ak_Z) (as : List Value) (h : ak_H) : FrameBlind (ak_Pc E Z as h) := fun a U g mk z => by
  obtain ⟨z1, z2, z3, z4⟩ := z
  exact ⟨z1, va_K.moved (u := U) (U := U.calling g mk a) (Vm.Alike.refl U.vm) z2, ak_G.same (s := U) z3 rfl, z4⟩
/-- the caller's state is a start -/
theorem ak_Pc_of (C : ak_C E Z p s m args meth c q) (J : ak_J E s h H locs) (as : List Value) : ∀ U : State, U.heap = H → s.WarmedH U.vm → ak_Pc E Z as h (as.map (ak_cv E)).toArray U := by
  intro U hU hW
  obtain ⟨hx, hb, hml, hown, hts, hK, hG, hbs, hini⟩ := C
  exact ⟨rfl, va_K.moved hW.alike hK, by rw [hU]; exact hG.warm hW J.2.2.2.2.1, by rw [hU]; exact Nat.le_trans hbs J.2.2.2.1, by rw [hU]; exact J.1, J.2.1, by rw [hU]; exact J.2.2.1⟩
/-- behind a call -/
theorem ak_back (J : ak_J E s h H locs) {mc ms : Nat} {r : Option Value} {a : Array Value} {st0 rest : List Value} (hr : va_Run p l e R s m args below meth c H locs cells slots mc ms (F0 m pc ls st0) (rest.map (ak_cv E)) (ak_Qc E r h' a) (fun a => E.2.2.1 ≤ a))
    (kk : ∀ (H1 : Heap) (locs1 : List Loc), ak_J E s h' H1 locs1 → W p l e R s m args below meth c H1 locs1 (cells + mc) (slots + ms) Q (F0 m (pc + 3) ls ((r.toList ++ rest).map (ak_cv E)))) : W p l e R s m args below meth c H locs cells slots Q (F0 m pc ls st0) := by
  intro T hT X
  obtain ⟨v, st₀, t, T', L, h0, X', hL, e1, e2, ⟨hv, ⟨g1, g2, g3⟩, hz, hk⟩, st⟩ := hr T hT X
  have hv : v = r.map (ak_cv E) := by
    have := hv
    injection this
  subst hv
  rw [h0] at hz hk
  obtain ⟨t2, a1, b1⟩ := kk T'.heap (locs ++ L) ⟨by rw [e1]; exact g1, g2, by rw [e1]; exact g3, ⟨Nat.le_trans J.2.2.2.1 (by rw [e1]; exact hz), fun q h1 h2 => by rw [e1, hk q (Nat.lt_of_lt_of_le h1 J.2.2.2.1) h2]; exact J.2.2.2.2.1 q h1 h2, fun q hq => by
      rcases List.mem_append.mp hq with g | g
      · exact J.2.2.2.2.2 q g
      · exact hL q g⟩⟩ T' rfl X'
  refine ⟨t2, st t2 ?_, b1⟩
  have e3 : (r.map (ak_cv E)).toList ++ rest.map (ak_cv E) = (r.toList ++ rest).map (ak_cv E) := by cases r <;> simp
  show Steps p.tables e below (T'.setTop (F0 m (pc + 3) ls ((r.map (ak_cv E)).toList ++ rest.map (ak_cv E)))) t2
  rw [e3]
  exact a1
theorem ak_take {S as rest : List Value} {n : Nat} (h1 : (S.take n).length = n) (h2 : S.drop n = rest) (h3 : as = (S.take n).reverse) : S.map (ak_cv E) = (as.map (ak_cv E)).reverse ++ rest.map (ak_cv E) := by
  subst h2 h3
  rw [← List.map_reverse, List.reverse_reverse, ← List.map_append, List.take_append_drop]
set_option maxHeartbeats 8000000 in
theorem ak_call_ok (C : ak_C E Z p s m args meth c q) (J : ak_J E s h H locs) (hdg : decode q.2.1 pc = .ok (ins, w)) (hwd : ak_wd ins w = true) (hok : ∀ i, ak_idx ins = some i → ak_okr q.1.cls i x)
    (hdf : d + 1 ≤ R.frames) (hdl : 40 * (d + 1) ≤ R.locals) (hlz : ls.size = q.2.2.1) {S as rest : List Value} {mj : Nat} (hm : ak_call ins x S h = some (mj, as, rest)) {qj : ak_Q} (hM : ak_M[mj]? = some qj) {r : Option Value} (hMet : ak_Met l E Z d qj as h r h')
    (hcc : cells + (h'.1.length - h.1.length) ≤ R.cells) (hss : slots + (ak_nS h' - ak_nS h) ≤ R.slots)
    (kk : ∀ (H1 : Heap) (locs1 : List Loc), ak_J E s h' H1 locs1 → W p l e R s m args below meth c H1 locs1 (cells + (h'.1.length - h.1.length)) (slots + (ak_nS h' - ak_nS h)) Q (F0 m (pc + 3) ls ((r.toList ++ rest).map (ak_cv E)))) : W p l e R s m args below meth c H locs cells slots Q (F0 m pc ls (S.map (ak_cv E))) := by
  have C' := C
  obtain ⟨hx, hb, hml, hown, hts, hK, hG, hbs, hini⟩ := C
  have hsum : ∀ st : List Value, ((st.map (ak_cv E)).map fun v => v.category).sum = (st.map fun v => v.category).sum := by
    intro st
    rw [List.map_map]
    exact congrArg List.sum (List.map_congr_left fun v _ => ak_cat hG.2.2.2.2.2.2.2 v)
  have Sx : CallFix p m c q.2.1 q.2.2.1 s args ak_Ts q.1.cls := ⟨hx, hb, hml, hown, hts⟩
  have six : ∀ {m0 : ak_Q}, ak_mok m0 → (ak_rm d (h'.1.length - h.1.length) (ak_nS h' - ak_nS h)).cells = (h'.1.length - h.1.length) ∧ (ak_rm d (h'.1.length - h.1.length) (ak_nS h' - ak_nS h)).slots = (ak_nS h' - ak_nS h) ∧ (ak_rm d (h'.1.length - h.1.length) (ak_nS h' - ak_nS h)).frames + 1 ≤ R.frames ∧ 8 + (m0.2.2.1 + 11) + (ak_rm d (h'.1.length - h.1.length) (ak_nS h' - ak_nS h)).locals ≤ R.locals ∧ (∀ w ∈ Cond.code m0.1 m0.2.1 m0.2.2.1 m0.2.2.2.1 :: ak_Ts, ∀ (a' : Array Value) (U : State), s.WarmedH U.vm → w.before a' U = true) ∧ Cond.code m0.1 m0.2.1 m0.2.2.1 m0.2.2.2.1 ∈ Cond.code m0.1 m0.2.1 m0.2.2.1 m0.2.2.2.1 :: ak_Ts := by
    intro m0 hk
    refine ⟨rfl, rfl, hdf, ?_, pay_in hts (ak_Ts_good fun w hw => ?_), List.mem_cons_self⟩
    · have := hk.2.2.2.2
      show 8 + (m0.2.2.1 + 11) + 40 * d ≤ R.locals
      omega
    · rcases List.mem_cons.mp hw with g | g
      · rw [g]; exact hk.1
      · exact g
  have len : ∀ {y : MethodName} {n : Nat}, ak_par y = some n → ∀ sig, parseMethodDescriptor y.desc = some sig → n = sig.parameters.length := by
    intro y n hy sig hs
    unfold ak_par at hy
    rw [hs] at hy
    exact (Option.some.inj hy).symm
  have f2 := And.intro hcc hss
  have bl := ak_blind E Z as h
  have pre := ak_Pc_of C' J as
  cases ins
  case invokevirtual idx =>
    obtain rfl : w = 3 := by simpa [ak_wd] using hwd
    have ho := hok idx rfl
    simp only [ak_call] at hm
    split at hm
    · rename_i mi n ci r0 st hdr
      split at hm
      · rename_i hc
        cases hm
        obtain ⟨m0, k0, o1, o2, o3, o4, o5, o6, o7, o8⟩ := ho
        obtain rfl : m0 = qj := Option.some.inj (o1.symm.trans hM)
        obtain ⟨g1, g2, g3, g4, g5, g6⟩ := six o2
        have hst := ak_take (E := E) hc.2.1 hdr rfl
        rw [hst]
        refine ak_back J (va_runV (C := k0.1) (As := (S.take n).reverse.map (ak_cv E)) Sx hMet ⟨⟨g1, g2, g3, g4, g5, g6, hts _ o2.1, hts _ o2.2.1, o2.2.2.1, len o5, hts _ o6⟩, hts _ o7, hts _ o8⟩ ⟨bl, ak_recv C' J hc.1 o3, pre⟩ rfl (by simpa using hc.2.1) hlz rfl (lv_room (by rw [hsum]; exact hc.2.2)) hdg f2) kk
      · cases hm
    · rename_i mi n _ r0 st hdr
      split at hm
      · rename_i hc
        cases hm
        obtain ⟨m0, o1, o2, o4, o5, o6, o7, o8⟩ := ho
        obtain rfl : m0 = qj := Option.some.inj (o1.symm.trans hM)
        obtain ⟨g1, g2, g3, g4, g5, g6⟩ := six o2
        have hst := ak_take (E := E) hc.2.1 hdr rfl
        rw [hst]
        have hrec : ∃ cell : Cell, H[ak_ad E r0]? = some cell ∧ cell.vm.isStatics = false ∧ s.vm.findClass "java/lang/String" = some cell.cls := by
          obtain ⟨rn, hrn⟩ : ∃ rn : Nat, rn = r0 := ⟨r0, rfl⟩
          have hr3 : (1000000 : Nat) ≤ rn := by rw [hrn]; exact hc.1.1
          have hr4 : rn < (1000012 : Nat) := by rw [hrn]; exact hc.1.2
          rw [← hrn]
          obtain ⟨z1, -, -⟩ := hG.2.1 (rn - 1000000) (by omega)
          rw [show 1000000 + (rn - 1000000) = rn by omega] at z1
          obtain ⟨cell, a1, a2, a3, -⟩ := z1.kept J.2.2.2.2.1
          exact ⟨cell, by rw [ak_ad_st hr3]; exact a1, a2, a3⟩
        refine ak_back J (va_runV (C := "java/lang/String") (As := (S.take n).reverse.map (ak_cv E)) Sx hMet ⟨⟨g1, g2, g3, g4, g5, g6, hts _ o2.1, hts _ o2.2.1, o2.2.2.1, len o5, hts _ o6⟩, hts _ o7, hts _ o8⟩ ⟨bl, hrec, pre⟩ rfl (by simpa using hc.2.1) hlz rfl (lv_room (by rw [hsum]; exact hc.2.2)) hdg f2) kk
      · cases hm
    · rename_i fm n _ r0 st hdr
      split at hm
      · rename_i cc hr0
        split at hm
        · rename_i mi hfam
          split at hm
          · rename_i hc
            cases hm
            obtain ⟨z, z2, z3, z4, z5, z6, z7, zall⟩ := ho
            obtain ⟨m0, k0, o1, o2, o3, o4, o5⟩ := zall cc _ hfam
            obtain rfl : m0 = qj := Option.some.inj (o1.symm.trans hM)
            have hst := ak_take (E := E) hc.1 hdr rfl
            rw [hst]
            refine ak_back J (va_runU (C := k0.1) (owner := RX3) (x := z.1) (As := (S.take n).reverse.map (ak_cv E)) Sx hMet ⟨six o2, hts _ o2.1, hts _ o2.2.1, by rw [← z3]; exact z2.2.2.1, len z7, hts _ z4, by rw [z3]; exact hts _ z5, by
              have hd := va_Decl.of (hts _ z6) (hts _ z2.1)
              rw [← z3]
              exact hd, hts _ o4, hts _ o5⟩ ⟨bl, ak_recv C' J hr0 o3, pre⟩ rfl (by simpa using hc.1) hlz rfl (lv_room (by rw [hsum]; exact hc.2)) hdg f2) kk
          · cases hm
        · cases hm
      · cases hm
    · cases hm
  case invokespecial idx =>
    obtain rfl : w = 3 := by simpa [ak_wd] using hwd
    have ho := hok idx rfl
    simp only [ak_call] at hm
    split at hm
    · rename_i mi n ci r0 st hdr
      split at hm
      · rename_i hc
        cases hm
        obtain ⟨m0, k0, o1, o2, o3, o4, o5, o6, o7, o8, o9⟩ := ho
        obtain rfl : m0 = qj := Option.some.inj (o1.symm.trans hM)
        obtain ⟨g1, g2, g3, g4, g5, g6⟩ := six o2
        have hst := ak_take (E := E) hc.2.1 hdr rfl
        rw [hst]
        have hcode := hts _ o2.1
        rw [o6] at hcode
        refine ak_back J (va_runI (b := ak_ad E r0) (As := (S.take n).reverse.map (ak_cv E)) Sx hMet ⟨⟨g1, g2, g3, g4, g5, by rw [← o6]; exact g6, hcode, hts _ o2.2.1, o2.2.2.1, len o7, hts _ o8⟩, o5, hts _ o9⟩ ⟨bl, pre⟩ rfl (by simpa using hc.2.1) hlz rfl (lv_room (by rw [hsum]; exact hc.2.2)) hdg f2) kk
      · cases hm
    · rename_i mi n _ r0 st hdr
      split at hm
      · rename_i cc hr0
        split at hm
        · rename_i hc
          cases hm
          obtain ⟨m0, o1, o2, o5, o6, o7, o8, o9, o10⟩ := ho
          obtain rfl : m0 = qj := Option.some.inj (o1.symm.trans hM)
          have hst := ak_take (E := E) hc.1 hdr rfl
          rw [hst]
          obtain ⟨k0, hk0, -⟩ := J.2.2.1 _ _ (ak_ws_obj hr0)
          refine ak_back J (va_runSU (C := k0.1) (As := (S.take n).reverse.map (ak_cv E)) (hK.1 cc k0 hk0).2 Sx hMet ⟨six o2, hts _ o7, hts _ o8, hts _ o9, hts _ o10, hts _ o2.2.1, hts _ o2.1, o6, len o5⟩ ⟨bl, ak_recv C' J hr0 hk0, pre⟩ rfl (by simpa using hc.1) hlz rfl (lv_room (by rw [hsum]; exact hc.2)) hdg f2) kk
        · cases hm
      · cases hm
    · rename_i mi n _ r0 st hdr
      split at hm
      · rename_i cc hr0
        split at hm
        · rename_i hc
          cases hm
          obtain ⟨m0, o1, o2, o5, o6, ow, oc, o7, o8, o9, o10, o11⟩ := ho
          obtain rfl : m0 = qj := Option.some.inj (o1.symm.trans hM)
          obtain ⟨g1, g2, g3, g4, g5, g6⟩ := six o2
          have hst := ak_take (E := E) hc.1 hdr rfl
          rw [hst]
          obtain ⟨k0, hk0, -⟩ := J.2.2.1 _ _ (ak_ws_obj hr0)
          refine ak_back J (ak_runSP (P := RX4) (C := k0.1) (As := (S.take n).reverse.map (ak_cv E)) (hK.1 cc k0 hk0).2 Sx hMet ⟨g1, g2, g3, g4, g5, g6, hts _ o2.1, hts _ o2.2.1, o2.2.2.1, o5⟩ ⟨bl, ak_recv C' J hr0 hk0, pre⟩ (hts _ o7) (hts _ o8) (hts _ o9) (hts _ o10) (hts _ o11) o6 rfl (by simpa using hc.1) hlz rfl (lv_room (by rw [hsum]; exact hc.2)) hdg f2) kk
        · cases hm
      · cases hm
    · cases hm
  case invokestatic idx =>
    obtain rfl : w = 3 := by simpa [ak_wd] using hwd
    have ho := hok idx rfl
    simp only [ak_call] at hm
    split at hm
    · rename_i mi n _
      split at hm
      · rename_i hc
        cases hm
        obtain ⟨m0, o1, o2, o5, o6, o7⟩ := ho
        obtain rfl : m0 = qj := Option.some.inj (o1.symm.trans hM)
        obtain ⟨g1, g2, g3, g4, g5, g6⟩ := six o2
        have hst := ak_take (E := E) hc.1 rfl rfl
        rw [hst]
        refine ak_back J (va_runS (As := (S.take n).reverse.map (ak_cv E)) Sx hMet ⟨⟨g1, g2, g3, g4, g5, g6, hts _ o2.1, hts _ o2.2.1, o2.2.2.1, len o5, hts _ o6⟩, hts _ o7⟩ ⟨bl, pre⟩ rfl (by simpa using hc.1) hlz rfl (lv_room (by rw [hsum]; exact hc.2)) hdg f2) kk
      · cases hm
    · rename_i mi n _
      split at hm
      · rename_i hc
        cases hm
        obtain ⟨m0, o1, o2, o5, o6, o7⟩ := ho
        obtain rfl : m0 = qj := Option.some.inj (o1.symm.trans hM)
        have hst := ak_take (E := E) hc.1 rfl rfl
        rw [hst]
        refine ak_back J (va_runSN (host := RX11) (As := (S.take n).reverse.map (ak_cv E)) Sx hMet ⟨⟨six o2, hts _ o2.1, hts _ o2.2.1, o2.2.2.1, len o5, va_Nw.use rfl (hG.2.2.2.2.1 _ o6)⟩, hts _ o7, trivial⟩ ⟨bl, pre⟩ rfl (by simpa using hc.1) hlz rfl (lv_room (by rw [hsum]; exact hc.2)) hdg f2) kk
      · cases hm
    · rename_i mi n _
      split at hm
      · rename_i hc
        cases hm
        obtain ⟨m0, o1, o2, o5, o6, o7, o8⟩ := ho
        obtain rfl : m0 = qj := Option.some.inj (o1.symm.trans hM)
        obtain ⟨g1, g2, g3, g4, g5, g6⟩ := six o2
        have hst := ak_take (E := E) hc.1 rfl rfl
        rw [hst]
        refine ak_back J (ak_runSX (As := (S.take n).reverse.map (ak_cv E)) Sx hMet ⟨g1, g2, g3, g4, g5, g6, hts _ o2.1, hts _ o2.2.1, o2.2.2.1, o5⟩ ⟨bl, pre⟩ (hts _ o6) (hts _ o7) (hts _ o8) rfl (by simpa using hc.1) hlz rfl (lv_room (by rw [hsum]; exact hc.2)) hdg f2) kk
      · cases hm
    · cases hm
  all_goals (simp [ak_call] at hm)
end AKR
