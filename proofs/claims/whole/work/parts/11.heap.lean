/-! the heap's steps, put together -/
theorem ak_cv_rf (E : ak_E) (o : Option Nat) : ak_cv E (va_rf o) = va_rf (o.map (ak_ad E)) := by cases o <;> rfl
def ak_new (ins : Instr) : Bool := match ins with
  | .new _ => true
  | .newarray _ => true
  | .anewarray _ => true
  | _ => false
section AKH
variable {p : Program} {l : Launch} {e : Env} {R : Room} {s : State} {m : MethodId} {args : Array Value} {below : List Frame} {meth : Method} {c : Code} {H : Heap} {locs : List Loc} {cells slots : Nat} {Q : State → Prop}
variable {pc w d : Nat} {ls : Array Slot} {E : ak_E} {Z : ak_Z} {q : ak_Q} {ins : Instr} {x : ak_X} {h h' : ak_H}
theorem ak_recv (C : ak_C E Z p s m args meth c q) (J : ak_J E s h H locs) {r ci : Nat} {k : vw_C} (hr : h.1[r]? = some (.inl ci)) (hc : vwCl[ci]? = some k) : ∃ cell : Cell, H[ak_ad E r]? = some cell ∧ cell.vm.isStatics = false ∧ s.vm.findClass k.1 = some cell.cls := va_recv C.2.2.2.2.2.1 J.2.2.1 hc (ak_ws_obj hr)
set_option maxHeartbeats 4000000 in
theorem ak_inst_ok (C : ak_C E Z p s m args meth c q) (J : ak_J E s h H locs) {idx r cc j : Nat} {st : List Value} {k1 : vw_C} (hr : h.1[r]? = some (.inl cc)) (hj0 : vwCl[j]? = some k1) (hlink : Cond.classLink q.1.cls idx k1.1 ∈ ak_Ts) (hc6 : cc = 0 ∨ cc = 1 ∨ cc = 2 ∨ cc = 3 ∨ cc = 4 ∨ cc = 9) (hj5 : j = 0 ∨ j = 1 ∨ j = 2 ∨ j = 4 ∨ j = 9)
    (hdg : decode q.2.1 pc = .ok (.instanceof idx, 3)) (k : W p l e R s m args below meth c H locs cells slots Q (F0 m (pc + 3) ls (.int (if ak_sub cc j = true then 1 else 0) :: st))) : W p l e R s m args below meth c H locs cells slots Q (F0 m pc ls (.ref (ak_ad E r) :: st)) := by
  have C' := C
  obtain ⟨hx, hb, hml, hown, hts, hK, hG, hbs, hini⟩ := C
  have self : ∀ {kc : vw_C}, vwCl[cc]? = some kc → cc = j → W p l e R s m args below meth c H locs cells slots Q (F0 m pc ls (.ref (ak_ad E r) :: st)) := by
    intro kc hkc hcj
    subst hcj
    obtain rfl : kc = k1 := Option.some.inj (hkc.symm.trans hj0)
    refine va_instS hx hb hown (hts _ hlink) (hK.1 cc kc hkc).2 (ak_recv C' J hr hkc) hdg ?_
    have e1 : ak_sub cc cc = true := by simp [ak_sub]
    rw [if_pos e1] at k
    exact k
  have cast : ∀ {kc : vw_C}, vwCl[cc]? = some kc → Cond.castable kc.1 k1.1 ∈ ak_nw → ak_sub cc j = true → W p l e R s m args below meth c H locs cells slots Q (F0 m pc ls (.ref (ak_ad E r) :: st)) := by
    intro kc hkc hm hs
    refine va_instY hx hb hown (hts _ hlink) (hG.2.2.2.2.1 _ hm) (ak_recv C' J hr hkc) hdg ?_
    rw [if_pos hs] at k
    exact k
  have no : ∀ {kc : vw_C}, vwCl[cc]? = some kc → va_Nc kc.1 k1.1 s → ak_sub cc j = false → W p l e R s m args below meth c H locs cells slots Q (F0 m pc ls (.ref (ak_ad E r) :: st)) := by
    intro kc hkc hn hs
    refine va_instNo hx hb hown (hts _ hlink) hn (ak_recv C' J hr hkc) hdg ?_
    rw [if_neg (by rw [hs]; decide)] at k
    exact k
  have hN := hG.2.2.2.2.2.1
  rcases hc6 with rfl | rfl | rfl | rfl | rfl | rfl <;> rcases hj5 with rfl | rfl | rfl | rfl | rfl <;> cases hj0 <;>
    first
    | exact self rfl rfl
    | exact cast (kc := (RX2, TX2, 0)) rfl (by decide +kernel) rfl
    | exact cast (kc := (RX1, TX1, 0)) rfl (by decide +kernel) rfl
    | exact no rfl (((hN _ (by decide) _ (by decide) (by decide)).resolve_left (by decide)).resolve_left (by decide)) rfl
set_option maxHeartbeats 8000000 in
theorem ak_mem_ok (C : ak_C E Z p s m args meth c q) (hall : ak_mall q) (J : ak_J E s h H locs) (hnew : ak_new ins = false) (hdg : decode q.2.1 pc = .ok (ins, w)) (hwd : ak_wd ins w = true) (hok : ∀ i, ak_idx ins = some i → ak_okr q.1.cls i x)
    (hdf : d ≤ R.frames) (hdl : 40 * d ≤ R.locals) (hcc : cells ≤ R.cells) (hss : slots ≤ R.slots) (hlz : ls.size = q.2.2.1) {S S' : List Value} (hm : ak_mem Z d q.2.2.2.2.2 (q.1.name == "<init>") ins x S h = some (S', h'))
    (k : ∀ (H1 : Heap) (locs1 : List Loc), h'.1 = h.1 → ak_J E s h' H1 locs1 → W p l e R s m args below meth c H1 locs1 cells slots Q (F0 m (pc + w) ls (S'.map (ak_cv E)))) : W p l e R s m args below meth c H locs cells slots Q (F0 m pc ls (S.map (ak_cv E))) := by
  have C' := C
  obtain ⟨hx, hb, hml, hown, hts, hK, hG, hbs, hini⟩ := C
  cases ins
  case getfield idx =>
    obtain rfl : w = 3 := by simpa [ak_wd] using hwd
    have ho := hok idx rfl
    simp only [ak_mem] at hm
    split at hm
    · rename_i ci kf _ r st
      split at hm
      · rename_i hr
        cases hfv : ak_fv h ci r kf with
        | none => rw [hfv] at hm; cases hm
        | some v =>
          rw [hfv] at hm
          cases hm
          obtain ⟨⟨Cn, T, N⟩, hc, hkN, hlink, -⟩ := ho
          obtain ⟨hin, -, -, hlen, -⟩ := ak_cls hc
          exact va_get (D := E.1) (ci := ci) (v := ak_cv E v) (C := Cn) (T := T) (N := N) hx hb hts hin hown hK J.2.2.1 r (ak_ws_obj hr) hc kf hkN (hts _ hlink) (fun _ h9 => h9) (ak_fs_at hfv (by rw [hlen]; exact hkN)) hdg (k _ _ rfl J)
      · cases hm
    · rename_i f _ _ r st
      by_cases hr : 1000000 ≤ r ∧ r < 1000012
      · rw [if_pos hr] at hm
        have hr1 : (1000000 : Nat) ≤ (r : Nat) := hr.1
        have hr2 : (r : Nat) < (1000012 : Nat) := hr.2
        obtain ⟨rn, hrn⟩ : ∃ rn : Nat, rn = r := ⟨r, rfl⟩
        have hr3 : (1000000 : Nat) ≤ rn := by rw [hrn]; exact hr.1
        have hr4 : rn < (1000012 : Nat) := by rw [hrn]; exact hr.2
        subst hrn
        obtain ⟨g1, g2, g3⟩ := hG.2.1 (rn - 1000000) (by omega)
        have er : 1000000 + (rn - 1000000) = rn := by omega
        have er2 : 1000100 + (rn - 1000000) = rn + 100 := by omega
        rw [er] at g2 g3
        rw [er2] at g3
        have ea : ak_cv E (.ref rn) = .ref (E.2.2.2.1 rn) := by
          show Value.ref (ak_ad E rn) = _
          rw [ak_ad_st hr.1]
        show W p l e R s m args below meth c H locs cells slots Q (F0 m pc ls (ak_cv E (.ref rn) :: st.map (ak_cv E)))
        rw [ea]
        by_cases hf : f = 0
        · rw [if_pos hf] at hm
          cases hm
          subst hf
          refine vk_getf hx hb g3 J.2.2.2 hown (hts _ ho) (fun _ h9 => h9) hdg ?_
          have := k _ _ rfl J
          have e2 : ak_cv E (.ref (rn + 100)) = .ref (E.2.2.2.1 (rn + 100)) := by
            show Value.ref (ak_ad E (rn + 100)) = _
            rw [ak_ad_st (by omega)]
          rw [← e2]
          exact this
        · rw [if_neg hf] at hm
          cases hm
          have ho' : Cond.fieldLink q.1.cls idx "java/lang/String" (if f = 0 then "value" else "coder") (if f = 0 then "[B" else "B") ∈ ak_Ts := ho
          rw [if_neg hf, if_neg hf] at ho'
          exact vk_getf hx hb g2 J.2.2.2 hown (hts _ ho') (fun _ h9 => h9) hdg (k _ _ rfl J)
      · rw [if_neg hr] at hm
        cases hm
    · cases hm
  case putfield idx =>
    obtain rfl : w = 3 := by simpa [ak_wd] using hwd
    have ho := hok idx rfl
    simp only [ak_mem] at hm
    split at hm
    · rename_i ci kf fin v r st
      split at hm
      · rename_i hr
        cases hfv : ak_fp h ci r kf v with
        | none => rw [hfv] at hm; cases hm
        | some h2 =>
          rw [hfv] at hm
          cases hm
          refine ak_put_ok C' J hr.1 hfv ho ?_ hdg (fun H1 locs1 J1 => k H1 locs1 (ak_fp_1 hfv) J1)
          rcases hr.2 with g | ⟨g1, g2⟩
          · exact Or.inl g
          · refine Or.inr ⟨g1, ?_⟩
            obtain ⟨rr, hc, -⟩ := ho
            rw [hc]
            exact congrArg some (hall.2.2 rr (by rw [g2]; exact hc))
      · cases hm
    · cases hm
  case getstatic idx =>
    obtain rfl : w = 3 := by simpa [ak_wd] using hwd
    have ho := hok idx rfl
    simp only [ak_mem] at hm
    obtain ⟨z1, z2, z3, z4⟩ := hG.2.2.1
    have e0 : ak_cv E (.ref 2000000) = .ref (E.2.2.2.1 2000000) := by
      show Value.ref (ak_ad E 2000000) = _
      rw [ak_ad_st (by decide)]
    have e1 : ak_cv E (.ref 2000001) = .ref (E.2.2.2.1 2000001) := by
      show Value.ref (ak_ad E 2000001) = _
      rw [ak_ad_st (by decide)]
    split at hm
    · cases hm
      obtain ⟨y, hy, hl⟩ := ho
      cases hy
      refine va_gets hx hb z1 J.2.2.2 hown (hts _ hl) (fun _ h9 => h9) hdg ?_
      rw [← e0]
      exact k _ _ rfl J
    · cases hm
      obtain ⟨y, hy, hl⟩ := ho
      cases hy
      refine va_gets hx hb z2 J.2.2.2 hown (hts _ hl) (fun _ h9 => h9) hdg ?_
      rw [← e1]
      exact k _ _ rfl J
    · cases hm
      obtain ⟨y, hy, hl⟩ := ho
      cases hy
      exact va_gets hx hb z3 J.2.2.2 hown (hts _ hl) (fun _ h9 => h9) hdg (k _ _ rfl J)
    · cases hm
      obtain ⟨y, hy, hl⟩ := ho
      cases hy
      exact va_gets hx hb z4 J.2.2.2 hown (hts _ hl) (fun _ h9 => h9) hdg (k _ _ rfl J)
    · cases hm
  case iaload =>
    obtain rfl : w = 1 := by simpa [ak_wd] using hwd
    simp only [ak_mem] at hm
    split at hm
    · rename_i i r st
      split at hm
      · rename_i n hr
        split at hm
        · rename_i hin
          cases hm
          exact va_iald hx hb hK J.2.2.1 r 0 (show (ak_ws E h)[r]? = some (ak_ad E r, .inl (E.2.1 0, n, .inl (h.2.1 r))) from ak_ws_arr hr) rfl (ak_inb_in hin) hdg (k _ _ rfl J)
        · cases hm
      · cases hm
      · split at hm
        · rename_i n f hsa
          split at hm
          · rename_i hin
            cases hm
            have ea : ak_cv E (.ref r) = .ref (E.2.2.2.1 r) := by
              show Value.ref (ak_ad E r) = _
              rw [ak_ad_st (ak_sa_ge hsa)]
            show W p l e R s m args below meth c H locs cells slots Q (F0 m pc ls (.int i :: ak_cv E (.ref r) :: st.map (ak_cv E)))
            rw [ea]
            exact va_ti hx hb (hG.1 _ _ _ _ hsa) J.2.2.2 (ak_inb_in hin) rfl hdg (k _ _ rfl J)
          · cases hm
        · cases hm
    · cases hm
  case baload =>
    obtain rfl : w = 1 := by simpa [ak_wd] using hwd
    simp only [ak_mem] at hm
    split at hm
    · rename_i i r st
      split at hm
      · rename_i n hr
        split at hm
        · rename_i hin
          cases hm
          exact va_zald hx hb hK J.2.2.1 r 1 (show (ak_ws E h)[r]? = some (ak_ad E r, .inl (E.2.1 1, n, .inl (h.2.1 r))) from ak_ws_arr hr) rfl (ak_inb_in hin) hdg (k _ _ rfl J)
        · cases hm
      · cases hm
      · split at hm
        · rename_i n f hsa
          split at hm
          · rename_i hin
            cases hm
            have ea : ak_cv E (.ref r) = .ref (E.2.2.2.1 r) := by
              show Value.ref (ak_ad E r) = _
              rw [ak_ad_st (ak_sa_ge hsa)]
            show W p l e R s m args below meth c H locs cells slots Q (F0 m pc ls (.int i :: ak_cv E (.ref r) :: st.map (ak_cv E)))
            rw [ea]
            exact va_tb hx hb (hG.1 _ _ _ _ hsa) J.2.2.2 (ak_inb_in hin) rfl hdg (k _ _ rfl J)
          · cases hm
        · cases hm
    · cases hm
  case aaload =>
    obtain rfl : w = 1 := by simpa [ak_wd] using hwd
    simp only [ak_mem] at hm
    split at hm
    · rename_i i r st
      split at hm
      · rename_i t n hr
        split at hm
        · rename_i hin
          cases hm
          have has : ak_as E h r t n = (n, .inr (.inr (.inr (.inr (fun j => (h.2.2.2 r j).map (ak_ad E)))))) := by unfold ak_as; rw [if_pos hin.1]
          have he := ak_ws_arr (E := E) hr
          rw [has] at he
          obtain ⟨ht, -, -⟩ := ak_rn_tys (E := E) hin.1
          refine va_aldq hx hb hK J.2.2.1 r t he ht (ak_inb_in hin.2) hdg ?_
          rw [← ak_cv_rf E (h.2.2.2 r i.toNatClampNeg)]
          exact k _ _ rfl J
        · cases hm
      · cases hm
    · cases hm
  case arraylength =>
    obtain rfl : w = 1 := by simpa [ak_wd] using hwd
    simp only [ak_mem] at hm
    split at hm
    · rename_i r st
      split at hm
      · rename_i t n hr
        split at hm
        · rename_i ht5
          cases hm
          have he := ak_ws_arr (E := E) hr
          have hn : (ak_as E h r t n).1 = n := by unfold ak_as; split <;> rfl
          have htt : ∃ ty, (ak_tys E)[t]? = some (E.2.1 t, ty) := by
            have : t = 0 ∨ t = 1 ∨ t = 2 ∨ t = 3 ∨ t = 4 := by omega
            rcases this with rfl | rfl | rfl | rfl | rfl <;> exact ⟨_, rfl⟩
          obtain ⟨ty, hty⟩ := htt
          exact va_alen hx hb hK J.2.2.1 r t he hty (by rw [hn]) hdg (k _ _ rfl J)
        · cases hm
      · cases hm
      · split at hm
        · rename_i b n f hsa
          cases hm
          have ea : ak_cv E (.ref r) = .ref (E.2.2.2.1 r) := by
            show Value.ref (ak_ad E r) = _
            rw [ak_ad_st (ak_sa_ge hsa)]
          show W p l e R s m args below meth c H locs cells slots Q (F0 m pc ls (ak_cv E (.ref r) :: st.map (ak_cv E)))
          rw [ea]
          exact va_tlen hx hb (hG.1 _ _ _ _ hsa) J.2.2.2 rfl hdg (k _ _ rfl J)
        · cases hm
    · cases hm
  case iastore =>
    obtain rfl : w = 1 := by simpa [ak_wd] using hwd
    simp only [ak_mem] at hm
    split at hm
    · rename_i v i r st
      split at hm
      · rename_i n hr
        split at hm
        · rename_i hin
          cases hm
          exact ak_iast_ok C' J hr hin hdg (fun H1 locs1 J1 => k H1 locs1 rfl J1)
        · cases hm
      · cases hm
    · cases hm
  case bastore =>
    obtain rfl : w = 1 := by simpa [ak_wd] using hwd
    simp only [ak_mem] at hm
    split at hm
    · rename_i v i r st
      split at hm
      · rename_i n hr
        split at hm
        · rename_i hin
          cases hm
          exact ak_bast_ok C' J hr hin.1 hin.2 hdg (fun H1 locs1 J1 => k H1 locs1 rfl J1)
        · cases hm
      · cases hm
    · cases hm
  case aastore =>
    obtain rfl : w = 1 := by simpa [ak_wd] using hwd
    simp only [ak_mem] at hm
    split at hm
    · rename_i v i r st
      split at hm
      · rename_i t n cc hr hv
        split at hm
        · rename_i hin
          cases hm
          exact ak_aast_ok C' J hr hv hin.1 hin.2.1 hin.2.2 hdg (fun H1 locs1 J1 => k H1 locs1 rfl J1)
        · cases hm
      · cases hm
    · cases hm
  case instanceof idx =>
    obtain rfl : w = 3 := by simpa [ak_wd] using hwd
    have ho := hok idx rfl
    simp only [ak_mem] at hm
    split at hm
    · rename_i j _ _ r st
      split at hm
      · rename_i cc hr
        split at hm
        · rename_i hcj
          cases hm
          obtain ⟨k1, hk1, hlink⟩ := ho
          exact ak_inst_ok C' J hr hk1 hlink hcj.1 hcj.2 hdg (k _ _ rfl J)
        · cases hm
      · cases hm
    · cases hm
  case invokespecial idx =>
    obtain rfl : w = 3 := by simpa [ak_wd] using hwd
    have ho := hok idx rfl
    simp only [ak_mem] at hm
    split at hm
    · rename_i _ _ _ r st
      split at hm
      · rename_i hd
        cases hm
        have hsum : ((S'.map (ak_cv E)).map fun v => v.category).sum = (S'.map fun v => v.category).sum := by
          rw [List.map_map]
          exact congrArg List.sum (List.map_congr_left fun v _ => ak_cat hG.2.2.2.2.2.2.2 v)
        exact W.objInit hx hb hown (hts _ ho) (hts _ ak_objw.1) (hts _ ak_objw.2) rfl (hlz.trans hml.symm) rfl hdg (by omega) (by
          have h8 : 2 * (F0 m pc ls []).monitorRoom + ((S'.map (ak_cv E)).map fun v => v.category).sum ≤ 8 := lv_room (by rw [hsum]; exact hd.2)
          have h9 : (F0 m pc ls ((.ref (ak_ad E r)) :: S'.map (ak_cv E))).monitorRoom = (F0 m pc ls []).monitorRoom := rfl
          show 2 * (F0 m pc ls ((.ref (ak_ad E r)) :: S'.map (ak_cv E))).monitorRoom + _ + 12 ≤ _
          rw [h9]
          omega) (k _ _ rfl J)
      · cases hm
    · cases hm
  case invokestatic idx =>
    obtain rfl : w = 3 := by simpa [ak_wd] using hwd
    have ho := hok idx rfl
    simp only [ak_mem] at hm
    have hsum : ∀ st : List Value, ((st.map (ak_cv E)).map fun v => v.category).sum = (st.map fun v => v.category).sum := by
      intro st
      rw [List.map_map]
      exact congrArg List.sum (List.map_congr_left fun v _ => ak_cat hG.2.2.2.2.2.2.2 v)
    split at hm
    · rename_i _ _ _ b a st
      split at hm
      · rename_i hd
        cases hm
        exact va_mmin hx hb (hml.trans hlz.symm) hown (hts _ ho) (hts _ ak_minw.1) (hts _ ak_minw.2.1) (hts _ ak_minw.2.2) (by omega) (by rw [hsum]; omega) hcc hss hdg (k _ _ rfl J)
      · cases hm
    · rename_i _ _ _ b a st
      split at hm
      · rename_i hd
        cases hm
        exact va_mmax hx hb (hml.trans hlz.symm) hown (hts _ ho) (hts _ ak_maxw.1) (hts _ ak_maxw.2.1) (hts _ ak_maxw.2.2) (by omega) (by rw [hsum]; omega) hcc hss hdg (k _ _ rfl J)
      · cases hm
    · rename_i _ _ _ n dp b sp a st
      split at hm
      · rename_i n0 n1 ha hb1
        split at hm
        · rename_i hd
          cases hm
          obtain ⟨hd1, hd2, hd3, hd4, hd5, hd6, hd7, hd8⟩ := hd
          have hD := ak_D E h (ak_N0_lt J.2.1)
          refine va_copyi hx hb (hml.trans hlz.symm) hown (hts _ ho) (hts _ ak_cpyw.1) (hts _ ak_cpyw.2.1) (hts _ ak_cpyw.2.2) hK J.2.2.1 hD J.2.2.2 a b 0 0 (show (ak_ws E h)[a]? = some (ak_ad E a, .inl (E.2.1 0, n0, .inl (h.2.1 a))) from ak_ws_arr ha) (show (ak_ws E h)[b]? = some (ak_ad E b, .inl (E.2.1 0, n1, .inl (h.2.1 b))) from ak_ws_arr hb1) rfl rfl rfl hd4 hd5 hd6 hd7 hd8 (fun _ _ => rfl) (by omega) (by
            rw [hsum]
            have : nativeFrameWords "java/lang/System" "arraycopy" 5 = 7 := by decide
            omega) hdg (fun H1 locs1 hP1 _ hS1 => k H1 locs1 rfl ⟨fun z => absurd z (by show ¬ h.1.length < ak_N0; omega), J.2.1, ?_, hS1⟩)
          have hset := ak_ws_set (E := E) (h := h) (h' := (h.1, ak_cpy h.2.1 a sp.toNatClampNeg b dp.toNatClampNeg n.toNatClampNeg, h.2.2.1, h.2.2.2)) (r := b) (e := .inl (E.2.1 0, n1, .inl (va_cpy (h.2.1 a) (h.2.1 b) sp.toNatClampNeg dp.toNatClampNeg n.toNatClampNeg))) rfl (fun kk hk => by
            cases hb1.symm.trans hk
            show Sum.inl (E.2.1 0, (n1, Sum.inl (ak_cpy h.2.1 a sp.toNatClampNeg b dp.toNatClampNeg n.toNatClampNeg b))) = _
            congr 4
            funext j
            unfold ak_cpy va_cpy
            by_cases hj : dp.toNatClampNeg ≤ j ∧ j < dp.toNatClampNeg + n.toNatClampNeg
            · rw [if_pos ⟨rfl, hj⟩, if_pos hj]
            · rw [if_neg (fun z => hj z.2), if_neg hj]) (fun j kk hj => ak_cell_eq (by
            funext b2
            show ak_cpy _ _ _ _ _ _ j b2 = _
            unfold ak_cpy
            rw [if_neg (fun z => hj z.1)]) rfl rfl)
          rw [← hset]
          exact hP1
        · cases hm
      · cases hm
    · cases hm
  all_goals first | (simp [ak_new] at hnew; done) | (simp [ak_mem] at hm; done)
end AKH
