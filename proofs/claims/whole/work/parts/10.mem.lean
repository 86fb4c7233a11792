/-! the small machine's steps are the bytecode's: the heap -/
def ak_tyb : Nat → FieldType → Bool
  | 0, .int => true
  | 1, .boolean => true
  | 2, .long => true
  | 3, .object _ => true
  | 3, .array _ => true
  | _, _ => false
/-- what is known of a class of ours -/
def ak_clk (ci : Nat) (r : vw_C) : Prop := (∀ w ∈ u_ws r.1 r.2.1 r.2.2, w ∈ ak_Ts) ∧ (∃ ty : Nat → FieldType, (∀ k, k < r.2.2 → parseFieldDescriptor (r.2.1 k).2.2.1 = some (ty k)) ∧ ∀ k, k < r.2.2 → ak_tyb ((ak_F.getD ci []).getD k 9) (ty k) = true) ∧ (∀ a, a < r.2.2 → ∀ b, b < r.2.2 → a ≠ b → (r.2.1 a).2.1 ≠ (r.2.1 b).2.1) ∧ (ak_F.getD ci []).length = r.2.2 ∧ (∀ k, k < r.2.2 → (r.2.1 k).1 = r.1) ∧ Cond.instantiable r.1 r.2.2 ∈ ak_Ts ∧ Cond.initialized r.1 ∈ ak_Ts
theorem ak_uws {C : String} {T : u_T} {N : Nat} (h : ∀ w ∈ u_ws C T N, w ∈ lw_tbl) (g : (u_ws C T N).all goodWord = true) : ∀ w ∈ u_ws C T N, w ∈ ak_Ts := fun w hw => List.mem_filter.mpr ⟨h w hw, List.all_eq_true.mp g w hw⟩
set_option maxRecDepth 100000 in
theorem ak_clk_0 : ak_clk 0 (RX0, TX0, 0) := ⟨ak_uws (by decide +kernel) (by decide +kernel), ⟨tyX0, tyX0_ok, by decide +kernel⟩, nmX0, rfl, by decide +kernel, ak_w 227 (by decide +kernel) (by decide +kernel), ak_w 100 (by decide +kernel) (by decide +kernel)⟩
set_option maxRecDepth 100000 in
theorem ak_clk_1 : ak_clk 1 (RX1, TX1, 0) := ⟨ak_uws (by decide +kernel) (by decide +kernel), ⟨tyX1, tyX1_ok, by decide +kernel⟩, nmX1, rfl, by decide +kernel, ak_w 220 (by decide +kernel) (by decide +kernel), ak_w 99 (by decide +kernel) (by decide +kernel)⟩
set_option maxRecDepth 100000 in
theorem ak_clk_2 : ak_clk 2 (RX2, TX2, 0) := ⟨ak_uws (by decide +kernel) (by decide +kernel), ⟨tyX2, tyX2_ok, by decide +kernel⟩, nmX2, rfl, by decide +kernel, ak_w 213 (by decide +kernel) (by decide +kernel), ak_w 98 (by decide +kernel) (by decide +kernel)⟩
set_option maxRecDepth 100000 in
theorem ak_clk_3 : ak_clk 3 (RX3, TX3, 0) := ⟨ak_uws (by decide +kernel) (by decide +kernel), ⟨tyX3, tyX3_ok, by decide +kernel⟩, nmX3, rfl, by decide +kernel, ak_w 192 (by decide +kernel) (by decide +kernel), ak_w 95 (by decide +kernel) (by decide +kernel)⟩
set_option maxRecDepth 100000 in
theorem ak_clk_4 : ak_clk 4 (RX4, TX4, 0) := ⟨ak_uws (by decide +kernel) (by decide +kernel), ⟨tyX4, tyX4_ok, by decide +kernel⟩, nmX4, rfl, by decide +kernel, ak_w 199 (by decide +kernel) (by decide +kernel), ak_w 96 (by decide +kernel) (by decide +kernel)⟩
set_option maxRecDepth 100000 in
theorem ak_clk_5 : ak_clk 5 (RX5, TX5, 12) := ⟨ak_uws (by decide +kernel) (by decide +kernel), ⟨tyX5, tyX5_ok, by decide +kernel⟩, nmX5, rfl, by decide +kernel, ak_w 301 (by decide +kernel) (by decide +kernel), ak_w 102 (by decide +kernel) (by decide +kernel)⟩
set_option maxRecDepth 100000 in
theorem ak_clk_6 : ak_clk 6 (RX6, TX6, 5) := ⟨ak_uws (by decide +kernel) (by decide +kernel), ⟨tyX6, tyX6_ok, by decide +kernel⟩, nmX6, rfl, by decide +kernel, ak_w 183 (by decide +kernel) (by decide +kernel), ak_w 94 (by decide +kernel) (by decide +kernel)⟩
set_option maxRecDepth 100000 in
theorem ak_clk_7 : ak_clk 7 (RX7, TX7, 3) := ⟨ak_uws (by decide +kernel) (by decide +kernel), ⟨tyX7, tyX7_ok, by decide +kernel⟩, nmX7, rfl, by decide +kernel, ak_w 346 (by decide +kernel) (by decide +kernel), ak_w 103 (by decide +kernel) (by decide +kernel)⟩
set_option maxRecDepth 100000 in
theorem ak_clk_8 : ak_clk 8 (RX8, TX8, 12) := ⟨ak_uws (by decide +kernel) (by decide +kernel), ⟨tyX8, tyX8_ok, by decide +kernel⟩, nmX8, rfl, by decide +kernel, ak_w 121 (by decide +kernel) (by decide +kernel), ak_w 93 (by decide +kernel) (by decide +kernel)⟩
set_option maxRecDepth 100000 in
theorem ak_clk_9 : ak_clk 9 (RX9, TX9, 0) := ⟨ak_uws (by decide +kernel) (by decide +kernel), ⟨tyX9, tyX9_ok, by decide +kernel⟩, nmX9, rfl, by decide +kernel, ak_w 206 (by decide +kernel) (by decide +kernel), ak_w 97 (by decide +kernel) (by decide +kernel)⟩
set_option maxRecDepth 100000 in
theorem ak_clk_10 : ak_clk 10 (RX10, TX10, 12) := ⟨ak_uws (by decide +kernel) (by decide +kernel), ⟨tyX10, tyX10_ok, by decide +kernel⟩, nmX10, rfl, by decide +kernel, ak_w 233 (by decide +kernel) (by decide +kernel), ak_w 101 (by decide +kernel) (by decide +kernel)⟩
set_option maxRecDepth 100000 in
theorem ak_clk_11 : ak_clk 11 (RX11, TX11, 9) := ⟨ak_uws (by decide +kernel) (by decide +kernel), ⟨tyX11, tyX11_ok, by decide +kernel⟩, nmX11, rfl, by decide +kernel, ak_w 113 (by decide +kernel) (by decide +kernel), ak_w 92 (by decide +kernel) (by decide +kernel)⟩
set_option maxRecDepth 100000 in
theorem ak_clk_12 : ak_clk 12 (RX12, TX12, 44) := ⟨ak_uws (by decide +kernel) (by decide +kernel), ⟨tyX12, tyX12_ok, by decide +kernel⟩, nmX12, rfl, by decide +kernel, ak_w 1060 (by decide +kernel) (by decide +kernel), ak_w 104 (by decide +kernel) (by decide +kernel)⟩
theorem ak_cls : ∀ {ci : Nat} {r : vw_C}, vwCl[ci]? = some r → ak_clk ci r := by
  intro ci r h
  match ci, h with
  | 0, h => cases h; exact ak_clk_0
  | 1, h => cases h; exact ak_clk_1
  | 2, h => cases h; exact ak_clk_2
  | 3, h => cases h; exact ak_clk_3
  | 4, h => cases h; exact ak_clk_4
  | 5, h => cases h; exact ak_clk_5
  | 6, h => cases h; exact ak_clk_6
  | 7, h => cases h; exact ak_clk_7
  | 8, h => cases h; exact ak_clk_8
  | 9, h => cases h; exact ak_clk_9
  | 10, h => cases h; exact ak_clk_10
  | 11, h => cases h; exact ak_clk_11
  | 12, h => cases h; exact ak_clk_12
  | n + 13, h => simp [vwCl] at h
theorem ak_fp_ty {E : ak_E} {h h' : ak_H} {ci r k : Nat} {v : Value} {ty : FieldType} (hp : ak_fp h ci r k v = some h') (ht : ak_tyb ((ak_F.getD ci []).getD k 9) ty = true) : narrow ty (ak_cv E v) = ak_cv E v ∧ fits ty (ak_cv E v) = true := by
  unfold ak_fp at hp
  split at hp
  · rename_i e
    rw [e] at ht
    cases ty <;> first | exact ⟨rfl, rfl⟩ | (simp [ak_tyb] at ht; done)
  · rename_i e
    rw [e] at ht
    split at hp
    · rename_i a ha
      cases ty <;> first | (simp [ak_tyb] at ht; done) | (rcases a with rfl | rfl <;> exact ⟨rfl, rfl⟩) | (rcases ha with rfl | rfl <;> exact ⟨rfl, rfl⟩)
    · cases hp
  · rename_i e
    rw [e] at ht
    cases ty <;> first | exact ⟨rfl, rfl⟩ | (simp [ak_tyb] at ht; done)
  · rename_i e
    rw [e] at ht
    cases ty <;> first | exact ⟨rfl, rfl⟩ | (simp [ak_tyb] at ht; done)
  · cases hp
theorem ak_N0_lt {n : Nat} (h : n ≤ ak_N0) : n ≤ 1000000 := Nat.le_trans h (by decide)
/-- one cell of ours is written -/
theorem ak_J.set {E : ak_E} {s : State} {h h' : ak_H} {H H1 : Heap} {locs : List Loc} (J : ak_J E s h H locs) {r : Nat} {e e0 : va_E} (h1 : h'.1 = h.1) (he : (ak_ws E h)[r]? = some (ak_ad E r, e0)) (hset : (ak_ws E h).set r (ak_ad E r, e) = ak_ws E h') (hat : va_at E.1 vwCl (ak_ad E r, e) H1) (z : H1.size = H.size) (oq : ∀ q : Nat, q ≠ ak_ad E r → H1[q]? = H[q]?) (n : Nat) : ak_J E s h' H1 (locs ++ [⟨ak_ad E r, n⟩]) := by
  obtain ⟨j1, j2, j3, j4⟩ := J
  have hD := ak_D E h (ak_N0_lt j2)
  exact ⟨fun hl => by rw [z, h1]; exact j1 (by rw [← h1]; exact hl), by rw [h1]; exact j2, by rw [← hset]; exact j3.set hD he hat oq, j4.put z oq (hD.2 r _ he)⟩
/-- a new cell of ours -/
theorem ak_J.push {E : ak_E} {s : State} {h h' : ak_H} {H H1 : Heap} {locs : List Loc} (J : ak_J E s h H locs) (hb : E.2.2.1 ≤ s.heap.size) {k : ak_K} (hn : h.1.length < ak_N0) (h1 : h'.1 = h.1 ++ [k]) (ho : ∀ i kk, i < h.1.length → ak_cell E h' i kk = ak_cell E h i kk) (hat : va_at E.1 vwCl (H.size, ak_cell E h' h.1.length k) H1) (z : H1.size = H.size + 1) (oq : ∀ q : Nat, q < H.size → H1[q]? = H[q]?) : ak_J E s h' H1 locs ∧ ak_ad E h.1.length = H.size := by
  obtain ⟨j1, j2, j3, j4⟩ := J
  have hz := j1 hn
  have hN : ak_N0 ≤ 1000000 := by decide
  have had : ak_ad E h.1.length = H.size := by
    unfold ak_ad
    rw [if_pos (by omega)]
    exact hz.symm
  refine ⟨⟨fun _ => by rw [z, h1, hz]; simp; omega, by rw [h1]; simp; omega, ?_, ⟨Nat.le_trans j4.1 (by omega), fun q g1 g2 => (oq q (Nat.lt_of_lt_of_le g1 j4.1)).trans (j4.2.1 q g1 g2), j4.2.2⟩⟩, had⟩
  intro i q hq
  rw [ak_ws_at, h1] at hq
  by_cases hi : i < h.1.length
  · rw [List.getElem?_append_left hi] at hq
    cases hk : h.1[i]? with
    | none => rw [hk] at hq; cases hq
    | some kk =>
      rw [hk] at hq
      cases hq
      have hw : (ak_ws E h)[i]? = some (ak_ad E i, ak_cell E h i kk) := by rw [ak_ws_at, hk]; rfl
      have := j3 i _ hw
      show va_at E.1 vwCl (ak_ad E i, ak_cell E h' i kk) H1
      rw [ho i kk hi]
      exact this.kept (oq _ this.lt)
  · have hi2 : i = h.1.length := by
      have := (List.getElem?_eq_some_iff.mp (show (h.1 ++ [k])[i]? = some ((h.1 ++ [k])[i]'(by
        cases hk : (h.1 ++ [k])[i]? with
        | none => rw [hk] at hq; cases hq
        | some _ => exact (List.getElem?_eq_some_iff.mp hk).1)) from by simp)).1
      simp at this
      omega
    subst hi2
    rw [List.getElem?_append_right (Nat.le_refl _)] at hq
    simp at hq
    rw [← hq, had]
    exact hat
section AKM
variable {p : Program} {l : Launch} {e : Env} {R : Room} {s : State} {m : MethodId} {args : Array Value} {below : List Frame} {meth : Method} {c : Code} {H : Heap} {locs : List Loc} {cells slots : Nat} {Q : State → Prop}
variable {pc w : Nat} {ls : Array Slot} {E : ak_E} {Z : ak_Z} {q : ak_Q} {ins : Instr} {x : ak_X} {h : ak_H} {st : List Value}
set_option maxHeartbeats 1000000 in
/-- putfield -/
theorem ak_put_ok (C : ak_C E Z p s m args meth c q) (J : ak_J E s h H locs) {idx ci r k : Nat} {fin : Int} {v : Value} {h' : ak_H} (hr : h.1[r]? = some (.inl ci)) (hp : ak_fp h ci r k v = some h') (ho : ak_okr q.1.cls idx (1, ci, k, fin)) (hf : fin = 0 ∨ ((q.1.name == "<init>") = true ∧ vwCl[ci]?.map (fun r => r.1) = some q.1.cls))
    (hdg : decode q.2.1 pc = .ok (.putfield idx, 3)) (kk : ∀ (H1 : Heap) (locs1 : List Loc), ak_J E s h' H1 locs1 → W p l e R s m args below meth c H1 locs1 cells slots Q (F0 m (pc + 3) ls st)) : W p l e R s m args below meth c H locs cells slots Q (F0 m pc ls (ak_cv E v :: .ref (ak_ad E r) :: st)) := by
  obtain ⟨hx, hb, hml, hown, hts, hK, hG, hbs, hini⟩ := C
  obtain ⟨⟨Cn, T, N⟩, hc, hkN, hlink, hfin⟩ := ho
  obtain ⟨hin, ⟨ty, hty, htk⟩, hnm, hlen, hdecl, -, -⟩ := ak_cls hc
  dsimp only at hkN hlink hfin hin hty htk hnm hlen hdecl
  obtain ⟨hn, hfit⟩ := ak_fp_ty (E := E) hp (htk k hkN)
  have he := ak_ws_obj (E := E) hr
  have hap := va_apart (own := Cn) hts hin ty hty hnm hK hc
  obtain ⟨r', h1, cell, q1, q2, q3, q4⟩ := J.2.2.1 r _ he
  obtain rfl : r' = (Cn, T, N) := Option.some.inj (h1.symm.trans hc)
  obtain ⟨hS, hfc, kC, hkC, hkind⟩ := hK.1 ci _ hc
  obtain ⟨cf, kf, fi, f, hi, hsl⟩ := hS k hkN
  have hlay := hts _ (hin _ (u_in_lay hkN))
  have hst := (u_facts hfc hkC (u_lays hts hin hkN) hi).1
  have hd := hty k hkN
  have fin' : ∀ (H' : Heap) (n : Nat), H'[ak_ad E r]? = some (cell.setSlot (E.1.2 ci k) (ak_cv E v)) → H'.size = H.size → (∀ q : Nat, q ≠ ak_ad E r → H'[q]? = H[q]?) → ak_J E s h' H' (locs ++ [⟨ak_ad E r, n⟩]) := by
    intro H' n e1 e2 e3
    refine J.set (ak_fp_1 hp) he (ak_ws_fp hp hr (by rw [hlen]; exact hkN)) ?_ e2 e3 n
    exact ⟨_, hc, t_OB.to (V := updV (vp_V (ak_fs E h ci r)) k (ak_cv E v)) ⟨_, e1, q2, q3, t_set q4 hap hkN (ak_cv E v)⟩ (fun j _ => vp_updV_set (by rw [ak_fs_len, hlen]; exact hkN) (ak_cv E v) j)⟩
  by_cases hfin0 : fin = 0
  · have hfin1 : (T k).2.2.2 = false := by rw [hfin, hfin0]; rfl
    unfold u_lay at hlay
    rw [if_neg (by rw [hfin1]; decide)] at hlay
    have h6 := u_store hfc hkC hkind hlay hi hd hn hfit
    refine W.putK hx hb (f := f) ⟨hown, hts _ hlink, ⟨_, _, _, hi⟩, hst⟩ (by rw [q2]; exact h6) q1 q3 (by rw [hsl]; exact k2_hasslot (q4 k hkN)) rfl rfl hdg fun H' e1 e2 e3 => ?_
    rw [hsl] at e1 ⊢
    exact kk H' _ (fin' H' _ e1 e2 e3)
  · obtain ⟨hi2, hown2⟩ := hf.resolve_left hfin0
    have hfin1 : (T k).2.2.2 = true := by rw [hfin]; simp [hfin0]
    unfold u_lay at hlay
    rw [if_pos hfin1] at hlay
    have hcf : m.cls = cf := by
      obtain ⟨_, _, c', _, _, _, -, -, hf', -, -, -, hw2, -⟩ := Cond.laysFinal_spec hlay
      have e1 : c' = cf := by have := hi.symm.trans hf'; simp at this; exact this.1.symm
      have e2 : (T k).1 = q.1.cls := by
        rw [hdecl k hkN]
        have hc' : vwCl[ci]? = some (Cn, T, N) := hc
        rw [hc'] at hown2
        exact Option.some.inj hown2
      rw [e2] at hw2
      rw [← e1]
      exact Option.some.inj (hown.symm.trans hw2)
    have h6 := u_fits hfc hkC hkind (Or.inr hlay) hi hd hn hfit
    refine W.putFinK hx hb hown (hts _ hlink) hi hst hcf (hini hi2) (by rw [q2]; exact h6) q1 q3 (by rw [hsl]; exact k2_hasslot (q4 k hkN)) rfl rfl hdg fun H' e1 e2 e3 => ?_
    rw [hsl] at e1 ⊢
    exact kk H' _ (fin' H' _ e1 e2 e3)
theorem ak_inb_in {i : Int32} {n : Nat} (h : ak_inb i n = true) : vp_in i n := by
  unfold ak_inb at h
  simp only [Bool.and_eq_true, Bool.not_eq_true', decide_eq_false_iff_not, decide_eq_true_eq] at h
  exact fun z => z.elim h.1 (fun g => absurd h.2 (Nat.not_lt.mpr g))
theorem ak_ad_st {E : ak_E} {r : Nat} (h : 1000000 ≤ r) : ak_ad E r = E.2.2.2.1 r := by
  unfold ak_ad
  rw [if_neg (by omega)]
theorem ak_sa_ge {Z : ak_Z} {r : Nat} {y : Bool × Nat × (Nat → Int32)} (h : ak_sa Z r = some y) : 1000000 ≤ r := by
  unfold ak_sa at h
  split at h
  · omega
  · split at h
    · omega
    · split at h
      · omega
      · split at h
        · omega
        · cases h
set_option maxHeartbeats 1000000 in
/-- iastore, bastore -/
theorem ak_iast_ok (C : ak_C E Z p s m args meth c q) (J : ak_J E s h H locs) {r n : Nat} {i v : Int32} (hr : h.1[r]? = some (.inr (0, n))) (hin : ak_inb i n = true) (hdg : decode q.2.1 pc = .ok (.iastore, 1))
    (kk : ∀ (H1 : Heap) (locs1 : List Loc), ak_J E s (h.1, ak_up h.2.1 r i.toNatClampNeg v, h.2.2.1, h.2.2.2) H1 locs1 → W p l e R s m args below meth c H1 locs1 cells slots Q (F0 m (pc + 1) ls st)) : W p l e R s m args below meth c H locs cells slots Q (F0 m pc ls (.int v :: .int i :: .ref (ak_ad E r) :: st)) := by
  obtain ⟨hx, hb, hml, hown, hts, hK, hG, hbs, hini⟩ := C
  have he := ak_ws_arr (E := E) hr
  have ht : (ak_tys E)[0]? = some (E.2.1 0, .int) := rfl
  refine W.iast hx hb (J.2.2.1 r _ he) ((hK.2 0 _ ht).1 n (fun j => .int (h.2.1 r j))) (fun q => by cases q) (by show ¬ (i < 0 ∨ (arrV _ _ _).slots.size ≤ _); rw [arrV_size]; exact ak_inb_in hin) rfl rfl hdg fun H1 e1 z oq => ?_
  refine kk H1 _ (J.set (h' := (h.1, ak_up h.2.1 r i.toNatClampNeg v, h.2.2.1, h.2.2.2)) rfl he (e := .inl (E.2.1 0, (n, .inl (upd (h.2.1 r) i.toNatClampNeg v)))) (ak_ws_set (h' := (h.1, ak_up h.2.1 r i.toNatClampNeg v, h.2.2.1, h.2.2.2)) rfl (fun k hk => ?_) (fun j k hj => ak_cell_eq (ak_up_ne hj) rfl rfl)) ?_ z oq _)
  · cases hr.symm.trans hk
    show Sum.inl (E.2.1 0, ak_as E _ r 0 n) = _
    unfold ak_as
    show Sum.inl (E.2.1 0, (n, Sum.inl (ak_up h.2.1 r i.toNatClampNeg v r))) = _
    rw [ak_up_row]
  · show H1[ak_ad E r]? = some (vp_cell _ _)
    rw [e1]
    show some ((vp_cell (E.2.1 0) (n, .inl (h.2.1 r))).setSlot _ _) = _
    rw [vp_cell_i, vp_cell_i, arrV_store]
    congr 2
    funext b
    by_cases hb : b = i.toNatClampNeg
    · subst hb
      simp [updV, upd]
    · simp [updV, upd, hb]
set_option maxHeartbeats 1000000 in
theorem ak_bast_ok (C : ak_C E Z p s m args meth c q) (J : ak_J E s h H locs) {r n : Nat} {i v : Int32} (hr : h.1[r]? = some (.inr (1, n))) (hin : ak_inb i n = true) (hv : v = 0 ∨ v = 1) (hdg : decode q.2.1 pc = .ok (.bastore, 1))
    (kk : ∀ (H1 : Heap) (locs1 : List Loc), ak_J E s (h.1, ak_up h.2.1 r i.toNatClampNeg v, h.2.2.1, h.2.2.2) H1 locs1 → W p l e R s m args below meth c H1 locs1 cells slots Q (F0 m (pc + 1) ls st)) : W p l e R s m args below meth c H locs cells slots Q (F0 m pc ls (.int v :: .int i :: .ref (ak_ad E r) :: st)) := by
  obtain ⟨hx, hb, hml, hown, hts, hK, hG, hbs, hini⟩ := C
  have he := ak_ws_arr (E := E) hr
  have ht : (ak_tys E)[1]? = some (E.2.1 1, .boolean) := rfl
  have hnv : narrow .boolean (.int v) = .int v := by rcases hv with rfl | rfl <;> rfl
  refine W.zast hx hb (J.2.2.1 r _ he) ((hK.2 1 _ ht).1 n (fun j => .int (h.2.1 r j))) (fun q => by cases q) (by show ¬ (i < 0 ∨ (arrV _ _ _).slots.size ≤ _); rw [arrV_size]; exact ak_inb_in hin) rfl rfl hdg fun H1 e1 z oq => ?_
  refine kk H1 _ (J.set (h' := (h.1, ak_up h.2.1 r i.toNatClampNeg v, h.2.2.1, h.2.2.2)) rfl he (e := .inl (E.2.1 1, (n, .inl (upd (h.2.1 r) i.toNatClampNeg v)))) (ak_ws_set (h' := (h.1, ak_up h.2.1 r i.toNatClampNeg v, h.2.2.1, h.2.2.2)) rfl (fun k hk => ?_) (fun j k hj => ak_cell_eq (ak_up_ne hj) rfl rfl)) ?_ z oq _)
  · cases hr.symm.trans hk
    show Sum.inl (E.2.1 1, ak_as E _ r 1 n) = _
    unfold ak_as
    show Sum.inl (E.2.1 1, (n, Sum.inl (ak_up h.2.1 r i.toNatClampNeg v r))) = _
    rw [ak_up_row]
  · show H1[ak_ad E r]? = some (vp_cell _ _)
    rw [e1, hnv]
    show some ((vp_cell (E.2.1 1) (n, .inl (h.2.1 r))).setSlot _ _) = _
    rw [vp_cell_i, vp_cell_i, arrV_store]
    congr 2
    funext b
    by_cases hb : b = i.toNatClampNeg
    · subst hb
      simp [updV, upd]
    · simp [updV, upd, hb]
/-- the class that an array of references is of -/
def ak_rn (t : Nat) : String := if t = 2 then RX10 else if t = 3 then RX3 else RX7
theorem ak_rn_tys {t : Nat} (h : ak_arr t = true) : (ak_tys E)[t]? = some (E.2.1 t, .object (ak_rn t)) ∧ (vwCl[ak_el t]?).map (fun r => r.1) = some (ak_rn t) ∧ ak_rn t ∈ [RX10, RX3, RX7] := by
  unfold ak_arr at h
  simp only [Bool.or_eq_true, beq_iff_eq] at h
  rcases h with (rfl | rfl) | rfl
  · exact ⟨rfl, rfl, List.mem_cons_self⟩
  · exact ⟨rfl, rfl, List.mem_cons_of_mem _ List.mem_cons_self⟩
  · exact ⟨rfl, rfl, List.mem_cons_of_mem _ (List.mem_cons_of_mem _ List.mem_cons_self)⟩
/-- an object of a class under another may be taken for it -/
theorem ak_asg (C : ak_C E Z p s m args meth c q) {cc : Nat} {r : vw_C} (hc : vwCl[cc]? = some r) {t : Nat} (ht : ak_arr t = true) (hs : ak_sub cc (ak_el t) = true) {comp : ClassId} (hcomp : s.vm.findClass (ak_rn t) = some comp) : s.vm.assignable (E.1.1 cc) comp = true ∧ ∃ kE, s.vm.classes[comp]? = some kE := by
  obtain ⟨hx, hb, hml, hown, hts, hK, hG, hbs, hini⟩ := C
  obtain ⟨kE, hkE, -⟩ := Vm.findClass_spec hcomp
  refine ⟨?_, kE, hkE⟩
  have hcls := (hK.1 cc r hc).2
  have cast : ∀ {a b : String}, Cond.castable a b ∈ ak_nw → r.1 = a → ak_rn t = b → s.vm.assignable (E.1.1 cc) comp = true := by
    intro a b hm ha hb
    obtain ⟨c0, t1, f1, f2, f3⟩ := Cond.castable_spec (va_Nw.use (A := args) rfl (hG.2.2.2.2.1 _ hm))
    rw [← ha] at f1
    rw [← hb] at f2
    cases hcls.1.symm.trans f1
    cases hcomp.symm.trans f2
    exact f3
  have self : r.1 = ak_rn t → s.vm.assignable (E.1.1 cc) comp = true := by
    intro hh
    have h1 := hcls.1
    rw [hh] at h1
    cases h1.symm.trans hcomp
    exact va_assign hcls
  unfold ak_arr at ht
  simp only [Bool.or_eq_true, beq_iff_eq] at ht
  rcases ht with (rfl | rfl) | rfl
  · have : cc = 10 := by simpa [ak_sub, ak_el] using hs
    subst this
    cases hc
    exact self rfl
  · have : cc = 3 ∨ cc = 0 ∨ cc = 1 ∨ cc = 2 ∨ cc = 4 ∨ cc = 9 := by
      simp [ak_sub, ak_el] at hs
      omega
    rcases this with rfl | rfl | rfl | rfl | rfl | rfl
    · cases hc; exact self rfl
    · cases hc; exact cast (a := RX0) (b := RX3) (by decide +kernel) rfl rfl
    · cases hc; exact cast (a := RX1) (b := RX3) (by decide +kernel) rfl rfl
    · cases hc; exact cast (a := RX2) (b := RX3) (by decide +kernel) rfl rfl
    · cases hc; exact cast (a := RX4) (b := RX3) (by decide +kernel) rfl rfl
    · cases hc; exact cast (a := RX9) (b := RX3) (by decide +kernel) rfl rfl
  · have : cc = 7 := by simpa [ak_sub, ak_el] using hs
    subst this
    cases hc
    exact self rfl
set_option maxHeartbeats 1000000 in
theorem ak_aast_ok (C : ak_C E Z p s m args meth c q) (J : ak_J E s h H locs) {r n t v cc : Nat} {i : Int32} (hr : h.1[r]? = some (.inr (t, n))) (hv : h.1[v]? = some (.inl cc)) (ha : ak_arr t = true) (hs : ak_sub cc (ak_el t) = true) (hin : ak_inb i n = true) (hdg : decode q.2.1 pc = .ok (.aastore, 1))
    (kk : ∀ (H1 : Heap) (locs1 : List Loc), ak_J E s (h.1, h.2.1, h.2.2.1, ak_up h.2.2.2 r i.toNatClampNeg (some v)) H1 locs1 → W p l e R s m args below meth c H1 locs1 cells slots Q (F0 m (pc + 1) ls st)) : W p l e R s m args below meth c H locs cells slots Q (F0 m pc ls (.ref (ak_ad E v) :: .int i :: .ref (ak_ad E r) :: st)) := by
  have C' := C
  obtain ⟨hx, hb, hml, hown, hts, hK, hG, hbs, hini⟩ := C
  have he := ak_ws_arr (E := E) hr
  have hev := ak_ws_obj (E := E) hv
  obtain ⟨ht, -, -⟩ := ak_rn_tys (E := E) ha
  have has : ak_as E h r t n = (n, .inr (.inr (.inr (.inr (fun j => (h.2.2.2 r j).map (ak_ad E)))))) := by unfold ak_as; rw [if_pos ha]
  obtain ⟨kA, comp, k1, k2, k3, -⟩ := (hK.2 t _ ht).2
  obtain ⟨rv, hc, cellV, g1, g2, g3, -⟩ := J.2.2.1 v _ hev
  obtain ⟨hasg, kE, hkE⟩ := ak_asg C' hc ha hs k3
  obtain ⟨kC, hkC, -⟩ := (hK.1 cc rv hc).2.2
  have hcell := J.2.2.1 r _ he
  rw [has] at hcell
  have hb1 := ak_inb_in hin
  refine W.aast hx hb (show H[ak_ad E r]? = some _ from hcell) (fun q hh => by cases hh) (fun hh => by cases hh) k1 k2 rfl hkE ⟨fun z => hb1 (Or.inl z), by show _ < (arrV _ _ _).slots.size; rw [arrV_size]; exact Nat.not_le.mp fun z => hb1 (Or.inr z)⟩ g1 (fun q hh => by rw [g3] at hh; cases hh) (by rw [g2]; exact hkC) (by rw [g2]; exact hasg) rfl rfl hdg fun H1 e1 z oq => ?_
  refine kk H1 _ (J.set (h' := (h.1, h.2.1, h.2.2.1, ak_up h.2.2.2 r i.toNatClampNeg (some v))) rfl he (e := .inl (E.2.1 t, (n, .inr (.inr (.inr (.inr (va_up (fun j => (h.2.2.2 r j).map (ak_ad E)) i.toNatClampNeg (some (ak_ad E v))))))))) (ak_ws_set (h' := (h.1, h.2.1, h.2.2.1, ak_up h.2.2.2 r i.toNatClampNeg (some v))) rfl (fun k hk => ?_) (fun j k hj => ak_cell_eq rfl rfl (ak_up_ne hj))) ?_ z oq _)
  · cases hr.symm.trans hk
    show Sum.inl (E.2.1 t, ak_as E _ r t n) = _
    unfold ak_as
    rw [if_pos ha]
    congr 6
    refine congrArg Sum.inr (funext fun j => ?_)
    by_cases hj : j = i.toNatClampNeg
    · subst hj
      show Option.map _ (ak_up _ r _ _ r _) = _
      rw [ak_up_same]
      simp [va_up]
    · show Option.map _ (ak_up _ r _ _ r _) = _
      rw [ak_up_oth hj]
      simp [va_up, hj]
  · show H1[ak_ad E r]? = some (vp_cell _ _)
    rw [e1]
    show some ((vp_cell (E.2.1 t) (n, .inr (.inr (.inr (.inr (fun j => (h.2.2.2 r j).map (ak_ad E))))))).setSlot _ _) = _
    rw [vp_cell_q, vp_cell_q, arrV_store]
    congr 2
    funext b
    by_cases hb : b = i.toNatClampNeg
    · subst hb
      simp [updV, va_up, va_rf]
    · simp [updV, va_up, hb]
end AKM
