/-! level 2: what the texts and the kinds say: the model -/
theorem ShM.fx {σ σ' : Nat → Nat → Int32} {v : zV} (h : ShM σ v) {P : Nat → Nat → Prop} (hf : zfx P σ σ') (p1 : ¬ P 73 11) (p2 : ¬ P 73 4) (p3 : ∀ r c, 77 ≤ r → r ≤ 80 → ¬ P r c) : ShM σ' v := by
  have e : ∀ r c, 77 ≤ r → r ≤ 80 → σ' r c = σ r c := fun r c a b => hf r c (p3 r c a b)
  obtain ⟨h1, h2, h3, h4, h5, h6, h7, h8, h9, h10, h11, h12⟩ := h
  exact ⟨(hf _ _ p1).trans h1, (e _ _ (by omega) (by omega)).trans h2, (e _ _ (by omega) (by omega)).trans h3, (e _ _ (by omega) (by omega)).trans h4, (hf _ _ p2).trans h5, fun p hp => (e _ _ (by omega) (by omega)).trans (h6 p hp), fun p hp => (e _ _ (by omega) (by omega)).trans (h7 p hp), fun p hp => (e _ _ (by omega) (by omega)).trans (h8 p hp), fun p hp => (e _ _ (by omega) (by omega)).trans (h9 p hp), fun p hp => (e _ _ (by omega) (by omega)).trans (h10 p hp), fun p hp => (e _ _ (by omega) (by omega)).trans (h11 p hp), fun p hp => (e _ _ (by omega) (by omega)).trans (h12 p hp)⟩
theorem ups1 {f : Nat → Nat → Int32} {i j : Nat} {v : Int32} {t : Nat × Int64} : ((ak_up f i j v, t) : mm_M).1 i j = v := ak_up_same
theorem ups2 {β : Type} {x : β} {f : Nat → Nat → Int32} {i j : Nat} {v : Int32} {t : Nat × Int64} : ((x, (ak_up f i j v, t)) : β × mm_M).2.1 i j = v := ak_up_same
/-- a good text of the model -/
def zTMx (c : Nat) (T : zT3) (σ : Nat → Nat → Int32) : Prop := ∃ n B, zTM c n B σ ∧ zrdT B n = some (.inr T)
theorem zTMx.fx {c : Nat} {T : zT3} {σ σ' : Nat → Nat → Int32} (h : zTMx c T σ) {P : Nat → Nat → Prop} (hf : zfx P σ σ') (p : ∀ r k, 74 ≤ r → r ≤ 75 → ¬ P r k) : zTMx c T σ' := by
  obtain ⟨n, B, ⟨h1, h2, h3⟩, h4⟩ := h
  exact ⟨n, B, ⟨h1, (hf _ _ (p _ _ (by decide) (by decide))).trans h2, fun i hi => by rw [hf _ _ (p 74 _ (by decide) (by decide))]; exact h3 i hi⟩, h4⟩
theorem zTMx.gt {c : Nat} {T : zT3} {σ : Nat → Nat → Int32} (h : zTMx c T σ) : zGT T := by
  obtain ⟨n, B, ⟨h1, h2, h3⟩, h4⟩ := h
  exact zGT_of h1 (fun i hi => (h3 i hi).2) h4
abbrev zAs : Nat → Nat → Prop := fun r c => r = 73 ∧ 12 ≤ c ∧ c ≤ 26
theorem nAs_S : ∀ r c : Nat, 77 ≤ r → r ≤ 80 → ¬ zAs r c := fun r c a b z => by have z2 : r = 73 ∧ 12 ≤ c ∧ c ≤ 26 := z; omega
theorem nAs_T : ∀ r c : Nat, 74 ≤ r → r ≤ 75 → ¬ zAs r c := fun r c a b z => by have z2 : r = 73 ∧ 12 ≤ c ∧ c ≤ 26 := z; omega
theorem nAs_1 : ¬ zAs 73 11 := fun z => by have z2 : (73 : Nat) = 73 ∧ 12 ≤ 11 ∧ 11 ≤ 26 := z; omega
theorem nAs_2 : ¬ zAs 73 4 := fun z => by have z2 : (73 : Nat) = 73 ∧ 12 ≤ 4 ∧ 4 ≤ 26 := z; omega
section
variable {v : zV} {T : zT3} {p : Nat}
theorem ShM.as {σ σ' : Nat → Nat → Int32} (h : ShM σ v) (hf : zfx zAs σ σ') : ShM σ' v := h.fx hf nAs_1 nAs_2 nAs_S
theorem zTMx.as {c : Nat} {σ σ' : Nat → Nat → Int32} (h : zTMx c T σ) (hf : zfx zAs σ σ') : zTMx c T σ' := h.fx hf nAs_T
theorem asksM_l {w : Nat} (hB : zB v) (hp : p < v.n) (hw : w < 8) (x : Int32) : ∀ j k m (M : mm_M), k + j = v.n → j < m → ShM M.1 v → M.1 73 17 = nI (zcnt (fun q => decide (q ≠ p) && (v.wi q).testBit w) k) → Ok (md_asks_l85 m x (nI p) (nI w) (nI k) M) (fun y => y.2.1 73 17 = nI (zow v p w) ∧ zfx (fun r c => r = 73 ∧ c = 17) M.1 y.2.1 ∧ y.2.2 = M.2) := by
  have hn := hB.n
  intro j
  induction j with
  | zero =>
    intro k m M hk hm h h17
    obtain ⟨m, rfl, -⟩ := z_suc hm
    rw [md_asks_l85, h.n]
    refine ok_neg (nI_nlt (by omega) (by omega)) (ok_ret ⟨?_, zfx.rf, rfl⟩)
    show M.1 73 17 = _
    rw [h17]
    unfold zow
    rw [← hk]
    rfl
  | succ j ih =>
    intro k m M hk hm h h17
    obtain ⟨m, rfl, hm2⟩ := z_suc hm
    have hm1 : ∀ w < 8, nI w ≠ (-1 : Int32) := by decide
    rw [md_asks_l85, h.n, nI_1]
    refine ok_pos (nI_lt (by omega) (by omega)) (ok_neg (hm1 w hw) ?_)
    have go : ∀ q : Int32, nI (zcnt (fun q => decide (q ≠ p) && (v.wi q).testBit w) k) + q = nI (zcnt (fun q => decide (q ≠ p) && (v.wi q).testBit w) (k + 1)) → Ok (md_asks_l85 m x (nI p) (nI w) (nI (k + 1)) (ak_up M.1 73 17 ((M.1 73 17) + q), M.2)) (fun y => y.2.1 73 17 = nI (zow v p w) ∧ zfx (fun r c => r = 73 ∧ c = 17) M.1 y.2.1 ∧ y.2.2 = M.2) := by
      intro q hq
      rw [h17, hq]
      have hf : zfx (fun r c => r = 73 ∧ c = 17) M.1 (ak_up M.1 73 17 (nI (zcnt (fun q => decide (q ≠ p) && (v.wi q).testBit w) (k + 1)))) := zfx.rf.up ⟨rfl, rfl⟩
      refine ok_mono (ih (k + 1) m (_, M.2) (by omega) (by omega) (h.fx hf (by omega) (by omega) (by omega)) ups1) (fun y hy => ⟨hy.1, hf.tr hy.2.1, hy.2.2⟩)
    have step : zcnt (fun q => decide (q ≠ p) && (v.wi q).testBit w) (k + 1) = zcnt (fun q => decide (q ≠ p) && (v.wi q).testBit w) k + (if (decide (k ≠ p) && (v.wi k).testBit w) = true then 1 else 0) := rfl
    by_cases e : k = p
    · refine ok_pos (by rw [e]) (go 0 ?_)
      rw [step]
      simp [e]
    · refine ok_neg (fun z => e ((nI_eq (by omega) (by omega)).mp z)) ?_
      rw [isWishedM_eq h hB (by omega) hw]
      simp only [Option.bind_some, bI_if]
      by_cases c : (v.wi k).testBit w = true
      · rw [if_pos c]
        refine go 1 ?_
        rw [step, nI_1]
        simp [e, c]
      · rw [if_neg c]
        refine go 0 ?_
        rw [step]
        simp [c]
/-- what a text answers, within bounds -/
def zak (T : zT3) (v : zV) (p w a : Nat) : Int32 := if a = 0 then zcp (-99) 99 (zvl (zen v p w) T.1) else if a = 1 then zcp 0 99 (zvl (zen v p w) T.2.1) else zvl (zen v p w) T.2.2
/-- week w as an int, 8: none -/
def zwi (w : Nat) : Int32 := if w < 8 then nI w else -1
theorem asksM_e {a w : Nat} {σ : Nat → Nat → Int32} (ha : a < 3) (hB : zB v) {M : mm_M} (hf : zfx zAs M.1 σ) (hT : zTMx v.ru T M.1) (h : ShM M.1 v) (he : zMe (zen v p w) σ) {t : Int64} : Ok ((md_read (σ 73 4) (nI a) (σ, M.2.1, t)).bind fun y7 => if nI a = (0 : Int32) then (md_within y7.1 (-99 : Int32) (99 : Int32) y7.2).bind fun y9 => some (y9.1, y9.2) else if nI a = (1 : Int32) then (md_within y7.1 (0 : Int32) (99 : Int32) y7.2).bind fun y11 => some (y11.1, y11.2) else some (y7.1, y7.2)) (fun y => y.1 = zak T v p w a ∧ zfx zAs M.1 y.2.1 ∧ y.2.2.1 = M.2.1) := by
  have hru := hB.ru
  have h1 := h.as hf
  have hG := hT.gt
  obtain ⟨n, B, ⟨t1, t2, t3⟩, t4⟩ := hT.as hf
  rw [h1.ru]
  refine ok_then (readM_ok (M := (σ, M.2.1, t)) (env := zen v p w) (w := a) hru t1 t2 t3 he ha) (fun y7 h7 => ?_)
  obtain ⟨b1, b2, b3, b4⟩ := h7
  have hv := (b4 T t4).2
  have hv2 := hG.vl (zen v p w) ha
  rw [hv2] at hv
  have ev : y7.1 = zvl (zen v p w) (zprt T a) := by
    injection hv with e1 e2
    exact e1.symm
  have ff : zfx zAs M.1 y7.2.1 := hf.tr (b1.wk (fun r c z => ⟨z.1, by omega, by omega⟩))
  have a3 : a = 0 ∨ a = 1 ∨ a = 2 := by omega
  rcases a3 with rfl | rfl | rfl
  · refine ok_pos rfl ?_
    rw [within_eq]
    simp only [Option.bind_some]
    refine ok_ret ⟨?_, ff, b2⟩
    rw [ev]
    rfl
  · refine ok_neg (by decide) (ok_pos rfl ?_)
    rw [within_eq]
    simp only [Option.bind_some]
    refine ok_ret ⟨?_, ff, b2⟩
    rw [ev]
    rfl
  · refine ok_neg (by decide) (ok_neg (by decide) (ok_ret ⟨?_, ff, b2⟩))
    show y7.1 = _
    rw [ev]
    rfl
theorem asksM_ok {a w : Nat} (ha : a < 3) (hw : w ≤ 8) {M : mm_M} (h : ShM M.1 v) (hB : zB v) (hT : zTMx v.ru T M.1) (hp : p < v.n) : Ok (md_asks (nI a) (nI p) (zwi w) M) (fun y => y.1 = zak T v p w a ∧ zfx zAs M.1 y.2.1 ∧ y.2.2.1 = M.2.1) := by
  have hn := hB.n
  unfold md_asks
  have g0 : ak_inb ((5 : Int32) * nI p) 20 = true := by rw [z5_0]; exact zI_inb (by omega) (by omega)
  have g1 : ak_inb (((5 : Int32) * nI p) + (1 : Int32)) 20 = true := by rw [z5_1]; exact zI_inb (by omega) (by omega)
  have g3 : ak_inb (((5 : Int32) * nI p) + (3 : Int32)) 20 = true := by rw [z5_3]; exact zI_inb (by omega) (by omega)
  have c0 : ((5 : Int32) * nI p).toNatClampNeg = 5 * p := by rw [z5_0]; exact zI_nat (by omega)
  have c1 : (((5 : Int32) * nI p) + (1 : Int32)).toNatClampNeg = 5 * p + 1 := by rw [z5_1]; exact zI_nat (by omega)
  have c3 : (((5 : Int32) * nI p) + (3 : Int32)).toNatClampNeg = 5 * p + 3 := by rw [z5_3]; exact zI_nat (by omega)
  have n79 : (79 : Nat) ≠ 73 := by decide
  have hnu := h.nu p hp
  have hle := h.le p hp
  have hpo := h.po p hp
  by_cases c8 : w < 8
  · have ew : zwi w = nI w := if_pos c8
    have hm1 : ∀ w < 8, nI w ≠ (-1 : Int32) := by decide
    rw [ew]
    refine ok_neg (hm1 w c8) (ok_neg (hm1 w c8) ?_)
    have f0 : zfx zAs M.1 (ak_up M.1 73 12 (nI w)) := zfx.rf.up ⟨rfl, by decide, by decide⟩
    rw [isWishedM_eq (M := (ak_up M.1 73 12 (nI w), M.2)) (h.as f0) hB hp c8]
    simp only [Option.bind_some, bI_if]
    have go : ∀ q : Int32, q = bI ((v.wi p).testBit w = true) → Ok ((md_asks_l85 300 (nI a) (nI p) (nI w) (0 : Int32) (ak_up (ak_up (ak_up (ak_up (ak_up (ak_up M.1 73 12 (nI w)) 73 13 q) 73 14 (nI (v.nu p))) 73 15 (nI (v.le p))) 73 16 (nI (v.po p))) 73 17 (0 : Int32), M.2)).bind fun y17 => (md_read (y17.2.1 73 4) (nI a) y17.2).bind fun y18 => if nI a = (0 : Int32) then (md_within y18.1 (-99 : Int32) (99 : Int32) y18.2).bind fun y20 => some (y20.1, y20.2) else if nI a = (1 : Int32) then (md_within y18.1 (0 : Int32) (99 : Int32) y18.2).bind fun y22 => some (y22.1, y22.2) else some (y18.1, y18.2)) (fun y => y.1 = zak T v p w a ∧ zfx zAs M.1 y.2.1 ∧ y.2.2.1 = M.2.1) := by
      intro q hq
      have f1 : zfx zAs M.1 (ak_up (ak_up (ak_up (ak_up (ak_up (ak_up M.1 73 12 (nI w)) 73 13 q) 73 14 (nI (v.nu p))) 73 15 (nI (v.le p))) 73 16 (nI (v.po p))) 73 17 (0 : Int32)) := (((((f0.up ⟨rfl, by decide, by decide⟩).up ⟨rfl, by decide, by decide⟩).up ⟨rfl, by decide, by decide⟩).up ⟨rfl, by decide, by decide⟩).up ⟨rfl, by decide, by decide⟩)
      refine ok_then (asksM_l (w := w) hB hp c8 (nI a) v.n 0 300 (_, M.2) (by omega) (by omega) (h.as f1) ups1) (fun y hy => ?_)
      obtain ⟨d1, d2, d3⟩ := hy
      have f2 : zfx zAs M.1 y.2.1 := f1.tr (d2.wk (fun r c z => ⟨z.1, by omega, by omega⟩))
      have he : zMe (zen v p w) y.2.1 := by
        intro i hi
        have hi2 : i = 0 ∨ i = 1 ∨ i = 2 ∨ i = 3 ∨ i = 4 ∨ i = 5 := by omega
        rcases hi2 with rfl | rfl | rfl | rfl | rfl | rfl
        · rw [d2 73 (12 + 0) (by omega)]
          exact (if_pos c8).symm
        · rw [d2 73 (12 + 1) (by omega)]
          exact hq.trans (if_pos c8).symm
        · rw [d2 73 (12 + 2) (by omega)]
          rfl
        · rw [d2 73 (12 + 3) (by omega)]
          rfl
        · rw [d2 73 (12 + 4) (by omega)]
          rfl
        · rw [show 12 + 5 = 17 from rfl, d1]
          exact (if_pos c8).symm
      have := asksM_e (t := y.2.2.2) ha hB f2 hT h he
      rw [show ((y.2.1, M.2.1, y.2.2.2) : mm_M) = y.2 from by rw [← congrArg Prod.fst d3]] at this
      exact this
    by_cases cw : (v.wi p).testBit w = true
    · rw [if_pos cw]
      refine ok_pos g0 (ok_pos g1 (ok_pos g3 ?_))
      rw [c0, c1, c3]
      simp only [ak_up_ne n79, hnu, hle, hpo]
      exact go 1 (bI_t cw).symm
    · rw [if_neg cw]
      refine ok_pos g0 (ok_pos g1 (ok_pos g3 ?_))
      rw [c0, c1, c3]
      simp only [ak_up_ne n79, hnu, hle, hpo]
      exact go 0 (bI_f cw).symm
  · have ew : zwi w = -1 := if_neg c8
    rw [ew]
    refine ok_pos rfl (ok_pos rfl (ok_pos g0 (ok_pos g1 (ok_pos g3 ?_))))
    rw [c0, c1, c3]
    simp only [ak_up_ne n79, hnu, hle, hpo]
    have f1 : zfx zAs M.1 (ak_up (ak_up (ak_up (ak_up (ak_up (ak_up M.1 73 12 (0 : Int32)) 73 13 (0 : Int32)) 73 14 (nI (v.nu p))) 73 15 (nI (v.le p))) 73 16 (nI (v.po p))) 73 17 (0 : Int32)) := ((((((zfx.rf (P := zAs)).up ⟨rfl, by decide, by decide⟩).up ⟨rfl, by decide, by decide⟩).up ⟨rfl, by decide, by decide⟩).up ⟨rfl, by decide, by decide⟩).up ⟨rfl, by decide, by decide⟩).up ⟨rfl, by decide, by decide⟩
    have hl : ∀ M2 : mm_M, M2.1 73 11 = nI v.n → md_asks_l85 300 (nI a) (nI p) (-1 : Int32) (0 : Int32) M2 = some ((), M2) := by
      intro M2 h2
      rw [md_asks_l85, h2]
      split
      · rw [if_pos rfl]
      · rfl
    refine ok_then (ok_eq (hl _ ((f1 _ _ nAs_1).trans h.n)) (P := fun y => y = ((), (_, M.2))) rfl) (fun y hy => ?_)
    rw [hy]
    have he : zMe (zen v p w) (ak_up (ak_up (ak_up (ak_up (ak_up (ak_up M.1 73 12 (0 : Int32)) 73 13 (0 : Int32)) 73 14 (nI (v.nu p))) 73 15 (nI (v.le p))) 73 16 (nI (v.po p))) 73 17 (0 : Int32)) := by
      intro i hi
      have hi2 : i = 0 ∨ i = 1 ∨ i = 2 ∨ i = 3 ∨ i = 4 ∨ i = 5 := by omega
      rcases hi2 with rfl | rfl | rfl | rfl | rfl | rfl
      · exact (if_neg c8).symm
      · exact (if_neg c8).symm
      · rfl
      · rfl
      · rfl
      · exact (if_neg c8).symm
    exact asksM_e (t := M.2.2) ha hB f1 hT h he
theorem gladM_ok {M : mm_M} (h : ShM M.1 v) (hB : zB v) (hT : zTMx v.ru T M.1) (hp : p < v.n) {w : Nat} (hw : w < 8) : Ok (md_gladOf (nI p) (nI w) M) (fun y => y.1 = zgl T v p w ∧ zfx zAs M.1 y.2.1 ∧ y.2.2.1 = M.2.1) := by
  have hn := hB.n
  have hk5 := hB.kd p hp
  have hnu9 := hB.nu p hp
  unfold md_gladOf
  have g0 : ak_inb ((5 : Int32) * nI p) 20 = true := by rw [z5_0]; exact zI_inb (by omega) (by omega)
  have c0 : ((5 : Int32) * nI p).toNatClampNeg = 5 * p := by rw [z5_0]; exact zI_nat (by omega)
  have hnu := h.nu p hp
  refine ok_pos (zI_inb (by omega) (by omega)) (ok_pos g0 ?_)
  rw [zI_nat (show p < 2147483648 by omega), c0, h.kd p hp, hnu, z_mod8 hnu9, isWishedM_eq h hB hp hw]
  have ask := asksM_ok (a := 0) (w := w) (by decide) (by omega) h hB hT hp
  rw [show zwi w = nI w from if_pos hw] at ask
  have ez : zak T v p w 0 = zjy T v p w := rfl
  have hsum : ∀ M2 : mm_M, md_in (nI w).toInt64 (3 : Int64) (5 : Int64) M2 = some (bI (3 ≤ w ∧ w ≤ 5), M2) := fun M2 => inM_eq (k := w) (by omega) 3 5 (by decide) (by decide) M2
  have h6 : v.kd p = 0 ∨ v.kd p = 1 ∨ v.kd p = 2 ∨ v.kd p = 3 ∨ v.kd p = 4 ∨ v.kd p = 5 := by omega
  unfold zgl zbs
  rcases h6 with e | e | e | e | e | e
  · simp only [e]
    refine ok_neg (by decide) (ok_neg (by decide) (ok_then ask (fun y hy => ?_)))
    obtain ⟨a1, a2, a3⟩ := hy
    rw [isWishedM_eq (h.as a2) hB hp hw, a1, ez]
    simp only [Option.bind_some, bI_if]
    by_cases c : (v.wi p).testBit w = true
    · rw [if_pos c]
      exact ok_neg (by decide) (ok_neg (by decide) (ok_neg (by decide) (ok_neg (by decide) (ok_ret ⟨by simp [c], a2, a3⟩))))
    · rw [if_neg c]
      exact ok_neg (by decide) (ok_neg (by decide) (ok_neg (by decide) (ok_neg (by decide) (ok_ret ⟨by simp [c], a2, a3⟩))))
  · simp only [e]
    refine ok_neg (by decide) (ok_neg (by decide) (ok_then ask (fun y hy => ?_)))
    obtain ⟨a1, a2, a3⟩ := hy
    rw [isWishedM_eq (h.as a2) hB hp hw, a1, ez]
    simp only [Option.bind_some, bI_if, hsum]
    by_cases c : (v.wi p).testBit w = true
    · rw [if_pos c]
      refine ok_pos rfl (ok_ite (fun z => ok_ret ⟨by simp [c, z], a2, a3⟩) (fun z => ok_ret ⟨by simp [c, z], a2, a3⟩))
    · rw [if_neg c]
      refine ok_pos rfl (ok_ite (fun z => ok_ret ⟨by simp [c, z], a2, a3⟩) (fun z => ok_ret ⟨by simp [c, z], a2, a3⟩))
  · simp only [e]
    refine ok_neg (by decide) (ok_neg (by decide) (ok_then ask (fun y hy => ?_)))
    obtain ⟨a1, a2, a3⟩ := hy
    rw [isWishedM_eq (h.as a2) hB hp hw, a1, ez]
    simp only [Option.bind_some, bI_if]
    by_cases c : (v.wi p).testBit w = true
    · rw [if_pos c]
      exact ok_neg (by decide) (ok_neg (by decide) (ok_pos rfl (ok_ret ⟨by simp [c], a2, a3⟩)))
    · rw [if_neg c]
      exact ok_neg (by decide) (ok_neg (by decide) (ok_pos rfl (ok_ret ⟨by simp [c], a2, a3⟩)))
  · simp only [e]
    refine ok_neg (by decide) (ok_pos rfl ?_)
    by_cases d : w = v.nu p % 8
    · refine ok_pos (by rw [← d]) (ok_ret ⟨?_, zfx.rf, rfl⟩)
      simp [d]
    · refine ok_neg (fun z => d ((nI_eq (by omega) (by omega)).mp z)) (ok_then ask (fun y hy => ?_))
      obtain ⟨a1, a2, a3⟩ := hy
      rw [isWishedM_eq (h.as a2) hB hp hw, a1, ez]
      simp only [Option.bind_some, bI_if, hsum]
      by_cases c : (v.wi p).testBit w = true
      · rw [if_pos c]
        refine ok_neg (by decide) (ok_pos rfl (ok_ite (fun z => ok_ret ⟨by simp [c, d, z], a2, a3⟩) (fun z => ok_ret ⟨by simp [c, d, z], a2, a3⟩)))
      · rw [if_neg c]
        refine ok_neg (by decide) (ok_pos rfl (ok_ite (fun z => ok_ret ⟨by simp [c, d, z], a2, a3⟩) (fun z => ok_ret ⟨by simp [c, d, z], a2, a3⟩)))
  · simp only [e]
    refine ok_neg (by decide) (ok_neg (by decide) (ok_then ask (fun y hy => ?_)))
    obtain ⟨a1, a2, a3⟩ := hy
    rw [isWishedM_eq (h.as a2) hB hp hw, a1, ez]
    simp only [Option.bind_some, bI_if]
    by_cases c : (v.wi p).testBit w = true
    · rw [if_pos c]
      exact ok_neg (by decide) (ok_neg (by decide) (ok_neg (by decide) (ok_pos rfl (ok_ret ⟨by simp [c], a2, a3⟩))))
    · rw [if_neg c]
      exact ok_neg (by decide) (ok_neg (by decide) (ok_neg (by decide) (ok_pos rfl (ok_ret ⟨by simp [c], a2, a3⟩))))
  · simp only [e]
    refine ok_pos rfl ?_
    simp only [Option.bind_some, bI_if]
    by_cases c : (v.wi p).testBit w = true
    · rw [if_pos c]
      exact ok_ret ⟨by simp [c], zfx.rf, rfl⟩
    · rw [if_neg c]
      exact ok_ret ⟨by simp [c], zfx.rf, rfl⟩
theorem wantsM_ok {M : mm_M} (h : ShM M.1 v) (hB : zB v) (hT : zTMx v.ru T M.1) (hp : p < v.n) {w : Nat} (hw : w < 8) : Ok (md_wants (nI p) (nI w) M) (fun y => y.1 = bI (zwn T v p w = true) ∧ zfx zAs M.1 y.2.1 ∧ y.2.2.1 = M.2.1) := by
  have hn := hB.n
  have hk5 := hB.kd p hp
  have hnu9 := hB.nu p hp
  unfold md_wants
  have g0 : ak_inb ((5 : Int32) * nI p) 20 = true := by rw [z5_0]; exact zI_inb (by omega) (by omega)
  have c0 : ((5 : Int32) * nI p).toNatClampNeg = 5 * p := by rw [z5_0]; exact zI_nat (by omega)
  refine ok_pos (zI_inb (by omega) (by omega)) ?_
  rw [zI_nat (show p < 2147483648 by omega), c0, h.kd p hp, z_mod2 hw]
  have ask := asksM_ok (a := 2) (w := w) (by decide) (by omega) h hB hT hp
  rw [show zwi w = nI w from if_pos hw] at ask
  have ez : zak T v p w 2 = zmy T v p w := rfl
  have hsum : ∀ M2 : mm_M, md_in (nI w).toInt64 (3 : Int64) (5 : Int64) M2 = some (bI (3 ≤ w ∧ w ≤ 5), M2) := fun M2 => inM_eq (k := w) (by omega) 3 5 (by decide) (by decide) M2
  have h6 : v.kd p = 0 ∨ v.kd p = 1 ∨ v.kd p = 2 ∨ v.kd p = 3 ∨ v.kd p = 4 ∨ v.kd p = 5 := by omega
  unfold zwn
  rcases h6 with e | e | e | e | e | e
  · simp only [e]
    refine ok_neg (by decide) (ok_then ask (fun y hy => ?_))
    obtain ⟨a1, a2, a3⟩ := hy
    rw [a1, ez]
    refine ok_ite (fun z => ok_neg (by decide) (ok_neg (by decide) (ok_neg (by decide) (ok_ret ⟨by simp [z]; rfl, a2, a3⟩)))) (fun z => ok_neg (by decide) (ok_neg (by decide) (ok_neg (by decide) (ok_ret ⟨by simp [z]; rfl, a2, a3⟩))))
  · simp only [e]
    refine ok_neg (by decide) (ok_then ask (fun y hy => ?_))
    obtain ⟨a1, a2, a3⟩ := hy
    rw [a1, ez]
    refine ok_ite (fun z => ok_neg (by decide) (ok_neg (by decide) (ok_neg (by decide) (ok_ret ⟨by simp [z]; rfl, a2, a3⟩)))) (fun z => ok_neg (by decide) (ok_neg (by decide) (ok_neg (by decide) (ok_ret ⟨by simp [z]; rfl, a2, a3⟩))))
  · simp only [e]
    refine ok_neg (by decide) (ok_then ask (fun y hy => ?_))
    obtain ⟨a1, a2, a3⟩ := hy
    rw [a1, ez, hsum]
    simp only [Option.bind_some, bI_if]
    refine ok_ite (fun z => ok_pos rfl (ok_ret ⟨by simp [z]; rfl, a2, a3⟩)) (fun z => ok_pos rfl (ok_ite (fun s => ok_ret ⟨?_, a2, a3⟩) (fun s => ok_ret ⟨?_, a2, a3⟩)))
    · exact (bI_f (by simp [s])).symm
    · exact (bI_t (by simp [z]; omega)).symm
  · simp only [e]
    refine ok_neg (by decide) (ok_then ask (fun y hy => ?_))
    obtain ⟨a1, a2, a3⟩ := hy
    rw [a1, ez]
    refine ok_ite (fun z => ok_neg (by decide) (ok_pos rfl (ok_pos g0 ?_))) (fun z => ok_neg (by decide) (ok_pos rfl (ok_ret ⟨(bI_t (by simp [z])).symm, a2, a3⟩)))
    rw [(h.as a2).nu p hp, z_mod8 hnu9]
    refine ok_ite (fun q => ok_ret ⟨(bI_t ?_).symm, a2, a3⟩) (fun q => ok_ret ⟨(bI_f ?_).symm, a2, a3⟩)
    · have q2 := (nI_eq (by omega) (by omega)).mp q
      simp [← q2]
    · have q2 : ¬ w = v.nu p % 8 := fun x => q (by rw [← x])
      simp [z, q2]
  · simp only [e]
    exact ok_pos rfl (ok_ret ⟨(bI_t (by simp)).symm, zfx.rf, rfl⟩)
  · simp only [e]
    refine ok_neg (by decide) (ok_then ask (fun y hy => ?_))
    obtain ⟨a1, a2, a3⟩ := hy
    rw [a1, ez]
    refine ok_ite (fun z => ok_neg (by decide) (ok_neg (by decide) (ok_pos rfl (ok_ret ⟨(bI_f (by simp [z])).symm, a2, a3⟩)))) (fun z => ok_neg (by decide) (ok_neg (by decide) (ok_pos rfl (ok_ite (fun q => ok_ret ⟨(bI_t ?_).symm, a2, a3⟩) (fun q => ok_ret ⟨(bI_f ?_).symm, a2, a3⟩)))))
    · have q2 := (z_eq0 (by omega)).mp q
      simp [z, q2]
    · have q2 : ¬ w % 2 = 0 := fun x => q (by rw [x]; rfl)
      simp [q2]
end
