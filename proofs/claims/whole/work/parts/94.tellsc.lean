/-! level 2: tells -/
section
variable {v : zV} {Ts : Nat → zT3}
/-- one thing of one is otherwise: 7 kind, 3 number, 5 wishes, 8 the rule -/
def zvr (k : Nat) (v : zV) (p x : Nat) : zV := if k = 7 then zr v 0 p x else if k = 3 then zr v 1 p x else if k = 5 then zr v 3 p x else zs v 3 x
def zog (k : Nat) (v : zV) (p : Nat) : Nat := if k = 7 then v.kd p else if k = 3 then v.nu p else if k = 5 then v.wi p else v.ru
def zvk (k x cnt : Nat) : Prop := (k = 7 ∧ x ≤ 5) ∨ (k = 3 ∧ x ≤ 9) ∨ (k = 5 ∧ x ≤ 255) ∨ (k = 8 ∧ x < cnt)
theorem zr_zr {k p x y : Nat} : zr (zr v k p x) k p y = zr v k p y := by
  unfold zr
  refine Prod.ext rfl ?_
  funext i q
  show (if i = k ∧ q = p then y else (if i = k ∧ q = p then x else v.2 i q)) = (if i = k ∧ q = p then y else v.2 i q)
  by_cases e : i = k ∧ q = p
  · rw [if_pos e, if_pos e]
  · rw [if_neg e, if_neg e, if_neg e]
theorem zr_og {k p : Nat} : zr v k p (v.2 k p) = v := by
  unfold zr
  refine Prod.ext rfl ?_
  funext i q
  show (if i = k ∧ q = p then v.2 k p else v.2 i q) = v.2 i q
  split
  · rename_i e; rw [e.1, e.2]
  · rfl
theorem zs_zs {k x y : Nat} : zs (zs v k x) k y = zs v k y := by
  unfold zs
  refine Prod.ext ?_ rfl
  funext i
  show (if i = k then y else (if i = k then x else v.1 i)) = (if i = k then y else v.1 i)
  by_cases e : i = k
  · rw [if_pos e, if_pos e]
  · rw [if_neg e, if_neg e, if_neg e]
theorem zs_og {k : Nat} : zs v k (v.1 k) = v := by
  unfold zs
  refine Prod.ext ?_ rfl
  funext i
  show (if i = k then v.1 k else v.1 i) = v.1 i
  split
  · rename_i e; rw [e]
  · rfl
theorem zvr_zvr {k p x y : Nat} : zvr k (zvr k v p x) p y = zvr k v p y := by
  unfold zvr
  by_cases h7 : k = 7
  · rw [if_pos h7, if_pos h7, if_pos h7]; exact zr_zr
  · rw [if_neg h7, if_neg h7, if_neg h7]
    by_cases h3 : k = 3
    · rw [if_pos h3, if_pos h3, if_pos h3]; exact zr_zr
    · rw [if_neg h3, if_neg h3, if_neg h3]
      by_cases h5 : k = 5
      · rw [if_pos h5, if_pos h5, if_pos h5]; exact zr_zr
      · rw [if_neg h5, if_neg h5, if_neg h5]; exact zs_zs
theorem zvr_og {k p : Nat} : zvr k v p (zog k v p) = v := by
  unfold zvr zog
  by_cases h7 : k = 7
  · rw [if_pos h7, if_pos h7]; exact zr_og
  · rw [if_neg h7, if_neg h7]
    by_cases h3 : k = 3
    · rw [if_pos h3, if_pos h3]; exact zr_og
    · rw [if_neg h3, if_neg h3]
      by_cases h5 : k = 5
      · rw [if_pos h5, if_pos h5]; exact zr_og
      · rw [if_neg h5, if_neg h5]; exact zs_og
theorem zvr_B (hB : zB v) {k p x cnt : Nat} (hc : cnt ≤ 6) (hk : zvk k x cnt) : zB (zvr k v p x) := by
  unfold zvr
  rcases hk with ⟨rfl, hx⟩ | ⟨rfl, hx⟩ | ⟨rfl, hx⟩ | ⟨rfl, hx⟩
  · refine ⟨hB.n, hB.yr, hB.nd, hB.ky, hB.ru, fun q hq => ?_, fun q hq => hB.nu q hq, fun q hq => hB.le q hq, fun q hq => hB.wi q hq, fun q hq => hB.po q hq, fun q hq => hB.bl q hq, fun q hq => hB.ap q hq, fun q hq => hB.az q hq, fun q r hq hr => hB.as q r hq hr, fun q hq => hB.ai q hq⟩
    show (if 0 = 0 ∧ q = p then x else v.kd q) ≤ 5
    split
    · exact hx
    · exact hB.kd q hq
  · refine ⟨hB.n, hB.yr, hB.nd, hB.ky, hB.ru, fun q hq => hB.kd q hq, fun q hq => ?_, fun q hq => hB.le q hq, fun q hq => hB.wi q hq, fun q hq => hB.po q hq, fun q hq => hB.bl q hq, fun q hq => hB.ap q hq, fun q hq => hB.az q hq, fun q r hq hr => hB.as q r hq hr, fun q hq => hB.ai q hq⟩
    show (if 1 = 1 ∧ q = p then x else v.nu q) ≤ 9
    split
    · exact hx
    · exact hB.nu q hq
  · refine ⟨hB.n, hB.yr, hB.nd, hB.ky, hB.ru, fun q hq => hB.kd q hq, fun q hq => hB.nu q hq, fun q hq => hB.le q hq, fun q hq => ?_, fun q hq => hB.po q hq, fun q hq => hB.bl q hq, fun q hq => hB.ap q hq, fun q hq => hB.az q hq, fun q r hq hr => hB.as q r hq hr, fun q hq => hB.ai q hq⟩
    show (if 3 = 3 ∧ q = p then x else v.wi q) ≤ 255
    split
    · exact hx
    · exact hB.wi q hq
  · refine ⟨hB.n, hB.yr, hB.nd, hB.ky, ?_, fun q hq => hB.kd q hq, fun q hq => hB.nu q hq, fun q hq => hB.le q hq, fun q hq => hB.wi q hq, fun q hq => hB.po q hq, fun q hq => hB.bl q hq, fun q hq => hB.ap q hq, fun q hq => hB.az q hq, fun q r hq hr => hB.as q r hq hr, fun q hq => hB.ai q hq⟩
    show x < 6
    omega
theorem zvr_ru {k p x cnt : Nat} (hr : v.ru < cnt) (hk : zvk k x cnt) : (zvr k v p x).ru < cnt := by
  rcases hk with ⟨rfl, hx⟩ | ⟨rfl, hx⟩ | ⟨rfl, hx⟩ | ⟨rfl, hx⟩
  · exact hr
  · exact hr
  · exact hr
  · exact hx
/-- whether the told is what it would be; the first week that is otherwise -/
def zfg (Ts : Nat → zT3) (v : zV) (p : Nat) (it : Nat → Int32) (w : Nat) : Bool := decide (zgl (Ts v.ru) v p w = it w)
def zft (Ts : Nat → zT3) (v : zV) (p : Nat) (it : Nat → Int32) : Bool := zaf (zfg Ts v p it) 0 8
def zfo (Ts : Nat → zT3) (v : zV) (p : Nat) (it : Nat → Int32) : Int32 := zfi (zfg Ts v p it) 0 8
theorem zfo_m1 {p : Nat} {it : Nat → Int32} : zfo Ts v p it = -1 ↔ zft Ts v p it = true := zfi_m1 _ 8 0 (by decide)
/-- the texts that the class holds -/
def zTC (Ts : Nat → zT3) (cnt : Nat) (σ : Nat → Nat → Int32) : Prop := ∀ c, c < cnt → zTX (37 + 3 * c) (Ts c) σ ∧ zGT (Ts c)
theorem zTC.fx {cnt : Nat} {σ σ' : Nat → Nat → Int32} (h : zTC Ts cnt σ) (hc : cnt ≤ 6) {P : Nat → Nat → Prop} (hf : zfx P σ σ') (hp : ∀ r k, 37 ≤ r → r ≤ 54 → ¬ P r k) : zTC Ts cnt σ' := fun c h1 => ⟨(h c h1).1.fx hf (fun r k a b => hp r k (by omega) (by omega)), (h c h1).2⟩
def zTD (Ts : Nat → zT3) (cnt : Nat) (σ : Nat → Nat → Int32) : Prop := ∀ c, c < cnt → zTMx c (Ts c) σ
theorem zTD.fx {cnt : Nat} {σ σ' : Nat → Nat → Int32} (h : zTD Ts cnt σ) {P : Nat → Nat → Prop} (hf : zfx P σ σ') (hp : ∀ r k, 74 ≤ r → r ≤ 75 → ¬ P r k) : zTD Ts cnt σ' := fun c h1 => (h c h1).fx hf hp
theorem foC_l {cnt s p : Nat} {it : Nat → Int32} (hc : cnt ≤ 6) (hB : zB v) (hr : v.ru < cnt) (hp : p < v.n) : ∀ j k m (M : mm_M), k + j = 8 → j < m → ShC 17 M.1 v → zTC Ts cnt M.1 → (∀ w, w < 8 → M.1 (65 + 2 * s + 1) w = it w) → Ok (nb_firstOtherwise_l2 m (65 + 2 * s) (nI p) (nI k) M) (fun y => ∃ M' : mm_M, y = (if zaf (zfg Ts v p it) k j = true then .inr ((), M') else .inl (zfi (zfg Ts v p it) k j, M')) ∧ zfx z356 M.1 M'.1 ∧ M'.2 = M.2) := by
  intro j
  induction j with
  | zero =>
    intro k m M hk hm h hT hI
    obtain ⟨m, rfl, -⟩ := z_suc hm
    obtain rfl : k = 8 := by omega
    rw [nb_firstOtherwise_l2]
    exact ok_neg (by decide) (ok_ret ⟨M, rfl, zfx.rf, rfl⟩)
  | succ j ih =>
    intro k m M hk hm h hT hI
    obtain ⟨m, rfl, hm2⟩ := z_suc hm
    have hru := hB.ru
    rw [nb_firstOtherwise_l2, nI_1]
    refine ok_pos (nI_lt (b := 8) (by omega) (by decide)) (ok_then (gladC_ok (Or.inr rfl) h hB (hT _ hr).1 (hT _ hr).2 hp (w := k) (by omega)) (fun y2 h2 => ?_))
    obtain ⟨a1, a2, a3⟩ := h2
    refine ok_pos (zI_inb (by omega) (by omega)) ?_
    rw [zI_nat (by omega), a1, a2 _ _ (show ¬ (65 + 2 * s + 1 = 35 ∨ 65 + 2 * s + 1 = 36) by omega), hI k (by omega)]
    show Ok _ (fun y : (Int32 × mm_M) ⊕ (Unit × mm_M) => ∃ M' : mm_M, y = (if (zfg Ts v p it k && zaf (zfg Ts v p it) (k + 1) j) = true then Sum.inr ((), M') else Sum.inl ((if zfg Ts v p it k = true then zfi (zfg Ts v p it) (k + 1) j else nI k), M')) ∧ zfx z356 M.1 M'.1 ∧ M'.2 = M.2)
    by_cases c : zgl (Ts v.ru) v p k = it k
    · have c2 : zfg Ts v p it k = true := decide_eq_true c
      refine ok_pos c (ok_mono (ih (k + 1) m y2.2 (by omega) (by omega) (h.fx a2 (n356 (Or.inr rfl))) (hT.fx hc a2 (fun r q a b w => by have w2 : r = 35 ∨ r = 36 := w; omega)) (fun w hw => (a2 _ _ (show ¬ (65 + 2 * s + 1 = 35 ∨ 65 + 2 * s + 1 = 36) by omega)).trans (hI w hw))) (fun y hy => ?_))
      obtain ⟨M', e1, e2, e3⟩ := hy
      exact ⟨M', by rw [e1]; simp [c2], a2.tr e2, e3.trans a3⟩
    · have c2 : zfg Ts v p it k = false := decide_eq_false c
      exact ok_neg c (ok_ret ⟨y2.2, by simp [c2], a2, a3⟩)
theorem foC_ok {cnt s p : Nat} {it : Nat → Int32} (hc : cnt ≤ 6) (hB : zB v) (hr : v.ru < cnt) (hp : p < v.n) {M : mm_M} (h : ShC 17 M.1 v) (hT : zTC Ts cnt M.1) (hI : ∀ w, w < 8 → M.1 (65 + 2 * s + 1) w = it w) : Ok (nb_firstOtherwise (65 + 2 * s) (nI p) M) (fun y => y.1 = zfo Ts v p it ∧ zfx z356 M.1 y.2.1 ∧ y.2.2 = M.2) := by
  unfold nb_firstOtherwise
  refine ok_then (foC_l hc hB hr hp 8 0 300 M (by decide) (by decide) h hT hI) (fun y hy => ?_)
  obtain ⟨M', rfl, e2, e3⟩ := hy
  by_cases c : zaf (zfg Ts v p it) 0 8 = true
  · rw [if_pos c]
    exact ok_ret ⟨(zfo_m1.mpr c).symm, e2, e3⟩
  · rw [if_neg c]
    exact ok_ret ⟨rfl, e2, e3⟩
theorem nI_or' (a b : Nat) : nI a ||| nI b = nI (a ||| b) := by
  apply Int32.toBitVec_inj.mp
  show (Int32.ofNat a).toBitVec ||| (Int32.ofNat b).toBitVec = (Int32.ofNat (a ||| b)).toBitVec
  simp [Int32.toBitVec_ofNat', BitVec.ofNat_or]
theorem z1sh {k : Nat} (hk : k < 10) : (1 : Int32) <<< (nI k &&& 31) = nI (2 ^ k) := by
  have h : ∀ k < 10, (1 : Int32) <<< (nI k &&& 31) = nI (2 ^ k) := by decide
  exact h k hk
theorem zbt_or {f : Nat → Bool} {k : Nat} (h : f k = true) : zbt f (k + 1) = zbt f k ||| 2 ^ k := by
  refine Nat.eq_of_testBit_eq (fun i => ?_)
  rw [Nat.testBit_or, zbt_tb, zbt_tb, Nat.testBit_two_pow]
  by_cases e : i = k
  · simp [e, h]
  · have e2 : ¬ k = i := fun z => e z.symm
    have : (i < k + 1) ↔ i < k := by omega
    simp [this, e2]
theorem zbt_no {f : Nat → Bool} {k : Nat} (h : ¬ f k = true) : zbt f (k + 1) = zbt f k := by
  show zbt f k + (if f k = true then 2 ^ k else 0) = zbt f k
  rw [if_neg h, Nat.add_zero]
abbrev zTe : Nat → Nat → Prop := fun r _ => (17 ≤ r ∧ r ≤ 24) ∨ r = 35 ∨ r = 36
theorem zTe_n {r k : Nat} (h : zTe r k) : (17 ≤ r ∧ r ≤ 24) ∨ r = 35 ∨ r = 36 := h
theorem kindsC_l {cnt s p : Nat} {it : Nat → Int32} (hc : cnt ≤ 6) (hB : zB v) (hr : v.ru < cnt) (hp : p < v.n) : ∀ j k m (M : mm_M), k + j = 6 → j < m → (∃ x, zvk 7 x cnt ∧ ShC 17 M.1 (zvr 7 v p x)) → zTC Ts cnt M.1 → (∀ w, w < 8 → M.1 (65 + 2 * s + 1) w = it w) → Ok (nb_kindsTold_l5 m (65 + 2 * s) (nI p) (nI (zbt (fun x => zft Ts (zvr 7 v p x) p it) k)) (nI k) M) (fun y => y.1 = nI (zbt (fun x => zft Ts (zvr 7 v p x) p it) 6) ∧ zfx zTe M.1 y.2.1 ∧ y.2.2 = M.2) := by
  have hn := hB.n
  intro j
  induction j with
  | zero =>
    intro k m M hk hm h hT hI
    obtain ⟨m, rfl, -⟩ := z_suc hm
    obtain rfl : k = 6 := by omega
    rw [nb_kindsTold_l5]
    exact ok_neg (by decide) (ok_ret ⟨rfl, zfx.rf, rfl⟩)
  | succ j ih =>
    intro k m M hk hm h hT hI
    obtain ⟨m, rfl, hm2⟩ := z_suc hm
    obtain ⟨x, hx, h⟩ := h
    have hk2 : zvk 7 k cnt := by unfold zvk; omega
    rw [nb_kindsTold_l5, nI_1 k]
    refine ok_pos (nI_lt (b := 6) (by omega) (by decide)) (ok_pos (zI_inb (by omega) (by omega)) ?_)
    rw [zI_nat (by omega), z1sh (by omega)]
    have hf : zfx zTe M.1 (ak_up M.1 18 p (nI k)) := zfx.rf.up (Or.inl (by decide))
    have hS : ShC 17 (ak_up M.1 18 p (nI k)) (zvr 7 v p k) := by
      have := ShC_r0 (p := p) (x := k) h
      have e : zr (zvr 7 v p x) 0 p k = zvr 7 v p k := zvr_zvr (k := 7)
      rw [e] at this
      exact this
    have hI2 : ∀ w, w < 8 → ak_up M.1 18 p (nI k) (65 + 2 * s + 1) w = it w := fun w hw => (hf _ _ (fun z => by have := zTe_n z; omega)).trans (hI w hw)
    refine ok_then (foC_ok (M := (ak_up M.1 18 p (nI k), M.2)) hc (zvr_B hB hc hk2) (zvr_ru hr hk2) hp hS (hT.fx hc hf (fun r q a b z => by have := zTe_n z; omega)) hI2) (fun y3 h3 => ?_)
    obtain ⟨a1, a2, a3⟩ := h3
    have ff : zfx zTe M.1 y3.2.1 := hf.tr (a2.wk (fun r q z => Or.inr z))
    have nx := ih (k + 1) m y3.2 (by omega) (by omega) ⟨k, hk2, hS.fx a2 (n356 (Or.inr rfl))⟩ (hT.fx hc ff (fun r q a b z => by have := zTe_n z; omega)) (fun w hw => (ff _ _ (fun z => by have := zTe_n z; omega)).trans (hI w hw))
    rw [a1]
    by_cases c : zft Ts (zvr 7 v p k) p it = true
    · refine ok_pos (zfo_m1.mpr c) ?_
      rw [nI_or']
      rw [zbt_or (f := fun x => zft Ts (zvr 7 v p x) p it) c] at nx
      exact ok_mono nx (fun y hy => ⟨hy.1, ff.tr hy.2.1, hy.2.2.trans a3⟩)
    · refine ok_neg (fun z => c (zfo_m1.mp z)) ?_
      rw [zbt_no (f := fun x => zft Ts (zvr 7 v p x) p it) c] at nx
      exact ok_mono nx (fun y hy => ⟨hy.1, ff.tr hy.2.1, hy.2.2.trans a3⟩)
theorem numbersC_l {cnt s p : Nat} {it : Nat → Int32} (hc : cnt ≤ 6) (hB : zB v) (hr : v.ru < cnt) (hp : p < v.n) : ∀ j k m (M : mm_M), k + j = 10 → j < m → (∃ x, zvk 3 x cnt ∧ ShC 17 M.1 (zvr 3 v p x)) → zTC Ts cnt M.1 → (∀ w, w < 8 → M.1 (65 + 2 * s + 1) w = it w) → Ok (nb_numbersTold_l5 m (65 + 2 * s) (nI p) (nI (zbt (fun x => zft Ts (zvr 3 v p x) p it) k)) (nI k) M) (fun y => y.1 = nI (zbt (fun x => zft Ts (zvr 3 v p x) p it) 10) ∧ zfx zTe M.1 y.2.1 ∧ y.2.2 = M.2) := by
  have hn := hB.n
  intro j
  induction j with
  | zero =>
    intro k m M hk hm h hT hI
    obtain ⟨m, rfl, -⟩ := z_suc hm
    obtain rfl : k = 10 := by omega
    rw [nb_numbersTold_l5]
    exact ok_neg (by decide) (ok_ret ⟨rfl, zfx.rf, rfl⟩)
  | succ j ih =>
    intro k m M hk hm h hT hI
    obtain ⟨m, rfl, hm2⟩ := z_suc hm
    obtain ⟨x, hx, h⟩ := h
    have hk2 : zvk 3 k cnt := by unfold zvk; omega
    rw [nb_numbersTold_l5, nI_1 k]
    refine ok_pos (nI_lt (b := 10) (by omega) (by decide)) (ok_pos (zI_inb (by omega) (by omega)) ?_)
    rw [zI_nat (by omega), z1sh (by omega)]
    have hf : zfx zTe M.1 (ak_up M.1 19 p (nI k)) := zfx.rf.up (Or.inl (by decide))
    have hS : ShC 17 (ak_up M.1 19 p (nI k)) (zvr 3 v p k) := by
      have := ShC_r1 (p := p) (x := k) h
      have e : zr (zvr 3 v p x) 1 p k = zvr 3 v p k := zvr_zvr (k := 3)
      rw [e] at this
      exact this
    have hI2 : ∀ w, w < 8 → ak_up M.1 19 p (nI k) (65 + 2 * s + 1) w = it w := fun w hw => (hf _ _ (fun z => by have := zTe_n z; omega)).trans (hI w hw)
    refine ok_then (foC_ok (M := (ak_up M.1 19 p (nI k), M.2)) hc (zvr_B hB hc hk2) (zvr_ru hr hk2) hp hS (hT.fx hc hf (fun r q a b z => by have := zTe_n z; omega)) hI2) (fun y3 h3 => ?_)
    obtain ⟨a1, a2, a3⟩ := h3
    have ff : zfx zTe M.1 y3.2.1 := hf.tr (a2.wk (fun r q z => Or.inr z))
    have nx := ih (k + 1) m y3.2 (by omega) (by omega) ⟨k, hk2, hS.fx a2 (n356 (Or.inr rfl))⟩ (hT.fx hc ff (fun r q a b z => by have := zTe_n z; omega)) (fun w hw => (ff _ _ (fun z => by have := zTe_n z; omega)).trans (hI w hw))
    rw [a1]
    by_cases c : zft Ts (zvr 3 v p k) p it = true
    · refine ok_pos (zfo_m1.mpr c) ?_
      rw [nI_or']
      rw [zbt_or (f := fun x => zft Ts (zvr 3 v p x) p it) c] at nx
      exact ok_mono nx (fun y hy => ⟨hy.1, ff.tr hy.2.1, hy.2.2.trans a3⟩)
    · refine ok_neg (fun z => c (zfo_m1.mp z)) ?_
      rw [zbt_no (f := fun x => zft Ts (zvr 3 v p x) p it) c] at nx
      exact ok_mono nx (fun y hy => ⟨hy.1, ff.tr hy.2.1, hy.2.2.trans a3⟩)
theorem textsC_l {cnt s p : Nat} {it : Nat → Int32} (hc : cnt ≤ 6) (hB : zB v) (hr : v.ru < cnt) (hp : p < v.n) : ∀ j k m (M : mm_M), k + j = cnt → j < m → M.1 26 0 = nI cnt → (∃ x, zvk 8 x cnt ∧ ShC 17 M.1 (zvr 8 v p x)) → zTC Ts cnt M.1 → (∀ w, w < 8 → M.1 (65 + 2 * s + 1) w = it w) → Ok (nb_textsTold_l5 m (65 + 2 * s) (nI p) (nI (zbt (fun x => zft Ts (zvr 8 v p x) p it) k)) (nI k) M) (fun y => y.1 = nI (zbt (fun x => zft Ts (zvr 8 v p x) p it) cnt) ∧ zfx zTe M.1 y.2.1 ∧ y.2.2 = M.2) := by
  have hn := hB.n
  intro j
  induction j with
  | zero =>
    intro k m M hk hm h26 h hT hI
    obtain ⟨m, rfl, -⟩ := z_suc hm
    obtain rfl : k = cnt := by omega
    rw [nb_textsTold_l5, h26]
    exact ok_neg (nI_nlt (Nat.le_refl _) (by omega)) (ok_ret ⟨rfl, zfx.rf, rfl⟩)
  | succ j ih =>
    intro k m M hk hm h26 h hT hI
    obtain ⟨m, rfl, hm2⟩ := z_suc hm
    obtain ⟨x, hx, h⟩ := h
    have hk2 : zvk 8 k cnt := by unfold zvk; omega
    rw [nb_textsTold_l5, nI_1 k, h26, z1sh (by omega)]
    refine ok_pos (nI_lt (by omega) (by omega)) ?_
    have hf : zfx zTe M.1 (ak_up M.1 17 3 (nI k)) := zfx.rf.up (Or.inl (by decide))
    have hS : ShC 17 (ak_up M.1 17 3 (nI k)) (zvr 8 v p k) := by
      have := ShC_s3 (x := k) h
      have e : zs (zvr 8 v p x) 3 k = zvr 8 v p k := zvr_zvr (k := 8)
      rw [e] at this
      exact this
    have hI2 : ∀ w, w < 8 → ak_up M.1 17 3 (nI k) (65 + 2 * s + 1) w = it w := fun w hw => (hf _ _ (fun z => by have := zTe_n z; omega)).trans (hI w hw)
    refine ok_then (foC_ok (M := (ak_up M.1 17 3 (nI k), M.2)) hc (zvr_B hB hc hk2) (zvr_ru hr hk2) hp hS (hT.fx hc hf (fun r q a b z => by have := zTe_n z; omega)) hI2) (fun y3 h3 => ?_)
    obtain ⟨a1, a2, a3⟩ := h3
    have ff : zfx zTe M.1 y3.2.1 := hf.tr (a2.wk (fun r q z => Or.inr z))
    have nx := ih (k + 1) m y3.2 (by omega) (by omega) ((ff _ _ (fun z => by have := zTe_n z; omega)).trans h26) ⟨k, hk2, hS.fx a2 (n356 (Or.inr rfl))⟩ (hT.fx hc ff (fun r q a b z => by have := zTe_n z; omega)) (fun w hw => (ff _ _ (fun z => by have := zTe_n z; omega)).trans (hI w hw))
    rw [a1]
    by_cases c : zft Ts (zvr 8 v p k) p it = true
    · refine ok_pos (zfo_m1.mpr c) ?_
      rw [nI_or']
      rw [zbt_or (f := fun x => zft Ts (zvr 8 v p x) p it) c] at nx
      exact ok_mono nx (fun y hy => ⟨hy.1, ff.tr hy.2.1, hy.2.2.trans a3⟩)
    · refine ok_neg (fun z => c (zfo_m1.mp z)) ?_
      rw [zbt_no (f := fun x => zft Ts (zvr 8 v p x) p it) c] at nx
      exact ok_mono nx (fun y hy => ⟨hy.1, ff.tr hy.2.1, hy.2.2.trans a3⟩)
/-- one week, wished or not -/
def zow1 (Ts : Nat → zT3) (v : zV) (p : Nat) (it : Nat → Int32) (w : Nat) (q : Bool) : Bool := decide (zgl (Ts v.ru) (zvr 5 v p (if q = true then 2 ^ w else 0)) p w = it w)
theorem zow_wi {p x w : Nat} : zow (zvr 5 v p x) p w = zow v p w := by
  unfold zow
  congr 1
  funext q
  by_cases e : q = p
  · simp [e]
  · have : (zvr 5 v p x).wi q = v.wi q := by
      show (if 3 = 3 ∧ q = p then x else v.wi q) = v.wi q
      rw [if_neg (fun z => e z.2)]
    rw [this]
theorem zwi_p {p x : Nat} : (zvr 5 v p x).wi p = x := by
  show (if 3 = 3 ∧ p = p then x else v.wi p) = x
  rw [if_pos ⟨rfl, rfl⟩]
theorem zgl_wi {T : zT3} {p x y w : Nat} (h : x.testBit w = y.testBit w) : zgl T (zvr 5 v p x) p w = zgl T (zvr 5 v p y) p w := by
  have hen : zen (zvr 5 v p x) p w = zen (zvr 5 v p y) p w := by
    funext i
    unfold zen
    rw [zow_wi, zow_wi, zwi_p, zwi_p, h]
    rfl
  unfold zgl zbs zjy
  rw [hen, zwi_p, zwi_p, h]
  rfl
theorem soC_ok {cnt s p : Nat} {it : Nat → Int32} (hc : cnt ≤ 6) (hB : zB v) (hr : v.ru < cnt) (hp : p < v.n) {w : Nat} (hw : w < 8) (q : Bool) {M : mm_M} (h : ∃ x, zvk 5 x cnt ∧ ShC 17 M.1 (zvr 5 v p x)) (hT : zTC Ts cnt M.1) (hI : ∀ w, w < 8 → M.1 (65 + 2 * s + 1) w = it w) : Ok (nb_isSoIfWished (65 + 2 * s) (nI p) (nI w) (bI (q = true)) M) (fun y => y.1 = bI (zow1 Ts v p it w q = true) ∧ (∃ x, zvk 5 x cnt ∧ ShC 17 y.2.1 (zvr 5 v p x)) ∧ zTC Ts cnt y.2.1 ∧ (∀ w, w < 8 → y.2.1 (65 + 2 * s + 1) w = it w) ∧ zfx zTe M.1 y.2.1 ∧ y.2.2 = M.2) := by
  have hn := hB.n
  obtain ⟨x, hx, h⟩ := h
  unfold nb_isSoIfWished
  rw [z1sh (by omega), zI_nat (show w < 2147483648 by omega)]
  have hpw : 2 ^ w ≤ 255 := by
    have : 2 ^ w ≤ 2 ^ 7 := Nat.pow_le_pow_right (by decide) (by omega)
    omega
  have go : ∀ X : Nat, X ≤ 255 → X = (if q = true then 2 ^ w else 0) → Ok (if ak_inb (nI p) 4 = true then (ru_glad 17 (nI p) (nI w) (ak_up M.1 21 (nI p).toNatClampNeg (nI X), M.2)).bind fun y3 => if ak_inb (nI w) 40 = true then (if y3.1 = (y3.2.1 (65 + 2 * s + 1) w) then some ((1 : Int32), y3.2) else some ((0 : Int32), y3.2)) else none else none) (fun y => y.1 = bI (zow1 Ts v p it w q = true) ∧ (∃ x, zvk 5 x cnt ∧ ShC 17 y.2.1 (zvr 5 v p x)) ∧ zTC Ts cnt y.2.1 ∧ (∀ w, w < 8 → y.2.1 (65 + 2 * s + 1) w = it w) ∧ zfx zTe M.1 y.2.1 ∧ y.2.2 = M.2) := by
    intro X hX eX
    have hk2 : zvk 5 X cnt := by unfold zvk; omega
    refine ok_pos (zI_inb (by omega) (by omega)) ?_
    rw [zI_nat (by omega)]
    have hf : zfx zTe M.1 (ak_up M.1 21 p (nI X)) := zfx.rf.up (Or.inl (by decide))
    have hS : ShC 17 (ak_up M.1 21 p (nI X)) (zvr 5 v p X) := by
      have := ShC_r3 (p := p) (x := X) h
      have e : zr (zvr 5 v p x) 3 p X = zvr 5 v p X := zvr_zvr (k := 5)
      rw [e] at this
      exact this
    have hT1 := hT.fx hc hf (fun r q a b z => by have := zTe_n z; omega)
    have hru := zvr_ru (p := p) hr hk2
    refine ok_then (gladC_ok (M := (ak_up M.1 21 p (nI X), M.2)) (Or.inr rfl) hS (zvr_B hB hc hk2) (hT1 _ hru).1 (hT1 _ hru).2 hp hw) (fun y3 h3 => ?_)
    obtain ⟨a1, a2, a3⟩ := h3
    have ff : zfx zTe M.1 y3.2.1 := hf.tr (a2.wk (fun r q z => Or.inr z))
    have hI3 : ∀ w, w < 8 → y3.2.1 (65 + 2 * s + 1) w = it w := fun w hw => (ff _ _ (fun z => by have := zTe_n z; omega)).trans (hI w hw)
    refine ok_pos (zI_inb (by omega) (by omega)) ?_
    rw [a1, hI3 w hw]
    have st : (∃ x, zvk 5 x cnt ∧ ShC 17 y3.2.1 (zvr 5 v p x)) ∧ zTC Ts cnt y3.2.1 ∧ (∀ w, w < 8 → y3.2.1 (65 + 2 * s + 1) w = it w) ∧ zfx zTe M.1 y3.2.1 ∧ y3.2.2 = M.2 := ⟨⟨X, hk2, hS.fx a2 (n356 (Or.inr rfl))⟩, hT.fx hc ff (fun r q a b z => by have := zTe_n z; omega), hI3, ff, a3⟩
    have e1 : zow1 Ts v p it w q = decide (zgl (Ts v.ru) (zvr 5 v p X) p w = it w) := by unfold zow1; rw [eX]
    have e2 : zgl (Ts (zvr 5 v p X).ru) (zvr 5 v p X) p w = zgl (Ts v.ru) (zvr 5 v p X) p w := rfl
    rw [e2]
    refine ok_ite (fun z => ok_ret ⟨(bI_t (by rw [e1]; exact decide_eq_true z)).symm, st⟩) (fun z => ok_ret ⟨(bI_f (by rw [e1]; simpa using z)).symm, st⟩)
  cases q with
  | false => exact ok_pos (by decide) (go 0 (by decide) rfl)
  | true => exact ok_neg (by decide) (go (2 ^ w) hpw rfl)
/-- how many wishes fit, week after week -/
def zwp (g : Nat → Bool → Bool) : Nat → Nat
  | 0 => 1
  | k + 1 => zwp g k * ((if g k false = true then 1 else 0) + (if g k true = true then 1 else 0))
theorem wishesC_l {cnt s p : Nat} {it : Nat → Int32} (hc : cnt ≤ 6) (hB : zB v) (hr : v.ru < cnt) (hp : p < v.n) : ∀ j k m (M : mm_M), k + j = 8 → j < m → (∃ x, zvk 5 x cnt ∧ ShC 17 M.1 (zvr 5 v p x)) → zTC Ts cnt M.1 → (∀ w, w < 8 → M.1 (65 + 2 * s + 1) w = it w) → Ok (nb_wishesTold_l5 m (65 + 2 * s) (nI p) (nI (zwp (zow1 Ts v p it) k)) (nI k) M) (fun y => y.1 = nI (zwp (zow1 Ts v p it) 8) ∧ zfx zTe M.1 y.2.1 ∧ y.2.2 = M.2) := by
  intro j
  induction j with
  | zero =>
    intro k m M hk hm h hT hI
    obtain ⟨m, rfl, -⟩ := z_suc hm
    obtain rfl : k = 8 := by omega
    rw [nb_wishesTold_l5]
    exact ok_neg (by decide) (ok_ret ⟨rfl, zfx.rf, rfl⟩)
  | succ j ih =>
    intro k m M hk hm h hT hI
    obtain ⟨m, rfl, hm2⟩ := z_suc hm
    rw [nb_wishesTold_l5, nI_1 k]
    refine ok_pos (nI_lt (b := 8) (by omega) (by decide)) (ok_then (soC_ok hc hB hr hp (w := k) (by omega) false h hT hI) (fun y2 h2 => ?_))
    obtain ⟨a1, a2, a3, a4, a5, a6⟩ := h2
    rw [a1, bI_if]
    have step : zwp (zow1 Ts v p it) (k + 1) = zwp (zow1 Ts v p it) k * ((if zow1 Ts v p it k false = true then 1 else 0) + (if zow1 Ts v p it k true = true then 1 else 0)) := rfl
    have two : ∀ (X Y : Int32 × mm_M → Option (Int32 × mm_M)) , (∀ y4 : Int32 × mm_M, zow1 Ts v p it k true = true → (∃ x, zvk 5 x cnt ∧ ShC 17 y4.2.1 (zvr 5 v p x)) → zTC Ts cnt y4.2.1 → (∀ w, w < 8 → y4.2.1 (65 + 2 * s + 1) w = it w) → zfx zTe M.1 y4.2.1 → y4.2.2 = M.2 → Ok (Y y4) (fun y => y.1 = nI (zwp (zow1 Ts v p it) 8) ∧ zfx zTe M.1 y.2.1 ∧ y.2.2 = M.2)) → (∀ y4 : Int32 × mm_M, ¬ zow1 Ts v p it k true = true → (∃ x, zvk 5 x cnt ∧ ShC 17 y4.2.1 (zvr 5 v p x)) → zTC Ts cnt y4.2.1 → (∀ w, w < 8 → y4.2.1 (65 + 2 * s + 1) w = it w) → zfx zTe M.1 y4.2.1 → y4.2.2 = M.2 → Ok (X y4) (fun y => y.1 = nI (zwp (zow1 Ts v p it) 8) ∧ zfx zTe M.1 y.2.1 ∧ y.2.2 = M.2)) → Ok ((nb_isSoIfWished (65 + 2 * s) (nI p) (nI k) (1 : Int32) y2.2).bind fun y4 => if y4.1 = (0 : Int32) then X y4 else Y y4) (fun y => y.1 = nI (zwp (zow1 Ts v p it) 8) ∧ zfx zTe M.1 y.2.1 ∧ y.2.2 = M.2) := by
      intro X Y hY hX
      refine ok_then (soC_ok hc hB hr hp (w := k) (by omega) true a2 a3 a4) (fun y4 h4 => ?_)
      obtain ⟨b1, b2, b3, b4, b5, b6⟩ := h4
      rw [b1, bI_if]
      by_cases c : zow1 Ts v p it k true = true
      · rw [if_pos c]
        exact hY y4 c b2 b3 b4 (a5.tr b5) (b6.trans a6)
      · rw [if_neg c]
        exact hX y4 c b2 b3 b4 (a5.tr b5) (b6.trans a6)
    have fin : ∀ (c : Nat) (y4 : Int32 × mm_M), zwp (zow1 Ts v p it) (k + 1) = zwp (zow1 Ts v p it) k * c → (∃ x, zvk 5 x cnt ∧ ShC 17 y4.2.1 (zvr 5 v p x)) → zTC Ts cnt y4.2.1 → (∀ w, w < 8 → y4.2.1 (65 + 2 * s + 1) w = it w) → zfx zTe M.1 y4.2.1 → y4.2.2 = M.2 → Ok (nb_wishesTold_l5 m (65 + 2 * s) (nI p) (nI (zwp (zow1 Ts v p it) k) * nI c) (nI (k + 1)) y4.2) (fun y => y.1 = nI (zwp (zow1 Ts v p it) 8) ∧ zfx zTe M.1 y.2.1 ∧ y.2.2 = M.2) := by
      intro c y4 e h1 h2 h3 h4 h5
      rw [zI_mul, ← e]
      exact ok_mono (ih (k + 1) m y4.2 (by omega) (by omega) h1 h2 h3) (fun y hy => ⟨hy.1, h4.tr hy.2.1, hy.2.2.trans h5⟩)
    by_cases c0 : zow1 Ts v p it k false = true
    · rw [if_pos c0]
      exact two _ _ (fun y4 c h1 h2 h3 h4 h5 => fin 2 y4 (by rw [step, if_pos c0, if_pos c]) h1 h2 h3 h4 h5) (fun y4 c h1 h2 h3 h4 h5 => fin 1 y4 (by rw [step, if_pos c0, if_neg c]) h1 h2 h3 h4 h5)
    · rw [if_neg c0]
      exact two _ _ (fun y4 c h1 h2 h3 h4 h5 => fin 1 y4 (by rw [step, if_neg c0, if_pos c]) h1 h2 h3 h4 h5) (fun y4 c h1 h2 h3 h4 h5 => fin 0 y4 (by rw [step, if_neg c0, if_neg c]) h1 h2 h3 h4 h5)
/-- the least wishes that fit (bits), if some do -/
def zlwb (g : Nat → Bool → Bool) (w : Nat) : Bool := !(g w false)
theorem leastWC_l {cnt s p : Nat} {it : Nat → Int32} (hc : cnt ≤ 6) (hB : zB v) (hr : v.ru < cnt) (hp : p < v.n) : ∀ j k m (M : mm_M), k + j = 8 → j < m → (∃ x, zvk 5 x cnt ∧ ShC 17 M.1 (zvr 5 v p x)) → zTC Ts cnt M.1 → (∀ w, w < 8 → M.1 (65 + 2 * s + 1) w = it w) → Ok (nb_leastWishesTold_l5 m (65 + 2 * s) (nI p) (nI (zbt (zlwb (zow1 Ts v p it)) k)) (nI k) M) (fun y => ∃ M' : mm_M, y = (if zaf (fun w => zow1 Ts v p it w false || zow1 Ts v p it w true) k j = true then .inr (nI (zbt (zlwb (zow1 Ts v p it)) 8), M') else .inl (-1, M')) ∧ zfx zTe M.1 M'.1 ∧ M'.2 = M.2) := by
  intro j
  induction j with
  | zero =>
    intro k m M hk hm h hT hI
    obtain ⟨m, rfl, -⟩ := z_suc hm
    obtain rfl : k = 8 := by omega
    rw [nb_leastWishesTold_l5]
    exact ok_neg (by decide) (ok_ret ⟨M, rfl, zfx.rf, rfl⟩)
  | succ j ih =>
    intro k m M hk hm h hT hI
    obtain ⟨m, rfl, hm2⟩ := z_suc hm
    rw [nb_leastWishesTold_l5, nI_1 k, z1sh (by omega)]
    refine ok_pos (nI_lt (b := 8) (by omega) (by decide)) (ok_then (soC_ok hc hB hr hp (w := k) (by omega) false h hT hI) (fun y2 h2 => ?_))
    obtain ⟨a1, a2, a3, a4, a5, a6⟩ := h2
    rw [a1, bI_if]
    show Ok _ (fun y : (Int32 × mm_M) ⊕ (Int32 × mm_M) => ∃ M' : mm_M, y = (if ((zow1 Ts v p it k false || zow1 Ts v p it k true) && zaf (fun w => zow1 Ts v p it w false || zow1 Ts v p it w true) (k + 1) j) = true then Sum.inr (nI (zbt (zlwb (zow1 Ts v p it)) 8), M') else Sum.inl (-1, M')) ∧ zfx zTe M.1 M'.1 ∧ M'.2 = M.2)
    by_cases c0 : zow1 Ts v p it k false = true
    · rw [if_pos c0]
      have nx := ih (k + 1) m y2.2 (by omega) (by omega) a2 a3 a4
      rw [zbt_no (f := zlwb (zow1 Ts v p it)) (by unfold zlwb; simp [c0])] at nx
      refine ok_mono nx (fun y hy => ?_)
      obtain ⟨M', e1, e2, e3⟩ := hy
      exact ⟨M', by rw [e1]; simp [c0], a5.tr e2, e3.trans a6⟩
    · rw [if_neg c0]
      refine ok_then (soC_ok hc hB hr hp (w := k) (by omega) true a2 a3 a4) (fun y4 h4 => ?_)
      obtain ⟨b1, b2, b3, b4, b5, b6⟩ := h4
      rw [b1, bI_if]
      by_cases c : zow1 Ts v p it k true = true
      · rw [if_pos c, nI_or']
        have nx := ih (k + 1) m y4.2 (by omega) (by omega) b2 b3 b4
        rw [zbt_or (f := zlwb (zow1 Ts v p it)) (by unfold zlwb; simpa using c0)] at nx
        refine ok_mono nx (fun y hy => ?_)
        obtain ⟨M', e1, e2, e3⟩ := hy
        exact ⟨M', by rw [e1]; simp [c], (a5.tr b5).tr e2, e3.trans (b6.trans a6)⟩
      · rw [if_neg c]
        exact ok_ret ⟨y4.2, by simp [c0, c], a5.tr b5, b6.trans a6⟩
end
