/-! level 2: change -/
section
variable {v : zV} {T : zT3}
def zsw (d : Nat → Nat) (i j : Nat) : Nat → Nat := zdo (zdo d i (d j)) j (d i)
def zc2 (T : zT3) (v : zV) (d : Nat → Nat) (i : Nat) : Nat → Nat → Int32 × Int32 → Int32 × Int32
  | _, 0, st => st
  | k, j + 1, st => zc2 T v d i (k + 1) j (if st.1 < zsm T v (zsw d i k) ∧ zhd T v (zsw d i k) = true then (zsm T v (zsw d i k), nI (10 * i + k)) else st)
def zc1 (T : zT3) (v : zV) (d : Nat → Nat) : Nat → Nat → Int32 × Int32 → Int32 × Int32
  | _, 0, st => st
  | i, j + 1, st => zc1 T v d (i + 1) j (zc2 T v d i (i + 1) (v.n - (i + 1)) st)
def zcst (T : zT3) (v : zV) : Int32 × Int32 := zc1 T v v.bl 0 v.n (zsm T v v.bl, -1)
def zchg (T : zT3) (v : zV) (a1 : Int32) : Int32 := if a1.toInt = 0 then (zcst T v).2 else if a1.toInt = 1 then (zcst T v).1 else -100000
/-- what the two found are -/
def zci2 (T : zT3) (v : zV) (d : Nat → Nat) (st : Int32 × Int32) : Prop := (st.2 = -1 ∧ st.1 = zsm T v d) ∨ ∃ i k, i < k ∧ k < v.n ∧ st.2 = nI (10 * i + k) ∧ st.1 = zsm T v (zsw d i k)
theorem zc2_i {d : Nat → Nat} {i : Nat} : ∀ j k st, i < k → k + j ≤ v.n → zci2 T v d st → zci2 T v d (zc2 T v d i k j st) := by
  intro j
  induction j with
  | zero => intro k st _ _ h; exact h
  | succ j ih =>
    intro k st hi hk h
    rw [zc2]
    refine ih (k + 1) _ (by omega) (by omega) ?_
    split
    · exact Or.inr ⟨i, k, hi, by omega, rfl, rfl⟩
    · exact h
theorem zc1_i {d : Nat → Nat} : ∀ j i st, i + j = v.n → zci2 T v d st → zci2 T v d (zc1 T v d i j st) := by
  intro j
  induction j with
  | zero => intro i st _ h; exact h
  | succ j ih =>
    intro i st hi h
    rw [zc1]
    exact ih (i + 1) _ (by omega) (zc2_i _ _ _ (by omega) (by omega) h)
theorem zsw_zsw {d : Nat → Nat} {i k : Nat} (h : i ≠ k) : zsw (zsw d i k) i k = d := by
  funext q
  unfold zsw zdo
  by_cases e1 : q = k
  · by_cases e2 : k = i
    · exact absurd e2.symm h
    · simp [e1, h, e2]
  · by_cases e2 : q = i
    · simp [e1, e2, h]
    · simp [e1, e2]
theorem zDg.sw {r n : Nat} {d : Nat → Nat} {σ : Nat → Nat → Int32} (h : zDg r n d σ) {i k : Nat} (hi : i < n) (hk : k < n) : zDg r n (zsw d i k) (ak_up (ak_up σ r i (σ r k)) r k (σ r i)) := by
  have h1 := h.up (p := i) (k := d k) (h k hk).2
  have h2 := h1.up (p := k) (k := d i) (h i hi).2
  rw [(h k hk).1, (h i hi).1]
  exact h2
theorem swapC_ok {b : Nat} {d : Nat → Nat} {M : mm_M} (hB : zB v) (h : zPC b v T M) (hd : zDg 61 v.n d M.1) {i k : Nat} (hi : i < v.n) (hk : k < v.n) : Ok (pl_swap (nI i) (nI k) M) (fun y => zPC b v T y.2 ∧ zDg 61 v.n (zsw d i k) y.2.1 ∧ zfx z61 M.1 y.2.1 ∧ y.2.2 = M.2) := by
  have hn := hB.n
  unfold pl_swap
  refine ok_pos h.is8 ?_
  rw [h.1, isOneC_eq h.2.2.1 hB, bI_t ((z_ii (by omega)).mpr hi)]
  simp only [Option.bind_some]
  refine ok_neg (by decide) (ok_pos h.is8 ?_)
  rw [h.1, isOneC_eq h.2.2.1 hB, bI_t ((z_ii (by omega)).mpr hk)]
  simp only [Option.bind_some]
  have gi : ak_inb (nI i) 4 = true := zI_inb (by omega) (by omega)
  have gk : ak_inb (nI k) 4 = true := zI_inb (by omega) (by omega)
  refine ok_neg (by decide) (ok_pos gi (ok_pos gk (ok_pos gi (ok_pos gk ?_))))
  rw [zI_nat (by omega), zI_nat (by omega)]
  have hf : zfx z61 M.1 (ak_up (ak_up M.1 61 i (M.1 61 k)) 61 k (M.1 61 i)) := ((zfx.rf (P := z61)).up rfl).up rfl
  exact ok_ret ⟨h.w61 (M' := (_, M.2)) hf rfl, hd.sw hi hk, hf, rfl⟩
theorem changeC_l25 {b : Nat} {d : Nat → Nat} (hB : zB v) {i : Nat} (hi : i < v.n) : ∀ j k m st (M : mm_M), k + j = v.n → j < m → i < k → zPC b v T M → zDg 61 v.n d M.1 → Ok (pl_changeTwo_l25 m st.1 st.2 (nI i) (nI k) M) (fun y => y.1 = zc2 T v d i k j st ∧ zPC b v T y.2 ∧ zDg 61 v.n d y.2.1 ∧ zfx z61 M.1 y.2.1 ∧ y.2.2 = M.2) := by
  have hn := hB.n
  intro j
  induction j with
  | zero =>
    intro k m st M hk hm hik h hd
    obtain ⟨m, rfl, -⟩ := z_suc hm
    rw [pl_changeTwo_l25]
    refine ok_pos h.is8 ?_
    rw [h.n]
    exact ok_neg (nI_nlt (by omega) (by omega)) (ok_ret ⟨rfl, h, hd, zfx.rf, rfl⟩)
  | succ j ih =>
    intro k m st M hk hm hik h hd
    obtain ⟨m, rfl, hm2⟩ := z_suc hm
    have hkn : k < v.n := by omega
    rw [pl_changeTwo_l25, nI_1, z10]
    refine ok_pos h.is8 ?_
    rw [h.n]
    refine ok_pos (nI_lt hkn (by omega)) (ok_then (swapC_ok hB h hd hi hkn) (fun y3 h3 => ?_))
    obtain ⟨a1, a2, a3, a4⟩ := h3
    rw [allC_eq hB a1 a2]
    simp only [Option.bind_some]
    have back : ∀ st2 : Int32 × Int32, zc2 T v d i (k + 1) j st2 = zc2 T v d i k (j + 1) st → Ok ((pl_swap (nI i) (nI k) y3.2).bind fun y8 => pl_changeTwo_l25 m st2.1 st2.2 (nI i) (nI (k + 1)) y8.2) (fun y => y.1 = zc2 T v d i k (j + 1) st ∧ zPC b v T y.2 ∧ zDg 61 v.n d y.2.1 ∧ zfx z61 M.1 y.2.1 ∧ y.2.2 = M.2) := by
      intro st2 e2
      refine ok_then (swapC_ok hB a1 a2 hi hkn) (fun y8 h8 => ?_)
      obtain ⟨b1, b2, b3, b4⟩ := h8
      rw [zsw_zsw (by omega)] at b2
      refine ok_mono (ih (k + 1) m st2 y8.2 (by omega) (by omega) (by omega) b1 b2) (fun y hy => ⟨hy.1.trans e2, hy.2.1, hy.2.2.1, (a3.tr b3).tr hy.2.2.2.1, hy.2.2.2.2.trans (b4.trans a4)⟩)
    have ez : zc2 T v d i k (j + 1) st = zc2 T v d i (k + 1) j (if st.1 < zsm T v (zsw d i k) ∧ zhd T v (zsw d i k) = true then (zsm T v (zsw d i k), nI (10 * i + k)) else st) := rfl
    by_cases g : st.1 < zsm T v (zsw d i k)
    · refine ok_pos g ?_
      rw [holdsC_eq hB a1 a2]
      simp only [Option.bind_some, bI_if]
      by_cases e : zhd T v (zsw d i k) = true
      · rw [if_pos e, allC_eq hB a1 a2]
        simp only [Option.bind_some]
        exact back (zsm T v (zsw d i k), nI (10 * i + k)) (by rw [ez, if_pos ⟨g, e⟩])
      · rw [if_neg e]
        exact back st (by rw [ez, if_neg (fun z => e z.2)])
    · refine ok_neg g (back st (by rw [ez, if_neg (fun z => g z.1)]))
theorem changeC_l9 {b : Nat} {d : Nat → Nat} (hB : zB v) : ∀ j i m st (M : mm_M), i + j = v.n → j < m → zPC b v T M → zDg 61 v.n d M.1 → Ok (pl_changeTwo_l9 m st.1 st.2 (nI i) M) (fun y => y.1 = (zc1 T v d i j st).2 ∧ zPC b v T y.2 ∧ zDg 61 v.n d y.2.1 ∧ zfx z61 M.1 y.2.1 ∧ y.2.2 = M.2) := by
  have hn := hB.n
  intro j
  induction j with
  | zero =>
    intro i m st M hk hm h hd
    obtain ⟨m, rfl, -⟩ := z_suc hm
    rw [pl_changeTwo_l9]
    refine ok_pos h.is8 ?_
    rw [h.n]
    exact ok_neg (nI_nlt (by omega) (by omega)) (ok_ret ⟨rfl, h, hd, zfx.rf, rfl⟩)
  | succ j ih =>
    intro i m st M hk hm h hd
    obtain ⟨m, rfl, hm2⟩ := z_suc hm
    rw [pl_changeTwo_l9, nI_1]
    refine ok_pos h.is8 ?_
    rw [h.n]
    refine ok_pos (nI_lt (by omega) (by omega)) (ok_then (changeC_l25 (i := i) hB (by omega) (v.n - (i + 1)) (i + 1) 300 st M (by omega) (by omega) (by omega) h hd) (fun y3 h3 => ?_))
    obtain ⟨a1, a2, a3, a4, a5⟩ := h3
    rw [a1]
    exact ok_mono (ih (i + 1) m _ y3.2 (by omega) (by omega) a2 a3) (fun y hy => ⟨hy.1, hy.2.1, hy.2.2.1, a4.tr hy.2.2.2.1, hy.2.2.2.2.trans a5⟩)
theorem changeC_ok {M : mm_M} (h : ShC 1 M.1 v) (hB : zB v) (hT : zTX (37 + 3 * v.ru) T M.1) (hG : zGT T) (a1 : Int32) : Ok (nb_change a1 M) (fun y => y.1 = zchg T v a1 ∧ zfx zLk M.1 y.2.1) := by
  have hn := hB.n
  unfold nb_change zchg
  have l0 : a1 < (0 : Int32) ↔ a1.toInt < 0 := by rw [i_lt, zi0]
  have l1 : (1 : Int32) < a1 ↔ 1 < a1.toInt := by rw [i_lt, show (1 : Int32).toInt = 1 from rfl]
  have q0 : a1 = (0 : Int32) ↔ a1.toInt = 0 := by rw [i_eq, zi0]
  by_cases g : 0 ≤ a1.toInt ∧ a1.toInt ≤ 1
  · refine ok_neg (fun z => by have := l0.mp z; omega) (ok_neg (fun z => by have := l1.mp z; omega) ?_)
    refine ok_then (lookC_ok (Or.inl rfl) h hB hT hG) (fun y3 h3 => ?_)
    obtain ⟨p1, p2, p3, p4⟩ := h3
    unfold pl_changeTwo
    rw [allC_eq hB p1 p2]
    simp only [Option.bind_some]
    refine ok_bind (ok_then (changeC_l9 hB v.n 0 300 (zsm T v v.bl, -1) y3.2 (by omega) (by omega) p1 p2) (fun y2 h2 => ?_))
    obtain ⟨b1, b2, b3, b4, b5⟩ := h2
    have hinv := zc1_i (T := T) (v := v) (d := v.bl) v.n 0 (zsm T v v.bl, -1) (by omega) (Or.inl ⟨rfl, rfl⟩)
    have e0 : y2.1 = (zcst T v).2 := b1
    have hinv2 : zci2 T v v.bl (zcst T v) := hinv
    have ff : zfx zLk M.1 y2.2.1 := p3.tr (b4.wk (fun r c z => by have z2 : r = 61 := z; omega))
    have fin : ∀ y : Int32 × mm_M, y.1 = (zcst T v).2 → zfx zLk M.1 y.2.1 → (pl_all y.2 = some ((zcst T v).1, y.2)) → Ok (if a1 = (0 : Int32) then some (y.1, y.2) else (pl_all y.2).bind fun y6 => some (y6.1, y6.2)) (fun y => y.1 = (if a1.toInt = 0 then (zcst T v).2 else if a1.toInt = 1 then (zcst T v).1 else -100000) ∧ zfx zLk M.1 y.2.1) := by
      intro y e1 e2 e3
      by_cases c0 : a1.toInt = 0
      · rw [if_pos c0]
        exact ok_pos (q0.mpr c0) (ok_ret ⟨e1, e2⟩)
      · rw [if_neg c0, if_pos (show a1.toInt = 1 by omega), e3]
        exact ok_neg (fun z => c0 (q0.mp z)) (ok_ret ⟨rfl, e2⟩)
    rcases hinv2 with ⟨i1, i2⟩ | ⟨i, k, hik, hkn, i1, i2⟩
    · refine ok_pos (e0.trans i1) (ok_ret (fin (y2.1, y2.2) e0 ff ?_))
      rw [allC_eq hB b2 b3, i2]
    · have hm : ∀ i < 4, ∀ k < 4, nI (10 * i + k) ≠ (-1 : Int32) ∧ nI (10 * i + k) / (10 : Int32) = nI i ∧ nI (10 * i + k) - nI i * (10 : Int32) = nI k := by decide
      obtain ⟨m1, m2, m3⟩ := hm i (by omega) k (by omega)
      have e1 := e0.trans i1
      refine ok_neg (by rw [e1]; exact m1) ?_
      rw [e1, m2, m3]
      refine ok_then (swapC_ok hB b2 b3 (show i < v.n by omega) hkn) (fun y4 h4 => ok_ret (fin (nI (10 * i + k), y4.2) i1.symm ?_ ?_))
      · exact ff.tr (h4.2.2.1.wk (fun r c z => by have z2 : r = 61 := z; omega))
      · rw [allC_eq hB h4.1 h4.2.1, i2]
  · rw [if_neg (show ¬ a1.toInt = 0 by omega), if_neg (show ¬ a1.toInt = 1 by omega)]
    refine ok_ite (fun _ => ok_ret ⟨rfl, zfx.rf⟩) (fun z => ok_pos (l1.mpr ?_) (ok_ret ⟨rfl, zfx.rf⟩))
    have : ¬ a1.toInt < 0 := fun w => z (l0.mpr w)
    omega
theorem changeM_l47 {d : Nat → Nat} (hB : zB v) {i : Nat} (hi : i < v.n) (x : Int32) : ∀ j k m st (M : mm_M), k + j = v.n → j < m → i < k → zPM v T M → zDg 84 v.n d M.1 → Ok (md_change_l47 m x st.2 st.1 (nI i) (nI k) M) (fun y => y.1 = ((zc2 T v d i k j st).2, (zc2 T v d i k j st).1) ∧ zPM v T y.2 ∧ zDg 84 v.n d y.2.1 ∧ zfx (fun r _ => r = 84) M.1 y.2.1 ∧ y.2.2 = M.2) := by
  have hn := hB.n
  intro j
  induction j with
  | zero =>
    intro k m st M hk hm hik h hd
    obtain ⟨m, rfl, -⟩ := z_suc hm
    rw [md_change_l47, h.1.n]
    exact ok_neg (nI_nlt (by omega) (by omega)) (ok_ret ⟨rfl, h, hd, zfx.rf, rfl⟩)
  | succ j ih =>
    intro k m st M hk hm hik h hd
    obtain ⟨m, rfl, hm2⟩ := z_suc hm
    have hkn : k < v.n := by omega
    have gi : ak_inb (nI i) 4 = true := zI_inb (by omega) (by omega)
    have gk : ak_inb (nI k) 4 = true := zI_inb (by omega) (by omega)
    rw [md_change_l47, nI_1, z10, h.1.n]
    refine ok_pos (nI_lt hkn (by omega)) (ok_pos gi (ok_pos gk (ok_pos gi (ok_pos gk ?_))))
    rw [zI_nat (show i < 2147483648 by omega), zI_nat (show k < 2147483648 by omega)]
    have hf : zfx (fun r _ => r = 84) M.1 (ak_up (ak_up M.1 84 i (M.1 84 k)) 84 k (M.1 84 i)) := ((zfx.rf (P := fun r _ => r = 84)).up rfl).up rfl
    have h2 : zPM v T (ak_up (ak_up M.1 84 i (M.1 84 k)) 84 k (M.1 84 i), M.2) := h.w84 (M' := (_, M.2)) hf
    have hd2 := hd.sw hi hkn
    rw [holdsM_eq (M := (ak_up (ak_up M.1 84 i (M.1 84 k)) 84 k (M.1 84 i), M.2)) hB h2 hd2]
    simp only [Option.bind_some, bI_if]
    have ez : zc2 T v d i k (j + 1) st = zc2 T v d i (k + 1) j (if st.1 < zsm T v (zsw d i k) ∧ zhd T v (zsw d i k) = true then (zsm T v (zsw d i k), nI (10 * i + k)) else st) := rfl
    have hf3 : zfx (fun r _ => r = 84) M.1 (ak_up (ak_up (ak_up (ak_up M.1 84 i (M.1 84 k)) 84 k (M.1 84 i)) 84 i (M.1 84 i)) 84 k (M.1 84 k)) := (hf.up rfl).up rfl
    have hd3 : zDg 84 v.n d (ak_up (ak_up (ak_up (ak_up M.1 84 i (M.1 84 k)) 84 k (M.1 84 i)) 84 i (M.1 84 i)) 84 k (M.1 84 k)) := by
      intro q hq
      refine ⟨?_, (hd q hq).2⟩
      show (if 84 = 84 ∧ q = k then M.1 84 k else if 84 = 84 ∧ q = i then M.1 84 i else if 84 = 84 ∧ q = k then M.1 84 i else if 84 = 84 ∧ q = i then M.1 84 k else M.1 84 q) = nI (d q)
      by_cases e1 : q = k
      · rw [if_pos ⟨rfl, e1⟩, e1]; exact (hd k hkn).1
      · rw [if_neg (fun z => e1 z.2)]
        by_cases e2 : q = i
        · rw [if_pos ⟨rfl, e2⟩, e2]; exact (hd i hi).1
        · rw [if_neg (fun z => e2 z.2), if_neg (fun z => e1 z.2), if_neg (fun z => e2 z.2)]
          exact (hd q hq).1
    have back : ∀ st2 : Int32 × Int32, zc2 T v d i (k + 1) j st2 = zc2 T v d i k (j + 1) st → Ok (if ak_inb (nI i) 4 = true then if ak_inb (nI k) 4 = true then md_change_l47 m x st2.2 st2.1 (nI i) (nI (k + 1)) (ak_up (ak_up (ak_up (ak_up M.1 84 i (M.1 84 k)) 84 k (M.1 84 i)) 84 i (M.1 84 i)) 84 k (M.1 84 k), M.2) else none else none) (fun y => y.1 = ((zc2 T v d i k (j + 1) st).2, (zc2 T v d i k (j + 1) st).1) ∧ zPM v T y.2 ∧ zDg 84 v.n d y.2.1 ∧ zfx (fun r _ => r = 84) M.1 y.2.1 ∧ y.2.2 = M.2) := by
      intro st2 e2
      refine ok_pos gi (ok_pos gk (ok_mono (ih (k + 1) m st2 (_, M.2) (by omega) (by omega) (by omega) (h.w84 (M' := (_, M.2)) hf3) hd3) (fun y hy => ⟨?_, hy.2.1, hy.2.2.1, hf3.tr hy.2.2.2.1, hy.2.2.2.2⟩)))
      rw [hy.1, e2]
    by_cases e : zhd T v (zsw d i k) = true
    · rw [if_pos e, allM_eq hB h2 hd2]
      simp only [Option.bind_some]
      refine ok_ite (fun g => ?_) (fun g => back st (by rw [ez, if_neg (fun z => g z.1)]))
      rw [allM_eq hB h2 hd2]
      simp only [Option.bind_some]
      exact back (zsm T v (zsw d i k), nI (10 * i + k)) (by rw [ez, if_pos ⟨g, e⟩])
    · rw [if_neg e]
      exact back st (by rw [ez, if_neg (fun z => e z.2)])
theorem changeM_l32 {d : Nat → Nat} (hB : zB v) (x : Int32) : ∀ j i m st (M : mm_M), i + j = v.n → j < m → zPM v T M → zDg 84 v.n d M.1 → Ok (md_change_l32 m x st.2 st.1 (nI i) M) (fun y => y.1 = ((zc1 T v d i j st).2, (zc1 T v d i j st).1) ∧ zfx (fun r _ => r = 84) M.1 y.2.1) := by
  have hn := hB.n
  intro j
  induction j with
  | zero =>
    intro i m st M hk hm h hd
    obtain ⟨m, rfl, -⟩ := z_suc hm
    rw [md_change_l32, h.1.n]
    exact ok_neg (nI_nlt (by omega) (by omega)) (ok_ret ⟨rfl, zfx.rf⟩)
  | succ j ih =>
    intro i m st M hk hm h hd
    obtain ⟨m, rfl, hm2⟩ := z_suc hm
    rw [md_change_l32, nI_1, h.1.n]
    refine ok_pos (nI_lt (by omega) (by omega)) (ok_then (changeM_l47 (i := i) hB (by omega) x (v.n - (i + 1)) (i + 1) 300 st M (by omega) (by omega) (by omega) h hd) (fun y3 h3 => ?_))
    obtain ⟨a1, a2, a3, a4, a5⟩ := h3
    rw [a1]
    exact ok_mono (ih (i + 1) m (zc2 T v d i (i + 1) (v.n - (i + 1)) st) y3.2 (by omega) (by omega) a2 a3) (fun y hy => ⟨hy.1, a4.tr hy.2⟩)
theorem changeM_ok {M : mm_M} (h : ShM M.1 v) (hB : zB v) (hT : zTMx v.ru T M.1) (a1 : Int32) : Ok (md_change a1 M) (fun y => y.1 = zchg T v a1 ∧ zfx zTb M.1 y.2.1) := by
  have hn := hB.n
  unfold md_change zchg
  have q0 : a1 = (0 : Int32) ↔ a1.toInt = 0 := by rw [i_eq, zi0]
  simp only [in_eq, Option.bind_some, bI_if, Int32.toInt_toInt64, show (0 : Int64).toInt = 0 from rfl, show (1 : Int64).toInt = 1 from rfl]
  by_cases g : 0 ≤ a1.toInt ∧ a1.toInt ≤ 1
  · refine ok_pos g (lookM_ok h hB hT (fun yy p1 p2 p3 => ?_))
    generalize yy.2 = M' at p1 p2 p3 ⊢
    rw [allM_eq hB p1 p2]
    simp only [Option.bind_some]
    refine ok_then (changeM_l32 hB a1 v.n 0 300 (zsm T v v.bl, -1) M' (by omega) (by omega) p1 p2) (fun y6 h6 => ?_)
    obtain ⟨b1, b2⟩ := h6
    rw [b1]
    have ff : zfx zTb M.1 y6.2.1 := p3.tr (zTb_84 b2)
    by_cases c0 : a1.toInt = 0
    · rw [if_pos c0]
      exact ok_pos (q0.mpr c0) (ok_ret ⟨rfl, ff⟩)
    · rw [if_neg c0, if_pos (show a1.toInt = 1 by omega)]
      exact ok_neg (fun z => c0 (q0.mp z)) (ok_ret ⟨rfl, ff⟩)
  · rw [if_neg (show ¬ a1.toInt = 0 by omega), if_neg (show ¬ a1.toInt = 1 by omega)]
    exact ok_neg g (ok_ret ⟨rfl, zfx.rf⟩)
end
