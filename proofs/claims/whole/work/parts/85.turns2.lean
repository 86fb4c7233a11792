/-! level 2: inTurn, settle -/
section
variable {v : zV} {T : zT3}
def zd0 : Nat → Nat := fun _ => 0
theorem zbt_0 : ∀ k, zbt (fun _ => false) k = 0 := by
  intro k
  induction k with
  | zero => rfl
  | succ k ih => show zbt (fun _ => false) k + _ = 0; rw [ih]; rfl
theorem zal_0 (hB : zB v) : zal v 0 = true := by
  have hn := hB.n
  have hky := hB.ky
  have h1 : ∀ n ≤ 4, zpc (zev n &&& (15 ^^^ 0)) = n := by decide
  have h2 : ∀ n ≤ 4, ∀ ky < 16, ky &&& zev n = 0 ∨ (ky &&& zev n) &&& (zev n &&& (15 ^^^ 0)) ≠ 0 := by decide
  have h3 : zaf (zok v 0) 0 v.n = true := by
    rw [zaf_iff]
    intro i _ _
    unfold zok
    simp
  unfold zal
  rw [h1 _ hn, h3]
  have h4 := h2 _ hn v.ky (by omega)
  have h5 : min v.nd v.n ≤ v.n := Nat.min_le_right _ _
  simp only [h5, decide_true, Bool.true_and, Bool.and_true, Bool.or_eq_true, decide_eq_true_eq]
  exact h4
theorem zcb_0 (T : zT3) (v : zV) (p : Nat) : zcb T v p 0 = true := by
  unfold zcb
  rw [zaf_iff, zwk_0]
  intro i _ _
  simp
theorem zhd_0 (hB : zB v) : zhd T v zd0 = true := by
  unfold zhd
  rw [Bool.and_eq_true, zaf_iff, zaf_iff]
  refine ⟨fun i _ _ => zcb_0 T v i, fun w _ _ => ?_⟩
  unfold zrt zaw
  have e : (fun q => (zwk (v.le q) (zd0 q)).testBit w) = (fun _ => false) := by
    funext q
    show (zwk (v.le q) 0).testBit w = false
    rw [zwk_0]
    exact Nat.zero_testBit w
  rw [e, zbt_0]
  exact zal_0 hB
theorem tk_some {n tk : Nat} (hn : n ≤ 4) (ht : tk < 2 ^ n) (hp : zpc tk < n) : ∃ q, 0 ≤ q ∧ q < 0 + n ∧ tk.testBit q = false := by
  have h : ∀ n ≤ 4, ∀ tk < 16, ¬ (tk < 2 ^ n ∧ zpc tk < n) ∨ ((0 < n ∧ tk.testBit 0 = false) ∨ (1 < n ∧ tk.testBit 1 = false) ∨ (2 < n ∧ tk.testBit 2 = false) ∨ (3 < n ∧ tk.testBit 3 = false)) := by decide
  have h2 : 2 ^ n ≤ 2 ^ 4 := Nat.pow_le_pow_right (by decide) hn
  rcases (h n hn tk (by omega)).resolve_left (fun z => z ⟨ht, hp⟩) with z | z | z | z
  · exact ⟨0, by omega, by omega, z.2⟩
  · exact ⟨1, by omega, by omega, z.2⟩
  · exact ⟨2, by omega, by omega, z.2⟩
  · exact ⟨3, by omega, by omega, z.2⟩
theorem tk_add {n tk p : Nat} (hn : n ≤ 4) (ht : tk < 2 ^ n) (hp : p < n) (hb : tk.testBit p = false) : zpc (tk ||| 2 ^ p) = zpc tk + 1 ∧ tk ||| 2 ^ p < 2 ^ n := by
  have h : ∀ n ≤ 4, ∀ tk < 16, ∀ p < 4, ¬ (tk < 2 ^ n ∧ p < n ∧ tk.testBit p = false) ∨ (zpc (tk ||| 2 ^ p) = zpc tk + 1 ∧ tk ||| 2 ^ p < 2 ^ n) := by decide +kernel
  have h2 : 2 ^ n ≤ 2 ^ 4 := Nat.pow_le_pow_right (by decide) hn
  exact (h n hn tk (by omega) p (by omega)).resolve_left (fun z => z ⟨ht, hp, hb⟩)
/-- turn after turn -/
def ztr (T : zT3) (v : zV) : Nat → Nat → (Nat → Nat) → (Nat → Nat)
  | 0, _, d => d
  | j + 1, tk, d => ztr T v j (tk ||| 2 ^ zntr v tk) (zdo d (zntr v tk) (zgd T v d (zntr v tk) 1 8 0))
def zti (T : zT3) (v : zV) (i tk : Nat) (d : Nat → Nat) : Prop := zpc tk = i ∧ tk < 2 ^ v.n ∧ zhd T v d = true ∧ ∀ q, q < v.n → tk.testBit q = false → d q = 0
theorem zti_p (hB : zB v) {i tk : Nat} {d : Nat → Nat} (h : zti T v i tk d) (hi : i < v.n) : zntr v tk < v.n ∧ tk.testBit (zntr v tk) = false ∧ d (zntr v tk) = 0 ∧ zti T v (i + 1) (tk ||| 2 ^ zntr v tk) (zdo d (zntr v tk) (zgd T v d (zntr v tk) 1 8 0)) ∧ zgd T v d (zntr v tk) 1 8 0 ≤ 8 := by
  have hn := hB.n
  obtain ⟨h1, h2, h3, h4⟩ := h
  have hp := znt_ok (v := v) tk v.n 0 9 (Or.inl rfl) (Or.inr (tk_some hn h2 (by omega))) (by omega)
  have hp1 : zntr v tk < v.n := by
    have := hp.1
    unfold zntr
    omega
  have hp2 : tk.testBit (zntr v tk) = false := hp.2
  have h0 := h4 _ hp1 hp2
  obtain ⟨a1, a2⟩ := tk_add hn h2 hp1 hp2
  have hg := zgd_ok (T := T) (v := v) (d := d) (p := zntr v tk) 8 1 0 (by decide) (by decide) (by rw [zdo_0 h0]; exact h3)
  refine ⟨hp1, hp2, h0, ⟨by omega, a2, hg.2, fun q hq hb => ?_⟩, hg.1⟩
  rw [Nat.testBit_or] at hb
  have hb1 : tk.testBit q = false := by
    cases e : tk.testBit q
    · rfl
    · rw [e] at hb; cases hb
  have hb2 : q ≠ zntr v tk := by
    intro e
    rw [e, Nat.testBit_two_pow_self] at hb
    simp at hb
  unfold zdo
  rw [if_neg hb2]
  exact h4 q hq hb1
theorem turnsC_l {b : Nat} (hB : zB v) : ∀ j i m tk d (M : mm_M), i + j = v.n → j < m → zti T v i tk d → zPC b v T M → zDg 61 v.n d M.1 → Ok (pl_takeTurns_l8 m (nI tk) (nI i) M) (fun y => zPC b v T y.2 ∧ zDg 61 v.n (ztr T v j tk d) y.2.1 ∧ zfx z61 M.1 y.2.1 ∧ y.2.2 = M.2) := by
  have hn := hB.n
  intro j
  induction j with
  | zero =>
    intro i m tk d M hi hm ht h hd
    obtain ⟨m, rfl, -⟩ := z_suc hm
    rw [pl_takeTurns_l8]
    refine ok_pos h.is8 ?_
    rw [h.n]
    exact ok_neg (nI_nlt (by omega) (by omega)) (ok_ret ⟨h, hd, zfx.rf, rfl⟩)
  | succ j ih =>
    intro i m tk d M hi hm ht h hd
    obtain ⟨m, rfl, hm2⟩ := z_suc hm
    obtain ⟨p1, p2, p3, p4, p5⟩ := zti_p hB ht (by omega)
    have ht16 : tk < 16 := by
      have h2 : 2 ^ v.n ≤ 2 ^ 4 := Nat.pow_le_pow_right (by decide) hn
      have := ht.2.1
      omega
    have ez : ztr T v (j + 1) tk d = ztr T v j (tk ||| 2 ^ zntr v tk) (zdo d (zntr v tk) (zgd T v d (zntr v tk) 1 8 0)) := rfl
    have hh := ht.2.2.1
    rw [pl_takeTurns_l8, nI_1, ez]
    refine ok_pos h.is8 ?_
    rw [h.n]
    refine ok_pos (nI_lt (by omega) (by omega)) ?_
    rw [nextC_eq hB h ht16]
    simp only [Option.bind_some]
    generalize zntr v tk = p at p1 p2 p3 p4 p5 ⊢
    rw [show zci p = nI p from if_neg (by omega)]
    refine ok_pos h.is8 ?_
    rw [h.1, isOneC_eq h.2.2.1 hB, bI_t ((z_ii (by omega)).mpr p1)]
    simp only [Option.bind_some]
    refine ok_neg (by decide) ?_
    rw [gladdestC_eq hB h hd hh p1 p3]
    simp only [Option.bind_some]
    refine ok_pos (zI_inb (by omega) (by omega)) ?_
    rw [zI_nat (by omega), (zorp ht16 (show p < 4 by omega)).1]
    have hf : zfx z61 M.1 (ak_up M.1 61 p (nI (zgd T v d p 1 8 0))) := zfx.rf.up rfl
    exact ok_mono (ih (i + 1) m _ _ (_, M.2) (by omega) (by omega) p4 (h.w61 (M' := (_, M.2)) hf rfl) (hd.up p5)) (fun y hy => ⟨hy.1, hy.2.1, hf.tr hy.2.2.1, hy.2.2.2⟩)
theorem takeNoneC_l : ∀ j k m (M : mm_M), k + j = 4 → j < m → (∀ q, q < k → M.1 61 q = 0) → Ok (pl_takeNone_l2 m (nI k) M) (fun y => (∀ q, q < 4 → y.2.1 61 q = 0) ∧ zfx z61 M.1 y.2.1 ∧ y.2.2 = M.2) := by
  intro j
  induction j with
  | zero =>
    intro k m M hk hm h
    obtain ⟨m, rfl, -⟩ := z_suc hm
    obtain rfl : k = 4 := by omega
    rw [pl_takeNone_l2]
    exact ok_neg (by decide) (ok_ret ⟨h, zfx.rf, rfl⟩)
  | succ j ih =>
    intro k m M hk hm h
    obtain ⟨m, rfl, hm2⟩ := z_suc hm
    rw [pl_takeNone_l2, nI_1]
    refine ok_pos (nI_lt (b := 4) (by omega) (by decide)) (ok_pos (zI_inb (by omega) (by omega)) ?_)
    rw [zI_nat (by omega)]
    have hf : zfx z61 M.1 (ak_up M.1 61 k 0) := zfx.rf.up rfl
    refine ok_mono (ih (k + 1) m (_, M.2) (by omega) (by omega) (fun q hq => ?_)) (fun y hy => ⟨hy.1, hf.tr hy.2.1, hy.2.2⟩)
    show ak_up M.1 61 k 0 61 q = 0
    by_cases e : q = k
    · rw [e, ak_up_same]
    · rw [ak_up_oth e]; exact h q (by omega)
theorem takeNoneC_ok (M : mm_M) : Ok (pl_takeNone M) (fun y => (∀ q, q < 4 → y.2.1 61 q = 0) ∧ zfx z61 M.1 y.2.1 ∧ y.2.2 = M.2) := by
  unfold pl_takeNone
  exact ok_then (takeNoneC_l 4 0 300 M (by decide) (by decide) (fun q hq => by omega)) (fun y hy => ok_ret hy)
def ztrn (T : zT3) (v : zV) : Nat → Nat := ztr T v v.n 0 zd0
theorem zti_0 (hB : zB v) : zti T v 0 0 zd0 := ⟨rfl, Nat.two_pow_pos _, zhd_0 hB, fun _ _ _ => rfl⟩
theorem turnsC_ok {b : Nat} {M : mm_M} (hB : zB v) (h : zPC b v T M) : Ok (pl_takeTurns M) (fun y => zPC b v T y.2 ∧ zDg 61 v.n (ztrn T v) y.2.1 ∧ zfx z61 M.1 y.2.1 ∧ y.2.2 = M.2) := by
  have hn := hB.n
  unfold pl_takeTurns
  refine ok_then (takeNoneC_ok M) (fun y1 h1 => ?_)
  obtain ⟨a1, a2, a3⟩ := h1
  refine ok_then (turnsC_l hB v.n 0 300 0 zd0 y1.2 (by omega) (by omega) (zti_0 hB) (h.w61 a2 (congrArg Prod.fst a3)) (fun p hp => ⟨a1 p (by omega), Nat.zero_le _⟩)) (fun y2 h2 => ok_ret ?_)
  exact ⟨h2.1, h2.2.1, a2.tr h2.2.2.1, h2.2.2.2.trans a3⟩
theorem turnsM_l (hB : zB v) : ∀ j i m tk d (M : mm_M), i + j = v.n → j < m → zti T v i tk d → zPM v T M → zDg 84 v.n d M.1 → Ok (md_turnsAll_l31 m (nI tk) (nI i) M) (fun y => zPM v T y.2 ∧ zDg 84 v.n (ztr T v j tk d) y.2.1 ∧ zfx (fun r _ => r = 84) M.1 y.2.1 ∧ y.2.2 = M.2) := by
  have hn := hB.n
  intro j
  induction j with
  | zero =>
    intro i m tk d M hi hm ht h hd
    obtain ⟨m, rfl, -⟩ := z_suc hm
    rw [md_turnsAll_l31, h.1.n]
    exact ok_neg (nI_nlt (by omega) (by omega)) (ok_ret ⟨h, hd, zfx.rf, rfl⟩)
  | succ j ih =>
    intro i m tk d M hi hm ht h hd
    obtain ⟨m, rfl, hm2⟩ := z_suc hm
    obtain ⟨p1, p2, p3, p4, p5⟩ := zti_p hB ht (by omega)
    have ht16 : tk < 16 := by
      have h2 : 2 ^ v.n ≤ 2 ^ 4 := Nat.pow_le_pow_right (by decide) hn
      have := ht.2.1
      omega
    have ez : ztr T v (j + 1) tk d = ztr T v j (tk ||| 2 ^ zntr v tk) (zdo d (zntr v tk) (zgd T v d (zntr v tk) 1 8 0)) := rfl
    have hh := ht.2.2.1
    rw [md_turnsAll_l31, nI_1, h.1.n, ez]
    refine ok_pos (nI_lt (by omega) (by omega)) ?_
    rw [nextM_eq hB h.1 ht16]
    simp only [Option.bind_some]
    generalize zntr v tk = p at p1 p2 p3 p4 p5 ⊢
    rw [show zci p = nI p from if_neg (by omega), (zorp ht16 (show p < 4 by omega)).1]
    refine ok_then (takesM_ok hB h hd hh p1 p3) (fun y3 h3 => ?_)
    obtain ⟨b1, b2, b3, b4⟩ := h3
    exact ok_mono (ih (i + 1) m _ _ y3.2 (by omega) (by omega) p4 b1 b2) (fun y hy => ⟨hy.1, hy.2.1, b3.tr hy.2.2.1, hy.2.2.2.trans b4⟩)
theorem noneM_l (hB : zB v) : ∀ j k m (M : mm_M), k + j = v.n → j < m → ShM M.1 v → (∀ q, q < k → M.1 84 q = 0) → Ok (md_turnsAll_l6 m (nI k) M) (fun y => (∀ q, q < v.n → y.2.1 84 q = 0) ∧ zfx (fun r _ => r = 84) M.1 y.2.1 ∧ y.2.2 = M.2) := by
  have hn := hB.n
  intro j
  induction j with
  | zero =>
    intro k m M hk hm hS h
    obtain ⟨m, rfl, -⟩ := z_suc hm
    rw [md_turnsAll_l6, hS.n]
    exact ok_neg (nI_nlt (by omega) (by omega)) (ok_ret ⟨fun q hq => h q (by omega), zfx.rf, rfl⟩)
  | succ j ih =>
    intro k m M hk hm hS h
    obtain ⟨m, rfl, hm2⟩ := z_suc hm
    rw [md_turnsAll_l6, nI_1, hS.n]
    refine ok_pos (nI_lt (by omega) (by omega)) (ok_pos (zI_inb (by omega) (by omega)) ?_)
    rw [zI_nat (by omega)]
    have hf : zfx (fun r _ => r = 84) M.1 (ak_up M.1 84 k 0) := zfx.rf.up rfl
    refine ok_mono (ih (k + 1) m (_, M.2) (by omega) (by omega) (hS.fx hf (by omega) (by omega) (by omega)) (fun q hq => ?_)) (fun y hy => ⟨hy.1, hf.tr hy.2.1, hy.2.2⟩)
    show ak_up M.1 84 k 0 84 q = 0
    by_cases e : q = k
    · rw [e, ak_up_same]
    · rw [ak_up_oth e]; exact h q (by omega)
theorem turnsM_ok {M : mm_M} (hB : zB v) (h : ShM M.1 v) (hT : zTMx v.ru T M.1) : Ok (md_turnsAll M) (fun y => zPM v T y.2 ∧ zDg 84 v.n (ztrn T v) y.2.1 ∧ zfx zTb M.1 y.2.1) := by
  have hn := hB.n
  unfold md_turnsAll
  refine ok_then (tablesM_ok h hB hT) (fun y1 h1 => ?_)
  obtain ⟨a1, a2, a3⟩ := h1
  refine ok_then (noneM_l hB v.n 0 300 y1.2 (by omega) (by omega) a1.1 (fun q hq => by omega)) (fun y2 h2 => ?_)
  obtain ⟨b1, b2, b3⟩ := h2
  refine ok_then (turnsM_l hB v.n 0 300 0 zd0 y2.2 (by omega) (by omega) (zti_0 hB) (a1.w84 b2) (fun p hp => ⟨b1 p hp, Nat.zero_le _⟩)) (fun y3 h3 => ok_ret ?_)
  exact ⟨h3.1, h3.2.1, ((zTb_a a2).tr (zTb_84 b2)).tr (zTb_84 h3.2.2.1)⟩
def zit (T : zT3) (v : zV) (a1 : Int32) : Int32 := if a1.toInt = 0 then nI (zdg (ztrn T v) v.n) else if a1.toInt = 1 then zsm T v (ztrn T v) else if a1.toInt = 2 then nI (zcnt (fun q => decide (ztrn T v q = 0)) v.n) else -100000
theorem withNoneC_l {b : Nat} {d : Nat → Nat} {M : mm_M} (hB : zB v) (h : zPC b v T M) (hd : zDg 61 v.n d M.1) : ∀ j k m, k + j = v.n → j < m → pl_withNone_l4 m (nI (zcnt (fun q => decide (d q = 0)) k)) (nI k) M = some (nI (zcnt (fun q => decide (d q = 0)) v.n), M) := by
  have hn := hB.n
  intro j
  induction j with
  | zero =>
    intro k m hk hm
    obtain ⟨m, rfl, -⟩ := z_suc hm
    rw [pl_withNone_l4, if_pos h.is8, h.n, if_neg (nI_nlt (by omega) (by omega)), show k = v.n by omega]
  | succ j ih =>
    intro k m hk hm
    obtain ⟨m, rfl, hm2⟩ := z_suc hm
    have hp : k < v.n := by omega
    have hd8 := (hd k hp).2
    have e := ih (k + 1) m (by omega) (by omega)
    rw [pl_withNone_l4, if_pos h.is8, h.n, if_pos (nI_lt hp (by omega)), if_pos (zI_inb (by omega) (by omega)), zI_nat (by omega), (hd k hp).1, nI_1 k]
    by_cases c : d k = 0
    · rw [if_pos (by rw [c]; rfl), ← e]
      congr 1
      show nI _ + nI 1 = nI (zcnt _ k + _)
      rw [nI_add]
      simp [c]
    · rw [if_neg (fun z => c ((z_eq0 (by omega)).mp z)), ← e]
      congr 1
      show nI _ + nI 0 = nI (zcnt _ k + _)
      rw [nI_add]
      simp [c]
theorem noneManyM_l {d : Nat → Nat} {M : mm_M} (hB : zB v) (h : ShM M.1 v) (hd : zDg 84 v.n d M.1) : ∀ j k m, k + j = v.n → j < m → md_noneMany_l4 m (nI (zcnt (fun q => decide (d q = 0)) k)) (nI k) M = some (nI (zcnt (fun q => decide (d q = 0)) v.n), M) := by
  have hn := hB.n
  intro j
  induction j with
  | zero =>
    intro k m hk hm
    obtain ⟨m, rfl, -⟩ := z_suc hm
    rw [md_noneMany_l4, h.n, if_neg (nI_nlt (by omega) (by omega)), show k = v.n by omega]
  | succ j ih =>
    intro k m hk hm
    obtain ⟨m, rfl, hm2⟩ := z_suc hm
    have hp : k < v.n := by omega
    have hd8 := (hd k hp).2
    have e := ih (k + 1) m (by omega) (by omega)
    rw [md_noneMany_l4, h.n, if_pos (nI_lt hp (by omega)), if_pos (zI_inb (by omega) (by omega)), zI_nat (by omega), (hd k hp).1, nI_1 k]
    by_cases c : d k = 0
    · rw [if_pos (by rw [c]; rfl), ← e]
      congr 1
      show nI _ + nI 1 = nI (zcnt _ k + _)
      rw [nI_add]
      simp [c]
    · rw [if_neg (fun z => c ((z_eq0 (by omega)).mp z)), ← e]
      congr 1
      show nI _ + nI 0 = nI (zcnt _ k + _)
      rw [nI_add]
      simp [c]
theorem inTurnC_ok {M : mm_M} (h : ShC 1 M.1 v) (hB : zB v) (hT : zTX (37 + 3 * v.ru) T M.1) (hG : zGT T) (a1 : Int32) : Ok (nb_inTurn a1 M) (fun y => y.1 = zit T v a1 ∧ zfx zLk M.1 y.2.1) := by
  have hn := hB.n
  unfold nb_inTurn zit
  have l0 : a1 < (0 : Int32) ↔ a1.toInt < 0 := by rw [i_lt, zi0]
  have l2 : (2 : Int32) < a1 ↔ 2 < a1.toInt := by rw [i_lt, show (2 : Int32).toInt = 2 from rfl]
  have q : ∀ c : Nat, c < 100 → (a1 = nI c ↔ a1.toInt = c) := fun c hc => by rw [i_eq, zI_int (by omega)]
  have q0 : a1 = (0 : Int32) ↔ a1.toInt = 0 := q 0 (by decide)
  have q1 : a1 = (1 : Int32) ↔ a1.toInt = 1 := q 1 (by decide)
  by_cases g : 0 ≤ a1.toInt ∧ a1.toInt ≤ 2
  · refine ok_neg (fun z => by have := l0.mp z; omega) (ok_neg (fun z => by have := l2.mp z; omega) ?_)
    refine ok_then (lookC_ok (Or.inl rfl) h hB hT hG) (fun y3 h3 => ?_)
    obtain ⟨p1, p2, p3, p4⟩ := h3
    refine ok_then (turnsC_ok hB p1) (fun y4 h4 => ?_)
    obtain ⟨b1, b2, b3, b4⟩ := h4
    have ff : zfx zLk M.1 y4.2.1 := p3.tr (b3.wk (fun r c z => by have z2 : r = 61 := z; omega))
    by_cases c0 : a1.toInt = 0
    · rw [if_pos c0, inDigitsC_eq hB b1 b2]
      exact ok_pos (q0.mpr c0) (ok_ret ⟨rfl, ff⟩)
    rw [if_neg c0]
    refine ok_neg (fun z => c0 (q0.mp z)) ?_
    by_cases c1 : a1.toInt = 1
    · rw [if_pos c1, allC_eq hB b1 b2]
      exact ok_pos (q1.mpr c1) (ok_ret ⟨rfl, ff⟩)
    rw [if_neg c1, if_pos (show a1.toInt = 2 by omega)]
    refine ok_neg (fun z => c1 (q1.mp z)) ?_
    unfold pl_withNone
    rw [show pl_withNone_l4 300 (0 : Int32) (0 : Int32) y4.2 = _ from withNoneC_l hB b1 b2 v.n 0 300 (by omega) (by omega)]
    exact ok_ret ⟨rfl, ff⟩
  · rw [if_neg (show ¬ a1.toInt = 0 by omega), if_neg (show ¬ a1.toInt = 1 by omega), if_neg (show ¬ a1.toInt = 2 by omega)]
    refine ok_ite (fun _ => ok_ret ⟨rfl, zfx.rf⟩) (fun z => ok_pos (l2.mpr ?_) (ok_ret ⟨rfl, zfx.rf⟩))
    have : ¬ a1.toInt < 0 := fun w => z (l0.mpr w)
    omega
theorem inTurnM_ok {M : mm_M} (h : ShM M.1 v) (hB : zB v) (hT : zTMx v.ru T M.1) (a1 : Int32) : Ok (md_inTurn a1 M) (fun y => y.1 = zit T v a1 ∧ zfx zTb M.1 y.2.1) := by
  have hn := hB.n
  unfold md_inTurn zit
  have q : ∀ c : Nat, c < 100 → (a1 = nI c ↔ a1.toInt = c) := fun c hc => by rw [i_eq, zI_int (by omega)]
  have q0 : a1 = (0 : Int32) ↔ a1.toInt = 0 := q 0 (by decide)
  have q1 : a1 = (1 : Int32) ↔ a1.toInt = 1 := q 1 (by decide)
  simp only [in_eq, Option.bind_some, bI_if, Int32.toInt_toInt64, show (0 : Int64).toInt = 0 from rfl, show (2 : Int64).toInt = 2 from rfl]
  by_cases g : 0 ≤ a1.toInt ∧ a1.toInt ≤ 2
  · refine ok_pos g (ok_then (turnsM_ok hB h hT) (fun y4 h4 => ?_))
    obtain ⟨b1, b2, ff⟩ := h4
    by_cases c0 : a1.toInt = 0
    · rw [if_pos c0, digitsM_eq hB b1.1 b2]
      exact ok_pos (q0.mpr c0) (ok_ret ⟨rfl, ff⟩)
    rw [if_neg c0]
    refine ok_neg (fun z => c0 (q0.mp z)) ?_
    by_cases c1 : a1.toInt = 1
    · rw [if_pos c1, allM_eq hB b1 b2]
      exact ok_pos (q1.mpr c1) (ok_ret ⟨rfl, ff⟩)
    rw [if_neg c1, if_pos (show a1.toInt = 2 by omega)]
    refine ok_neg (fun z => c1 (q1.mp z)) ?_
    unfold md_noneMany
    rw [show md_noneMany_l4 300 (0 : Int32) (0 : Int32) y4.2 = _ from noneManyM_l hB b1.1 b2 v.n 0 300 (by omega) (by omega)]
    exact ok_ret ⟨rfl, ff⟩
  · rw [if_neg (show ¬ a1.toInt = 0 by omega), if_neg (show ¬ a1.toInt = 1 by omega), if_neg (show ¬ a1.toInt = 2 by omega)]
    exact ok_neg g (ok_ret ⟨rfl, zfx.rf⟩)
/-! settle: what came out is booked -/
def zsd (v : zV) (d : Nat → Nat) (k : Nat) : zV := (v.1, fun r q => if r = 5 then (if q < k then d q else v.2 5 q) else v.2 r q)
theorem zsd_0 (d : Nat → Nat) : zsd v d 0 = v := by
  unfold zsd
  refine Prod.ext rfl ?_
  funext r q
  simp only [Nat.not_lt_zero, if_false]
  by_cases e : r = 5
  · rw [if_pos e, e]
  · rw [if_neg e]
theorem zsd_s (d : Nat → Nat) (k : Nat) : zr (zsd v d k) 5 k (d k) = zsd v d (k + 1) := by
  unfold zsd zr
  refine Prod.ext rfl ?_
  funext r q
  show (if r = 5 ∧ q = k then _ else (if r = 5 then _ else _)) = (if r = 5 then _ else _)
  by_cases e : r = 5
  · rw [if_pos e, if_pos e]
    by_cases g : q = k
    · rw [if_pos ⟨e, g⟩, if_pos (by omega), g]
    · rw [if_neg (fun z => g z.2)]
      by_cases f : q < k
      · rw [if_pos f, if_pos (by omega)]
      · rw [if_neg f, if_neg (by omega)]
  · rw [if_neg (fun z => e z.1), if_neg e, if_neg e]
theorem zsd_B (hB : zB v) {d : Nat → Nat} (hd : ∀ q, q < v.n → d q ≤ 8) (k : Nat) : zB (zsd v d k) := by
  refine ⟨hB.n, hB.yr, hB.nd, hB.ky, hB.ru, fun q hq => hB.kd q hq, fun q hq => hB.nu q hq, fun q hq => hB.le q hq, fun q hq => hB.wi q hq, fun q hq => hB.po q hq, fun q hq => ?_, fun q hq => hB.ap q hq, fun q hq => hB.az q hq, fun q r hq hr => hB.as q r hq hr, fun q hq => hB.ai q hq⟩
  show (if q < k then d q else v.bl q) ≤ 8
  split
  · exact hd q hq
  · exact hB.bl q hq
theorem ztr_8 (hB : zB v) : ∀ j i tk d, i + j = v.n → zti T v i tk d → (∀ q, q < v.n → d q ≤ 8) → ∀ q, q < v.n → ztr T v j tk d q ≤ 8 := by
  intro j
  induction j with
  | zero => intro i tk d _ _ h q hq; exact h q hq
  | succ j ih =>
    intro i tk d hi ht h q hq
    obtain ⟨p1, p2, p3, p4, p5⟩ := zti_p hB ht (by omega)
    refine ih (i + 1) _ _ (by omega) p4 (fun r hr => ?_) q hq
    unfold zdo
    split
    · exact p5
    · exact h r hr
theorem ztrn_8 (hB : zB v) : ∀ q, q < v.n → ztrn T v q ≤ 8 := ztr_8 hB v.n 0 0 zd0 (by omega) (zti_0 hB) (fun _ _ => Nat.zero_le _)
theorem zgl_cg {v' : zV} {p w : Nat} (hn : v'.n = v.n) (hkd : v'.kd p = v.kd p) (hnu : v'.nu p = v.nu p) (hle : v'.le p = v.le p) (hwi : v'.wi = v.wi) (hpo : v'.po p = v.po p) : zgl T v' p w = zgl T v p w := by
  have hen : ∀ w, zen v' p w = zen v p w := by
    intro w
    funext i
    unfold zen zow
    rw [hn, hnu, hle, hwi, hpo]
  unfold zgl zbs zjy
  simp only [hen, hkd, hnu, hwi]
theorem zgs_sd {d : Nat → Nat} {k p x : Nat} : zgs T (zsd v d k) p x = zgs T v p x := by
  unfold zgs
  have e : ∀ w, zgl T (zsd v d k) p w = zgl T v p w := fun w => zgl_cg rfl rfl rfl rfl rfl rfl
  simp only [e]
  rfl
theorem zcb_sd {d : Nat → Nat} {k p x : Nat} : zcb T (zsd v d k) p x = zcb T v p x := by
  have hen : ∀ w, zen (zsd v d k) p w = zen v p w := fun w => rfl
  have e : ∀ w, zwn T (zsd v d k) p w = zwn T v p w := by
    intro w
    unfold zwn zmy
    rw [hen]
    rfl
  unfold zcb
  simp only [e]
  rfl
def zsettle (T : zT3) (v : zV) : Int32 × zV := (zsm T v (ztrn T v), zsd v (ztrn T v) v.n)
theorem zsettle_B (hB : zB v) : zB (zsettle T v).2 := zsd_B hB (ztrn_8 hB) v.n
theorem settleC_l {d : Nat → Nat} (hB : zB v) (h8 : ∀ q, q < v.n → d q ≤ 8) : ∀ j k m (M : mm_M), k + j = v.n → j < m → M.2.1 = 1 → ShC 1 M.1 (zsd v d k) → zDg 61 v.n d M.1 → Ok (nb_settle_l20 m (nI k) M) (fun y => ShC 1 y.2.1 (zsd v d v.n) ∧ zfx (fun r _ => r = 7) M.1 y.2.1 ∧ y.2.2 = M.2) := by
  have hn := hB.n
  intro j
  induction j with
  | zero =>
    intro k m M hk hm h1 hS hd
    obtain ⟨m, rfl, -⟩ := z_suc hm
    rw [nb_settle_l20, hS.n]
    refine ok_neg (nI_nlt (by show v.n ≤ k; omega) (by omega)) (ok_ret ⟨?_, zfx.rf, rfl⟩)
    have e : k = v.n := by omega
    rw [e] at hS
    exact hS
  | succ j ih =>
    intro k m M hk hm h1 hS hd
    obtain ⟨m, rfl, hm2⟩ := z_suc hm
    have hp : k < v.n := by omega
    rw [nb_settle_l20, nI_1, hS.n]
    refine ok_pos (nI_lt (show k < v.n from hp) (by show v.n < 2 ^ 31; omega)) ?_
    unfold pl_blockOf
    rw [h1]
    refine ok_bind (ok_pos (by decide) ?_)
    rw [isOneC_eq hS (zsd_B hB h8 k), bI_t (show 0 ≤ (nI k).toInt ∧ (nI k).toInt < ((zsd v d k).n : Int) from (z_ii (by omega)).mpr hp)]
    simp only [Option.bind_some]
    refine ok_neg (by decide) (ok_pos (zI_inb (by omega) (by omega)) (ok_ret (ok_pos (zI_inb (by omega) (by omega)) ?_)))
    rw [zI_nat (by omega), (hd k hp).1]
    have hf : zfx (fun r _ => r = 7) M.1 (ak_up M.1 7 k (nI (d k) - 1)) := zfx.rf.up rfl
    have hS2 : ShC 1 (ak_up M.1 7 k (nI (d k) - 1)) (zsd v d (k + 1)) := by
      have := ShC_r5 (p := k) (x := d k) hS
      rw [zsd_s] at this
      exact this
    exact ok_mono (ih (k + 1) m (_, M.2) (by omega) (by omega) h1 hS2 (hd.fx hf (by omega))) (fun y hy => ⟨hy.1, hf.tr hy.2.1, hy.2.2⟩)
abbrev zSe : Nat → Nat → Prop := fun r _ => r = 7 ∨ r = 35 ∨ r = 36 ∨ (56 ≤ r ∧ r ≤ 61)
theorem settleC_ok {M : mm_M} (h : ShC 1 M.1 v) (hB : zB v) (hT : zTX (37 + 3 * v.ru) T M.1) (hG : zGT T) : Ok (nb_settle M) (fun y => y.1 = (zsettle T v).1 ∧ ShC 1 y.2.1 (zsettle T v).2 ∧ zfx zSe M.1 y.2.1) := by
  have hn := hB.n
  have h8 := ztrn_8 (T := T) hB
  unfold nb_settle zsettle
  refine ok_then (lookC_ok (Or.inl rfl) h hB hT hG) (fun y1 h1 => ?_)
  obtain ⟨p1, p2, p3, p4⟩ := h1
  refine ok_then (turnsC_ok hB p1) (fun y2 h2 => ?_)
  obtain ⟨b1, b2, b3, b4⟩ := h2
  refine ok_then (settleC_l hB h8 v.n 0 300 y2.2 (by omega) (by omega) b1.1 (by rw [zsd_0]; exact b1.2.2.1) b2) (fun y3 h3 => ?_)
  obtain ⟨d1, d2, d3⟩ := h3
  have hB2 := zsd_B hB h8 v.n
  have hP : zPC 1 (zsd v (ztrn T v) v.n) T y3.2 := by
    refine ⟨(congrArg Prod.fst d3).trans b1.1, Or.inl rfl, d1, fun aw ha => ?_, fun p k hp hk => ?_⟩
    · rw [d2 59 aw (by omega)]
      exact b1.2.2.2.1 aw ha
    · obtain ⟨r1, r2, r3⟩ := b1.2.2.2.2 p k hp hk
      rw [d2 56 _ (by omega), d2 57 _ (by omega), d2 58 _ (by omega), zgs_sd, zcb_sd]
      exact ⟨r1, r2, r3⟩
  rw [allC_eq hB2 hP (b2.fx d2 (by omega))]
  simp only [Option.bind_some]
  refine ok_ret ⟨?_, d1, ?_⟩
  · unfold zsm
    have e : (fun p => zgs T (zsd v (ztrn T v) v.n) p (ztrn T v p)) = (fun p => zgs T v p (ztrn T v p)) := by
      funext p
      exact zgs_sd
    rw [e]
    rfl
  · exact ((p3.wk (fun r c z => Or.inr z)).tr (b3.wk (fun r c z => by have z2 : r = 61 := z; omega))).tr (d2.wk (fun r c z => Or.inl z))
theorem settleM_l {d : Nat → Nat} (hB : zB v) (h8 : ∀ q, q < v.n → d q ≤ 8) (x : Int32) : ∀ j k m (M : mm_M), k + j = v.n → j < m → ShM M.1 (zsd v d k) → zDg 84 v.n d M.1 → Ok (md_settle_l11 m x (nI k) M) (fun y => ShM y.2.1 (zsd v d v.n) ∧ zfx (fun r _ => r = 79) M.1 y.2.1) := by
  have hn := hB.n
  intro j
  induction j with
  | zero =>
    intro k m M hk hm hS hd
    obtain ⟨m, rfl, -⟩ := z_suc hm
    rw [md_settle_l11, hS.n]
    refine ok_neg (nI_nlt (by show v.n ≤ k; omega) (by omega)) (ok_ret ⟨?_, zfx.rf⟩)
    have e : k = v.n := by omega
    rw [e] at hS
    exact hS
  | succ j ih =>
    intro k m M hk hm hS hd
    obtain ⟨m, rfl, hm2⟩ := z_suc hm
    have hp : k < v.n := by omega
    rw [md_settle_l11, nI_1, hS.n, z5_4]
    refine ok_pos (nI_lt (show k < v.n from hp) (by show v.n < 2 ^ 31; omega)) (ok_pos (zI_inb (by omega) (by omega)) (ok_pos (zI_inb (by omega) (by omega)) ?_))
    rw [zI_nat (by omega), zI_nat (by omega), (hd k hp).1]
    have hf : zfx (fun r _ => r = 79) M.1 (ak_up M.1 79 (5 * k + 4) (nI (d k) - 1)) := zfx.rf.up rfl
    have hS2 : ShM (ak_up M.1 79 (5 * k + 4) (nI (d k) - 1)) (zsd v d (k + 1)) := by
      have := ShM_r5 (p := k) (x := d k) hS
      rw [zsd_s] at this
      exact this
    exact ok_mono (ih (k + 1) m (_, M.2) (by omega) (by omega) hS2 (hd.fx hf (by omega))) (fun y hy => ⟨hy.1, hf.tr hy.2⟩)
abbrev zSm : Nat → Nat → Prop := fun r c => r = 79 ∨ (81 ≤ r ∧ r ≤ 84) ∨ (r = 73 ∧ 12 ≤ c ∧ c ≤ 26)
theorem settleM_ok {M : mm_M} (h : ShM M.1 v) (hB : zB v) (hT : zTMx v.ru T M.1) : Ok (md_settle M) (fun y => y.1 = (zsettle T v).1 ∧ ShM y.2.1 (zsettle T v).2 ∧ zfx zSm M.1 y.2.1) := by
  have hn := hB.n
  have h8 := ztrn_8 (T := T) hB
  unfold md_settle zsettle
  refine ok_then (turnsM_ok hB h hT) (fun y1 h1 => ?_)
  obtain ⟨b1, b2, b3⟩ := h1
  rw [allM_eq hB b1 b2]
  simp only [Option.bind_some]
  refine ok_then (settleM_l hB h8 _ v.n 0 300 y1.2 (by omega) (by omega) (by rw [zsd_0]; exact b1.1) b2) (fun y3 h3 => ok_ret ?_)
  exact ⟨rfl, h3.1, (b3.wk (fun r c z => Or.inr z)).tr (h3.2.wk (fun r c z => Or.inl z))⟩
end
