/-! level 2: chance -/
section
variable {v : zV} {T : zT3}
def zcc (T : zT3) (v : zV) (a1 : Int32) (k : Nat) : Nat := zcnt (fun i => decide (zcnt (fun q => decide (ztrn T (zdw v (a1 + nI i)) q = 0)) v.n = 0)) k
theorem zcc_le (a1 : Int32) (k : Nat) : zcc T v a1 k ≤ k := zcnt_le _ k
theorem zcc_t {a1 : Int32} {k : Nat} (h : zcnt (fun q => decide (ztrn T (zdw v (a1 + nI k)) q = 0)) v.n = 0) : zcc T v a1 (k + 1) = zcc T v a1 k + 1 := by
  show zcnt _ k + (if decide _ = true then 1 else 0) = zcnt _ k + 1
  rw [if_pos (decide_eq_true h)]
theorem zcc_f {a1 : Int32} {k : Nat} (h : ¬ zcnt (fun q => decide (ztrn T (zdw v (a1 + nI k)) q = 0)) v.n = 0) : zcc T v a1 (k + 1) = zcc T v a1 k := by
  show zcnt _ k + (if decide _ = true then 1 else 0) = zcnt _ k
  rw [if_neg (by simpa using h), Nat.add_zero]
theorem chanceC_l (hB : zB v) (hG : zGT T) (a1 a3 : Int32) {N : Nat} (hN : N ≤ 20) : ∀ j k m (M : mm_M), k + j = N → j < m → ShC 1 M.1 v → zTX (37 + 3 * v.ru) T M.1 → Ok (nb_chance_l30 m a1 (nI N) a3 (nI (zcc T v a1 k)) (nI k) M) (fun y => y.1 = nI (zcc T v a1 N) ∧ zfx zDr M.1 y.2.1) := by
  have hn := hB.n
  have hru := hB.ru
  intro j
  induction j with
  | zero =>
    intro k m M hk hm h hT
    obtain ⟨m, rfl, -⟩ := z_suc hm
    rw [nb_chance_l30]
    refine ok_neg (nI_nlt (by omega) (by omega)) (ok_ret ⟨?_, zfx.rf⟩)
    rw [show k = N by omega]
  | succ j ih =>
    intro k m M hk hm h hT
    obtain ⟨m, rfl, hm2⟩ := z_suc hm
    rw [nb_chance_l30, nI_1 k]
    refine ok_pos (nI_lt (by omega) (by omega)) (drawsC_ok h hB hT hG (a1 + nI k) (fun y p1 p2 p3 => ?_))
    have hB2 : zB (zdw v (a1 + nI k)) := zdr_B hB _ v.n
    unfold pl_withNone
    have e := withNoneC_l (v := zdw v (a1 + nI k)) hB2 p1 p2 v.n 0 300 (by show 0 + v.n = v.n; omega) (by omega)
    rw [show pl_withNone_l4 300 (0 : Int32) (0 : Int32) y.2 = _ from e]
    simp only [Option.bind_some]
    have nD : ∀ r c : Nat, zDr r c → (17 ≤ r ∧ r ≤ 24) ∨ r = 35 ∨ r = 36 ∨ (56 ≤ r ∧ r ≤ 61) := fun r c w => w
    have hS2 : ShC 1 y.2.1 v := h.fx p3 (fun r c a b w => by have := nD r c w; omega)
    have hT2 : zTX (37 + 3 * v.ru) T y.2.1 := hT.fx p3 (fun r c a b w => by have := nD r c w; omega)
    have nx := ih (k + 1) m y.2 (by omega) (by omega) hS2 hT2
    have hle : zcnt (fun q => decide (ztrn T (zdw v (a1 + nI k)) q = 0)) v.n ≤ v.n := zcnt_le _ _
    have hle2 := zcc_le (T := T) (v := v) a1 k
    by_cases c : zcnt (fun q => decide (ztrn T (zdw v (a1 + nI k)) q = 0)) v.n = 0
    · rw [zcc_t c] at nx
      refine ok_pos (show nI (zcnt (fun q => decide (ztrn T (zdw v (a1 + nI k)) q = 0)) v.n) = 0 by rw [c]; rfl) ?_
      rw [nI_1]
      exact ok_mono nx (fun y hy => ⟨hy.1, p3.tr hy.2⟩)
    · rw [zcc_f c] at nx
      refine ok_neg (show ¬ nI (zcnt (fun q => decide (ztrn T (zdw v (a1 + nI k)) q = 0)) v.n) = 0 from fun w => c ((z_eq0 (by omega)).mp w)) ?_
      exact ok_mono nx (fun y hy => ⟨hy.1, p3.tr hy.2⟩)
def zcd : Nat → Int32 → Int32 → Int32 → Option Int32
  | 0, _, _, _ => none
  | n + 1, x2, x3, x4 => if x4 < (100 : Int32) then if x3 = (0 : Int32) then some x2 else if ¬ x3 = 0 then zcd n x3 (x2 - x2 / x3 * x3) (x4 + (1 : Int32)) else none else some x2
theorem zcd_eq (M : mm_M) : ∀ n x2 x3 x4, nb_commonDivisor_l7 n x2 x3 x4 M = (zcd n x2 x3 x4).map (fun r => (r, M)) := by
  intro n
  induction n with
  | zero => intro x2 x3 x4; rfl
  | succ n ih =>
    intro x2 x3 x4
    rw [nb_commonDivisor_l7, zcd, ih]
    repeat' split
    all_goals rfl
theorem zcd_g {a c : Nat} (h1 : 1 ≤ a) (ha : a ≤ 20) (hc : c ≤ 20) (M : mm_M) : nb_commonDivisor (nI a) (nI c) M = some (nI (Nat.gcd a c), M) := by
  have h : ∀ a ≤ 20, ∀ c ≤ 20, a = 0 ∨ zcd 300 (nI a) (nI c) 0 = some (nI (Nat.gcd a c)) := by decide +kernel
  unfold nb_commonDivisor
  rw [zcd_eq, (h a ha c hc).resolve_left (by omega)]
  rfl
def zcm : Nat → Int64 → Int64 → Option Int64
  | 0, _, _ => none
  | n + 1, x6, x8 => if (lg_cmp x8 (0 : Int64)) = (0 : Int32) then some x6 else if ¬ x8 = 0 then zcm n x8 (x6 - x6 / x8 * x8) else none
theorem zcm_eq (a b : Int32) (x : Int64) (M : mm_M) : ∀ n x6 x8, md_chance_l77 n a b x x6 x8 M = (zcm n x6 x8).map (fun r => (r, M)) := by
  intro n
  induction n with
  | zero => intro x6 x8; rfl
  | succ n ih =>
    intro x6 x8
    rw [md_chance_l77, zcm, ih]
    repeat' split
    all_goals rfl
theorem zcm_g {a c : Nat} (h1 : 1 ≤ a) (ha : a ≤ 20) (hc : c ≤ 20) : zcm 300 (nI c).toInt64 (nI a).toInt64 = some (nI (Nat.gcd a c)).toInt64 := by
  have h : ∀ a ≤ 20, ∀ c ≤ 20, a = 0 ∨ zcm 300 (nI c).toInt64 (nI a).toInt64 = some (nI (Nat.gcd a c)).toInt64 := by decide +kernel
  exact (h a ha c hc).resolve_left (by omega)
def zchn (T : zT3) (v : zV) (a1 a2 a3 : Int32) : Int64 := if (1 ≤ a2.toInt ∧ a2.toInt ≤ 20) ∧ 0 ≤ a3.toInt ∧ a3.toInt ≤ 1 then (if a3.toInt = 0 then (nI (zcc T v a1 a2.toInt.toNat) / nI (Nat.gcd a2.toInt.toNat (zcc T v a1 a2.toInt.toNat))).toInt64 else (a2 / nI (Nat.gcd a2.toInt.toNat (zcc T v a1 a2.toInt.toNat))).toInt64) else -4611686018427387904
theorem gcd_b {a c : Nat} (h1 : 1 ≤ a) (ha : a ≤ 20) : 1 ≤ Nat.gcd a c ∧ Nat.gcd a c ≤ 20 := by
  have h2 := Nat.gcd_le_left c (show 0 < a by omega)
  have h3 := Nat.gcd_pos_of_pos_left c (show 0 < a by omega)
  omega
theorem chanceC_ok {M : mm_M} (h : ShC 1 M.1 v) (hB : zB v) (hT : zTX (37 + 3 * v.ru) T M.1) (hG : zGT T) (a1 a2 a3 : Int32) : Ok (nb_chance a1 a2 a3 M) (fun y => y.1 = zchn T v a1 a2 a3 ∧ zfx zDr M.1 y.2.1) := by
  unfold nb_chance
  have l1 : a2 < (1 : Int32) ↔ a2.toInt < 1 := by rw [i_lt, show (1 : Int32).toInt = 1 from rfl]
  have l20 : (20 : Int32) < a2 ↔ 20 < a2.toInt := by rw [i_lt, show (20 : Int32).toInt = 20 from rfl]
  have l0 : a3 < (0 : Int32) ↔ a3.toInt < 0 := by rw [i_lt, zi0]
  have l11 : (1 : Int32) < a3 ↔ 1 < a3.toInt := by rw [i_lt, show (1 : Int32).toInt = 1 from rfl]
  have q0 : a3 = (0 : Int32) ↔ a3.toInt = 0 := by rw [i_eq, zi0]
  have bad : ¬ ((1 ≤ a2.toInt ∧ a2.toInt ≤ 20) ∧ 0 ≤ a3.toInt ∧ a3.toInt ≤ 1) → Ok (some ((-4611686018427387904 : Int64), M)) (fun y => y.1 = zchn T v a1 a2 a3 ∧ zfx zDr M.1 y.2.1) := by
    intro c
    unfold zchn
    rw [if_neg c]
    exact ok_ret ⟨rfl, zfx.rf⟩
  refine ok_ite (fun c => bad (fun w => by have := l1.mp c; omega)) (fun c1 => ok_ite (fun c => bad (fun w => by have := l20.mp c; omega)) (fun c2 => ok_ite (fun c => bad (fun w => by have := l0.mp c; omega)) (fun c3 => ok_ite (fun c => bad (fun w => by have := l11.mp c; omega)) (fun c4 => ?_))))
  have n1 : ¬ a2.toInt < 1 := fun w => c1 (l1.mpr w)
  have n2 : ¬ 20 < a2.toInt := fun w => c2 (l20.mpr w)
  have n3 : ¬ a3.toInt < 0 := fun w => c3 (l0.mpr w)
  have n4 : ¬ 1 < a3.toInt := fun w => c4 (l11.mpr w)
  unfold zchn
  rw [if_pos (show (1 ≤ a2.toInt ∧ a2.toInt ≤ 20) ∧ 0 ≤ a3.toInt ∧ a3.toInt ≤ 1 from ⟨⟨by omega, by omega⟩, by omega, by omega⟩)]
  obtain ⟨N, hN0, rfl, eN⟩ := zI_of (x := a2) (by omega)
  have eNn : (nI N).toInt.toNat = N := by omega
  rw [eNn]
  refine ok_then (chanceC_l hB hG a1 a3 (N := N) (by omega) N 0 300 M (by omega) (by omega) h hT) (fun y5 h5 => ?_)
  obtain ⟨b1, b2⟩ := h5
  have hle := zcc_le (T := T) (v := v) a1 N
  rw [b1, zcd_g (by omega) (by omega) (by omega)]
  simp only [Option.bind_some]
  obtain ⟨g1, g2⟩ := gcd_b (a := N) (c := zcc T v a1 N) (by omega) (by omega)
  have p0 : (0 : Int32) < nI (Nat.gcd N (zcc T v a1 N)) := nI_lt (a := 0) (by omega) (by omega)
  have p1 : ¬ nI (Nat.gcd N (zcc T v a1 N)) = 0 := fun w => by have := (z_eq0 (by omega)).mp w; omega
  by_cases c : a3.toInt = 0
  · rw [if_pos c]
    exact ok_pos (q0.mpr c) (ok_pos p0 (ok_pos p1 (ok_ret ⟨rfl, b2⟩)))
  · rw [if_neg c]
    exact ok_neg (fun w => c (q0.mp w)) (ok_pos p0 (ok_pos p1 (ok_ret ⟨rfl, b2⟩)))
theorem chanceM_l (hB : zB v) (a1 a3 : Int32) {N : Nat} (hN : N ≤ 20) : ∀ j k m (M : mm_M), k + j = N → j < m → ShM M.1 v → zTMx v.ru T M.1 → Ok (md_chance_l32 m a1 (nI N) a3 (nI (zcc T v a1 k)).toInt64 (nI k) M) (fun y => y.1 = (nI (zcc T v a1 N)).toInt64 ∧ ShM y.2.1 v ∧ zfx zDm M.1 y.2.1) := by
  have hn := hB.n
  have hru := hB.ru
  have inc : ∀ c ≤ 20, (nI c).toInt64 + (1 : Int64) = (nI (c + 1)).toInt64 ∧ (nI c).toInt64 + (0 : Int64) = (nI c).toInt64 := by decide
  intro j
  induction j with
  | zero =>
    intro k m M hk hm h hT
    obtain ⟨m, rfl, -⟩ := z_suc hm
    rw [md_chance_l32]
    refine ok_neg (nI_nlt (by omega) (by omega)) (ok_ret ⟨?_, h, zfx.rf⟩)
    rw [show k = N by omega]
  | succ j ih =>
    intro k m M hk hm h hT
    obtain ⟨m, rfl, hm2⟩ := z_suc hm
    have hle2 := zcc_le (T := T) (v := v) a1 k
    obtain ⟨i1, i2⟩ := inc (zcc T v a1 k) (by omega)
    rw [md_chance_l32, nI_1 k, i1, i2]
    refine ok_pos (nI_lt (by omega) (by omega)) (ok_then (drawsM_ok h hB hT (a1 + nI k)) (fun y h2 => ?_))
    obtain ⟨p1, p2, p3, p4⟩ := h2
    unfold md_noneMany
    have e := noneManyM_l hB p1 p3 v.n 0 300 (by omega) (by omega)
    rw [show md_noneMany_l4 300 (0 : Int32) (0 : Int32) y.2 = _ from e]
    simp only [Option.bind_some]
    have nD : ∀ r c : Nat, zDm r c → r = 79 ∨ (81 ≤ r ∧ r ≤ 85) ∨ (r = 73 ∧ 12 ≤ c ∧ c ≤ 26) := fun r c w => w
    have hT2 : zTMx v.ru T y.2.1 := hT.fx p4 (fun r c a b w => by have := nD r c w; omega)
    have nx := ih (k + 1) m y.2 (by omega) (by omega) p1 hT2
    have hle : zcnt (fun q => decide (ztrn T (zdw v (a1 + nI k)) q = 0)) v.n ≤ v.n := zcnt_le _ _
    by_cases c : zcnt (fun q => decide (ztrn T (zdw v (a1 + nI k)) q = 0)) v.n = 0
    · rw [zcc_t c] at nx
      refine ok_pos (by rw [c]; rfl) ?_
      exact ok_mono nx (fun y hy => ⟨hy.1, hy.2.1, p4.tr hy.2.2⟩)
    · rw [zcc_f c] at nx
      refine ok_neg (fun w => c ((z_eq0 (by omega)).mp w)) ?_
      exact ok_mono nx (fun y hy => ⟨hy.1, hy.2.1, p4.tr hy.2.2⟩)
theorem chanceM_ok {M : mm_M} (h : ShM M.1 v) (hB : zB v) (hT : zTMx v.ru T M.1) (a1 a2 a3 : Int32) : Ok (md_chance a1 a2 a3 M) (fun y => y.1 = zchn T v a1 a2 a3 ∧ ShM y.2.1 v ∧ zfx zDm M.1 y.2.1) := by
  unfold md_chance zchn
  have q0 : a3 = (0 : Int32) ↔ a3.toInt = 0 := by rw [i_eq, zi0]
  simp only [in_eq, Option.bind_some, bI_if, Int32.toInt_toInt64, show (0 : Int64).toInt = 0 from rfl, show (1 : Int64).toInt = 1 from rfl, show (20 : Int64).toInt = 20 from rfl]
  by_cases g : 1 ≤ a2.toInt ∧ a2.toInt ≤ 20
  · rw [if_pos g]
    by_cases o : 0 ≤ a3.toInt ∧ a3.toInt ≤ 1
    · rw [if_pos o, if_pos (show (1 ≤ a2.toInt ∧ a2.toInt ≤ 20) ∧ 0 ≤ a3.toInt ∧ a3.toInt ≤ 1 from ⟨g, o⟩)]
      obtain ⟨N, hN0, rfl, eN⟩ := zI_of (x := a2) (by omega)
      have eNn : (nI N).toInt.toNat = N := by omega
      rw [eNn]
      refine ok_then (chanceM_l hB a1 a3 (N := N) (by omega) N 0 300 M (by omega) (by omega) h hT) (fun y5 h5 => ?_)
      obtain ⟨b1, b2, b3⟩ := h5
      have hle := zcc_le (T := T) (v := v) a1 N
      rw [b1, zcm_eq, zcm_g (by omega) (by omega) (by omega)]
      simp only [Option.map_some, Option.bind_some]
      obtain ⟨g1, g2⟩ := gcd_b (a := N) (c := zcc T v a1 N) (by omega) (by omega)
      generalize zcc T v a1 N = c at hle g1 g2 ⊢
      have dv : ∀ a ≤ 20, ∀ c ≤ 20, ¬ (1 ≤ c) ∨ (¬ (nI c).toInt64 = 0 ∧ (nI a).toInt64 / (nI c).toInt64 = (nI a / nI c).toInt64) := by decide +kernel
      obtain ⟨d1, d2⟩ := (dv c (by omega) (Nat.gcd N c) g2).resolve_left (fun w => w g1)
      obtain ⟨d3, d4⟩ := (dv N (by omega) (Nat.gcd N c) g2).resolve_left (fun w => w g1)
      by_cases e : a3.toInt = 0
      · rw [if_pos e]
        exact ok_pos (q0.mpr e) (ok_pos d1 (ok_ret ⟨d2, b2, b3⟩))
      · rw [if_neg e]
        exact ok_neg (fun w => e (q0.mp w)) (ok_pos d1 (ok_ret ⟨d4, b2, b3⟩))
    · rw [if_neg o, if_neg (fun w => o w.2)]
      exact ok_ret ⟨rfl, h, zfx.rf⟩
  · rw [if_neg g, if_neg (fun w => g w.1)]
    exact ok_ret ⟨rfl, h, zfx.rf⟩
end
