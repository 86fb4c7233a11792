/-! level 2: count -/
def zcount (v : zV) (tc f : Nat) (a : Int32) : Int32 :=
  if a = (0 : Int32) then nI v.n else if a = (1 : Int32) then nI (zbk v) else if a = (2 : Int32) then nI (zsum (fun q => zpc (v.ap q)) v.n) / 2 else if a = (3 : Int32) then nI (zsum v.po v.n) else if a = (4 : Int32) then nI tc else if a = (5 : Int32) then nI f else if a = (6 : Int32) then nI v.ru else -2
theorem count_C {M : mm_M} {v : zV} (h : ShC 1 M.1 v) (hB : zB v) {tc f : Nat} (htc : M.1 26 0 = nI tc) (hf : M.1 0 5 = nI f) (a : Int32) : nb_count a M = some (zcount v tc f a, M) := by
  unfold nb_count zcount
  rw [booked_eq h hB, twosApart_eq h hB, pointsOfAll_eq h hB, h.n, htc, hf, show M.1 1 3 = nI v.ru from h.ru]
  repeat' split
  all_goals rfl
theorem countM_l {M : mm_M} {v : zV} (h : ShM M.1 v) (hB : zB v) (x1 : Int32) : ∀ j k n, k + j = v.n → j < n → md_count_l59 n x1 (nI (zcnt (fun q => decide (v.bl q ≠ 0)) k)) (nI (zsum (fun q => zpc (v.ap q)) k)) (nI (zsum v.po k)) (nI k) M = some ((nI (zbk v), nI (zsum (fun q => zpc (v.ap q)) v.n), nI (zsum v.po v.n)), M) := by
  have hn := hB.n
  intro j
  induction j with
  | zero =>
    intro k n hk hj
    obtain ⟨m, rfl, -⟩ := z_suc hj
    rw [md_count_l59, h.n, if_neg (nI_nlt (by omega) (by omega))]
    unfold zbk
    rw [← hk]
    rfl
  | succ j ih =>
    intro k n hk hj
    obtain ⟨m, rfl, hm⟩ := z_suc hj
    have hk1 : k < v.n := by omega
    have e := ih (k + 1) m (by omega) (by omega)
    have hbl : M.1 79 (5 * k + 4) = nI (v.bl k) - 1 := h.bl k hk1
    have hpo : M.1 79 (5 * k + 3) = nI (v.po k) := h.po k hk1
    have i1 : ak_inb (nI (5 * k + 4)) 20 = true := zI_inb (by omega) (by omega)
    have i2 : ak_inb (nI k) 4 = true := zI_inb (by omega) (by omega)
    have i3 : ak_inb (nI (5 * k + 3)) 20 = true := zI_inb (by omega) (by omega)
    rw [md_count_l59, h.n, if_pos (nI_lt hk1 (by omega)), z5_4, if_pos i1, nI_1, zI_nat (show 5 * k + 4 < 2147483648 by omega), hbl, zI_nat (show k < 2147483648 by omega), h.ap k (by omega), bitsOf_eq (hB.ap k (by omega))]
    simp only [Option.bind_some]
    simp only [z5_3, i2, i3, if_true, zI_nat (show 5 * k + 3 < 2147483648 by omega), hpo]
    rw [nI_add, nI_add]
    by_cases c : v.bl k = 0
    · rw [if_pos ((z_m1 (hB.bl k hk1)).mpr c), ← e]
      have e2 : nI (zcnt (fun q => decide (v.bl q ≠ 0)) k) + (0 : Int32) = nI (zcnt (fun q => decide (v.bl q ≠ 0)) (k + 1)) := by
        show nI _ + nI 0 = nI (zcnt _ k + _)
        rw [nI_add]
        simp [c]
      rw [e2]
      rfl
    · rw [if_neg (fun z => c ((z_m1 (hB.bl k hk1)).mp z)), ← e]
      have e2 : nI (zcnt (fun q => decide (v.bl q ≠ 0)) k) + (1 : Int32) = nI (zcnt (fun q => decide (v.bl q ≠ 0)) (k + 1)) := by
        show nI _ + nI 1 = nI (zcnt _ k + _)
        rw [nI_add]
        simp [c]
      rw [e2]
      rfl
theorem count_M {M : mm_M} {v : zV} (h : ShM M.1 v) (hB : zB v) {tc f : Nat} (htc : M.1 73 3 = nI tc) (hf : M.1 73 6 = nI f) (a : Int32) : md_count a M = some (zcount v tc f a, M) := by
  have hn := hB.n
  have e := countM_l h hB a v.n 0 300 (by omega) (by omega)
  have e' : md_count_l59 300 a (0 : Int32) (0 : Int32) (0 : Int32) (0 : Int32) M = some ((nI (zbk v), nI (zsum (fun q => zpc (v.ap q)) v.n), nI (zsum v.po v.n)), M) := e
  unfold md_count
  rw [in_eq]
  simp only [Option.bind_some, Int32.toInt_toInt64, show (0 : Int64).toInt = 0 from rfl, show (6 : Int64).toInt = 6 from rfl, htc, hf, h.ru, h.n, e']
  by_cases c : 0 ≤ a.toInt ∧ a.toInt ≤ 6
  · rw [if_neg (fun z => bI_0.mp z c)]
    obtain ⟨w, hw, rfl, ew⟩ := zI_of (x := a) c.1
    rcases w_cases (show w ≤ 6 by omega) with rfl | rfl | rfl | rfl | rfl | rfl | rfl <;> rfl
  · rw [if_pos (bI_0.mpr c)]
    unfold zcount
    have ne : ∀ k : Nat, k ≤ 6 → ¬ a = nI k := by
      intro k hk z
      rw [z, zI_int (by omega)] at c
      omega
    have g0 : ¬ a = (0 : Int32) := ne 0 (by omega)
    have g1 : ¬ a = (1 : Int32) := ne 1 (by omega)
    have g2 : ¬ a = (2 : Int32) := ne 2 (by omega)
    have g3 : ¬ a = (3 : Int32) := ne 3 (by omega)
    have g4 : ¬ a = (4 : Int32) := ne 4 (by omega)
    have g5 : ¬ a = (5 : Int32) := ne 5 (by omega)
    have g6 : ¬ a = (6 : Int32) := ne 6 (by omega)
    rw [if_neg g0, if_neg g1, if_neg g2, if_neg g3, if_neg g4, if_neg g5, if_neg g6]
