/-! level 2: copy of the class -/
/-- what copy is given: 0 no such sheet, 1 one is missing, 2 another sort, 3 beside one, 4 it is done -/
def zcpk (z : zT) (a1 a2 a3 a4 a5 : Int32) : Nat := if ¬ (0 ≤ a1.toInt ∧ a1.toInt < 4) ∨ ¬ (0 ≤ a3.toInt ∧ a3.toInt < 4) then 0 else if z.1 a1.toInt.toNat = 0 ∨ z.1 a3.toInt.toNat = 0 then 1 else if ¬ z.1 a1.toInt.toNat = z.1 a3.toInt.toNat then 2 else if ¬ (0 ≤ a2.toInt ∧ 0 ≤ a4.toInt ∧ 0 ≤ a5.toInt ∧ a2.toInt + a5.toInt ≤ z.2.1 a1.toInt.toNat ∧ a4.toInt + a5.toInt ≤ z.2.1 a3.toInt.toNat) then 3 else 4
def zcpa (k : Nat) (a5 : Int32) : Int32 := if k = 0 then -2 else if k = 1 then -11 else if k = 2 then -13 else if k = 3 then -12 else a5
def zcopy (z : zT) (s i o j n : Nat) : zT := (z.1, z.2.1, fun r k => if r = o ∧ j ≤ k ∧ k < j + n then z.2.2 s (i + (k - j)) else z.2.2 r k)
def zcpy (z : zT) (a1 a2 a3 a4 a5 : Int32) : zT := zcopy z a1.toInt.toNat a2.toInt.toNat a3.toInt.toNat a4.toInt.toNat a5.toInt.toNat
theorem StC_cpy {σ : Nat → Nat → Int32} {z : zT} (h : StC σ z) {s i o j n : Nat} (hs : s < 4) (ho : o < 4) (hz : z.1 s ≠ 0) (hi : i + n ≤ z.2.1 s) : StC (ak_cpy σ (65 + 2 * s + 1) i (65 + 2 * o + 1) j n) (zcopy z s i o j n) := by
  intro r hr
  obtain ⟨a1, a2, a3⟩ := h r hr
  refine ⟨?_, a2, fun w => ⟨?_, (a3 w).2.1, fun k hk => ?_⟩⟩
  · show (if 65 + 2 * r = 65 + 2 * o + 1 ∧ j ≤ 0 ∧ 0 < j + n then σ (65 + 2 * s + 1) (i + (0 - j)) else σ (65 + 2 * r) 0) = _
    rw [if_neg (by omega)]
    exact a1
  · show (if 65 + 2 * r = 65 + 2 * o + 1 ∧ j ≤ 1 ∧ 1 < j + n then σ (65 + 2 * s + 1) (i + (1 - j)) else σ (65 + 2 * r) 1) = _
    rw [if_neg (by omega)]
    exact (a3 w).1
  · show (if 65 + 2 * r + 1 = 65 + 2 * o + 1 ∧ j ≤ k ∧ k < j + n then σ (65 + 2 * s + 1) (i + (k - j)) else σ (65 + 2 * r + 1) k) = if r = o ∧ j ≤ k ∧ k < j + n then z.2.2 s (i + (k - j)) else z.2.2 r k
    by_cases c : r = o ∧ j ≤ k ∧ k < j + n
    · rw [if_pos c, if_pos (by omega)]
      exact ((h s hs).2.2 hz).2.2 _ (by omega)
    · rw [if_neg c, if_neg (by omega)]
      exact (a3 w).2.2 k hk
theorem copy_C {M : mm_M} {z : zT} (h : StC M.1 z) (a1 a2 a3 a4 a5 : Int32) : Ok (nb_copy a1 a2 a3 a4 a5 M) (fun y => y.1 = zcpa (zcpk z a1 a2 a3 a4 a5) a5 ∧ StC y.2.1 (if zcpk z a1 a2 a3 a4 a5 = 4 then zcpy z a1 a2 a3 a4 a5 else z) ∧ Fr z65 M.1 y.2.1 ∧ y.2.2 = M.2) := by
  have kk : ∀ (k : Nat) (r : Int32), k < 4 → zcpk z a1 a2 a3 a4 a5 = k → r = zcpa k a5 → Ok (some (r, M)) (fun y => y.1 = zcpa (zcpk z a1 a2 a3 a4 a5) a5 ∧ StC y.2.1 (if zcpk z a1 a2 a3 a4 a5 = 4 then zcpy z a1 a2 a3 a4 a5 else z) ∧ Fr z65 M.1 y.2.1 ∧ y.2.2 = M.2) := by
    intro k r hk e hr
    refine ok_ret ⟨by rw [e]; exact hr, ?_, Fr.rfl', rfl⟩
    rw [if_neg (by omega)]
    exact h
  unfold nb_copy
  rw [isSheetC_eq]
  simp only [Option.bind_some]
  refine ok_ite (fun c => kk 0 _ (by omega) (by unfold zcpk; rw [if_pos (.inl (bI_0.mp c))]) rfl) (fun c1 => ?_)
  have q1 := b_of c1
  rw [isSheetC_eq]
  simp only [Option.bind_some]
  refine ok_ite (fun c => kk 0 _ (by omega) (by unfold zcpk; rw [if_pos (.inr (bI_0.mp c))]) rfl) (fun c2 => ?_)
  have q2 := b_of c2
  have g0 : ¬ (¬ (0 ≤ a1.toInt ∧ a1.toInt < 4) ∨ ¬ (0 ≤ a3.toInt ∧ a3.toInt < 4)) := fun w => w.elim (fun w => w q1) (fun w => w q2)
  obtain ⟨s, hs, rfl, es⟩ := zI_of (x := a1) q1.1
  obtain ⟨o, ho, rfl, eo⟩ := zI_of (x := a3) q2.1
  have esn : (nI s).toInt.toNat = s := by omega
  have eon : (nI o).toInt.toNat = o := by omega
  have hs4 : s < 4 := by omega
  have ho4 : o < 4 := by omega
  refine ok_pos (zI_inb hs hs4) (ok_pos (zI_inb ho ho4) ?_)
  rw [zI_nat hs, zI_nat ho, missing_eq h hs4]
  simp only [Option.bind_some]
  by_cases cz : z.1 s = 0
  · rw [bI_t cz, if_neg (by decide)]
    exact kk 1 _ (by omega) (by unfold zcpk; rw [if_neg g0, esn, eon, if_pos (.inl cz)]) rfl
  rw [bI_f cz, if_pos rfl, missing_eq h ho4]
  simp only [Option.bind_some]
  by_cases cy : z.1 o = 0
  · rw [bI_t cy, if_neg (by decide)]
    exact kk 1 _ (by omega) (by unfold zcpk; rw [if_neg g0, esn, eon, if_pos (.inr cy)]) rfl
  rw [bI_f cy, if_pos rfl]
  have g1 : ¬ (z.1 s = 0 ∨ z.1 o = 0) := fun w => w.elim cz cy
  obtain ⟨p0, p00, p000⟩ := h s hs4
  obtain ⟨p1, p2, p3⟩ := p000 cz
  obtain ⟨r0, r00, r000⟩ := h o ho4
  obtain ⟨r1, r2, r3⟩ := r000 cy
  have so : nI (z.1 s) - 1 = nI (z.1 o) - 1 ↔ z.1 s = z.1 o := by
    have f : ∀ a ≤ 3, ∀ b ≤ 3, nI a - 1 = nI b - 1 ↔ a = b := by decide
    exact f _ p00 _ r00
  rw [p0, r0]
  refine ok_ite (fun c3 => ?_) (fun c => kk 2 _ (by omega) (by unfold zcpk; rw [if_neg g0, esn, eon, if_neg g1, if_pos (fun w => c (so.mpr w))]) rfl)
  have g2 : ¬ ¬ z.1 s = z.1 o := fun w => w (so.mp c3)
  rw [reaches_eq p1 p2]
  simp only [Option.bind_some]
  refine ok_ite (fun c => kk 3 _ (by omega) ?_ rfl) (fun c4 => ?_)
  · have w := bI_0.mp c
    unfold zcpk
    rw [if_neg g0, esn, eon, if_neg g1, if_neg g2, if_pos (by omega)]
  have q4 := b_of c4
  rw [reaches_eq r1 r2]
  simp only [Option.bind_some]
  refine ok_ite (fun c => kk 3 _ (by omega) ?_ rfl) (fun c5 => ?_)
  · have w := bI_0.mp c
    unfold zcpk
    rw [if_neg g0, esn, eon, if_neg g1, if_neg g2, if_pos (by omega)]
  have q5 := b_of c5
  have hk : zcpk z (nI s) a2 (nI o) a4 a5 = 4 := by
    unfold zcpk
    rw [if_neg g0, esn, eon, if_neg g1, if_neg g2, if_neg (by omega)]
  obtain ⟨i, hi, rfl, ei⟩ := zI_of (x := a2) q4.1
  obtain ⟨j, hj, rfl, ej⟩ := zI_of (x := a4) q5.1
  obtain ⟨n, hn, rfl, en⟩ := zI_of (x := a5) q5.2.1
  have ein : (nI i).toInt.toNat = i := by omega
  have ejn : (nI j).toInt.toNat = j := by omega
  have enn : (nI n).toInt.toNat = n := by omega
  rw [zI_nat hi, zI_nat hj, zI_nat hn]
  refine ok_pos ⟨nI_pos hi, nI_pos hj, nI_pos hn, by omega, by omega⟩ (ok_ret ⟨by rw [hk]; rfl, ?_, ?_, rfl⟩)
  · rw [if_pos hk]
    unfold zcpy
    rw [esn, eon, ein, ejn, enn]
    exact StC_cpy h hs4 ho4 cz (by omega)
  · intro r hr
    have hr' : ¬ (65 ≤ r ∧ r ≤ 72) := by
      intro w
      unfold z65 at hr
      simp [w.1, w.2] at hr
    funext k
    show (if r = 65 + 2 * o + 1 ∧ j ≤ k ∧ k < j + n then _ else M.1 r k) = _
    rw [if_neg (by omega)]
