/-! level 2: copy of the model -/
theorem zsubI {a b : Nat} (ha : a < 2147483648) (hb : b < 2147483648) : (nI a - nI b).toInt = (a : Int) - b := by
  rw [Int32.toInt_sub, zI_int ha, zI_int hb, Int.bmod_def]
  split <;> omega
theorem copy_M {M : mm_M} {z : zT} (h : StM M.1 z) (a1 a2 a3 a4 a5 : Int32) : Ok (md_copy a1 a2 a3 a4 a5 M) (fun y => y.1 = zcpa (zcpk z a1 a2 a3 a4 a5) a5 ∧ StM y.2.1 (if zcpk z a1 a2 a3 a4 a5 = 4 then zcpy z a1 a2 a3 a4 a5 else z) ∧ Fr z89 M.1 y.2.1 ∧ y.2.2 = M.2) := by
  have kk : ∀ (k : Nat) (r : Int32), k < 4 → zcpk z a1 a2 a3 a4 a5 = k → r = zcpa k a5 → Ok (some (r, M)) (fun y => y.1 = zcpa (zcpk z a1 a2 a3 a4 a5) a5 ∧ StM y.2.1 (if zcpk z a1 a2 a3 a4 a5 = 4 then zcpy z a1 a2 a3 a4 a5 else z) ∧ Fr z89 M.1 y.2.1 ∧ y.2.2 = M.2) := by
    intro k r hk e hr
    refine ok_ret ⟨by rw [e]; exact hr, ?_, Fr.rfl', rfl⟩
    rw [if_neg (by omega)]
    exact h
  unfold md_copy
  rw [isSheetM_eq]
  simp only [Option.bind_some]
  refine ok_ite (fun c => kk 0 _ (by omega) (by unfold zcpk; rw [if_pos (.inl (bI_0.mp c))]) rfl) (fun c1 => ?_)
  have q1 := b_of c1
  rw [isSheetM_eq]
  simp only [Option.bind_some]
  refine ok_ite (fun c => kk 0 _ (by omega) (by unfold zcpk; rw [if_pos (.inr (bI_0.mp c))]) rfl) (fun c2 => ?_)
  have q2 := b_of c2
  have g0 : ¬ (¬ (0 ≤ a1.toInt ∧ a1.toInt < 4) ∨ ¬ (0 ≤ a3.toInt ∧ a3.toInt < 4)) := fun w => w.elim (fun w => w q1) (fun w => w q2)
  obtain ⟨s, hs, rfl, es⟩ := zI_of (x := a1) q1.1
  obtain ⟨o, ho, rfl, eo⟩ := zI_of (x := a3) q2.1
  have esn : (nI s).toInt.toNat = s := by omega
  have eon : (nI o).toInt.toNat = o := by omega
  have hs4 : s < 4 := by omega
  have ho4 : o < 4 := by omega
  have is : ak_inb (nI s) 4 = true := zI_inb hs hs4
  have io : ak_inb (nI o) 4 = true := zI_inb ho ho4
  obtain ⟨p0, p00, p000⟩ := h s hs4
  obtain ⟨r0, r00, r000⟩ := h o ho4
  rw [if_pos is, zI_nat hs, zI_nat ho, p0, r0]
  by_cases cz : z.1 s = 0
  · rw [bI_f (fun w => w cz), if_pos rfl]
    exact kk 1 _ (by omega) (by unfold zcpk; rw [if_neg g0, esn, eon, if_pos (.inl cz)]) rfl
  rw [bI_t cz, if_neg (by decide), if_pos io]
  by_cases cy : z.1 o = 0
  · rw [bI_f (fun w => w cy), if_pos rfl]
    exact kk 1 _ (by omega) (by unfold zcpk; rw [if_neg g0, esn, eon, if_pos (.inr cy)]) rfl
  have g1 : ¬ (z.1 s = 0 ∨ z.1 o = 0) := fun w => w.elim cz cy
  obtain ⟨p1, p2, p3, p4⟩ := p000 cz
  obtain ⟨r1, r2, r3, r4⟩ := r000 cy
  have so : nI (z.1 s) - 1 = nI (z.1 o) - 1 ↔ z.1 s = z.1 o := by
    have f : ∀ a ≤ 3, ∀ b ≤ 3, nI a - 1 = nI b - 1 ↔ a = b := by decide
    exact f _ p00 _ r00
  rw [bI_t cy, if_neg (by decide), if_pos is, if_pos io, p1, r1, p2, r2]
  refine ok_ite (fun c3 => ?_) (fun c => kk 2 _ (by omega) (by unfold zcpk; rw [if_neg g0, esn, eon, if_neg g1, if_pos (fun w => c (so.mpr w))]) rfl)
  have g2 : ¬ ¬ z.1 s = z.1 o := fun w => w (so.mp c3)
  have out : ¬ (0 ≤ a2.toInt ∧ 0 ≤ a4.toInt ∧ 0 ≤ a5.toInt ∧ a2.toInt + a5.toInt ≤ z.2.1 s ∧ a4.toInt + a5.toInt ≤ z.2.1 o) → zcpk z (nI s) a2 (nI o) a4 a5 = 3 := by
    intro w
    unfold zcpk
    rw [if_neg g0, esn, eon, if_neg g1, if_neg g2, if_pos w]
  refine ok_ite (fun c => kk 3 _ (by omega) (out (by rw [i_lt, zi0] at c; omega)) rfl) (fun d1 => ?_)
  refine ok_ite (fun c => kk 3 _ (by omega) (out (by rw [i_lt, zi0] at c; omega)) rfl) (fun d2 => ?_)
  refine ok_ite (fun c => kk 3 _ (by omega) (out (by rw [i_lt, zi0] at c; omega)) rfl) (fun d3 => ?_)
  rw [i_lt, zi0] at d1 d2 d3
  obtain ⟨i, hi, rfl, ei⟩ := zI_of (x := a2) (by omega)
  obtain ⟨j, hj, rfl, ej⟩ := zI_of (x := a4) (by omega)
  obtain ⟨n, hn, rfl, en⟩ := zI_of (x := a5) (by omega)
  have ein : (nI i).toInt.toNat = i := by omega
  have ejn : (nI j).toInt.toNat = j := by omega
  have enn : (nI n).toInt.toNat = n := by omega
  refine ok_pos is ?_
  have b1 := zsubI (show z.2.1 s < 2147483648 by omega) hn
  have b2 := zsubI (show z.2.1 o < 2147483648 by omega) hn
  refine ok_ite (fun c => kk 3 _ (by omega) (out (by rw [i_lt, b1, ei] at c; omega)) rfl) (fun d4 => ?_)
  refine ok_pos io ?_
  refine ok_ite (fun c => kk 3 _ (by omega) (out (by rw [i_lt, b2, ej] at c; omega)) rfl) (fun d5 => ?_)
  rw [i_lt, b1, ei] at d4
  rw [i_lt, b2, ej] at d5
  have hk : zcpk z (nI s) (nI i) (nI o) (nI j) (nI n) = 4 := by
    unfold zcpk
    rw [if_neg g0, esn, eon, if_neg g1, if_neg g2, if_neg (by omega)]
  have fin : ∀ (b : Int32), (∃ M', md_copy_l121 300 (nI s) (nI i) (nI o) (nI j) (nI n) b (0 : Int32) M = some ((), M') ∧ (∀ q, q < n → M'.1 92 (40 * o + j + q) = M.1 92 (40 * s + i + q)) ∧ (∀ a x, ¬ (a = 92 ∧ 40 * o + j ≤ x ∧ x < 40 * o + j + n) → M'.1 a x = M.1 a x) ∧ M'.2 = M.2) → Ok ((md_copy_l121 300 (nI s) (nI i) (nI o) (nI j) (nI n) b (0 : Int32) M).bind fun y => some (nI n, y.2)) (fun y => y.1 = zcpa (zcpk z (nI s) (nI i) (nI o) (nI j) (nI n)) (nI n) ∧ StM y.2.1 (if zcpk z (nI s) (nI i) (nI o) (nI j) (nI n) = 4 then zcpy z (nI s) (nI i) (nI o) (nI j) (nI n) else z) ∧ Fr z89 M.1 y.2.1 ∧ y.2.2 = M.2) := by
    rintro b ⟨M', e1, e2, e3, e4⟩
    rw [e1]
    refine ok_ret ⟨by rw [hk]; rfl, ?_, ?_, e4⟩
    · rw [if_pos hk]
      unfold zcpy
      rw [esn, eon, ein, ejn, enn]
      exact StM_cpy h hs4 ho4 cz (by omega) (by omega) e2 e3
    · intro r hr
      have := z89_of hr
      funext x
      exact e3 r x (by omega)
  have upw : (40 * o + j ≤ 40 * s + i ∨ 40 * s + i + n ≤ 40 * o + j) → ∃ M', md_copy_l121 300 (nI s) (nI i) (nI o) (nI j) (nI n) (0 : Int32) (0 : Int32) M = some ((), M') ∧ (∀ q, q < n → M'.1 92 (40 * o + j + q) = M.1 92 (40 * s + i + q)) ∧ (∀ a x, ¬ (a = 92 ∧ 40 * o + j ≤ x ∧ x < 40 * o + j + n) → M'.1 a x = M.1 a x) ∧ M'.2 = M.2 := by
    intro hd
    obtain ⟨M', e1, e2, e3, e4⟩ := cpM_up hs4 ho4 (show i + n ≤ 40 by omega) (show j + n ≤ 40 by omega) hd n 0 300 M (by omega) (by omega)
    exact ⟨M', e1, fun q hq => e2 q (by omega) hq, fun a x hx => e3 a x (by omega), e4⟩
  have heq : nI s = nI o ↔ s = o := nI_eq (by omega) (by omega)
  refine ok_ite (fun c5 => ?_) (fun c5 => ?_)
  · have e := heq.mp c5
    refine ok_ite (fun c6 => ?_) (fun c6 => ?_)
    · rw [i_lt, ei, ej] at c6
      refine fin 1 ?_
      obtain ⟨M', e1, e2, e3, e4⟩ := cpM_dn hs4 ho4 (show i + n ≤ 40 by omega) (show j + n ≤ 40 by omega) (by omega) n 0 300 M (by omega) (by omega)
      exact ⟨M', e1, e2, e3, e4⟩
    · rw [i_lt, ei, ej] at c6
      exact fin 0 (upw (by omega))
  · have e : ¬ s = o := fun w => c5 (heq.mpr w)
    exact fin 0 (upw (by omega))
