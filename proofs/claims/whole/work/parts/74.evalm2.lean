/-! level 2: gladness, canBe, earned, told of the model -/
section
variable {v : zV} {T : zT3} {p : Nat}
theorem hasOfM_l (hB : zB v) (hp : p < v.n) {a : Nat} (ha : a ≤ 8) : ∀ j k m (M : mm_M), k + j = 8 → j < m → ShM M.1 v → zTMx v.ru T M.1 → Ok (md_hasOf_l5 m (nI p) (nI a - 1) (zsI (fun w => if (zwk (v.le p) a).testBit w = true then zgl T v p w else 0) k) (nI k) M) (fun y => y.1 = zgs T v p a ∧ zfx zAs M.1 y.2.1 ∧ y.2.2.1 = M.2.1) := by
  intro j
  induction j with
  | zero =>
    intro k m M hk hm h hT
    obtain ⟨m, rfl, -⟩ := z_suc hm
    obtain rfl : k = 8 := by omega
    rw [md_hasOf_l5]
    exact ok_neg (by decide) (ok_ret ⟨rfl, zfx.rf, rfl⟩)
  | succ j ih =>
    intro k m M hk hm h hT
    obtain ⟨m, rfl, hm2⟩ := z_suc hm
    rw [md_hasOf_l5, nI_1, weeksOf_eq h hB hp ha]
    refine ok_pos (nI_lt (b := 8) (by omega) (by decide)) ?_
    simp only [Option.bind_some]
    rw [zI_sh (zwk_lt _ _) (by omega)]
    by_cases c : (zwk (v.le p) a).testBit k = true
    · rw [bI_t c]
      refine ok_pos rfl (ok_then (gladM_ok h hB hT hp (by omega)) (fun y3 h3 => ?_))
      obtain ⟨a1, a2, a3⟩ := h3
      have e : zsI (fun w => if (zwk (v.le p) a).testBit w = true then zgl T v p w else 0) k + y3.1 = zsI (fun w => if (zwk (v.le p) a).testBit w = true then zgl T v p w else 0) (k + 1) := by
        show _ = zsI _ k + (if (zwk (v.le p) a).testBit k = true then zgl T v p k else 0)
        rw [if_pos c, a1]
      rw [e]
      refine ok_mono (ih (k + 1) m y3.2 (by omega) (by omega) (h.as a2) (hT.as a2)) (fun y hy => ⟨hy.1, a2.tr hy.2.1, hy.2.2.trans a3⟩)
    · rw [bI_f c]
      refine ok_neg (by decide) ?_
      have e : zsI (fun w => if (zwk (v.le p) a).testBit w = true then zgl T v p w else 0) k + 0 = zsI (fun w => if (zwk (v.le p) a).testBit w = true then zgl T v p w else 0) (k + 1) := by
        show _ = zsI _ k + (if (zwk (v.le p) a).testBit k = true then zgl T v p k else 0)
        rw [if_neg c]
      rw [e]
      exact ih (k + 1) m M (by omega) (by omega) h hT
theorem hasOfM_ok {M : mm_M} (h : ShM M.1 v) (hB : zB v) (hT : zTMx v.ru T M.1) (hp : p < v.n) {a : Nat} (ha : a ≤ 8) : Ok (md_hasOf (nI p) (nI a - 1) M) (fun y => y.1 = zgs T v p a ∧ zfx zAs M.1 y.2.1 ∧ y.2.2.1 = M.2.1) := by
  unfold md_hasOf
  exact ok_then (hasOfM_l hB hp ha 8 0 300 M (by decide) (by decide) h hT) (fun y hy => ok_ret hy)
theorem canBeM_l (hB : zB v) (hp : p < v.n) {a : Nat} (ha : a ≤ 8) : ∀ j k m (M : mm_M), k + j = 8 → j < m → ShM M.1 v → zTMx v.ru T M.1 → Ok (md_canBe_l2 m (nI p) (nI a - 1) (nI k) M) (fun y => ∃ M' : mm_M, y = (if zaf (fun w => !((zwk (v.le p) a).testBit w) || zwn T v p w) k j = true then .inr ((), M') else .inl (0, M')) ∧ zfx zAs M.1 M'.1 ∧ M'.2.1 = M.2.1) := by
  intro j
  induction j with
  | zero =>
    intro k m M hk hm h hT
    obtain ⟨m, rfl, -⟩ := z_suc hm
    obtain rfl : k = 8 := by omega
    rw [md_canBe_l2]
    exact ok_neg (by decide) (ok_ret ⟨M, rfl, zfx.rf, rfl⟩)
  | succ j ih =>
    intro k m M hk hm h hT
    obtain ⟨m, rfl, hm2⟩ := z_suc hm
    rw [md_canBe_l2, nI_1, weeksOf_eq h hB hp ha]
    refine ok_pos (nI_lt (b := 8) (by omega) (by decide)) ?_
    simp only [Option.bind_some]
    rw [zI_sh (zwk_lt _ _) (by omega)]
    show Ok _ (fun y : (Int32 × mm_M) ⊕ (Unit × mm_M) => ∃ M' : mm_M, y = (if ((!((zwk (v.le p) a).testBit k) || zwn T v p k) && zaf (fun w => !((zwk (v.le p) a).testBit w) || zwn T v p w) (k + 1) j) = true then Sum.inr ((), M') else Sum.inl (0, M')) ∧ zfx zAs M.1 M'.1 ∧ M'.2.1 = M.2.1)
    by_cases c : (zwk (v.le p) a).testBit k = true
    · rw [bI_t c]
      refine ok_pos rfl (ok_then (wantsM_ok h hB hT hp (by omega)) (fun y3 h3 => ?_))
      obtain ⟨a1, a2, a3⟩ := h3
      rw [a1, bI_if]
      by_cases d : zwn T v p k = true
      · rw [if_pos d]
        refine ok_mono (ih (k + 1) m y3.2 (by omega) (by omega) (h.as a2) (hT.as a2)) (fun y hy => ?_)
        obtain ⟨M', e1, e2, e3⟩ := hy
        exact ⟨M', by rw [e1]; simp [d], a2.tr e2, e3.trans a3⟩
      · rw [if_neg d]
        exact ok_ret ⟨y3.2, by simp [c, d], a2, a3⟩
    · rw [bI_f c]
      refine ok_neg (by decide) (ok_mono (ih (k + 1) m M (by omega) (by omega) h hT) (fun y hy => ?_))
      obtain ⟨M', e1, e2, e3⟩ := hy
      exact ⟨M', by rw [e1]; simp [c], e2, e3⟩
theorem canBeM_ok {M : mm_M} (h : ShM M.1 v) (hB : zB v) (hT : zTMx v.ru T M.1) (hp : p < v.n) {k : Nat} (hk : k ≤ 8) : Ok (md_canBe (nI p) (nI k - 1) M) (fun y => y.1 = bI (zcb T v p k = true) ∧ zfx zAs M.1 y.2.1 ∧ y.2.2.1 = M.2.1) := by
  unfold md_canBe
  refine ok_then (canBeM_l hB hp hk 8 0 300 M (by decide) (by decide) h hT) (fun y hy => ?_)
  obtain ⟨M', rfl, e2, e3⟩ := hy
  by_cases c : zcb T v p k = true
  · rw [if_pos (show zaf (fun w => !((zwk (v.le p) k).testBit w) || zwn T v p w) 0 8 = true from c)]
    exact ok_ret ⟨(bI_t c).symm, e2, e3⟩
  · rw [if_neg (show ¬ zaf (fun w => !((zwk (v.le p) k).testBit w) || zwn T v p w) 0 8 = true from c)]
    exact ok_ret ⟨(bI_f c).symm, e2, e3⟩
theorem earnsM_ok {M : mm_M} (h : ShM M.1 v) (hB : zB v) (hT : zTMx v.ru T M.1) (hp : p < v.n) : Ok (md_earnsOf (nI p) M) (fun y => y.1 = zer T v p ∧ zfx zAs M.1 y.2.1 ∧ y.2.2.1 = M.2.1) := by
  have hn := hB.n
  have hk5 := hB.kd p hp
  unfold md_earnsOf
  have g4 : ak_inb (((5 : Int32) * nI p) + (4 : Int32)) 20 = true := by rw [z5_4]; exact zI_inb (by omega) (by omega)
  have c4 : (((5 : Int32) * nI p) + (4 : Int32)).toNatClampNeg = 5 * p + 4 := by rw [z5_4]; exact zI_nat (by omega)
  have ask := asksM_ok (a := 1) (w := 8) (by decide) (by decide) h hB hT hp
  rw [show zwi 8 = -1 from rfl, show nI 1 = (1 : Int32) from rfl] at ask
  have ez : zak T v p 8 1 = zcp 0 99 (zvl (zen v p 8) T.2.1) := rfl
  refine ok_pos (zI_inb (by omega) (by omega)) ?_
  rw [zI_nat (show p < 2147483648 by omega), h.kd p hp, c4]
  have kk : ∀ c ≤ 5, (nI (v.kd p) = nI c ↔ v.kd p = c) := fun c hc => nI_eq (by omega) (by omega)
  have k4 := kk 4 (by decide)
  have k2 := kk 2 (by decide)
  have k5 := kk 5 (by decide)
  have k0 := kk 0 (by decide)
  unfold zer
  by_cases e4 : v.kd p = 4
  · rw [if_pos e4]
    exact ok_pos (k4.mpr e4) (ok_ret ⟨rfl, zfx.rf, rfl⟩)
  rw [if_neg e4]
  refine ok_neg (fun z => e4 (k4.mp z)) (ok_then ask (fun y3 h3 => ?_))
  obtain ⟨a1, a2, a3⟩ := h3
  refine ok_pos g4 ?_
  rw [(h.as a2).bl p hp]
  refine ok_then (hasOfM_ok (h.as a2) hB (hT.as a2) hp (hB.bl p hp)) (fun y5 h5 => ?_)
  obtain ⟨b1, b2, b3⟩ := h5
  have ff := a2.tr b2
  have mm := b3.trans a3
  rw [a1, b1, ez]
  by_cases e2 : v.kd p = 2
  · rw [if_pos e2]
    exact ok_pos (k2.mpr e2) (ok_ret ⟨rfl, ff, mm⟩)
  rw [if_neg e2]
  refine ok_neg (fun z => e2 (k2.mp z)) ?_
  by_cases e5 : v.kd p = 5
  · rw [if_pos e5]
    exact ok_pos (k5.mpr e5) (ok_ret ⟨rfl, ff, mm⟩)
  rw [if_neg e5]
  refine ok_neg (fun z => e5 (k5.mp z)) ?_
  by_cases e0 : v.kd p = 0
  · rw [if_pos e0]
    exact ok_pos (k0.mpr e0) (ok_ret ⟨rfl, ff, mm⟩)
  rw [if_neg e0]
  refine ok_neg (fun z => e0 (k0.mp z)) ?_
  by_cases g : zgs T v p (v.bl p) < 30
  · rw [if_pos g, if_pos g]
    exact ok_ret ⟨rfl, ff, mm⟩
  · rw [if_neg g, if_neg g]
    exact ok_ret ⟨rfl, ff, mm⟩
theorem toldM_ok {M : mm_M} (h : ShM M.1 v) (hB : zB v) (hT : zTMx v.ru T M.1) (a1 a2 : Int32) : Ok (md_told a1 a2 M) (fun y => y.1 = ztd T v a1 a2 ∧ zfx zAs M.1 y.2.1 ∧ y.2.2.1 = M.2.1) := by
  have hn := hB.n
  by_cases lo : 0 ≤ a2.toInt ∧ a2.toInt ≤ 2
  · obtain ⟨w, hw0, rfl, ew⟩ := zI_of (x := a2) lo.1
    have ewn : (nI w).toInt.toNat = w := by omega
    rw [toldM_low h (show w ≤ 2 by omega)]
    refine ok_ret ⟨?_, zfx.rf, rfl⟩
    unfold ztd znum
    rw [if_pos lo, ewn, if_pos (by omega)]
  by_cases o : 0 ≤ a1.toInt ∧ a1.toInt < v.n
  · obtain ⟨p, hp0, rfl, ep⟩ := zI_of (x := a1) o.1
    have hp : p < v.n := by omega
    have epn : (nI p).toInt.toNat = p := by omega
    by_cases mid : 3 ≤ a2.toInt ∧ a2.toInt ≤ 6
    · obtain ⟨w, hw0, rfl, ew⟩ := zI_of (x := a2) (by omega)
      have ewn : (nI w).toInt.toNat = w := by omega
      rw [toldM_num h hB (w := w) (p := p) (by omega) (fun _ => hp)]
      refine ok_ret ⟨?_, zfx.rf, rfl⟩
      unfold ztd
      rw [if_neg lo, if_neg (show ¬ ¬ (0 ≤ (nI p).toInt ∧ (nI p).toInt < v.n) from fun z => z o), if_pos mid, ewn, epn]
    · unfold md_told ztd
      have l2 : (2 : Int32) < a2 ↔ 2 < a2.toInt := by rw [i_lt, show (2 : Int32).toInt = 2 from rfl]
      have l7 : a2 < (7 : Int32) ↔ a2.toInt < 7 := by rw [i_lt, show (7 : Int32).toInt = 7 from rfl]
      have l30 : a2 < (30 : Int32) ↔ a2.toInt < 30 := by rw [i_lt, show (30 : Int32).toInt = 30 from rfl]
      have q : ∀ c : Nat, c < 100 → (a2 = nI c ↔ a2.toInt = c) := fun c hc => by rw [i_eq, zI_int (by omega)]
      have q7 : a2 = (7 : Int32) ↔ a2.toInt = 7 := q 7 (by decide)
      have q8 : a2 = (8 : Int32) ↔ a2.toInt = 8 := q 8 (by decide)
      have q9 : a2 = (9 : Int32) ↔ a2.toInt = 9 := q 9 (by decide)
      have is1 : md_isOne (nI p) M = some (1, M) := by rw [isOneM_eq h hB, bI_t o]
      have g4 : ak_inb (((5 : Int32) * nI p) + (4 : Int32)) 20 = true := by rw [z5_4]; exact zI_inb (by omega) (by omega)
      have c4 : (((5 : Int32) * nI p) + (4 : Int32)).toNatClampNeg = 5 * p + 4 := by rw [z5_4]; exact zI_nat (by omega)
      rw [if_neg lo, if_neg (show ¬ ¬ (0 ≤ (nI p).toInt ∧ (nI p).toInt < v.n) from fun z => z o), if_neg mid]
      simp only [in_eq, Option.bind_some, bI_if, Int32.toInt_toInt64, show (20 : Int64).toInt = 20 from rfl, show (27 : Int64).toInt = 27 from rfl, show (30 : Int64).toInt = 30 from rfl, show (37 : Int64).toInt = 37 from rfl, show (0 : Int64).toInt = 0 from rfl, show (10 : Int64).toInt = 10 from rfl, is1]
      by_cases g20 : 20 ≤ a2.toInt ∧ a2.toInt ≤ 27
      · have es : a2 - (20 : Int32) = nI (a2.toInt.toNat - 20) := zsub_i (c := 20) g20.1
        rw [if_neg (show ¬ a2.toInt = 7 by omega), if_neg (show ¬ a2.toInt = 8 by omega), if_neg (show ¬ a2.toInt = 9 by omega), if_neg (show ¬ a2.toInt = 10 by omega), es]
        refine ok_pos g20 (ok_neg (by omega) (ok_pos (l2.mpr (by omega)) (ok_neg (by decide) (ok_pos (l30.mpr (by omega)) ?_))))
        rw [if_pos g20, epn]
        exact ok_then (gladM_ok h hB hT hp (by omega)) (fun y hy => ok_ret hy)
      · by_cases g30 : 30 ≤ a2.toInt ∧ a2.toInt ≤ 37
        · have es : a2 - (30 : Int32) = nI (a2.toInt.toNat - 30) := zsub_i (c := 30) g30.1
          rw [if_neg (show ¬ a2.toInt = 7 by omega), if_neg (show ¬ a2.toInt = 8 by omega), if_neg (show ¬ a2.toInt = 9 by omega), if_neg (show ¬ a2.toInt = 10 by omega), es]
          refine ok_neg g20 (ok_pos g30 (ok_neg (by omega) (ok_pos (l2.mpr (by omega)) (ok_neg (by decide) (ok_neg (fun z => by have := l30.mp z; omega) ?_)))))
          rw [if_neg g20, if_pos g30, epn]
          refine ok_then (wantsM_ok h hB hT hp (by omega)) (fun y hy => ?_)
          obtain ⟨y1, y2, y3⟩ := hy
          rw [y1, bI_if]
          by_cases d : zwn T v p (a2.toInt.toNat - 30) = true
          · rw [if_pos d]
            exact ok_ret ⟨(bI_t d).symm, y2, y3⟩
          · rw [if_neg d]
            exact ok_ret ⟨(bI_f d).symm, y2, y3⟩
        · refine ok_neg g20 (ok_neg g30 ?_)
          by_cases g0 : 0 ≤ a2.toInt ∧ a2.toInt ≤ 10
          · refine ok_pos g0 (ok_pos (l2.mpr (by omega)) (ok_neg (by decide) (ok_neg (fun z => by have := l7.mp z; omega) ?_)))
            by_cases c7 : a2.toInt = 7
            · rw [if_pos c7]
              refine ok_pos (q7.mpr c7) (ok_pos (zI_inb (by omega) (by omega)) (ok_ret ⟨?_, zfx.rf, rfl⟩))
              rw [zI_nat (by omega), epn]
              exact h.kd p hp
            rw [if_neg c7]
            refine ok_neg (fun z => c7 (q7.mp z)) ?_
            by_cases c8 : a2.toInt = 8
            · rw [if_pos c8]
              refine ok_pos (q8.mpr c8) (ok_pos g4 (ok_ret ⟨?_, zfx.rf, rfl⟩))
              rw [c4, epn]
              exact h.bl p hp
            rw [if_neg c8]
            refine ok_neg (fun z => c8 (q8.mp z)) ?_
            by_cases c9 : a2.toInt = 9
            · rw [if_pos c9, epn]
              refine ok_pos (q9.mpr c9) (ok_pos g4 ?_)
              rw [c4, h.bl p hp]
              exact ok_then (hasOfM_ok h hB hT hp (hB.bl p hp)) (fun y hy => ok_ret hy)
            rw [if_neg c9]
            refine ok_neg (fun z => c9 (q9.mp z)) ?_
            rw [if_pos (show a2.toInt = 10 by omega), epn]
            exact ok_then (earnsM_ok h hB hT hp) (fun y hy => ok_ret hy)
          · rw [if_neg (show ¬ a2.toInt = 7 by omega), if_neg (show ¬ a2.toInt = 8 by omega), if_neg (show ¬ a2.toInt = 9 by omega), if_neg (show ¬ a2.toInt = 10 by omega)]
            refine ok_neg g0 (ok_ret ⟨?_, zfx.rf, rfl⟩)
            rw [if_neg g20, if_neg g30]
  · unfold md_told ztd
    have l2 : (2 : Int32) < a2 ↔ 2 < a2.toInt := by rw [i_lt, show (2 : Int32).toInt = 2 from rfl]
    have is0 : md_isOne a1 M = some (0, M) := by rw [isOneM_eq h hB, bI_f o]
    rw [if_neg lo, if_pos o]
    simp only [in_eq, Option.bind_some, bI_if, Int32.toInt_toInt64, show (20 : Int64).toInt = 20 from rfl, show (27 : Int64).toInt = 27 from rfl, show (30 : Int64).toInt = 30 from rfl, show (37 : Int64).toInt = 37 from rfl, show (0 : Int64).toInt = 0 from rfl, show (10 : Int64).toInt = 10 from rfl, is0]
    have r : Ok (some ((-1000 : Int32), M)) (fun y : Int32 × mm_M => y.1 = -1000 ∧ zfx zAs M.1 y.2.1 ∧ y.2.2.1 = M.2.1) := ok_ret ⟨rfl, zfx.rf, rfl⟩
    by_cases g20 : 20 ≤ a2.toInt ∧ a2.toInt ≤ 27
    · exact ok_pos g20 (ok_neg (by omega) (ok_pos (l2.mpr (by omega)) (ok_pos True.intro r)))
    · by_cases g30 : 30 ≤ a2.toInt ∧ a2.toInt ≤ 37
      · exact ok_neg g20 (ok_pos g30 (ok_neg (by omega) (ok_pos (l2.mpr (by omega)) (ok_pos True.intro r))))
      · by_cases g0 : 0 ≤ a2.toInt ∧ a2.toInt ≤ 10
        · exact ok_neg g20 (ok_neg g30 (ok_pos g0 (ok_pos (l2.mpr (by omega)) (ok_pos True.intro r))))
        · exact ok_neg g20 (ok_neg g30 (ok_neg g0 r))
end
