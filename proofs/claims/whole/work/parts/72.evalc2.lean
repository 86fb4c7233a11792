/-! level 2: gladness, canBe, earned, told, book, year of the class -/
section
variable {b : Nat} {v : zV} {T : zT3} {p : Nat}
theorem n356 {b : Nat} (hb : b = 1 ∨ b = 17) : ∀ r c : Nat, b ≤ r → r ≤ b + 7 → ¬ z356 r c := fun r c _ _ z => by have z2 : r = 35 ∨ r = 36 := z; omega
theorem n356t {t : Nat} (ht : 37 ≤ t) : ∀ r c : Nat, t ≤ r → r ≤ t + 2 → ¬ z356 r c := fun r c _ _ z => by have z2 : r = 35 ∨ r = 36 := z; omega
theorem gladnessC_l (hb : b = 1 ∨ b = 17) (hB : zB v) (hG : zGT T) (hp : p < v.n) {a : Nat} (ha : a < 256) : ∀ j k m (M : mm_M), k + j = 8 → j < m → ShC b M.1 v → zTX (37 + 3 * v.ru) T M.1 → Ok (ru_gladness_l18 m b (nI p) (nI a) (zsI (fun w => if a.testBit w = true then zgl T v p w else 0) k) (nI k) M) (fun y => y.1 = zsI (fun w => if a.testBit w = true then zgl T v p w else 0) 8 ∧ zfx z356 M.1 y.2.1 ∧ y.2.2 = M.2) := by
  intro j
  induction j with
  | zero =>
    intro k m M hk hm h hT
    obtain ⟨m, rfl, -⟩ := z_suc hm
    obtain rfl : k = 8 := by omega
    rw [ru_gladness_l18]
    exact ok_neg (by decide) (ok_ret ⟨rfl, zfx.rf, rfl⟩)
  | succ j ih =>
    intro k m M hk hm h hT
    obtain ⟨m, rfl, hm2⟩ := z_suc hm
    rw [ru_gladness_l18, nI_1, zI_sh ha (by omega)]
    refine ok_pos (nI_lt (b := 8) (by omega) (by decide)) ?_
    rw [bI_if]
    by_cases c : a.testBit k = true
    · rw [if_pos c]
      refine ok_then (gladC_ok hb h hB hT hG hp (by omega)) (fun y3 h3 => ?_)
      obtain ⟨a1, a2, a3⟩ := h3
      have e : zsI (fun w => if a.testBit w = true then zgl T v p w else 0) k + y3.1 = zsI (fun w => if a.testBit w = true then zgl T v p w else 0) (k + 1) := by
        show _ = zsI _ k + (if a.testBit k = true then zgl T v p k else 0)
        rw [if_pos c, a1]
      rw [e]
      refine ok_mono (ih (k + 1) m y3.2 (by omega) (by omega) (h.fx a2 (n356 hb)) (hT.fx a2 (n356t (by omega)))) (fun y hy => ⟨hy.1, a2.tr hy.2.1, hy.2.2.trans a3⟩)
    · rw [if_neg c]
      have e : zsI (fun w => if a.testBit w = true then zgl T v p w else 0) k = zsI (fun w => if a.testBit w = true then zgl T v p w else 0) (k + 1) := by
        show _ = zsI _ k + (if a.testBit k = true then zgl T v p k else 0)
        rw [if_neg c, Int32.add_zero]
      have := ih (k + 1) m M (by omega) (by omega) h hT
      rw [← e] at this
      exact this
theorem gladnessC_ok (hb : b = 1 ∨ b = 17) {M : mm_M} (h : ShC b M.1 v) (hB : zB v) (hT : zTX (37 + 3 * v.ru) T M.1) (hG : zGT T) (hp : p < v.n) : Ok (ru_gladness b (nI p) M) (fun y => y.1 = zgs T v p (v.bl p) ∧ zfx z356 M.1 y.2.1 ∧ y.2.2 = M.2) := by
  have hn := hB.n
  unfold ru_gladness
  refine ok_pos (zI_inb (by omega) (by omega)) ?_
  rw [zI_nat (by omega), h.bl p hp, weeksFrom_eq h hB hp (hB.bl p hp)]
  simp only [Option.bind_some]
  exact ok_then (gladnessC_l hb hB hG hp (zwk_lt _ _) 8 0 300 M (by decide) (by decide) h hT) (fun y hy => ok_ret hy)
theorem canBeC_l (hb : b = 1 ∨ b = 17) (hB : zB v) (hG : zGT T) (hp : p < v.n) {a : Nat} (ha : a < 256) : ∀ j k m (M : mm_M), k + j = 8 → j < m → ShC b M.1 v → zTX (37 + 3 * v.ru) T M.1 → Ok (ru_canBe_l11 m b (nI p) (nI a) (nI k) M) (fun y => ∃ M' : mm_M, y = (if zaf (fun w => !(a.testBit w) || zwn T v p w) k j = true then .inr ((), M') else .inl (0, M')) ∧ zfx z356 M.1 M'.1 ∧ M'.2 = M.2) := by
  intro j
  induction j with
  | zero =>
    intro k m M hk hm h hT
    obtain ⟨m, rfl, -⟩ := z_suc hm
    obtain rfl : k = 8 := by omega
    rw [ru_canBe_l11]
    exact ok_neg (by decide) (ok_ret ⟨M, rfl, zfx.rf, rfl⟩)
  | succ j ih =>
    intro k m M hk hm h hT
    obtain ⟨m, rfl, hm2⟩ := z_suc hm
    rw [ru_canBe_l11, nI_1, zI_sh ha (by omega)]
    refine ok_pos (nI_lt (b := 8) (by omega) (by decide)) ?_
    rw [bI_if]
    show Ok _ (fun y : (Int32 × mm_M) ⊕ (Unit × mm_M) => ∃ M' : mm_M, y = (if ((!(a.testBit k) || zwn T v p k) && zaf (fun w => !(a.testBit w) || zwn T v p w) (k + 1) j) = true then Sum.inr ((), M') else Sum.inl (0, M')) ∧ zfx z356 M.1 M'.1 ∧ M'.2 = M.2)
    by_cases c : a.testBit k = true
    · rw [if_pos c]
      refine ok_then (wantsC_ok hb h hB hT hG hp (by omega)) (fun y3 h3 => ?_)
      obtain ⟨a1, a2, a3⟩ := h3
      rw [a1, bI_if]
      by_cases d : zwn T v p k = true
      · rw [if_pos d]
        refine ok_mono (ih (k + 1) m y3.2 (by omega) (by omega) (h.fx a2 (n356 hb)) (hT.fx a2 (n356t (by omega)))) (fun y hy => ?_)
        obtain ⟨M', e1, e2, e3⟩ := hy
        exact ⟨M', by rw [e1]; simp [d], a2.tr e2, e3.trans a3⟩
      · rw [if_neg d]
        exact ok_ret ⟨y3.2, by simp [c, d], a2, a3⟩
    · rw [if_neg c]
      refine ok_mono (ih (k + 1) m M (by omega) (by omega) h hT) (fun y hy => ?_)
      obtain ⟨M', e1, e2, e3⟩ := hy
      exact ⟨M', by rw [e1]; simp [c], e2, e3⟩
theorem canBeC_ok (hb : b = 1 ∨ b = 17) {M : mm_M} (h : ShC b M.1 v) (hB : zB v) (hT : zTX (37 + 3 * v.ru) T M.1) (hG : zGT T) (hp : p < v.n) {k : Nat} (hk : k ≤ 8) : Ok (ru_canBe b (nI p) (nI k - 1) M) (fun y => y.1 = bI (zcb T v p k = true) ∧ zfx z356 M.1 y.2.1 ∧ y.2.2 = M.2) := by
  unfold ru_canBe
  rw [weeksFrom_eq h hB hp hk]
  simp only [Option.bind_some]
  refine ok_then (canBeC_l hb hB hG hp (zwk_lt _ _) 8 0 300 M (by decide) (by decide) h hT) (fun y hy => ?_)
  obtain ⟨M', rfl, e2, e3⟩ := hy
  by_cases c : zcb T v p k = true
  · rw [if_pos (show zaf (fun w => !((zwk (v.le p) k).testBit w) || zwn T v p w) 0 8 = true from c)]
    exact ok_ret ⟨(bI_t c).symm, e2, e3⟩
  · rw [if_neg (show ¬ zaf (fun w => !((zwk (v.le p) k).testBit w) || zwn T v p w) 0 8 = true from c)]
    exact ok_ret ⟨(bI_f c).symm, e2, e3⟩
theorem zcp_n {x : Int32} : ∃ e ≤ 99, zcp 0 99 x = nI e := by
  unfold zcp
  simp only [i_lt, zi0, show (99 : Int32).toInt = 99 from rfl]
  split
  · exact ⟨0, by decide, rfl⟩
  · split
    · exact ⟨99, by decide, rfl⟩
    · obtain ⟨k, hk, e, e2⟩ := zI_of (x := x) (by omega)
      exact ⟨k, by omega, e⟩
theorem zer_n (T : zT3) (v : zV) (p : Nat) : ∃ e ≤ 101, zer T v p = nI e := by
  obtain ⟨e, he, h⟩ := zcp_n (x := zvl (zen v p 8) T.2.1)
  unfold zer
  rw [h]
  repeat' split
  · exact ⟨0, by decide, rfl⟩
  · exact ⟨e + 2, by omega, nI_add e 2⟩
  · have : ∀ e ≤ 99, nI e / 2 = nI (e / 2) := by decide +kernel
    exact ⟨e / 2, by omega, this e he⟩
  · exact ⟨e, by omega, rfl⟩
  · exact ⟨e, by omega, rfl⟩
  · exact ⟨0, by decide, rfl⟩
theorem kde_eq (hB : zB v) (hp : p < v.n) (M : mm_M) : ((mm_kc (29 + 1 * v.kd p)).bind fun c9 => kd_earns c9 (zcp 0 99 (zvl (zen v p 8) T.2.1)) (zgs T v p (v.bl p)) M) = some (zer T v p, M) := by
  have hk := hB.kd p hp
  rw [kdk hk]
  simp only [Option.bind_some]
  unfold zer
  have kp : ∀ x g : Int32, kP_earns x g M = some (if g < 30 then x else 0, M) := by
    intro x g
    unfold kP_earns
    split <;> rfl
  have h6 : v.kd p = 0 ∨ v.kd p = 1 ∨ v.kd p = 2 ∨ v.kd p = 3 ∨ v.kd p = 4 ∨ v.kd p = 5 := by omega
  rcases h6 with e | e | e | e | e | e
  · rw [e]
    rfl
  · rw [e]
    exact kp _ _
  · rw [e]
    rfl
  · rw [e]
    exact kp _ _
  · rw [e]
    rfl
  · rw [e]
    rfl
theorem earnedC_ok (hb : b = 1 ∨ b = 17) {M : mm_M} (h : ShC b M.1 v) (hB : zB v) (hT : zTX (37 + 3 * v.ru) T M.1) (hG : zGT T) (hp : p < v.n) : Ok (ru_earned b (nI p) M) (fun y => y.1 = zer T v p ∧ zfx z356 M.1 y.2.1 ∧ y.2.2 = M.2) := by
  have hn := hB.n
  have hru := hB.ru
  unfold ru_earned
  refine ok_then (gladnessC_ok hb h hB hT hG hp) (fun y1 h1 => ?_)
  obtain ⟨a1, a2, a3⟩ := h1
  have s1 := h.fx a2 (n356 hb)
  have t1 := hT.fx a2 (n356t (by omega))
  refine ok_then (nameOne_ok hb s1 hB hp) (fun y2 h2 => ?_)
  obtain ⟨b1, b2, b3⟩ := h2
  have b2' : zfx z356 y1.2.1 y2.2.1 := b2.wk (fun r c z => Or.inl z)
  have s2 := s1.fx b2' (n356 hb)
  have t2 := t1.fx b2' (n356t (by omega))
  rw [s2.ru, textAt_eq hru]
  simp only [Option.bind_some]
  refine ok_pos (is10_eq hru) ?_
  refine ok_then (valueC_ok (t := 37 + 3 * v.ru) (env := zen v p 8) (T := T) (a := 1) (by omega) (by decide) t2 b1 (hG.vl _ (by decide))) (fun y4 h4 => ?_)
  obtain ⟨d1, d2, d3⟩ := h4
  have d2' : zfx z356 y2.2.1 y4.2.1 := d2.wk (fun r c z => Or.inr z)
  have s4 := s2.fx d2' (n356 hb)
  refine ok_pos (zI_inb (by omega) (by omega)) ?_
  rw [zI_nat (by omega), s4.kd p hp, kindAt_eq (hB.kd p hp)]
  simp only [Option.bind_some]
  rw [d1, a1, zcp_C (by decide)]
  have := kde_eq (T := T) hB hp y4.2
  rw [show zprt T 1 = T.2.1 from rfl, this]
  exact ok_ret ⟨rfl, (a2.tr b2').tr d2', d3.trans (b3.trans a3)⟩
/-- what told says -/
def ztd (T : zT3) (v : zV) (a1 a2 : Int32) : Int32 :=
  if 0 ≤ a2.toInt ∧ a2.toInt ≤ 2 then nI (znum v a2.toInt.toNat 0)
  else if ¬ (0 ≤ a1.toInt ∧ a1.toInt < v.n) then -1000
  else if 3 ≤ a2.toInt ∧ a2.toInt ≤ 6 then nI (znum v a2.toInt.toNat a1.toInt.toNat)
  else if a2.toInt = 7 then nI (v.kd a1.toInt.toNat)
  else if a2.toInt = 8 then nI (v.bl a1.toInt.toNat) - 1
  else if a2.toInt = 9 then zgs T v a1.toInt.toNat (v.bl a1.toInt.toNat)
  else if a2.toInt = 10 then zer T v a1.toInt.toNat
  else if 20 ≤ a2.toInt ∧ a2.toInt ≤ 27 then zgl T v a1.toInt.toNat (a2.toInt.toNat - 20)
  else if 30 ≤ a2.toInt ∧ a2.toInt ≤ 37 then bI (zwn T v a1.toInt.toNat (a2.toInt.toNat - 30) = true)
  else -1000
theorem zsub_i {a : Int32} {c : Nat} (h : (c : Int) ≤ a.toInt) : a - nI c = nI (a.toInt.toNat - c) := by
  obtain ⟨k, hk, rfl, e⟩ := zI_of (x := a) (by omega)
  rw [e]
  rw [zI_sub (by omega)]
  rfl
theorem zsub_o {a : Int32} {c : Nat} (hc : c ≤ 30) (h : ¬ ((c : Int) ≤ a.toInt ∧ a.toInt ≤ c + 7)) (h2 : (6 : Int) < a.toInt) : ¬ (0 ≤ (a - nI c).toInt ∧ (a - nI c).toInt < 8) := by
  obtain ⟨k, hk, rfl, e⟩ := zI_of (x := a) (by omega)
  rw [e] at h h2
  by_cases g : c ≤ k
  · rw [zI_sub g, zI_int (by omega)]
    omega
  · have : ∀ c ≤ 30, ∀ k < c, (nI k - nI c).toInt < 0 := by decide +kernel
    have := this c hc k (by omega)
    omega
theorem toldC_ok {M : mm_M} (h : ShC 1 M.1 v) (hB : zB v) (hT : zTX (37 + 3 * v.ru) T M.1) (hG : zGT T) (a1 a2 : Int32) : Ok (nb_told a1 a2 M) (fun y => y.1 = ztd T v a1 a2 ∧ zfx z356 M.1 y.2.1 ∧ y.2.2 = M.2) := by
  have hn := hB.n
  have e6 : (6 : Int32) < a2 ↔ 6 < a2.toInt := by rw [i_lt, show (6 : Int32).toInt = 6 from rfl]
  unfold nb_told ztd
  refine ok_ite (fun c => ?_) (fun c => ?_)
  · have c6 := e6.mp c
    rw [isOneC_eq h hB]
    simp only [Option.bind_some, bI_if]
    rw [if_neg (show ¬ (0 ≤ a2.toInt ∧ a2.toInt ≤ 2) by omega)]
    by_cases o : 0 ≤ a1.toInt ∧ a1.toInt < v.n
    · rw [if_pos o, if_neg (show ¬ ¬ (0 ≤ a1.toInt ∧ a1.toInt < v.n) from fun z => z o), if_neg (show ¬ (3 ≤ a2.toInt ∧ a2.toInt ≤ 6) by omega)]
      obtain ⟨p, hp0, rfl, ep⟩ := zI_of (x := a1) o.1
      have hp : p < v.n := by omega
      have epn : (nI p).toInt.toNat = p := by omega
      rw [epn]
      have q : ∀ c : Nat, c < 100 → (a2 = nI c ↔ a2.toInt = c) := fun c hc => by rw [i_eq, zI_int (by omega)]
      have q7 := q 7 (by decide)
      have q8 := q 8 (by decide)
      have q9 := q 9 (by decide)
      have q10 := q 10 (by decide)
      by_cases c7 : a2.toInt = 7
      · rw [if_pos c7]
        refine ok_pos (q7.mpr c7) (ok_pos (zI_inb (by omega) (by omega)) (ok_ret ⟨?_, zfx.rf, rfl⟩))
        rw [zI_nat (by omega)]
        exact h.kd p hp
      rw [if_neg c7]
      refine ok_neg (fun z => c7 (q7.mp z)) ?_
      by_cases c8 : a2.toInt = 8
      · rw [if_pos c8]
        refine ok_pos (q8.mpr c8) (ok_pos (zI_inb (by omega) (by omega)) (ok_ret ⟨?_, zfx.rf, rfl⟩))
        rw [zI_nat (by omega)]
        exact h.bl p hp
      rw [if_neg c8]
      refine ok_neg (fun z => c8 (q8.mp z)) ?_
      by_cases c9 : a2.toInt = 9
      · rw [if_pos c9]
        exact ok_pos (q9.mpr c9) (ok_then (gladnessC_ok (Or.inl rfl) h hB hT hG hp) (fun y hy => ok_ret hy))
      rw [if_neg c9]
      refine ok_neg (fun z => c9 (q9.mp z)) ?_
      by_cases c10 : a2.toInt = 10
      · rw [if_pos c10]
        exact ok_pos (q10.mpr c10) (ok_then (earnedC_ok (Or.inl rfl) h hB hT hG hp) (fun y hy => ok_ret hy))
      rw [if_neg c10]
      refine ok_neg (fun z => c10 (q10.mp z)) ?_
      unfold nb_toldOfWeek
      have l20 : a2 < (20 : Int32) ↔ a2.toInt < 20 := by rw [i_lt, show (20 : Int32).toInt = 20 from rfl]
      have l30 : a2 < (30 : Int32) ↔ a2.toInt < 30 := by rw [i_lt, show (30 : Int32).toInt = 30 from rfl]
      by_cases g20 : 20 ≤ a2.toInt ∧ a2.toInt ≤ 27
      · rw [if_pos g20]
        have es : a2 - (20 : Int32) = nI (a2.toInt.toNat - 20) := zsub_i (c := 20) g20.1
        have w1 : nb_isWeek (a2 - (20 : Int32)) M = some (1, M) := by
          rw [isWeekC_eq, bI_t (show 0 ≤ (a2 - (20 : Int32)).toInt ∧ (a2 - (20 : Int32)).toInt < 8 from by rw [es, zI_int (by omega)]; omega)]
        rw [w1, es]
        simp only [Option.bind_some]
        refine ok_bind (ok_neg (fun z => by have := l20.mp z; omega) (ok_neg (by decide) (ok_then (gladC_ok (Or.inl rfl) h hB hT hG hp (by omega)) (fun y hy => ok_ret (ok_ret hy)))))
      rw [if_neg g20]
      have w20 : nb_isWeek (a2 - (20 : Int32)) M = some (0, M) := by
        rw [isWeekC_eq, bI_f (show ¬ (0 ≤ (a2 - (20 : Int32)).toInt ∧ (a2 - (20 : Int32)).toInt < 8) from zsub_o (c := 20) (by decide) g20 c6)]
      rw [w20]
      simp only [Option.bind_some]
      by_cases g30 : 30 ≤ a2.toInt ∧ a2.toInt ≤ 37
      · rw [if_pos g30]
        have es : a2 - (30 : Int32) = nI (a2.toInt.toNat - 30) := zsub_i (c := 30) g30.1
        have w1 : nb_isWeek (a2 - (30 : Int32)) M = some (1, M) := by
          rw [isWeekC_eq, bI_t (show 0 ≤ (a2 - (30 : Int32)).toInt ∧ (a2 - (30 : Int32)).toInt < 8 from by rw [es, zI_int (by omega)]; omega)]
        rw [w1, es]
        simp only [Option.bind_some]
        refine ok_bind (ok_neg (fun z => by have := l20.mp z; omega) (ok_pos True.intro (ok_neg (fun z => by have := l30.mp z; omega) (ok_neg (by decide) (ok_then (wantsC_ok (Or.inl rfl) h hB hT hG hp (by omega)) (fun y hy => ?_))))))
        obtain ⟨y1, y2, y3⟩ := hy
        rw [y1, bI_if]
        by_cases d : zwn T v p (a2.toInt.toNat - 30) = true
        · rw [if_pos d]
          exact ok_ret (ok_ret ⟨(bI_t d).symm, y2, y3⟩)
        · rw [if_neg d]
          exact ok_ret (ok_ret ⟨(bI_f d).symm, y2, y3⟩)
      rw [if_neg g30]
      have w30 : nb_isWeek (a2 - (30 : Int32)) M = some (0, M) := by
        rw [isWeekC_eq, bI_f (show ¬ (0 ≤ (a2 - (30 : Int32)).toInt ∧ (a2 - (30 : Int32)).toInt < 8) from zsub_o (c := 30) (by decide) g30 c6)]
      rw [w30]
      simp only [Option.bind_some]
      have r : Ok (some ((-1000 : Int32), M)) (fun y : Int32 × mm_M => Ok (some (y.1, y.2)) (fun y : Int32 × mm_M => y.1 = -1000 ∧ zfx z356 M.1 y.2.1 ∧ y.2.2 = M.2)) := ok_ret (ok_ret ⟨rfl, zfx.rf, rfl⟩)
      exact ok_bind (ok_ite (fun _ => ok_ite (fun _ => r) (fun _ => ok_pos True.intro r)) (fun _ => ok_pos True.intro (ok_ite (fun _ => r) (fun _ => ok_pos True.intro r))))
    · rw [if_neg o, if_pos o]
      exact ok_ret ⟨rfl, zfx.rf, rfl⟩
  · have c6 : ¬ 6 < a2.toInt := fun z => c (e6.mpr z)
    rw [has_eq h hB]
    simp only [Option.bind_some, bI_if]
    by_cases lo : 0 ≤ a2.toInt ∧ a2.toInt ≤ 2
    · rw [if_pos (Or.inl lo), if_pos lo]
      obtain ⟨w, hw0, rfl, ew⟩ := zI_of (x := a2) lo.1
      have ewn : (nI w).toInt.toNat = w := by omega
      rw [ewn, numberC_eq (w := w) (p := 0) h hB (by omega) (fun z => by omega) (fun z => by omega)]
      simp only [Option.bind_some]
      exact ok_ret ⟨rfl, zfx.rf, rfl⟩
    · rw [if_neg lo]
      by_cases o : 0 ≤ a1.toInt ∧ a1.toInt < v.n
      · rw [if_neg (show ¬ ¬ (0 ≤ a1.toInt ∧ a1.toInt < v.n) from fun z => z o)]
        by_cases mid : 3 ≤ a2.toInt ∧ a2.toInt ≤ 6
        · rw [if_pos (Or.inr ⟨mid.1, mid.2, o.1, o.2⟩), if_pos mid]
          obtain ⟨w, hw0, rfl, ew⟩ := zI_of (x := a2) (by omega)
          obtain ⟨p, hp0, rfl, ep⟩ := zI_of (x := a1) o.1
          have ewn : (nI w).toInt.toNat = w := by omega
          have epn : (nI p).toInt.toNat = p := by omega
          rw [ewn, epn, numberC_eq (w := w) (p := p) h hB (by omega) (fun z => by omega) (fun z => rfl)]
          simp only [Option.bind_some]
          exact ok_ret ⟨rfl, zfx.rf, rfl⟩
        · rw [if_neg (by omega), if_neg mid, if_neg (by omega), if_neg (by omega), if_neg (by omega), if_neg (by omega), if_neg (by omega), if_neg (by omega)]
          exact ok_ret ⟨rfl, zfx.rf, rfl⟩
      · rw [if_neg (by omega), if_pos o]
        exact ok_ret ⟨rfl, zfx.rf, rfl⟩
end
