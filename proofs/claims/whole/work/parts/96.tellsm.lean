/-! level 2: tells, the model -/
section
variable {v : zV} {Ts : Nat → zT3}
abbrev zTm : Nat → Nat → Prop := fun r c => (77 ≤ r ∧ r ≤ 79) ∨ (r = 73 ∧ (c = 4 ∨ (12 ≤ c ∧ c ≤ 26)))
theorem zTm_n {r c : Nat} (h : zTm r c) : (77 ≤ r ∧ r ≤ 79) ∨ (r = 73 ∧ (c = 4 ∨ (12 ≤ c ∧ c ≤ 26))) := h
theorem zAs_n {r c : Nat} (h : zAs r c) : r = 73 ∧ 12 ≤ c ∧ c ≤ 26 := h
theorem foM_l {s p : Nat} {T : zT3} {it : Nat → Int32} (hs : s < 4) (hB : zB v) (hp : p < v.n) : ∀ j k m (M : mm_M), k + j = 8 → j < m → ShM M.1 v → zTMx v.ru T M.1 → (∀ w, w < 8 → M.1 92 (40 * s + w) = it w) → Ok (md_firstOther_l2 m (nI s) (nI p) (nI k) M) (fun y => ∃ M' : mm_M, y = (if zaf (fun w => decide (zgl T v p w = it w)) k j = true then .inr ((), M') else .inl (zfi (fun w => decide (zgl T v p w = it w)) k j, M')) ∧ zfx zAs M.1 M'.1 ∧ M'.2.1 = M.2.1) := by
  have hn := hB.n
  intro j
  induction j with
  | zero =>
    intro k m M hk hm h hT hI
    obtain ⟨m, rfl, -⟩ := z_suc hm
    obtain rfl : k = 8 := by omega
    rw [md_firstOther_l2]
    exact ok_neg (by decide) (ok_ret ⟨M, rfl, zfx.rf, rfl⟩)
  | succ j ih =>
    intro k m M hk hm h hT hI
    obtain ⟨m, rfl, hm2⟩ := z_suc hm
    rw [md_firstOther_l2, nI_1, z40]
    refine ok_pos (nI_lt (b := 8) (by omega) (by decide)) (ok_then (gladM_ok h hB hT hp (w := k) (by omega)) (fun y2 h2 => ?_))
    obtain ⟨a1, a2, a3⟩ := h2
    refine ok_pos (zI_inb (by omega) (by omega)) ?_
    rw [zI_nat (by omega), a1, a2 92 _ (fun u => by have := zAs_n u; omega), hI k (by omega)]
    show Ok _ (fun y : (Int32 × mm_M) ⊕ (Unit × mm_M) => ∃ M' : mm_M, y = (if (decide (zgl T v p k = it k) && zaf (fun w => decide (zgl T v p w = it w)) (k + 1) j) = true then Sum.inr ((), M') else Sum.inl ((if decide (zgl T v p k = it k) = true then zfi (fun w => decide (zgl T v p w = it w)) (k + 1) j else nI k), M')) ∧ zfx zAs M.1 M'.1 ∧ M'.2.1 = M.2.1)
    by_cases c : zgl T v p k = it k
    · refine ok_pos c (ok_mono (ih (k + 1) m y2.2 (by omega) (by omega) (h.fx a2 (fun u => by have := zAs_n u; omega) (fun u => by have := zAs_n u; omega) (fun r q a b u => by have := zAs_n u; omega)) (hT.fx a2 (fun r q a b u => by have := zAs_n u; omega)) (fun w hw => (a2 _ _ (fun u => by have := zAs_n u; omega)).trans (hI w hw))) (fun y hy => ?_))
      obtain ⟨M', e1, e2, e3⟩ := hy
      exact ⟨M', by rw [e1]; simp [c], a2.tr e2, e3.trans a3⟩
    · exact ok_neg c (ok_ret ⟨y2.2, by simp [c], a2, a3⟩)
theorem foM_ok {s p : Nat} {it : Nat → Int32} (hs : s < 4) (hB : zB v) (hp : p < v.n) {M : mm_M} (h : ShM M.1 v) (hT : zTMx v.ru (Ts v.ru) M.1) (hI : ∀ w, w < 8 → M.1 92 (40 * s + w) = it w) : Ok (md_firstOther (nI s) (nI p) M) (fun y => y.1 = zfo Ts v p it ∧ zfx zAs M.1 y.2.1 ∧ y.2.2.1 = M.2.1) := by
  unfold md_firstOther
  refine ok_then (foM_l hs hB hp 8 0 300 M (by decide) (by decide) h hT hI) (fun y hy => ?_)
  obtain ⟨M', rfl, e2, e3⟩ := hy
  by_cases c : zft Ts v p it = true
  · have c2 : zaf (fun w => decide (zgl (Ts v.ru) v p w = it w)) 0 8 = true := c
    rw [if_pos c2]
    exact ok_ret ⟨(zfo_m1.mpr c).symm, e2, e3⟩
  · have c2 : ¬ zaf (fun w => decide (zgl (Ts v.ru) v p w = it w)) 0 8 = true := c
    rw [if_neg c2]
    exact ok_ret ⟨rfl, e2, e3⟩
theorem laysV {k p x cnt : Nat} {M : mm_M} (hB : zB v) (hp : p < v.n) (h : ShM M.1 v) (hk : zvk k x cnt) : ∃ M' : mm_M, md_lays (nI k) (nI p) (nI x) M = some ((), M') ∧ ShM M'.1 (zvr k v p x) ∧ zfx zTm M.1 M'.1 ∧ M'.2 = M.2 := by
  have hn := hB.n
  have num : ∀ w, 3 ≤ w → w ≤ 6 → ∃ M' : mm_M, md_lays (nI w) (nI p) (nI x) M = some ((), M') ∧ ShM M'.1 (zput v w p x) ∧ zfx zTm M.1 M'.1 ∧ M'.2 = M.2 := by
    intro w w1 w2
    obtain ⟨M', e1, e2, e3, e4⟩ := laysM_num h hB (w := w) (p := p) (x := x) w2 (fun _ => hp) (a2 := nI p) (fun _ => rfl)
    refine ⟨M', e1, e2, e3.x.wk (fun r c u => ?_), e4⟩
    have : r = 77 ∨ r = 79 := by simpa using u
    exact Or.inl (by omega)
  rcases hk with ⟨rfl, -⟩ | ⟨rfl, -⟩ | ⟨rfl, -⟩ | ⟨rfl, -⟩
  · refine ⟨(ak_up M.1 78 p (nI x), M.2), ?_, ShM_r0 h, zfx.rf.up (Or.inl (by decide)), rfl⟩
    unfold md_lays
    rw [if_neg (by decide), if_neg (by decide), if_pos (by decide), if_pos (zI_inb (by omega) (by omega)), zI_nat (by omega)]
  · exact num 3 (by decide) (by decide)
  · exact num 5 (by decide) (by decide)
  · refine ⟨(ak_up M.1 73 4 (nI x), M.2), ?_, ShM_s3 h, zfx.rf.up (Or.inr ⟨rfl, Or.inl rfl⟩), rfl⟩
    unfold md_lays
    rw [if_neg (by decide), if_neg (by decide), if_neg (by decide)]
theorem tlM_l {k N cnt s p : Nat} {x3 x5 : Int32} {it : Nat → Int32} (hs : s < 4) (hc : cnt ≤ 6) (hB : zB v) (hr : v.ru < cnt) (hp : p < v.n) (hN : k ≠ 5 → N ≤ 10) (hN2 : N ≤ 256) (hk : ∀ x, x < N → zvk k x cnt) : ∀ j m X (M : mm_M), j ≤ N → j < m → (k ≠ 5 → ∀ i, X.testBit i = ((decide (j ≤ i) && decide (i < N)) && zft Ts (zvr k v p i) p it)) → (∃ x, zvk k x cnt ∧ ShM M.1 (zvr k v p x)) → zTD Ts cnt M.1 → (∀ w, w < 8 → M.1 92 (40 * s + w) = it w) → Ok (md_tells_l169 m (nI s) (nI p) x3 (nI k) x5 (nI X) (nI (zuc (fun x => zft Ts (zvr k v p x) p it) j (N - j))) (zul (fun x => zft Ts (zvr k v p x) p it) j (N - j)) (nI j - 1) M) (fun y => (k ≠ 5 → y.1.1 = nI (zbt (fun x => zft Ts (zvr k v p x) p it) N)) ∧ y.1.2.1 = nI (zuc (fun x => zft Ts (zvr k v p x) p it) 0 N) ∧ y.1.2.2 = zul (fun x => zft Ts (zvr k v p x) p it) 0 N ∧ (∃ x, zvk k x cnt ∧ ShM y.2.1 (zvr k v p x)) ∧ zfx zTm M.1 y.2.1 ∧ y.2.2.1 = M.2.1) := by
  have hn := hB.n
  intro j
  induction j with
  | zero =>
    intro m X M hj hm hX h hT hI
    obtain ⟨m, rfl, -⟩ := z_suc hm
    rw [md_tells_l169]
    refine ok_pos (by decide) (ok_ret ⟨fun k5 => ?_, rfl, rfl, h, zfx.rf, rfl⟩)
    have : X = zbt (fun x => zft Ts (zvr k v p x) p it) N := by
      refine Nat.eq_of_testBit_eq (fun i => ?_)
      rw [hX k5 i, zbt_tb]
      simp
    rw [this]
  | succ j ih =>
    intro m X M hj hm hX h hT hI
    obtain ⟨m, rfl, hm2⟩ := z_suc hm
    obtain ⟨x, hx, h⟩ := h
    rw [md_tells_l169, nI_pred]
    have hkj := hk j (by omega)
    refine ok_neg (nI_pos (by omega)) ?_
    have hxB : zB (zvr k v p x) := zvr_B hB hc hx
    have hxn : (zvr k v p x).n = v.n := by unfold zvr; split; rfl; split; rfl; split; rfl; rfl
    obtain ⟨M1, b1, b2, b3, b4⟩ := laysV (k := k) (x := j) (cnt := cnt) hxB (p := p) (by omega) h hkj
    rw [b1]
    simp only [Option.bind_some]
    rw [zvr_zvr] at b2
    have hjB : zB (zvr k v p j) := zvr_B hB hc hkj
    have hjn : (zvr k v p j).n = v.n := by unfold zvr; split; rfl; split; rfl; split; rfl; rfl
    have hT1 : zTD Ts cnt M1.1 := hT.fx b3 (fun r q a b u => by have := zTm_n u; omega)
    have hI1 : ∀ w, w < 8 → M1.1 92 (40 * s + w) = it w := fun w hw => (b3 _ _ (fun u => by have := zTm_n u; omega)).trans (hI w hw)
    refine ok_then (foM_ok hs hjB (p := p) (by omega) b2 (hT1 _ (zvr_ru hr hkj)) hI1) (fun y3 h3 => ?_)
    obtain ⟨a1, a2, a3⟩ := h3
    have ff : zfx zTm M.1 y3.2.1 := b3.tr (a2.wk (fun r c u => by
      have := zAs_n u
      show (77 ≤ r ∧ r ≤ 79) ∨ (r = 73 ∧ (c = 4 ∨ (12 ≤ c ∧ c ≤ 26)))
      omega))
    have hS3 : ∃ x, zvk k x cnt ∧ ShM y3.2.1 (zvr k v p x) := ⟨j, hkj, b2.fx a2 (fun u => by have := zAs_n u; omega) (fun u => by have := zAs_n u; omega) (fun r q a b u => by have := zAs_n u; omega)⟩
    have hT3 : zTD Ts cnt y3.2.1 := hT1.fx a2 (fun r q a b u => by have := zAs_n u; omega)
    have hI3 : ∀ w, w < 8 → y3.2.1 92 (40 * s + w) = it w := fun w hw => (a2 _ _ (fun u => by have := zAs_n u; omega)).trans (hI1 w hw)
    have m3 : y3.2.2.1 = M.2.1 := a3.trans (by rw [b4])
    have eN : N - j = (N - (j + 1)) + 1 := by omega
    have ej : nI j + (-1 : Int32) = nI j - 1 := by rw [Int32.sub_eq_add_neg]
    rw [a1, ej]
    have u1 : zuc (fun x => zft Ts (zvr k v p x) p it) j (N - j) = (if zft Ts (zvr k v p j) p it = true then 1 else 0) + zuc (fun x => zft Ts (zvr k v p x) p it) (j + 1) (N - (j + 1)) := by rw [eN]; rfl
    have u2 : zul (fun x => zft Ts (zvr k v p x) p it) j (N - j) = if zft Ts (zvr k v p j) p it = true then nI j else zul (fun x => zft Ts (zvr k v p x) p it) (j + 1) (N - (j + 1)) := by rw [eN]; rfl
    have nx := fun X2 hX2 => ih m X2 y3.2 (by omega) (by omega) hX2 hS3 hT3 hI3
    rw [u1, u2] at nx
    by_cases c : zft Ts (zvr k v p j) p it = true
    · rw [if_pos c, if_pos c, Nat.add_comm 1] at nx
      refine ok_pos (zfo_m1.mpr c) ?_
      rw [show (1 : Int32) = nI 1 from rfl, nI_add]
      by_cases k5 : k = 5
      · refine ok_pos (by rw [k5]; rfl) ?_
        rw [show (0 : Int32) = nI 0 from rfl, nI_or']
        exact ok_mono (nx (X ||| 0) (fun z => absurd k5 z)) (fun y hy => ⟨hy.1, hy.2.1, hy.2.2.1, hy.2.2.2.1, ff.tr hy.2.2.2.2.1, hy.2.2.2.2.2.trans m3⟩)
      · have nk : ¬ nI k = (5 : Int32) := by
          have hk10 : k ≤ 8 := by rcases hx with ⟨rfl, -⟩ | ⟨rfl, -⟩ | ⟨rfl, -⟩ | ⟨rfl, -⟩ <;> decide
          have : ∀ k ≤ 8, nI k = (5 : Int32) → k = 5 := by decide
          exact fun z => k5 (this k hk10 z)
        refine ok_neg nk ?_
        rw [show nI 1 = (1 : Int32) from rfl, z1sh (by have := hN k5; omega), nI_or']
        refine ok_mono (nx (X ||| 2 ^ j) (fun _ i => ?_)) (fun y hy => ⟨hy.1, hy.2.1, hy.2.2.1, hy.2.2.2.1, ff.tr hy.2.2.2.2.1, hy.2.2.2.2.2.trans m3⟩)
        rw [Nat.testBit_or, hX k5 i, Nat.testBit_two_pow]
        by_cases e : i = j
        · subst e
          have h1 : i < N := by omega
          simp [c, h1]
        · have e2 : ¬ j = i := fun z => e z.symm
          have : (j + 1 ≤ i) ↔ j ≤ i := by omega
          simp [this, e2]
    · rw [if_neg c, if_neg c, Nat.zero_add] at nx
      refine ok_neg (fun z => c (zfo_m1.mp z)) ?_
      refine ok_mono (nx X (fun k5 i => ?_)) (fun y hy => ⟨hy.1, hy.2.1, hy.2.2.1, hy.2.2.2.1, ff.tr hy.2.2.2.2.1, hy.2.2.2.2.2.trans m3⟩)
      rw [hX k5 i]
      by_cases e : i = j
      · subst e
        have c2 : zft Ts (zvr k v p i) p it = false := by simpa using c
        simp [c2]
      · have : (j + 1 ≤ i) ↔ j ≤ i := by omega
        simp [this]
/-- the loop, then what was is laid back -/
theorem tlM_ok {k N cnt s p : Nat} {x3 : Int32} {it : Nat → Int32} (hs : s < 4) (hc : cnt ≤ 6) (hB : zB v) (hr : v.ru < cnt) (hp : p < v.n) (hN : k ≠ 5 → N ≤ 10) (hN2 : N ≤ 256) (hk : ∀ x, x < N → zvk k x cnt) (hog : zvk k (zog k v p) cnt) {M : mm_M} (h : ShM M.1 v) (hT : zTD Ts cnt M.1) (hI : ∀ w, w < 8 → M.1 92 (40 * s + w) = it w) {R : Int32 → Prop} (hY : ∀ (y : (Int32 × Int32 × Int32) × mm_M) (M' : mm_M), (k ≠ 5 → y.1.1 = nI (zbt (fun x => zft Ts (zvr k v p x) p it) N)) → y.1.2.1 = nI (zuc (fun x => zft Ts (zvr k v p x) p it) 0 N) → y.1.2.2 = zul (fun x => zft Ts (zvr k v p x) p it) 0 N → Ok (if x3 = (3 : Int32) then some (y.1.2.1, M') else if x3 = (4 : Int32) then some (y.1.2.2, M') else some (y.1.1, M') : Option (Int32 × mm_M)) (fun w => R w.1 ∧ w.2 = M')) : Ok ((md_tells_l169 300 (nI s) (nI p) x3 (nI k) (nI (zog k v p)) (0 : Int32) (0 : Int32) (-1 : Int32) (nI N - 1) M).bind fun y27 => (md_lays (nI k) (nI p) (nI (zog k v p)) y27.2).bind fun y28 => if x3 = (3 : Int32) then some (y27.1.2.1, y28.2) else if x3 = (4 : Int32) then some (y27.1.2.2, y28.2) else some (y27.1.1, y28.2)) (fun y => R y.1 ∧ ShM y.2.1 v ∧ zfx zTm M.1 y.2.1 ∧ y.2.2.1 = M.2.1) := by
  have start := tlM_l (k := k) (N := N) (x3 := x3) (x5 := nI (zog k v p)) hs hc hB hr hp hN hN2 hk N 300 0 M (Nat.le_refl _) (by omega) (fun _ i => by
    rw [Nat.zero_testBit]
    by_cases e : i < N
    · have : ¬ N ≤ i := by omega
      simp [this]
    · simp [e]) ⟨_, hog, by rw [zvr_og]; exact h⟩ hT hI
  rw [Nat.sub_self] at start
  refine ok_then start (fun y hy => ?_)
  obtain ⟨a1, a2, a3, ⟨x, hx, a4⟩, a5, a6⟩ := hy
  have hxB : zB (zvr k v p x) := zvr_B hB hc hx
  have hxn : (zvr k v p x).n = v.n := by unfold zvr; split; rfl; split; rfl; split; rfl; rfl
  obtain ⟨M1, b1, b2, b3, b4⟩ := laysV (k := k) (x := zog k v p) (cnt := cnt) hxB (p := p) (by omega) a4 hog
  rw [b1]
  rw [zvr_zvr, zvr_og] at b2
  simp only [Option.bind_some]
  refine ok_mono (hY y M1 a1 a2 a3) (fun w hw => ⟨hw.1, by rw [hw.2]; exact b2, by rw [hw.2]; exact a5.tr b3, by rw [hw.2, b4]; exact a6⟩)
theorem tellsM_ok {cnt : Nat} {z : zT} {M : mm_M} (h : ShM M.1 v) (hB : zB v) (hc : cnt ≤ 6) (hr : v.ru < cnt) (h3 : M.1 73 3 = nI cnt) (hT : zTD Ts cnt M.1) (hS : StM M.1 z) (a1 a2 a3 : Int32) : Ok (md_tells a1 a2 a3 M) (fun y => y.1 = ztl Ts cnt v z a1 a2 a3 ∧ ShM y.2.1 v ∧ zfx zTm M.1 y.2.1 ∧ y.2.2.1 = M.2.1) := by
  have hn := hB.n
  unfold md_tells
  have bad : ¬ ((0 ≤ a1.toInt ∧ a1.toInt < 4) ∧ (0 ≤ a2.toInt ∧ a2.toInt < v.n) ∧ 0 ≤ a3.toInt ∧ a3.toInt ≤ 5) → Ok (some ((-2 : Int32), M)) (fun y => y.1 = ztl Ts cnt v z a1 a2 a3 ∧ ShM y.2.1 v ∧ zfx zTm M.1 y.2.1 ∧ y.2.2.1 = M.2.1) := by
    intro c
    unfold ztl
    rw [if_neg c]
    exact ok_ret ⟨rfl, h, zfx.rf, rfl⟩
  rw [isSheetM_eq]
  simp only [in_eq, Option.bind_some, bI_if, Int32.toInt_toInt64, show (0 : Int64).toInt = 0 from rfl, show (5 : Int64).toInt = 5 from rfl]
  by_cases g : 0 ≤ a1.toInt ∧ a1.toInt < 4
  · rw [if_pos g, isOneM_eq h hB]
    simp only [Option.bind_some, bI_if]
    by_cases o : 0 ≤ a2.toInt ∧ a2.toInt < v.n
    · rw [if_pos o]
      by_cases u : 0 ≤ a3.toInt ∧ a3.toInt ≤ 5
      · rw [if_pos u]
        unfold ztl
        rw [if_pos (show (0 ≤ a1.toInt ∧ a1.toInt < 4) ∧ (0 ≤ a2.toInt ∧ a2.toInt < v.n) ∧ 0 ≤ a3.toInt ∧ a3.toInt ≤ 5 from ⟨g, o, u⟩)]
        obtain ⟨s, hs0, rfl, es⟩ := zI_of (x := a1) g.1
        obtain ⟨p, hp0, rfl, ep⟩ := zI_of (x := a2) o.1
        obtain ⟨q, hq0, rfl, eq⟩ := zI_of (x := a3) u.1
        have esn : (nI s).toInt.toNat = s := by omega
        have epn : (nI p).toInt.toNat = p := by omega
        have eqn : (nI q).toInt.toNat = q := by omega
        have hs : s < 4 := by omega
        have hp : p < v.n := by omega
        have gs : ak_inb (nI s) 4 = true := zI_inb (by omega) hs
        rw [esn, epn, eqn]
        obtain ⟨t1, t2, t3⟩ := hS s hs
        refine ok_pos gs ?_
        rw [zI_nat (show s < 2147483648 by omega), t1, bI_if]
        by_cases c0 : z.1 s = 0
        · rw [if_neg (fun w => w c0), if_pos c0]
          exact ok_ret ⟨rfl, h, zfx.rf, rfl⟩
        · rw [if_pos c0, if_neg c0]
          obtain ⟨-, t4, t5, t6⟩ := t3 c0
          refine ok_pos gs ?_
          rw [t4]
          have e8 : nI (z.2.1 s) = (8 : Int32) ↔ z.2.1 s = 8 := by
            have : ∀ a ≤ 40, (nI a = (8 : Int32) ↔ a = 8) := by decide
            exact this _ t5
          by_cases c8 : z.2.1 s = 8
          · rw [if_pos c8]
            refine ok_pos (e8.mpr c8) ?_
            have hI : ∀ w, w < 8 → M.1 92 (40 * s + w) = z.2.2 s w := fun w hw => t6 w (by omega)
            have eqq : ∀ c : Nat, c < 10 → (nI q = nI c ↔ q = c) := fun c hc => by
              have : ∀ a < 10, ∀ c < 10, (nI a = nI c ↔ a = c) := by decide
              exact this _ (by omega) _ hc
            have neq : ∀ c : Nat, c < 10 → q ≠ c → ¬ nI q = nI c := fun c hc e w => e ((eqq c hc).mp w)
            unfold ztw
            by_cases q0 : q = 0
            · rw [if_pos q0]
              refine ok_pos ((eqq 0 (by decide)).mpr q0) (ok_then (foM_ok hs hB hp h (hT _ hr) hI) (fun y hy => ok_ret ⟨hy.1, h.fx hy.2.1 (fun u => by have := zAs_n u; omega) (fun u => by have := zAs_n u; omega) (fun r q a b u => by have := zAs_n u; omega), hy.2.1.wk (fun r c u => by
                have := zAs_n u
                show (77 ≤ r ∧ r ≤ 79) ∨ (r = 73 ∧ (c = 4 ∨ (12 ≤ c ∧ c ≤ 26)))
                omega), hy.2.2⟩))
            refine ok_neg (neq 0 (by decide) q0) ?_
            rw [if_neg q0]
            by_cases q1 : q = 1
            · rw [if_pos q1]
              refine ok_pos ((eqq 1 (by decide)).mpr q1) ?_
              have hT0 := hT _ hr
              have tk : Ok (md_told (nI p) (7 : Int32) M) (fun y => y.1 = nI (zog 7 v p) ∧ zfx zAs M.1 y.2.1 ∧ y.2.2.1 = M.2.1) := by
                refine ok_mono (toldM_ok h hB hT0 (nI p) 7) (fun y hy => ⟨hy.1.trans ?_, hy.2⟩)
                unfold ztd
                rw [if_neg (by decide), if_neg (fun w => w o), if_neg (by decide), if_pos (by decide), epn]
                rfl
              refine ok_then tk (fun y14 h14 => ?_)
              obtain ⟨a1, a2, a3⟩ := h14
              rw [a1]
              have nA : ∀ r c : Nat, zAs r c → r = 73 ∧ 12 ≤ c ∧ c ≤ 26 := fun r c u => u
              have tl := tlM_ok (k := 7) (N := 6) (cnt := cnt) (x3 := nI q) (it := z.2.2 s) (R := fun w => w = nI (zbt (fun x => zft Ts (zvr 7 v p x) p (z.2.2 s)) 6)) hs hc hB hr hp (fun _ => by decide) (by decide) (fun x hx => by unfold zvk; omega) (kd_B hB hp cnt) (M := y14.2) (h.fx a2 (fun u => by have := zAs_n u; omega) (fun u => by have := zAs_n u; omega) (fun r q a b u => by have := zAs_n u; omega)) (hT.fx a2 (fun r q a b u => by have := zAs_n u; omega)) (fun w hw => (a2 _ _ (fun u => by have := zAs_n u; omega)).trans (hI w hw)) (fun y M' b1 b2 b3 => ok_neg (neq 3 (by decide) (by omega)) (ok_neg (neq 4 (by decide) (by omega)) (ok_ret ⟨b1 (by decide), rfl⟩)))
              exact ok_mono tl (fun y hy => ⟨hy.1, hy.2.1, (a2.wk (fun r c u => by
                have := zAs_n u
                show (77 ≤ r ∧ r ≤ 79) ∨ (r = 73 ∧ (c = 4 ∨ (12 ≤ c ∧ c ≤ 26)))
                omega)).tr hy.2.2.1, hy.2.2.2.trans a3⟩)
            refine ok_neg (neq 1 (by decide) q1) ?_
            rw [if_neg q1]
            by_cases q2 : q = 2
            · rw [if_pos q2]
              refine ok_pos ((eqq 2 (by decide)).mpr q2) ?_
              have tk := toldM_num h hB (w := 3) (p := p) (by decide) (fun _ => hp)
              have tk' : md_told (nI p) (3 : Int32) M = some (nI (zog 3 v p), M) := tk
              rw [tk']
              simp only [Option.bind_some]
              have mk : md_mostOf (3 : Int32) M = some (nI 10 - 1, M) := mostOf_eq (w := 3) (by decide) M
              rw [mk]
              simp only [Option.bind_some]
              exact tlM_ok (k := 3) (N := 10) (cnt := cnt) (it := z.2.2 s) (R := fun w => w = nI (zbt (fun x => zft Ts (zvr 3 v p x) p (z.2.2 s)) 10)) hs hc hB hr hp (fun _ => by decide) (by decide) (fun x hx => by unfold zvk; omega) (nu_B hB hp cnt) h hT hI (fun y M' b1 b2 b3 => ok_neg (neq 3 (by decide) (by omega)) (ok_neg (neq 4 (by decide) (by omega)) (ok_ret ⟨b1 (by decide), rfl⟩)))
            refine ok_neg (neq 2 (by decide) q2) ?_
            rw [if_neg q2]
            by_cases q5 : q = 5
            · rw [if_neg (show ¬ q = 3 by omega), if_neg (show ¬ q = 4 by omega)]
              refine ok_pos ((eqq 5 (by decide)).mpr q5) ?_
              have hru : M.1 73 4 = nI (zog 8 v p) := by
                obtain ⟨h1, h2, h3, h4, h5, -⟩ := h
                exact h5
              rw [hru, h3]
              exact tlM_ok (k := 8) (N := cnt) (cnt := cnt) (it := z.2.2 s) (R := fun w => w = nI (zbt (fun x => zft Ts (zvr 8 v p x) p (z.2.2 s)) cnt)) hs hc hB hr hp (fun _ => by omega) (by omega) (fun x hx => by unfold zvk; omega) (ru_B hr p) h hT hI (fun y M' b1 b2 b3 => ok_neg (neq 3 (by decide) (by omega)) (ok_neg (neq 4 (by decide) (by omega)) (ok_ret ⟨b1 (by decide), rfl⟩)))
            refine ok_neg (neq 5 (by decide) q5) ?_
            have tk := toldM_num h hB (w := 5) (p := p) (by decide) (fun _ => hp)
            have tk' : md_told (nI p) (5 : Int32) M = some (nI (zog 5 v p), M) := tk
            rw [tk']
            simp only [Option.bind_some]
            have mk : md_mostOf (5 : Int32) M = some (nI 256 - 1, M) := mostOf_eq (w := 5) (by decide) M
            rw [mk]
            simp only [Option.bind_some]
            refine tlM_ok (k := 5) (N := 256) (cnt := cnt) (it := z.2.2 s) (R := fun w => w = if q = 3 then nI (zwp (zow1 Ts v p (z.2.2 s)) 8) else if q = 4 then (if zaf (fun w => zow1 Ts v p (z.2.2 s) w false || zow1 Ts v p (z.2.2 s) w true) 0 8 = true then nI (zbt (zlwb (zow1 Ts v p (z.2.2 s))) 8) else -1) else nI (zbt (fun x => zft Ts (zvr 8 v p x) p (z.2.2 s)) cnt)) hs hc hB hr hp (fun w => absurd rfl w) (by decide) (fun x hx => by unfold zvk; omega) (wi_B hB hp cnt) h hT hI (fun y M' b1 b2 b3 => ?_)
            rw [zft_wi] at b2 b3
            rw [zuc_wp (zow1 Ts v p (z.2.2 s)) 8] at b2
            rw [zul_wp] at b3
            by_cases q3 : q = 3
            · rw [if_pos q3]
              exact ok_pos ((eqq 3 (by decide)).mpr q3) (ok_ret ⟨b2, rfl⟩)
            · rw [if_neg q3]
              have q4 : q = 4 := by omega
              rw [if_pos q4]
              exact ok_neg (neq 3 (by decide) q3) (ok_pos ((eqq 4 (by decide)).mpr q4) (ok_ret ⟨b3, rfl⟩))
          · rw [if_neg c8]
            exact ok_neg (fun w => c8 (e8.mp w)) (ok_ret ⟨rfl, h, zfx.rf, rfl⟩)
      · rw [if_neg u]
        exact bad (fun w => u w.2.2)
    · rw [if_neg o]
      exact bad (fun w => o w.2.1)
  · rw [if_neg g]
    exact bad (fun w => g w.1)
end
