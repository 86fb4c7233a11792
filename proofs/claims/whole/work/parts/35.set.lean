/-! level 2: set, on both sides -/
def znum (v : zV) (w p : Nat) : Nat := if w ≤ 2 then v.1 w else v.2 (w - 2) p
def zput (v : zV) (w p x : Nat) : zV := if w ≤ 2 then zs v w x else zr v (w - 2) p x
/-- what set may be given -/
def zsok (v : zV) (a1 a2 a3 : Int32) : Prop := (0 ≤ a1.toInt ∧ a1.toInt ≤ 6) ∧ (2 < a1.toInt → 0 ≤ a2.toInt ∧ a2.toInt < v.n) ∧ (z_lo a1.toInt.toNat : Int) ≤ a3.toInt ∧ a3.toInt ≤ z_hi a1.toInt.toNat
theorem zidx {p w : Nat} (hw : 3 ≤ w) : (((5 : Int32) * nI p) + nI w) - (3 : Int32) = nI (5 * p + w - 3) := by
  rw [show (5 : Int32) = nI 5 from rfl, show (3 : Int32) = nI 3 from rfl, zI_mul, nI_add, zI_sub (by omega)]
theorem w_cases {w : Nat} (hw : w ≤ 6) : w = 0 ∨ w = 1 ∨ w = 2 ∨ w = 3 ∨ w = 4 ∨ w = 5 ∨ w = 6 := by omega
theorem toldM_low {M : mm_M} {v : zV} (h : ShM M.1 v) {w : Nat} (hw : w ≤ 2) (a1 : Int32) : md_told a1 (nI w) M = some (nI (v.1 w), M) := by
  have hc : w = 0 ∨ w = 1 ∨ w = 2 := by omega
  have hv : M.1 77 w = nI (v.1 w) := by
    rcases hc with rfl | rfl | rfl
    · exact h.yr
    · exact h.nd
    · exact h.ky
  have f1 : ∀ w ≤ 2, bI ((20 : Int64).toInt ≤ (nI w).toInt64.toInt ∧ (nI w).toInt64.toInt ≤ (27 : Int64).toInt) = 0 := by decide
  have f2 : ∀ w ≤ 2, bI ((30 : Int64).toInt ≤ (nI w).toInt64.toInt ∧ (nI w).toInt64.toInt ≤ (37 : Int64).toInt) = 0 := by decide
  have f3 : ∀ w ≤ 2, ¬ bI ((0 : Int64).toInt ≤ (nI w).toInt64.toInt ∧ (nI w).toInt64.toInt ≤ (10 : Int64).toInt) = 0 := by decide
  have f4 : ∀ w ≤ 2, ¬ (2 : Int32) < nI w ∧ nI w < (7 : Int32) ∧ nI w < (3 : Int32) := by decide
  unfold md_told
  rw [in_eq]
  simp only [Option.bind_some]
  rw [if_pos (f1 w hw), in_eq]
  simp only [Option.bind_some]
  rw [if_pos (f2 w hw), in_eq]
  simp only [Option.bind_some]
  rw [if_neg (f3 w hw), if_neg (f4 w hw).1, if_pos (f4 w hw).2.1, if_pos (f4 w hw).2.2, if_pos (zI_inb (by omega) (by omega)), zI_nat (by omega), hv]
theorem toldM_row {M : mm_M} {v : zV} (h : ShM M.1 v) (hB : zB v) {w p : Nat} (hw : 3 ≤ w) (hw6 : w ≤ 6) (hp : p < v.n) : md_told (nI p) (nI w) M = some (nI (v.2 (w - 2) p), M) := by
  have hn := hB.n
  have hv : M.1 79 (5 * p + w - 3) = nI (v.2 (w - 2) p) := by
    have hc : w = 3 ∨ w = 4 ∨ w = 5 ∨ w = 6 := by omega
    rcases hc with rfl | rfl | rfl | rfl
    · exact h.nu p hp
    · exact h.le p hp
    · exact h.wi p hp
    · exact h.po p hp
  have f1 : ∀ w ≤ 6, bI ((20 : Int64).toInt ≤ (nI w).toInt64.toInt ∧ (nI w).toInt64.toInt ≤ (27 : Int64).toInt) = 0 := by decide
  have f2 : ∀ w ≤ 6, bI ((30 : Int64).toInt ≤ (nI w).toInt64.toInt ∧ (nI w).toInt64.toInt ≤ (37 : Int64).toInt) = 0 := by decide
  have f3 : ∀ w ≤ 6, ¬ bI ((0 : Int64).toInt ≤ (nI w).toInt64.toInt ∧ (nI w).toInt64.toInt ≤ (10 : Int64).toInt) = 0 := by decide
  have f4 : ∀ w ≤ 6, 3 ≤ w → (2 : Int32) < nI w ∧ nI w < (7 : Int32) ∧ ¬ nI w < (3 : Int32) := by decide
  have g := f4 w hw6 hw
  unfold md_told
  rw [in_eq]
  simp only [Option.bind_some]
  rw [if_pos (f1 w hw6), in_eq]
  simp only [Option.bind_some]
  rw [if_pos (f2 w hw6), in_eq]
  simp only [Option.bind_some]
  rw [if_neg (f3 w hw6), if_pos g.1, isOneM_eq h hB, bI_t ((z_ii (by omega)).mpr hp)]
  simp only [Option.bind_some]
  rw [if_neg (by decide), if_pos g.2.1, if_neg g.2.2, zidx hw, if_pos (zI_inb (by omega) (by omega)), zI_nat (by omega), hv]
theorem toldM_num {M : mm_M} {v : zV} (h : ShM M.1 v) (hB : zB v) {w p : Nat} (hw6 : w ≤ 6) (hp : 2 < w → p < v.n) : md_told (nI p) (nI w) M = some (nI (znum v w p), M) := by
  unfold znum
  by_cases c : w ≤ 2
  · rw [if_pos c]; exact toldM_low h c _
  · rw [if_neg c]; exact toldM_row h hB (by omega) hw6 (hp (by omega))
theorem laysM_num {M : mm_M} {v : zV} (h : ShM M.1 v) (hB : zB v) {w p x : Nat} (hw6 : w ≤ 6) (hp : 2 < w → p < v.n) {a2 : Int32} (ha : 2 < w → a2 = nI p) : ∃ M', md_lays (nI w) a2 (nI x) M = some ((), M') ∧ ShM M'.1 (zput v w p x) ∧ Fr (fun r => r == 77 || r == 79) M.1 M'.1 ∧ M'.2 = M.2 := by
  have hn := hB.n
  unfold md_lays zput
  by_cases c : w ≤ 2
  · have g1 : nI w < (3 : Int32) := nI_lt (show w < 3 by omega) (by decide)
    rw [if_pos c, if_pos g1, if_pos (zI_inb (by omega) (by omega)), zI_nat (by omega)]
    refine ⟨_, rfl, ?_, Fr.rfl'.up rfl, rfl⟩
    have hc : w = 0 ∨ w = 1 ∨ w = 2 := by omega
    rcases hc with rfl | rfl | rfl
    · exact ShM_s0 h
    · exact ShM_s1 h
    · exact ShM_s2 h
  · have hp := hp (by omega)
    have g1 : ¬ nI w < (3 : Int32) := nI_nlt (show 3 ≤ w by omega) (by omega)
    have g2 : nI w < (7 : Int32) := nI_lt (show w < 7 by omega) (by decide)
    rw [ha (by omega), if_neg c, if_neg g1, if_pos g2, zidx (by omega), if_pos (zI_inb (by omega) (by omega)), zI_nat (by omega)]
    refine ⟨_, rfl, ?_, Fr.rfl'.up rfl, rfl⟩
    have hc : w = 3 ∨ w = 4 ∨ w = 5 ∨ w = 6 := by omega
    rcases hc with rfl | rfl | rfl | rfl
    · exact ShM_r1 h
    · exact ShM_r2 h
    · exact ShM_r3 h
    · exact ShM_r4 h
/-- a set that is taken: the number that was, and the shop then -/
def zset (v : zV) (a1 a2 a3 : Int32) : Int32 × zV := (nI (znum v a1.toInt.toNat a2.toInt.toNat), zput v a1.toInt.toNat a2.toInt.toNat a3.toInt.toNat)
theorem z_lohi {w : Nat} : z_lo w ≤ 1 ∧ z_hi w ≤ 999 := by
  unfold z_lo z_hi
  constructor
  · split <;> omega
  · repeat' split
    all_goals omega
theorem set_M {M : mm_M} {v : zV} (h : ShM M.1 v) (hB : zB v) (a1 a2 a3 : Int32) : Ok (md_set a1 a2 a3 M) (fun y => ((zsok v a1 a2 a3 → y.1 = (zset v a1 a2 a3).1 ∧ ShM y.2.1 (zset v a1 a2 a3).2) ∧ (¬ zsok v a1 a2 a3 → y.1 = -2 ∧ y.2 = M)) ∧ Fr (fun r => r == 77 || r == 79) M.1 y.2.1 ∧ y.2.2 = M.2) := by
  have no : ¬ zsok v a1 a2 a3 → Ok (some ((-2 : Int32), M)) (fun y => ((zsok v a1 a2 a3 → y.1 = (zset v a1 a2 a3).1 ∧ ShM y.2.1 (zset v a1 a2 a3).2) ∧ (¬ zsok v a1 a2 a3 → y.1 = -2 ∧ y.2 = M)) ∧ Fr (fun r => r == 77 || r == 79) M.1 y.2.1 ∧ y.2.2 = M.2) := fun c => ok_ret ⟨⟨fun z => absurd z c, fun _ => ⟨rfl, rfl⟩⟩, Fr.rfl', rfl⟩
  unfold md_set
  simp only [in_eq, Option.bind_some]
  refine ok_ite (fun c => ?_) (fun c => ?_)
  · refine no (fun z => ?_)
    refine (bI_0.mp c) ?_
    simp only [Int32.toInt_toInt64]
    exact z.1
  have c1 : 0 ≤ a1.toInt ∧ a1.toInt ≤ 6 := by
    by_cases z : 0 ≤ a1.toInt ∧ a1.toInt ≤ 6
    · exact z
    · exact absurd (bI_0.mpr (by simp only [Int32.toInt_toInt64]; exact z)) c
  obtain ⟨w, hw, rfl, ew⟩ := zI_of c1.1
  have hw6 : w ≤ 6 := by omega
  have ewn : (nI w).toInt.toNat = w := by omega
  -- the bound's row, the same on each road
  have fin : ∀ (lo : Int64), lo.toInt = z_lo w → (2 < w → ∃ p, p < v.n ∧ a2 = nI p) → Ok (if bI (lo.toInt ≤ a3.toInt64.toInt ∧ a3.toInt64.toInt ≤ (nI (z_hi w)).toInt64.toInt) = 0 then some ((-2 : Int32), M) else (md_told a2 (nI w) M).bind fun y10 => (md_lays (nI w) a2 a3 y10.2).bind fun y11 => some (y10.1, y11.2)) (fun y => ((zsok v (nI w) a2 a3 → y.1 = (zset v (nI w) a2 a3).1 ∧ ShM y.2.1 (zset v (nI w) a2 a3).2) ∧ (¬ zsok v (nI w) a2 a3 → y.1 = -2 ∧ y.2 = M)) ∧ Fr (fun r => r == 77 || r == 79) M.1 y.2.1 ∧ y.2.2 = M.2) := by
    intro lo hlo hp
    have hh := @z_lohi w
    have ez : (nI (z_hi w)).toInt64.toInt = z_hi w := by rw [Int32.toInt_toInt64, zI_int (by omega)]
    refine ok_ite (fun c => ?_) (fun c => ?_)
    · refine no (fun z => (bI_0.mp c) ?_)
      have z2 := z.2.2
      rw [ewn] at z2
      rw [ez, hlo, Int32.toInt_toInt64]
      exact z2
    · have c3 : (z_lo w : Int) ≤ a3.toInt ∧ a3.toInt ≤ z_hi w := by
        by_cases z : (z_lo w : Int) ≤ a3.toInt ∧ a3.toInt ≤ z_hi w
        · exact z
        · exact absurd (bI_0.mpr (by rw [ez, hlo, Int32.toInt_toInt64]; exact z)) c
      obtain ⟨x, hx, rfl, ex⟩ := zI_of (x := a3) (by omega)
      have exn : (nI x).toInt.toNat = x := by omega
      have hok : zsok v (nI w) a2 (nI x) := by
        refine ⟨c1, fun z => ?_, by rw [ewn]; exact c3⟩
        obtain ⟨p, hpn, rfl⟩ := hp (by omega)
        exact (z_ii (by have := hB.n; omega)).mpr hpn
      by_cases cw : w ≤ 2
      · obtain ⟨M', e1, e2, e3, e4⟩ := laysM_num (p := a2.toInt.toNat) (x := x) h hB hw6 (fun z => absurd z (by omega)) (a2 := a2) (fun z => absurd z (by omega))
        rw [toldM_low h cw]
        simp only [Option.bind_some]
        rw [e1]
        refine ok_ret ⟨⟨fun _ => ⟨?_, ?_⟩, fun z => absurd hok z⟩, e3, e4⟩
        · show nI (v.1 w) = nI (znum v _ _)
          rw [ewn, znum, if_pos cw]
        · show ShM M'.1 (zput v _ _ _)
          rw [ewn, exn]
          exact e2
      · obtain ⟨p, hpn, rfl⟩ := hp (by omega)
        have epn : (nI p).toInt.toNat = p := by rw [zI_int (by have := hB.n; omega)]; rfl
        obtain ⟨M', e1, e2, e3, e4⟩ := laysM_num (p := p) (x := x) h hB hw6 (fun _ => hpn) (a2 := nI p) (fun _ => rfl)
        rw [toldM_num h hB hw6 (fun _ => hpn)]
        simp only [Option.bind_some]
        rw [e1]
        refine ok_ret ⟨⟨fun _ => ⟨?_, ?_⟩, fun z => absurd hok z⟩, e3, e4⟩
        · show nI (znum v w p) = nI (znum v _ _)
          rw [ewn, epn]
        · show ShM M'.1 (zput v _ _ _)
          rw [ewn, exn, epn]
          exact e2
  have l0 : w ≠ 4 → (0 : Int64).toInt = z_lo w := fun z => by rw [z_lo, if_neg z]; rfl
  have l1 : w = 4 → (1 : Int64).toInt = z_lo w := fun z => by rw [z_lo, if_pos z]; rfl
  have g4 : nI w = (4 : Int32) ↔ w = 4 := nI_eq (b := 4) (by omega) (by decide)
  have g2 : (2 : Int32) < nI w ↔ 2 < w := nI_ltI (a := 2) (by decide) (by omega)
  simp only [mostOf_eq hw6, Option.bind_some]
  refine ok_ite (fun c2 => ?_) (fun c2 => ?_)
  · rw [isOneM_eq h hB]
    simp only [Option.bind_some]
    refine ok_ite (fun c3 => ?_) (fun c3 => ?_)
    · refine no (fun z => (bI_0.mp c3) (z.2.1 ?_))
      have := g2.mp c2
      omega
    · have c5 : 0 ≤ a2.toInt ∧ a2.toInt < v.n := by
        by_cases z : 0 ≤ a2.toInt ∧ a2.toInt < v.n
        · exact z
        · exact absurd (bI_0.mpr z) c3
      obtain ⟨p, hp, rfl, ep⟩ := zI_of c5.1
      refine ok_ite (fun c4 => ?_) (fun c4 => ?_)
      · exact fin 1 (l1 (g4.mp c4)) (fun _ => ⟨p, by omega, rfl⟩)
      · exact fin 0 (l0 (fun z => c4 (g4.mpr z))) (fun _ => ⟨p, by omega, rfl⟩)
  · have nw : ¬ 2 < w := fun z => c2 (g2.mpr z)
    refine ok_ite (fun c4 => ?_) (fun c4 => ?_)
    · exact absurd (g4.mp c4) (by omega)
    · exact fin 0 (l0 (fun z => c4 (g4.mpr z))) (fun z => absurd z nw)
