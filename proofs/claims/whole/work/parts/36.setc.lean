/-! level 2: set of the class -/
theorem has_eq {b : Nat} {M : mm_M} {v : zV} (h : ShC b M.1 v) (hB : zB v) (a1 a2 : Int32) : sh_has b a1 a2 M = some (bI ((0 ≤ a1.toInt ∧ a1.toInt ≤ 2) ∨ (3 ≤ a1.toInt ∧ a1.toInt ≤ 6 ∧ 0 ≤ a2.toInt ∧ a2.toInt < v.n)), M) := by
  unfold sh_has
  simp only [isOneC_eq h hB, Option.bind_some, bI_0, i_lt, zi0, show (2 : Int32).toInt = 2 from rfl, show (3 : Int32).toInt = 3 from rfl, show (6 : Int32).toInt = 6 from rfl]
  repeat' split
  all_goals first
    | omega
    | rw [bI_t (by omega)]
    | rw [bI_f (by omega)]
theorem fits_eq {b : Nat} (a1 a2 : Int32) (M : mm_M) : sh_fits b a1 a2 M = some (bI ((0 ≤ a1.toInt ∧ a1.toInt ≤ 6) ∧ (z_lo a1.toInt.toNat : Int) ≤ a2.toInt ∧ a2.toInt ≤ z_hi a1.toInt.toNat), M) := by
  by_cases c : 0 ≤ a1.toInt ∧ a1.toInt ≤ 6
  · obtain ⟨w, hw, rfl, ew⟩ := zI_of c.1
    have hw6 : w ≤ 6 := by omega
    have ewn : (nI w).toInt.toNat = w := by omega
    have f1 : ∀ w ≤ 6, (ak_from.getD w 0).toInt = z_lo w ∧ (ak_to.getD w 0).toInt = z_hi w := by decide
    have g := f1 w hw6
    have g0 : ¬ nI w < (0 : Int32) := nI_pos (by omega)
    have g7 : nI w < (7 : Int32) := nI_lt (show w < 7 by omega) (by decide)
    unfold sh_fits
    rw [if_neg g0, if_pos g7, if_pos g7, if_pos (zI_inb (by omega) (by omega)), if_pos (zI_inb (by omega) (by omega)), ewn, zI_nat hw]
    simp only [i_lt, g.1, g.2]
    repeat' split
    all_goals first
      | rw [bI_t ⟨c, by omega, by omega⟩]
      | rw [bI_f (fun z => by omega)]
  · unfold sh_fits
    simp only [i_lt, zi0, show (7 : Int32).toInt = 7 from rfl]
    rw [bI_f (fun z => c z.1)]
    repeat' split
    all_goals first
      | rfl
      | omega
theorem rowOf_eq {w : Nat} (hw : 3 ≤ w) (hw6 : w ≤ 6) (b : Nat) (M : mm_M) : sh_rowOf b (nI w) M = some (b + (w - 1), M) := by
  have hc : w = 3 ∨ w = 4 ∨ w = 5 ∨ w = 6 := by omega
  rcases hc with rfl | rfl | rfl | rfl <;> rfl
theorem numberC_eq {M : mm_M} {v : zV} (h : ShC 1 M.1 v) (hB : zB v) {w p : Nat} (hw6 : w ≤ 6) (hp : 2 < w → p < v.n) {a2 : Int32} (ha : 2 < w → a2 = nI p) : sh_number 1 (nI w) a2 M = some (nI (znum v w p), M) := by
  have hn := hB.n
  unfold znum
  by_cases c : w ≤ 2
  · rw [if_pos c]
    have hc : w = 0 ∨ w = 1 ∨ w = 2 := by omega
    rcases hc with rfl | rfl | rfl
    · show some (M.1 1 0, M) = _
      rw [h.yr]; rfl
    · show some (M.1 1 1, M) = _
      rw [h.nd]; rfl
    · show some (M.1 1 2, M) = _
      rw [h.ky]; rfl
  · have hp := hp (by omega)
    rw [if_neg c, ha (by omega)]
    have f : ∀ w ≤ 6, 3 ≤ w → ¬ nI w = (0 : Int32) ∧ ¬ nI w = (1 : Int32) ∧ ¬ nI w = (2 : Int32) := by decide
    have g := f w hw6 (by omega)
    unfold sh_number
    rw [if_neg g.1, if_neg g.2.1, if_neg g.2.2, isOneC_eq h hB, bI_t ((z_ii (by omega)).mpr hp)]
    simp only [Option.bind_some]
    rw [if_neg (by decide), rowOf_eq (by omega) hw6]
    simp only [Option.bind_some]
    have hc : w = 3 ∨ w = 4 ∨ w = 5 ∨ w = 6 := by omega
    rcases hc with rfl | rfl | rfl | rfl
    · show (if ak_inb (nI p) 4 = true then some (M.1 3 (nI p).toNatClampNeg, M) else none) = _
      rw [if_pos (zI_inb (by omega) (by omega)), zI_nat (by omega)]
      exact congrArg (fun z => some (z, M)) (h.nu p (hp (by decide)))
    · show (if ak_inb (nI p) 4 = true then some (M.1 4 (nI p).toNatClampNeg, M) else none) = _
      rw [if_pos (zI_inb (by omega) (by omega)), zI_nat (by omega)]
      exact congrArg (fun z => some (z, M)) (h.le p (hp (by decide)))
    · show (if ak_inb (nI p) 4 = true then some (M.1 5 (nI p).toNatClampNeg, M) else none) = _
      rw [if_pos (zI_inb (by omega) (by omega)), zI_nat (by omega)]
      exact congrArg (fun z => some (z, M)) (h.wi p (hp (by decide)))
    · show (if ak_inb (nI p) 4 = true then some (M.1 6 (nI p).toNatClampNeg, M) else none) = _
      rw [if_pos (zI_inb (by omega) (by omega)), zI_nat (by omega)]
      exact congrArg (fun z => some (z, M)) (h.po p (hp (by decide)))
def z18 (r : Nat) : Bool := decide (1 ≤ r) && decide (r ≤ 8)
theorem putC_ok {M : mm_M} {v : zV} (h : ShC 1 M.1 v) (hB : zB v) {w p x : Nat} (hw6 : w ≤ 6) (hp : 2 < w → p < v.n) {a2 : Int32} (ha : 2 < w → a2 = nI p) : ∃ M', sh_put 1 (nI w) a2 (nI x) M = some ((), M') ∧ ShC 1 M'.1 (zput v w p x) ∧ Fr z18 M.1 M'.1 ∧ M'.2 = M.2 := by
  have hn := hB.n
  unfold zput
  by_cases c : w ≤ 2
  · rw [if_pos c]
    have hc : w = 0 ∨ w = 1 ∨ w = 2 := by omega
    rcases hc with rfl | rfl | rfl
    · exact ⟨_, rfl, ShC_s0 h, Fr.rfl'.up rfl, rfl⟩
    · exact ⟨_, rfl, ShC_s1 h, Fr.rfl'.up rfl, rfl⟩
    · exact ⟨_, rfl, ShC_s2 h, Fr.rfl'.up rfl, rfl⟩
  · have hp := hp (by omega)
    rw [if_neg c, ha (by omega)]
    have f : ∀ w ≤ 6, 3 ≤ w → ¬ nI w = (0 : Int32) ∧ ¬ nI w = (1 : Int32) ∧ ¬ nI w = (2 : Int32) := by decide
    have g := f w hw6 (by omega)
    unfold sh_put
    rw [if_neg g.1, if_neg g.2.1, if_neg g.2.2, isOneC_eq h hB, bI_t ((z_ii (by omega)).mpr hp)]
    simp only [Option.bind_some]
    rw [if_neg (by decide), rowOf_eq (by omega) hw6]
    simp only [Option.bind_some]
    have hc : w = 3 ∨ w = 4 ∨ w = 5 ∨ w = 6 := by omega
    have i4 : ak_inb (nI p) 4 = true := zI_inb (by omega) (by omega)
    have ip : (nI p).toNatClampNeg = p := zI_nat (by omega)
    rcases hc with rfl | rfl | rfl | rfl
    · show ∃ M', (if ak_inb (nI p) 4 = true then some ((), ak_up M.1 3 (nI p).toNatClampNeg (nI x), M.2) else none) = some ((), M') ∧ _
      rw [if_pos i4, ip]
      exact ⟨_, rfl, ShC_r1 h, Fr.rfl'.up rfl, rfl⟩
    · show ∃ M', (if ak_inb (nI p) 4 = true then some ((), ak_up M.1 4 (nI p).toNatClampNeg (nI x), M.2) else none) = some ((), M') ∧ _
      rw [if_pos i4, ip]
      exact ⟨_, rfl, ShC_r2 h, Fr.rfl'.up rfl, rfl⟩
    · show ∃ M', (if ak_inb (nI p) 4 = true then some ((), ak_up M.1 5 (nI p).toNatClampNeg (nI x), M.2) else none) = some ((), M') ∧ _
      rw [if_pos i4, ip]
      exact ⟨_, rfl, ShC_r3 h, Fr.rfl'.up rfl, rfl⟩
    · show ∃ M', (if ak_inb (nI p) 4 = true then some ((), ak_up M.1 6 (nI p).toNatClampNeg (nI x), M.2) else none) = some ((), M') ∧ _
      rw [if_pos i4, ip]
      exact ⟨_, rfl, ShC_r4 h, Fr.rfl'.up rfl, rfl⟩
theorem set_C {M : mm_M} {v : zV} (h : ShC 1 M.1 v) (hB : zB v) (a1 a2 a3 : Int32) : Ok (nb_set a1 a2 a3 M) (fun y => ((zsok v a1 a2 a3 → y.1 = (zset v a1 a2 a3).1 ∧ ShC 1 y.2.1 (zset v a1 a2 a3).2) ∧ (¬ zsok v a1 a2 a3 → y.1 = -2 ∧ y.2 = M)) ∧ Fr z18 M.1 y.2.1 ∧ y.2.2 = M.2) := by
  have no : ¬ zsok v a1 a2 a3 → Ok (some ((-2 : Int32), M)) (fun y => ((zsok v a1 a2 a3 → y.1 = (zset v a1 a2 a3).1 ∧ ShC 1 y.2.1 (zset v a1 a2 a3).2) ∧ (¬ zsok v a1 a2 a3 → y.1 = -2 ∧ y.2 = M)) ∧ Fr z18 M.1 y.2.1 ∧ y.2.2 = M.2) := fun c => ok_ret ⟨⟨fun z => absurd z c, fun _ => ⟨rfl, rfl⟩⟩, Fr.rfl', rfl⟩
  have hn := hB.n
  unfold nb_set
  rw [has_eq h hB]
  simp only [Option.bind_some]
  refine ok_ite (fun c => no (fun z => bI_0.mp c ?_)) (fun c => ?_)
  · obtain ⟨z1, z2, -⟩ := z
    by_cases e : a1.toInt ≤ 2
    · exact .inl ⟨z1.1, e⟩
    · exact .inr ⟨by omega, z1.2, z2 (by omega)⟩
  rw [fits_eq]
  simp only [Option.bind_some]
  refine ok_ite (fun c2 => no (fun z => bI_0.mp c2 ⟨z.1, z.2.2⟩)) (fun c2 => ?_)
  have k1 : (0 ≤ a1.toInt ∧ a1.toInt ≤ 2) ∨ (3 ≤ a1.toInt ∧ a1.toInt ≤ 6 ∧ 0 ≤ a2.toInt ∧ a2.toInt < v.n) := by
    by_cases z : (0 ≤ a1.toInt ∧ a1.toInt ≤ 2) ∨ (3 ≤ a1.toInt ∧ a1.toInt ≤ 6 ∧ 0 ≤ a2.toInt ∧ a2.toInt < v.n)
    · exact z
    · exact absurd (bI_0.mpr z) c
  have k2 : (0 ≤ a1.toInt ∧ a1.toInt ≤ 6) ∧ (z_lo a1.toInt.toNat : Int) ≤ a3.toInt ∧ a3.toInt ≤ z_hi a1.toInt.toNat := by
    by_cases z : (0 ≤ a1.toInt ∧ a1.toInt ≤ 6) ∧ (z_lo a1.toInt.toNat : Int) ≤ a3.toInt ∧ a3.toInt ≤ z_hi a1.toInt.toNat
    · exact z
    · exact absurd (bI_0.mpr z) c2
  have hok : zsok v a1 a2 a3 := ⟨k2.1, fun z => by omega, k2.2⟩
  obtain ⟨w, hw, rfl, ew⟩ := zI_of (x := a1) (by omega)
  obtain ⟨x, hx, rfl, ex⟩ := zI_of (x := a3) (by omega)
  have ewn : (nI w).toInt.toNat = w := by omega
  have exn : (nI x).toInt.toNat = x := by omega
  have hw6 : w ≤ 6 := by omega
  have ha : 2 < w → a2 = nI a2.toInt.toNat := by
    intro z
    obtain ⟨p, hp, rfl, ep⟩ := zI_of (x := a2) (by omega)
    rw [ep]; rfl
  have hp : 2 < w → a2.toInt.toNat < v.n := fun z => by omega
  rw [numberC_eq h hB hw6 hp ha]
  simp only [Option.bind_some]
  obtain ⟨M', e1, e2, e3, e4⟩ := putC_ok (x := x) h hB hw6 hp ha
  rw [e1]
  refine ok_ret ⟨⟨fun _ => ⟨?_, ?_⟩, fun z => absurd hok z⟩, e3, e4⟩
  · show _ = nI (znum v _ _)
    rw [ewn]
  · show ShC 1 M'.1 (zput v _ _ _)
    rw [ewn, exn]
    exact e2
/-- the shop keeps its bounds -/
theorem zset_B {v : zV} (hB : zB v) {a1 a2 a3 : Int32} (hok : zsok v a1 a2 a3) : zB (zset v a1 a2 a3).2 := by
  obtain ⟨h1, h2, h3⟩ := hok
  obtain ⟨w, hw, rfl, ew⟩ := zI_of (x := a1) (by omega)
  have ewn : (nI w).toInt.toNat = w := by omega
  obtain ⟨x, hx, rfl, ex⟩ := zI_of (x := a3) (by omega)
  have exn : (nI x).toInt.toNat = x := by omega
  show zB (zput v _ _ _)
  rw [ewn, exn]
  rw [ewn] at h3
  have hb : z_lo w ≤ x ∧ x ≤ z_hi w := by omega
  have hw6 : w ≤ 6 := by omega
  clear h3 h2 h1
  generalize a2.toInt.toNat = p
  rcases w_cases hw6 with rfl | rfl | rfl | rfl | rfl | rfl | rfl
  · exact ⟨hB.n, hb.2, hB.nd, hB.ky, hB.ru, hB.kd, hB.nu, hB.le, hB.wi, hB.po, hB.bl, hB.ap, hB.az, hB.as, hB.ai⟩
  · exact ⟨hB.n, hB.yr, hb.2, hB.ky, hB.ru, hB.kd, hB.nu, hB.le, hB.wi, hB.po, hB.bl, hB.ap, hB.az, hB.as, hB.ai⟩
  · exact ⟨hB.n, hB.yr, hB.nd, hb.2, hB.ru, hB.kd, hB.nu, hB.le, hB.wi, hB.po, hB.bl, hB.ap, hB.az, hB.as, hB.ai⟩
  · refine ⟨hB.n, hB.yr, hB.nd, hB.ky, hB.ru, hB.kd, fun q hq => ?_, hB.le, hB.wi, hB.po, hB.bl, hB.ap, hB.az, hB.as, hB.ai⟩
    show (if 1 = 1 ∧ q = p then x else v.nu q) ≤ 9
    split
    · exact hb.2
    · exact hB.nu q hq
  · refine ⟨hB.n, hB.yr, hB.nd, hB.ky, hB.ru, hB.kd, hB.nu, fun q hq => ?_, hB.wi, hB.po, hB.bl, hB.ap, hB.az, hB.as, hB.ai⟩
    show 1 ≤ (if 2 = 2 ∧ q = p then x else v.le q) ∧ (if 2 = 2 ∧ q = p then x else v.le q) ≤ 4
    split
    · exact hb
    · exact hB.le q hq
  · refine ⟨hB.n, hB.yr, hB.nd, hB.ky, hB.ru, hB.kd, hB.nu, hB.le, fun q hq => ?_, hB.po, hB.bl, hB.ap, hB.az, hB.as, hB.ai⟩
    show (if 3 = 3 ∧ q = p then x else v.wi q) ≤ 255
    split
    · exact hb.2
    · exact hB.wi q hq
  · refine ⟨hB.n, hB.yr, hB.nd, hB.ky, hB.ru, hB.kd, hB.nu, hB.le, hB.wi, fun q hq => ?_, hB.bl, hB.ap, hB.az, hB.as, hB.ai⟩
    show (if 4 = 4 ∧ q = p then x else v.po q) ≤ 999
    split
    · exact hb.2
    · exact hB.po q hq
