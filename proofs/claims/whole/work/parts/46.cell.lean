/-! level 2: cell -/
theorem reaches_eq {t n : Nat} {M : mm_M} (h : M.1 t 1 = nI n) (hn : n ≤ 40) (a1 a2 : Int32) : st_reaches t a1 a2 M = some (bI (0 ≤ a1.toInt ∧ 0 ≤ a2.toInt ∧ a1.toInt + a2.toInt ≤ n), M) := by
  have en := zI_int (show n < 2147483648 by omega)
  unfold st_reaches
  rw [h]
  by_cases c1 : a1.toInt < 0
  · rw [if_pos (by rw [i_lt]; exact c1), bI_f (by omega)]
  rw [if_neg (by rw [i_lt]; exact c1)]
  by_cases c2 : a2.toInt < 0
  · rw [if_pos (by rw [i_lt]; exact c2), bI_f (by omega)]
  rw [if_neg (by rw [i_lt]; exact c2)]
  by_cases c3 : (n : Int) < a1.toInt
  · rw [if_pos (by rw [i_lt, en]; exact c3), bI_f (by omega)]
  rw [if_neg (by rw [i_lt, en]; exact c3)]
  obtain ⟨i, hi, rfl, ei⟩ := zI_of (x := a1) (by omega)
  rw [zI_sub (by omega)]
  have em := zI_int (show n - i < 2147483648 by omega)
  by_cases c4 : ((n - i : Nat) : Int) < a2.toInt
  · rw [if_pos (by rw [i_lt, em]; exact c4), bI_f (by omega)]
  · rw [if_neg (by rw [i_lt, em]; exact c4), bI_t (by omega)]
/-- a number as a sort keeps it -/
def zkeep (so : Nat) (x : Int32) : Int32 := if so = 1 then x.toInt8.toInt32 else if so = 2 then x.toInt16.toInt32 else x
def zitem (z : zT) (s i : Nat) (x : Int32) : zT := (z.1, z.2.1, fun r j => if r = s ∧ j = i then x else z.2.2 r j)
theorem StC_item {σ : Nat → Nat → Int32} {z : zT} (h : StC σ z) {s i : Nat} {x : Int32} (hs : s < 4) : StC (ak_up σ (65 + 2 * s + 1) i x) (zitem z s i x) := by
  intro r hr
  obtain ⟨a1, a2, a3⟩ := h r hr
  refine ⟨?_, a2, fun w => ⟨?_, (a3 w).2.1, fun j hj => ?_⟩⟩
  · rw [ak_up_ne (by omega)]; exact a1
  · rw [ak_up_ne (by omega)]; exact (a3 w).1
  · show (if 65 + 2 * r + 1 = 65 + 2 * s + 1 ∧ j = i then x else σ (65 + 2 * r + 1) j) = if r = s ∧ j = i then x else z.2.2 r j
    by_cases c : r = s ∧ j = i
    · rw [if_pos c, if_pos (by omega)]
    · rw [if_neg c, if_neg (by omega)]
      exact (a3 w).2.2 j hj
theorem StM_item {σ : Nat → Nat → Int32} {z : zT} (h : StM σ z) {s i : Nat} {x : Int32} (hs : s < 4) (hi : i < 40) : StM (ak_up σ 92 (40 * s + i) x) (zitem z s i x) := by
  intro r hr
  obtain ⟨a1, a2, a3⟩ := h r hr
  refine ⟨?_, a2, fun w => ⟨?_, ?_, (a3 w).2.2.1, fun j hj => ?_⟩⟩
  · rw [ak_up_ne (by decide)]; exact a1
  · rw [ak_up_ne (by decide)]; exact (a3 w).1
  · rw [ak_up_ne (by decide)]; exact (a3 w).2.1
  · have := (a3 w).2.2.1
    have hj2 : j < z.2.1 r := hj
    show (if 92 = 92 ∧ 40 * r + j = 40 * s + i then x else σ 92 (40 * r + j)) = if r = s ∧ j = i then x else z.2.2 r j
    by_cases c : r = s ∧ j = i
    · rw [if_pos c, if_pos (by omega)]
    · rw [if_neg c, if_neg (by omega)]
      exact (a3 w).2.2.2 j hj
/-- what cell is given: 0 no such sheet, 1 missing, 2 beside it, 3 it is laid -/
def zcek (z : zT) (a1 a2 : Int32) : Nat := if ¬ (0 ≤ a1.toInt ∧ a1.toInt < 4) then 0 else if z.1 a1.toInt.toNat = 0 then 1 else if ¬ (0 ≤ a2.toInt ∧ a2.toInt < z.2.1 a1.toInt.toNat) then 2 else 3
def zcel (z : zT) (a1 a2 a3 : Int32) : zT := zitem z a1.toInt.toNat a2.toInt.toNat (zkeep (z.1 a1.toInt.toNat) a3)
def zcea (k : Nat) : Int32 := if k = 0 then -2 else if k = 1 then -11 else if k = 2 then -12 else 1
theorem z_s3 {so : Nat} (h : so ≤ 3) : (nI so - 1 = (-1 : Int32) ↔ so = 0) ∧ (nI so - 1 = (0 : Int32) ↔ so = 1) ∧ (nI so - 1 = (1 : Int32) ↔ so = 2) := by
  have f : ∀ so ≤ 3, (nI so - 1 = (-1 : Int32) ↔ so = 0) ∧ (nI so - 1 = (0 : Int32) ↔ so = 1) ∧ (nI so - 1 = (1 : Int32) ↔ so = 2) := by decide
  exact f so h
theorem missing_eq {M : mm_M} {z : zT} (h : StC M.1 z) {s : Nat} (hs : s < 4) : st_isMissing (65 + 2 * s) M = some (bI (z.1 s = 0), M) := by
  obtain ⟨a1, a2, a3⟩ := h s hs
  unfold st_isMissing
  rw [a1]
  by_cases c : z.1 s = 0
  · rw [if_pos ((z_s3 a2).1.mpr c), bI_t c]
  · rw [if_neg (fun w => c ((z_s3 a2).1.mp w)), bI_f c]
theorem put_C {M : mm_M} {z : zT} (h : StC M.1 z) {s i : Nat} (hs : s < 4) (hz : z.1 s ≠ 0) (hi : i < z.2.1 s) (x : Int32) : st_put (65 + 2 * s) (nI i) x M = some ((), (ak_up M.1 (65 + 2 * s + 1) i (zkeep (z.1 s) x), M.2)) := by
  obtain ⟨a1, a2, a3⟩ := h s hs
  obtain ⟨b1, b2, b3⟩ := a3 hz
  have ei := zI_int (show i < 2147483648 by omega)
  have i40 : ak_inb (nI i) 40 = true := zI_inb (by omega) (by omega)
  unfold st_put
  rw [reaches_eq b1 b2, bI_t (by rw [ei, show (1 : Int32).toInt = 1 from rfl]; omega)]
  simp only [Option.bind_some]
  rw [if_neg (by decide), a1, zI_nat (by omega), if_pos i40, if_pos i40, if_pos i40]
  unfold zkeep
  by_cases c1 : z.1 s = 1
  · rw [if_pos ((z_s3 a2).2.1.mpr c1), if_pos c1]
  · rw [if_neg (fun w => c1 ((z_s3 a2).2.1.mp w)), if_neg c1]
    by_cases c2 : z.1 s = 2
    · rw [if_pos ((z_s3 a2).2.2.mpr c2), if_pos c2]
    · rw [if_neg (fun w => c2 ((z_s3 a2).2.2.mp w)), if_neg c2]
theorem cell_C {M : mm_M} {z : zT} (h : StC M.1 z) (a1 a2 a3 : Int32) : Ok (nb_cell a1 a2 a3 M) (fun y => y.1 = zcea (zcek z a1 a2) ∧ StC y.2.1 (if zcek z a1 a2 = 3 then zcel z a1 a2 a3 else z) ∧ Fr z65 M.1 y.2.1 ∧ y.2.2 = M.2) := by
  have kk : ∀ (k : Nat) (r : Int32), k < 3 → zcek z a1 a2 = k → r = zcea k → Ok (some (r, M)) (fun y => y.1 = zcea (zcek z a1 a2) ∧ StC y.2.1 (if zcek z a1 a2 = 3 then zcel z a1 a2 a3 else z) ∧ Fr z65 M.1 y.2.1 ∧ y.2.2 = M.2) := by
    intro k r hk e hr
    refine ok_ret ⟨by rw [e]; exact hr, ?_, Fr.rfl', rfl⟩
    rw [if_neg (by omega)]
    exact h
  unfold nb_cell
  rw [isSheetC_eq]
  simp only [Option.bind_some]
  refine ok_ite (fun c => kk 0 _ (by omega) (by unfold zcek; rw [if_pos (bI_0.mp c)]) rfl) (fun c1 => ?_)
  have q1 := b_of c1
  obtain ⟨s, hs, rfl, es⟩ := zI_of (x := a1) q1.1
  have esn : (nI s).toInt.toNat = s := by omega
  have hs4 : s < 4 := by omega
  refine ok_pos (zI_inb hs hs4) ?_
  rw [zI_nat hs, missing_eq h hs4]
  simp only [Option.bind_some]
  by_cases cz : z.1 s = 0
  · rw [bI_t cz, if_neg (by decide)]
    exact kk 1 _ (by omega) (by unfold zcek; rw [if_neg (fun w => w q1), esn, if_pos cz]) rfl
  rw [bI_f cz, if_pos rfl]
  obtain ⟨b0, b00, b000⟩ := h s hs4
  obtain ⟨b1, b2, b3⟩ := b000 cz
  rw [reaches_eq b1 b2]
  simp only [Option.bind_some]
  refine ok_ite (fun c => kk 2 _ (by omega) ?_ rfl) (fun c2 => ?_)
  · have w := bI_0.mp c
    rw [show (1 : Int32).toInt = 1 from rfl] at w
    unfold zcek
    rw [if_neg (fun w => w q1), esn, if_neg cz, if_pos (by omega)]
  have q2 := b_of c2
  rw [show (1 : Int32).toInt = 1 from rfl] at q2
  obtain ⟨i, hi, rfl, ei⟩ := zI_of (x := a2) q2.1
  have ein : (nI i).toInt.toNat = i := by omega
  have hk : zcek z (nI s) (nI i) = 3 := by
    unfold zcek
    rw [if_neg (fun w => w q1), esn, if_neg cz, if_neg (by omega)]
  rw [put_C h hs4 cz (by omega)]
  refine ok_ret ⟨by rw [hk]; rfl, ?_, Fr.rfl'.up ?_, rfl⟩
  · rw [if_pos hk]
    unfold zcel
    rw [esn, ein]
    exact StC_item h hs4
  · unfold z65
    simp
    omega
