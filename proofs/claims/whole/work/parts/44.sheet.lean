/-! level 2: sheets: sheet -/
/-- the sheets: sort (1 more; 0: missing), size, items -/
abbrev zT : Type := (Nat → Nat) × (Nat → Nat) × (Nat → Nat → Int32)
def StC (σ : Nat → Nat → Int32) (z : zT) : Prop := ∀ s, s < 4 → σ (65 + 2 * s) 0 = nI (z.1 s) - 1 ∧ z.1 s ≤ 3 ∧ (z.1 s ≠ 0 → σ (65 + 2 * s) 1 = nI (z.2.1 s) ∧ z.2.1 s ≤ 40 ∧ ∀ i, i < z.2.1 s → σ (65 + 2 * s + 1) i = z.2.2 s i)
def StM (σ : Nat → Nat → Int32) (z : zT) : Prop := ∀ s, s < 4 → σ 89 s = bI (z.1 s ≠ 0) ∧ z.1 s ≤ 3 ∧ (z.1 s ≠ 0 → σ 90 s = nI (z.1 s) - 1 ∧ σ 91 s = nI (z.2.1 s) ∧ z.2.1 s ≤ 40 ∧ ∀ i, i < z.2.1 s → σ 92 (40 * s + i) = z.2.2 s i)
/-- a sheet laid anew -/
def zlay (z : zT) (s so n : Nat) : zT := (fun r => if r = s then so else z.1 r, fun r => if r = s then n else z.2.1 r, fun r i => if r = s then 0 else z.2.2 r i)
theorem lay_l {t : Nat} : ∀ j k n (M : mm_M), k + j = 40 → j < n → ∃ M', st_lay_l21 n t (nI k) M = some ((), M') ∧ (∀ i, k ≤ i → i < 40 → M'.1 (t + 1) i = 0) ∧ (∀ r i, ¬ (r = t + 1 ∧ k ≤ i ∧ i < 40) → M'.1 r i = M.1 r i) ∧ M'.2 = M.2 := by
  intro j
  induction j with
  | zero =>
    intro k n M hk hj
    obtain ⟨m, rfl, -⟩ := z_suc hj
    have g : ¬ nI k < (40 : Int32) := nI_nlt (show 40 ≤ k by omega) (by omega)
    rw [st_lay_l21, if_neg g]
    exact ⟨M, rfl, fun i h1 h2 => by omega, fun _ _ _ => rfl, rfl⟩
  | succ j ih =>
    intro k n M hk hj
    obtain ⟨m, rfl, hm⟩ := z_suc hj
    have g : nI k < (40 : Int32) := nI_lt (show k < 40 by omega) (by decide)
    rw [st_lay_l21, if_pos g, if_pos (zI_inb (by omega) (by omega)), nI_1, zI_nat (by omega)]
    obtain ⟨M', e1, e2, e3, e4⟩ := ih (k + 1) m (ak_up M.1 (t + 1) k (0 : Int32), M.2) (by omega) (by omega)
    refine ⟨M', e1, fun i h1 h2 => ?_, fun r i hr => ?_, e4⟩
    · by_cases c : i = k
      · rw [e3 (t + 1) i (by omega)]
        show (if t + 1 = t + 1 ∧ i = k then (0 : Int32) else M.1 (t + 1) i) = 0
        rw [if_pos ⟨rfl, c⟩]
      · exact e2 i (by omega) h2
    · rw [e3 r i (by omega)]
      show (if r = t + 1 ∧ i = k then (0 : Int32) else M.1 r i) = _
      rw [if_neg (by omega)]
theorem z_clip {n : Int32} : i_max (0 : Int32) (i_min n (40 : Int32)) = (if n < 0 then 0 else if (40 : Int32) < n then 40 else n) := by
  show (if (0 : Int32) < (if (40 : Int32) < n then 40 else n) then (if (40 : Int32) < n then 40 else n) else 0) = _
  simp only [i_lt, i_eq, zi0, show (40 : Int32).toInt = 40 from rfl]
  repeat' split
  all_goals first
    | rfl
    | omega
    | (rw [zi0] at *; omega)
    | (simp only [zi0, show (40 : Int32).toInt = 40 from rfl] at *; omega)
def z65 (r : Nat) : Bool := decide (65 ≤ r) && decide (r ≤ 72)
theorem lay_C {M : mm_M} {z : zT} (h : StC M.1 z) {s so n : Nat} (hs : s < 4) (hso : so ≤ 3) (hn : n ≤ 40) : ∃ M', st_lay (65 + 2 * s) (nI so - 1) (nI n) M = some ((), M') ∧ StC M'.1 (zlay z s so n) ∧ Fr z65 M.1 M'.1 ∧ M'.2 = M.2 := by
  have f : ∀ n ≤ 40, i_max (0 : Int32) (i_min (nI n) (40 : Int32)) = nI n := by decide +kernel
  obtain ⟨M', e1, e2, e3, e4⟩ := lay_l (t := 65 + 2 * s) 40 0 300 (ak_up (ak_up M.1 (65 + 2 * s) 0 (nI so - 1)) (65 + 2 * s) 1 (nI n), M.2) (by omega) (by omega)
  have e1' : st_lay_l21 300 (65 + 2 * s) (0 : Int32) (ak_up (ak_up M.1 (65 + 2 * s) 0 (nI so - 1)) (65 + 2 * s) 1 (nI n), M.2) = some ((), M') := e1
  have q : ∀ r i, ¬ (r = 65 + 2 * s + 1 ∧ i < 40) → M'.1 r i = if r = 65 + 2 * s ∧ i = 1 then nI n else if r = 65 + 2 * s ∧ i = 0 then nI so - 1 else M.1 r i := fun r i hr => e3 r i (by omega)
  unfold st_lay
  rw [f n hn, e1']
  refine ⟨M', rfl, ?_, ?_, e4⟩
  · intro r hr
    by_cases c : r = s
    · subst c
      show M'.1 (65 + 2 * r) 0 = nI (if r = r then so else z.1 r) - 1 ∧ (if r = r then so else z.1 r) ≤ 3 ∧ ((if r = r then so else z.1 r) ≠ 0 → M'.1 (65 + 2 * r) 1 = nI (if r = r then n else z.2.1 r) ∧ (if r = r then n else z.2.1 r) ≤ 40 ∧ ∀ i, i < (if r = r then n else z.2.1 r) → M'.1 (65 + 2 * r + 1) i = if r = r then 0 else z.2.2 r i)
      rw [if_pos rfl, if_pos rfl]
      refine ⟨?_, hso, fun _ => ⟨?_, hn, fun i hi => ?_⟩⟩
      · rw [q _ _ (by omega), if_neg (by omega), if_pos ⟨rfl, rfl⟩]
      · rw [q _ _ (by omega), if_pos ⟨rfl, rfl⟩]
      · rw [if_pos rfl]
        exact e2 i (by omega) (by omega)
    · obtain ⟨a1, a2, a3⟩ := h r hr
      show M'.1 (65 + 2 * r) 0 = nI (if r = s then so else z.1 r) - 1 ∧ (if r = s then so else z.1 r) ≤ 3 ∧ ((if r = s then so else z.1 r) ≠ 0 → M'.1 (65 + 2 * r) 1 = nI (if r = s then n else z.2.1 r) ∧ (if r = s then n else z.2.1 r) ≤ 40 ∧ ∀ i, i < (if r = s then n else z.2.1 r) → M'.1 (65 + 2 * r + 1) i = if r = s then 0 else z.2.2 r i)
      rw [if_neg c, if_neg c]
      refine ⟨?_, a2, fun w => ⟨?_, (a3 w).2.1, fun i hi => ?_⟩⟩
      · rw [q _ _ (by omega), if_neg (by omega), if_neg (by omega)]
        exact a1
      · rw [q _ _ (by omega), if_neg (by omega), if_neg (by omega)]
        exact (a3 w).1
      · rw [if_neg c, q _ _ (by omega), if_neg (by omega), if_neg (by omega)]
        exact (a3 w).2.2 i hi
  · intro r hr
    funext i
    have hr' : ¬ (65 ≤ r ∧ r ≤ 72) := by
      intro w
      unfold z65 at hr
      simp [w.1, w.2] at hr
    rw [q r i (by omega), if_neg (by omega), if_neg (by omega)]
/-- what sheet is given: 0 no such sheet or sort or too many, 1 below zero, 2 it is laid -/
def zshk (a1 a2 a3 : Int32) : Nat := if ¬ (0 ≤ a1.toInt ∧ a1.toInt < 4) then 0 else if a2.toInt = -1 then 2 else if ¬ (0 ≤ a2.toInt ∧ a2.toInt ≤ 2) then 0 else if 40 < a3.toInt then 0 else if a3.toInt < 0 then 1 else 2
def zshl (z : zT) (a1 a2 a3 : Int32) : zT := if a2.toInt = -1 then zlay z a1.toInt.toNat 0 0 else zlay z a1.toInt.toNat (a2.toInt.toNat + 1) a3.toInt.toNat
theorem isSort_eq (a : Int32) (M : mm_M) : st_isSort a M = some (bI (0 ≤ a.toInt ∧ a.toInt ≤ 2), M) := by
  unfold st_isSort bI
  simp only [i_lt, zi0, show (2 : Int32).toInt = 2 from rfl]
  repeat' split
  all_goals first | rfl | omega
theorem sheet_C {M : mm_M} {z : zT} (h : StC M.1 z) (a1 a2 a3 : Int32) : Ok (nb_sheet a1 a2 a3 M) (fun y => (zshk a1 a2 a3 = 0 → y.1 = -2 ∧ y.2 = M) ∧ (zshk a1 a2 a3 = 1 → y.1 = -14 ∧ y.2 = M) ∧ (zshk a1 a2 a3 = 2 → y.1 = 1 ∧ StC y.2.1 (zshl z a1 a2 a3)) ∧ Fr z65 M.1 y.2.1 ∧ y.2.2 = M.2) := by
  have k0 : zshk a1 a2 a3 = 0 → Ok (some ((-2 : Int32), M)) (fun y => (zshk a1 a2 a3 = 0 → y.1 = -2 ∧ y.2 = M) ∧ (zshk a1 a2 a3 = 1 → y.1 = -14 ∧ y.2 = M) ∧ (zshk a1 a2 a3 = 2 → y.1 = 1 ∧ StC y.2.1 (zshl z a1 a2 a3)) ∧ Fr z65 M.1 y.2.1 ∧ y.2.2 = M.2) := fun e => ok_ret ⟨fun _ => ⟨rfl, rfl⟩, fun w => by omega, fun w => by omega, Fr.rfl', rfl⟩
  have k1 : zshk a1 a2 a3 = 1 → Ok (some ((-14 : Int32), M)) (fun y => (zshk a1 a2 a3 = 0 → y.1 = -2 ∧ y.2 = M) ∧ (zshk a1 a2 a3 = 1 → y.1 = -14 ∧ y.2 = M) ∧ (zshk a1 a2 a3 = 2 → y.1 = 1 ∧ StC y.2.1 (zshl z a1 a2 a3)) ∧ Fr z65 M.1 y.2.1 ∧ y.2.2 = M.2) := fun e => ok_ret ⟨fun w => by omega, fun _ => ⟨rfl, rfl⟩, fun w => by omega, Fr.rfl', rfl⟩
  have em1 : ∀ x : Int32, x = (-1 : Int32) ↔ x.toInt = -1 := fun x => by rw [i_eq]; rfl
  unfold nb_sheet
  rw [isSheetC_eq]
  simp only [Option.bind_some]
  refine ok_ite (fun c => k0 (by unfold zshk; rw [if_pos (bI_0.mp c)])) (fun c1 => ?_)
  have q1 := b_of c1
  obtain ⟨s, hs, rfl, es⟩ := zI_of (x := a1) q1.1
  have esn : (nI s).toInt.toNat = s := by omega
  refine ok_ite (fun c2 => ?_) (fun c2 => ?_)
  · refine ok_pos c2 (ok_pos (zI_inb hs (by omega)) ?_)
    rw [em1] at c2
    obtain ⟨M', e1, e2, e3, e4⟩ := lay_C h (s := s) (so := 0) (n := 0) (by omega) (by omega) (by omega)
    have e1' : st_lay (65 + 2 * s) (-1 : Int32) (0 : Int32) M = some ((), M') := e1
    rw [zI_nat hs, e1']
    have hk : zshk (nI s) a2 a3 = 2 := by unfold zshk; rw [if_neg (fun w => w q1), if_pos c2]
    refine ok_ret ⟨fun w => by omega, fun w => by omega, fun _ => ⟨rfl, ?_⟩, e3, e4⟩
    unfold zshl
    rw [if_pos c2, esn]
    exact e2
  · rw [isSort_eq]
    simp only [Option.bind_some]
    have c2' : ¬ a2.toInt = -1 := fun w => c2 ((em1 a2).mpr w)
    refine ok_ite (fun c => k0 (by unfold zshk; rw [if_neg (fun w => w q1), if_neg c2', if_pos (bI_0.mp c)])) (fun c3 => ?_)
    have q3 := b_of c3
    refine ok_neg c2 ?_
    simp only [i_lt, zi0, show (40 : Int32).toInt = 40 from rfl]
    refine ok_ite (fun c => k0 (by unfold zshk; rw [if_neg (fun w => w q1), if_neg c2', if_neg (fun w => w q3), if_pos c])) (fun c4 => ?_)
    refine ok_ite (fun c => k1 (by unfold zshk; rw [if_neg (fun w => w q1), if_neg c2', if_neg (fun w => w q3), if_neg c4, if_pos c])) (fun c5 => ?_)
    have hk : zshk (nI s) a2 a3 = 2 := by unfold zshk; rw [if_neg (fun w => w q1), if_neg c2', if_neg (fun w => w q3), if_neg c4, if_neg c5]
    obtain ⟨o, ho, rfl, eo⟩ := zI_of (x := a2) q3.1
    obtain ⟨n, hn, rfl, en⟩ := zI_of (x := a3) (by omega)
    have eon : (nI o).toInt.toNat = o := by omega
    have enn : (nI n).toInt.toNat = n := by omega
    obtain ⟨M', e1, e2, e3, e4⟩ := lay_C h (s := s) (so := o + 1) (n := n) (by omega) (by omega) (by omega)
    rw [nI_pred] at e1
    refine ok_pos (zI_inb hs (by omega)) ?_
    rw [zI_nat hs, e1]
    refine ok_ret ⟨fun w => by omega, fun w => by omega, fun _ => ⟨rfl, ?_⟩, e3, e4⟩
    unfold zshl
    rw [if_neg c2', esn, eon, enn]
    exact e2
