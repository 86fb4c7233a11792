/-! level 2: sheet of the model -/
theorem z40 (s k : Nat) : ((40 : Int32) * nI s) + nI k = nI (40 * s + k) := by
  rw [show (40 : Int32) = nI 40 from rfl, zI_mul, nI_add]
theorem layM_l {s o N : Nat} (hs : s < 4) (ho : o ≤ 2) (hN : N ≤ 40) : ∀ j k n (M : mm_M), k + j = N → j < n → ∃ M', md_sheet_l77 n (nI s) (nI o) (nI N) (nI k) M = some ((), M') ∧ (∀ i, k ≤ i → i < N → M'.1 92 (40 * s + i) = 0) ∧ (∀ r i, ¬ (r = 92 ∧ 40 * s + k ≤ i ∧ i < 40 * s + N) → M'.1 r i = M.1 r i) ∧ M'.2 = M.2 := by
  have ho0 : ¬ nI o < (0 : Int32) := nI_pos (by omega)
  intro j
  induction j with
  | zero =>
    intro k n M hk hj
    obtain ⟨m, rfl, -⟩ := z_suc hj
    rw [md_sheet_l77, if_neg (nI_nlt (by omega) (by omega))]
    exact ⟨M, rfl, fun i h1 h2 => by omega, fun _ _ _ => rfl, rfl⟩
  | succ j ih =>
    intro k n M hk hj
    obtain ⟨m, rfl, hm⟩ := z_suc hj
    rw [md_sheet_l77, if_pos (nI_lt (show k < N by omega) (by omega)), if_neg ho0, z40, if_pos (zI_inb (by omega) (by omega)), nI_1, zI_nat (by omega)]
    obtain ⟨M', e1, e2, e3, e4⟩ := ih (k + 1) m (ak_up M.1 92 (40 * s + k) (0 : Int32), M.2) (by omega) (by omega)
    refine ⟨M', e1, fun i h1 h2 => ?_, fun r i hr => ?_, e4⟩
    · by_cases c : i = k
      · rw [e3 92 (40 * s + i) (by omega)]
        show (if 92 = 92 ∧ 40 * s + i = 40 * s + k then (0 : Int32) else M.1 92 (40 * s + i)) = 0
        rw [if_pos ⟨rfl, by omega⟩]
      · exact e2 i (by omega) h2
    · rw [e3 r i (by omega)]
      show (if r = 92 ∧ i = 40 * s + k then (0 : Int32) else M.1 r i) = _
      rw [if_neg (by omega)]
def z89 (r : Nat) : Bool := decide (89 ≤ r) && decide (r ≤ 92)
theorem z89_of {r : Nat} (hr : z89 r = false) : ¬ (89 ≤ r ∧ r ≤ 92) := by
  intro w
  unfold z89 at hr
  simp [w.1, w.2] at hr
theorem layM_miss {M : mm_M} {z : zT} (h : StM M.1 z) {s : Nat} (hs : s < 4) (a : Int32) : StM (ak_up (ak_up (ak_up M.1 89 s (0 : Int32)) 90 s (-1 : Int32)) 91 s a) (zlay z s 0 0) := by
  intro r hr
  obtain ⟨a1, a2, a3⟩ := h r hr
  by_cases c : r = s
  · subst c
    refine ⟨?_, ?_, fun w => ?_⟩
    · show ak_up _ 91 r a 89 r = bI ((if r = r then 0 else z.1 r) ≠ 0)
      rw [bI_f (by simp)]
      simp [up_ap]
    · show (if r = r then 0 else z.1 r) ≤ 3
      rw [if_pos rfl]
      omega
    · exact absurd (if_pos rfl) w
  · show ak_up (ak_up (ak_up M.1 89 s (0 : Int32)) 90 s (-1 : Int32)) 91 s a 89 r = bI ((if r = s then 0 else z.1 r) ≠ 0) ∧ (if r = s then 0 else z.1 r) ≤ 3 ∧ ((if r = s then 0 else z.1 r) ≠ 0 → ak_up (ak_up (ak_up M.1 89 s (0 : Int32)) 90 s (-1 : Int32)) 91 s a 90 r = nI (if r = s then 0 else z.1 r) - 1 ∧ ak_up (ak_up (ak_up M.1 89 s (0 : Int32)) 90 s (-1 : Int32)) 91 s a 91 r = nI (if r = s then 0 else z.2.1 r) ∧ (if r = s then 0 else z.2.1 r) ≤ 40 ∧ ∀ i, i < (if r = s then 0 else z.2.1 r) → ak_up (ak_up (ak_up M.1 89 s (0 : Int32)) 90 s (-1 : Int32)) 91 s a 92 (40 * r + i) = if r = s then 0 else z.2.2 r i)
    simp only [if_neg c, up_ap, c, and_false, if_false]
    refine ⟨?_, a2, fun w => ?_⟩
    · simp
      exact a1
    · obtain ⟨b1, b2, b3, b4⟩ := a3 w
      refine ⟨by simpa using b1, by simpa using b2, b3, fun i hi => ?_⟩
      simp
      exact b4 i hi
theorem layM_there {M : mm_M} {z : zT} (h : StM M.1 z) {s o n : Nat} (hs : s < 4) (ho : o ≤ 2) (hn : n ≤ 40) : ∃ M', md_sheet_l77 300 (nI s) (nI o) (nI n) (0 : Int32) (ak_up (ak_up (ak_up M.1 89 s (1 : Int32)) 90 s (nI o)) 91 s (nI n), M.2) = some ((), M') ∧ StM M'.1 (zlay z s (o + 1) n) ∧ Fr z89 M.1 M'.1 ∧ M'.2 = M.2 := by
  obtain ⟨M', e1, e2, e3, e4⟩ := layM_l hs ho hn n 0 300 (ak_up (ak_up (ak_up M.1 89 s (1 : Int32)) 90 s (nI o)) 91 s (nI n), M.2) (by omega) (by omega)
  have q : ∀ r i, ¬ (r = 92 ∧ 40 * s ≤ i ∧ i < 40 * s + n) → M'.1 r i = if r = 91 ∧ i = s then nI n else if r = 90 ∧ i = s then nI o else if r = 89 ∧ i = s then 1 else M.1 r i := fun r i hr => e3 r i (by omega)
  refine ⟨M', e1, ?_, ?_, e4⟩
  · intro r hr
    by_cases c : r = s
    · subst c
      show M'.1 89 r = bI ((if r = r then o + 1 else z.1 r) ≠ 0) ∧ (if r = r then o + 1 else z.1 r) ≤ 3 ∧ ((if r = r then o + 1 else z.1 r) ≠ 0 → M'.1 90 r = nI (if r = r then o + 1 else z.1 r) - 1 ∧ M'.1 91 r = nI (if r = r then n else z.2.1 r) ∧ (if r = r then n else z.2.1 r) ≤ 40 ∧ ∀ i, i < (if r = r then n else z.2.1 r) → M'.1 92 (40 * r + i) = if r = r then 0 else z.2.2 r i)
      rw [if_pos rfl, if_pos rfl]
      refine ⟨?_, by omega, fun _ => ⟨?_, ?_, hn, fun i hi => ?_⟩⟩
      · rw [bI_t (Nat.succ_ne_zero o), q _ _ (by omega), if_neg (by omega), if_neg (by omega), if_pos ⟨rfl, rfl⟩]
      · rw [nI_pred, q _ _ (by omega), if_neg (by omega), if_pos ⟨rfl, rfl⟩]
      · rw [q _ _ (by omega), if_pos ⟨rfl, rfl⟩]
      · rw [if_pos rfl]
        exact e2 i (by omega) hi
    · obtain ⟨a1, a2, a3⟩ := h r hr
      have z1 : (zlay z s (o + 1) n).1 r = z.1 r := if_neg c
      have z2 : (zlay z s (o + 1) n).2.1 r = z.2.1 r := if_neg c
      rw [z1, z2]
      refine ⟨?_, a2, fun w => ⟨?_, ?_, (a3 w).2.2.1, fun i hi => ?_⟩⟩
      · rw [q _ _ (by omega), if_neg (by omega), if_neg (by omega), if_neg (by omega), a1]
      · rw [q _ _ (by omega), if_neg (by omega), if_neg (by omega), if_neg (by omega)]
        exact (a3 w).1
      · rw [q _ _ (by omega), if_neg (by omega), if_neg (by omega), if_neg (by omega)]
        exact (a3 w).2.1
      · have z3 : (zlay z s (o + 1) n).2.2 r i = z.2.2 r i := if_neg c
        have hm := (a3 w).2.2.1
        rw [z3, q _ _ (by omega), if_neg (by omega), if_neg (by omega), if_neg (by omega)]
        exact (a3 w).2.2.2 i hi
  · intro r hr
    have := z89_of hr
    funext i
    rw [q r i (by omega), if_neg (by omega), if_neg (by omega), if_neg (by omega)]
theorem sheet_M {M : mm_M} {z : zT} (h : StM M.1 z) (a1 a2 a3 : Int32) : Ok (md_sheet a1 a2 a3 M) (fun y => (zshk a1 a2 a3 = 0 → y.1 = -2 ∧ y.2 = M) ∧ (zshk a1 a2 a3 = 1 → y.1 = -14 ∧ y.2 = M) ∧ (zshk a1 a2 a3 = 2 → y.1 = 1 ∧ StM y.2.1 (zshl z a1 a2 a3)) ∧ Fr z89 M.1 y.2.1 ∧ y.2.2 = M.2) := by
  have k0 : zshk a1 a2 a3 = 0 → Ok (some ((-2 : Int32), M)) (fun y => (zshk a1 a2 a3 = 0 → y.1 = -2 ∧ y.2 = M) ∧ (zshk a1 a2 a3 = 1 → y.1 = -14 ∧ y.2 = M) ∧ (zshk a1 a2 a3 = 2 → y.1 = 1 ∧ StM y.2.1 (zshl z a1 a2 a3)) ∧ Fr z89 M.1 y.2.1 ∧ y.2.2 = M.2) := fun e => ok_ret ⟨fun _ => ⟨rfl, rfl⟩, fun w => by omega, fun w => by omega, Fr.rfl', rfl⟩
  have k1 : zshk a1 a2 a3 = 1 → Ok (some ((-14 : Int32), M)) (fun y => (zshk a1 a2 a3 = 0 → y.1 = -2 ∧ y.2 = M) ∧ (zshk a1 a2 a3 = 1 → y.1 = -14 ∧ y.2 = M) ∧ (zshk a1 a2 a3 = 2 → y.1 = 1 ∧ StM y.2.1 (zshl z a1 a2 a3)) ∧ Fr z89 M.1 y.2.1 ∧ y.2.2 = M.2) := fun e => ok_ret ⟨fun w => by omega, fun _ => ⟨rfl, rfl⟩, fun w => by omega, Fr.rfl', rfl⟩
  unfold md_sheet
  rw [isSheetM_eq]
  simp only [Option.bind_some]
  refine ok_ite (fun c => k0 (by unfold zshk; rw [if_pos (bI_0.mp c)])) (fun c1 => ?_)
  have q1 := b_of c1
  obtain ⟨s, hs, rfl, es⟩ := zI_of (x := a1) q1.1
  have esn : (nI s).toInt.toNat = s := by omega
  have is : ak_inb (nI s) 4 = true := zI_inb hs (by omega)
  rw [in_eq]
  simp only [Option.bind_some, Int32.toInt_toInt64, show (-1 : Int64).toInt = -1 from rfl, show (2 : Int64).toInt = 2 from rfl]
  refine ok_ite (fun c => k0 ?_) (fun c2 => ?_)
  · have w := bI_0.mp c
    unfold zshk
    rw [if_neg (fun w => w q1), if_neg (by omega), if_pos (by omega)]
  have q2 := b_of c2
  simp only [i_lt, zi0, show (40 : Int32).toInt = 40 from rfl]
  by_cases c3 : a2.toInt < 0
  · have e2 : a2 = (-1 : Int32) := by rw [i_eq]; show a2.toInt = -1; omega
    have e2i : a2.toInt = -1 := by omega
    have hk : zshk (nI s) a2 a3 = 2 := by unfold zshk; rw [if_neg (fun w => w q1), if_pos e2i]
    rw [if_pos c3, if_pos c3, if_pos c3, if_pos is, if_pos is, if_pos is, zI_nat hs]
    have el : md_sheet_l77 300 (nI s) a2 a3 (0 : Int32) (ak_up (ak_up (ak_up M.1 89 s (0 : Int32)) 90 s a2) 91 s a3, M.2) = some ((), (ak_up (ak_up (ak_up M.1 89 s (0 : Int32)) 90 s a2) 91 s a3, M.2)) := by
      rw [md_sheet_l77]
      split
      · rw [if_pos (by rw [i_lt]; exact c3)]
      · rfl
    rw [el]
    refine ok_ret ⟨fun w => by omega, fun w => by omega, fun _ => ⟨rfl, ?_⟩, ((Fr.rfl'.up rfl).up rfl).up rfl, rfl⟩
    unfold zshl
    rw [if_pos e2i, esn, e2]
    exact layM_miss h (by omega) a3
  · rw [if_neg c3]
    have c2' : ¬ a2.toInt = -1 := by omega
    have q3 : 0 ≤ a2.toInt ∧ a2.toInt ≤ 2 := by omega
    refine ok_ite (fun c => k0 (by unfold zshk; rw [if_neg (fun w => w q1), if_neg c2', if_neg (fun w => w q3), if_pos c])) (fun c4 => ?_)
    rw [if_neg c3]
    refine ok_ite (fun c => k1 (by unfold zshk; rw [if_neg (fun w => w q1), if_neg c2', if_neg (fun w => w q3), if_neg c4, if_pos c])) (fun c5 => ?_)
    have hk : zshk (nI s) a2 a3 = 2 := by unfold zshk; rw [if_neg (fun w => w q1), if_neg c2', if_neg (fun w => w q3), if_neg c4, if_neg c5]
    obtain ⟨o, ho, rfl, eo⟩ := zI_of (x := a2) q3.1
    obtain ⟨n, hn, rfl, en⟩ := zI_of (x := a3) (by omega)
    have eon : (nI o).toInt.toNat = o := by omega
    have enn : (nI n).toInt.toNat = n := by omega
    obtain ⟨M', e1, e2, e3, e4⟩ := layM_there h (s := s) (o := o) (n := n) (by omega) (by omega) (by omega)
    rw [if_neg c3, if_pos is, if_pos is, if_pos is, zI_nat hs, e1]
    refine ok_ret ⟨fun w => by omega, fun w => by omega, fun _ => ⟨rfl, ?_⟩, e3, e4⟩
    unfold zshl
    rw [if_neg c2', esn, eon, enn]
    exact e2
