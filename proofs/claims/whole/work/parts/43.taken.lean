/-! level 2: taken -/
/-- whether one of kind x may be taken for one of kind k -/
def zsubk (x k : Nat) : Bool := k == 0 || x == k || (x == 3 && k == 1) || (x == 4 && k == 2)
theorem five {w : Nat} (hw : w ≤ 5) : w = 0 ∨ w = 1 ∨ w = 2 ∨ w = 3 ∨ w = 4 ∨ w = 5 := by omega
theorem isKind_eq {x k : Nat} (hx : x ≤ 5) (hk : k ≤ 5) (M : mm_M) : ru_isKind (nI x) (nI k) M = some (bI (zsubk x k = true), M) := by
  rcases five hx with rfl | rfl | rfl | rfl | rfl | rfl <;> rcases five hk with rfl | rfl | rfl | rfl | rfl | rfl <;> rfl
theorem over_l {x k : Nat} (hx : x ≤ 5) (hk : k ≤ 5) (x1 : Int32) (M : mm_M) : md_taken_l33 300 x1 (nI k) (nI x) M = some (if zsubk x k = true then nI k else -1, M) := by
  rcases five hx with rfl | rfl | rfl | rfl | rfl | rfl <;> rcases five hk with rfl | rfl | rfl | rfl | rfl | rfl <;> rfl
def ztaken (v : zV) (a1 a2 : Int32) : Int32 := if 0 ≤ a2.toInt ∧ a2.toInt ≤ 5 then (if 0 ≤ a1.toInt ∧ a1.toInt < v.n then (if zsubk (v.kd a1.toInt.toNat) a2.toInt.toNat = true then nI (v.nu a1.toInt.toNat) else -13) else -11) else -2
theorem taken_C {M : mm_M} {v : zV} (h : ShC 1 M.1 v) (hB : zB v) (a1 a2 : Int32) : nb_taken a1 a2 M = some (ztaken v a1 a2, M) := by
  have hn := hB.n
  unfold nb_taken ztaken
  simp only [i_lt, zi0, show (6 : Int32).toInt = 6 from rfl]
  by_cases c1 : a2.toInt < 0
  · rw [if_pos c1, if_neg (by omega)]
  rw [if_neg c1]
  by_cases c2 : a2.toInt < 6
  · rw [if_pos c2, if_pos (by omega), isOneC_eq h hB]
    simp only [Option.bind_some]
    by_cases c3 : 0 ≤ a1.toInt ∧ a1.toInt < v.n
    · rw [bI_t c3, if_neg (by decide), if_pos c3]
      obtain ⟨p, hp, rfl, ep⟩ := zI_of (x := a1) c3.1
      obtain ⟨k, hk, rfl, ek⟩ := zI_of (x := a2) (by omega)
      have epn : (nI p).toInt.toNat = p := by omega
      have ekn : (nI k).toInt.toNat = k := by omega
      have hp4 : p < v.n := by omega
      have i4 : ak_inb (nI p) 4 = true := zI_inb hp (by omega)
      have e1 : M.1 2 p = nI (v.kd p) := h.kd p hp4
      have e2 : M.1 3 p = nI (v.nu p) := h.nu p hp4
      rw [if_pos i4, zI_nat hp, e1, isKind_eq (hB.kd p hp4) (by omega), epn, ekn]
      simp only [Option.bind_some]
      by_cases c4 : zsubk (v.kd p) k = true
      · rw [bI_t c4, if_neg (by decide), if_pos i4, if_pos c4, e2]
      · rw [bI_f c4, if_pos rfl, if_neg c4]
    · rw [bI_f c3, if_pos rfl, if_neg c3]
  · rw [if_neg c2, if_neg (by omega)]
theorem taken_M {M : mm_M} {v : zV} (h : ShM M.1 v) (hB : zB v) (a1 a2 : Int32) : md_taken a1 a2 M = some (ztaken v a1 a2, M) := by
  have hn := hB.n
  unfold md_taken ztaken
  rw [in_eq]
  simp only [Option.bind_some, Int32.toInt_toInt64, show (0 : Int64).toInt = 0 from rfl, show (5 : Int64).toInt = 5 from rfl]
  by_cases c2 : 0 ≤ a2.toInt ∧ a2.toInt ≤ 5
  · rw [bI_t c2, if_neg (by decide), if_pos c2, isOneM_eq h hB]
    simp only [Option.bind_some]
    by_cases c3 : 0 ≤ a1.toInt ∧ a1.toInt < v.n
    · rw [bI_t c3, if_neg (by decide), if_pos c3]
      obtain ⟨p, hp, rfl, ep⟩ := zI_of (x := a1) c3.1
      obtain ⟨k, hk, rfl, ek⟩ := zI_of (x := a2) (by omega)
      have epn : (nI p).toInt.toNat = p := by omega
      have ekn : (nI k).toInt.toNat = k := by omega
      have hp4 : p < v.n := by omega
      have i4 : ak_inb (nI p) 4 = true := zI_inb hp (by omega)
      have e1 : M.1 78 p = nI (v.kd p) := h.kd p hp4
      have e2 : M.1 79 (5 * p) = nI (v.nu p) := h.nu p hp4
      have i5 : ak_inb (nI (5 * p)) 20 = true := zI_inb (by omega) (by omega)
      rw [if_pos i4, zI_nat hp, e1, over_l (hB.kd p hp4) (by omega), epn, ekn]
      simp only [Option.bind_some]
      by_cases c4 : zsubk (v.kd p) k = true
      · rw [if_pos c4, if_pos rfl, z5_0, if_pos i5, if_pos c4, zI_nat (by omega), e2]
      · have ne : ¬ (-1 : Int32) = nI k := by
          have f : ∀ k ≤ 5, ¬ (-1 : Int32) = nI k := by decide
          exact f k (by omega)
        rw [if_neg c4, if_neg ne, if_neg c4]
    · rw [bI_f c3, if_pos rfl, if_neg c3]
  · rw [bI_f c2, if_pos rfl, if_neg c2]
