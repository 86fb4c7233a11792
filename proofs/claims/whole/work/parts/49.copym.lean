/-! level 2: copy of the model -/
theorem z40k (s i k : Nat) : (((40 : Int32) * nI s) + nI i) + nI k = nI (40 * s + i + k) := by
  rw [z40, nI_add]
theorem zdn {n k : Nat} (h : k < n) : (nI n - (1 : Int32)) - nI k = nI (n - 1 - k) := by
  rw [show (1 : Int32) = nI 1 from rfl, zI_sub (by omega), zI_sub (by omega)]
theorem cpM_up {s i o j n : Nat} (hs : s < 4) (ho : o < 4) (hi : i + n ≤ 40) (hj : j + n ≤ 40) (hd : 40 * o + j ≤ 40 * s + i ∨ 40 * s + i + n ≤ 40 * o + j) : ∀ r k m (M : mm_M), k + r = n → r < m → ∃ M', md_copy_l121 m (nI s) (nI i) (nI o) (nI j) (nI n) (0 : Int32) (nI k) M = some ((), M') ∧ (∀ q, k ≤ q → q < n → M'.1 92 (40 * o + j + q) = M.1 92 (40 * s + i + q)) ∧ (∀ a x, ¬ (a = 92 ∧ 40 * o + j + k ≤ x ∧ x < 40 * o + j + n) → M'.1 a x = M.1 a x) ∧ M'.2 = M.2 := by
  intro r
  induction r with
  | zero =>
    intro k m M hk hm
    obtain ⟨m, rfl, -⟩ := z_suc hm
    rw [md_copy_l121, if_neg (nI_nlt (by omega) (by omega))]
    exact ⟨M, rfl, fun q h1 h2 => by omega, fun _ _ _ => rfl, rfl⟩
  | succ r ih =>
    intro k m M hk hm
    obtain ⟨m, rfl, hm2⟩ := z_suc hm
    rw [md_copy_l121, if_pos (nI_lt (show k < n by omega) (by omega)), if_pos rfl, z40k, z40k, if_pos (zI_inb (by omega) (by omega)), if_pos (zI_inb (by omega) (by omega)), nI_1, zI_nat (by omega), zI_nat (by omega)]
    obtain ⟨M', e1, e2, e3, e4⟩ := ih (k + 1) m (ak_up M.1 92 (40 * o + j + k) (M.1 92 (40 * s + i + k)), M.2) (by omega) (by omega)
    refine ⟨M', e1, fun q h1 h2 => ?_, fun a x hx => ?_, e4⟩
    · by_cases c : q = k
      · rw [e3 92 _ (by omega), c]
        exact ak_up_same
      · rw [e2 q (by omega) h2]
        exact ak_up_oth (by omega)
    · rw [e3 a x (by omega)]
      show (if a = 92 ∧ x = 40 * o + j + k then _ else M.1 a x) = _
      rw [if_neg (by omega)]
theorem cpM_dn {s i o j n : Nat} (hs : s < 4) (ho : o < 4) (hi : i + n ≤ 40) (hj : j + n ≤ 40) (hd : 40 * s + i < 40 * o + j) : ∀ r k m (M : mm_M), k + r = n → r < m → ∃ M', md_copy_l121 m (nI s) (nI i) (nI o) (nI j) (nI n) (1 : Int32) (nI k) M = some ((), M') ∧ (∀ q, q < r → M'.1 92 (40 * o + j + q) = M.1 92 (40 * s + i + q)) ∧ (∀ a x, ¬ (a = 92 ∧ 40 * o + j ≤ x ∧ x < 40 * o + j + r) → M'.1 a x = M.1 a x) ∧ M'.2 = M.2 := by
  intro r
  induction r with
  | zero =>
    intro k m M hk hm
    obtain ⟨m, rfl, -⟩ := z_suc hm
    rw [md_copy_l121, if_neg (nI_nlt (by omega) (by omega))]
    exact ⟨M, rfl, fun q h1 => by omega, fun _ _ _ => rfl, rfl⟩
  | succ r ih =>
    intro k m M hk hm
    obtain ⟨m, rfl, hm2⟩ := z_suc hm
    have er : n - 1 - k = r := by omega
    have n1 : ¬ (1 : Int32) = 0 := by decide
    rw [md_copy_l121, if_pos (nI_lt (show k < n by omega) (by omega)), if_neg n1, zdn (by omega), er, z40k, z40k, if_pos (zI_inb (by omega) (by omega)), if_pos (zI_inb (by omega) (by omega)), nI_1, zI_nat (by omega), zI_nat (by omega)]
    obtain ⟨M', e1, e2, e3, e4⟩ := ih (k + 1) m (ak_up M.1 92 (40 * o + j + r) (M.1 92 (40 * s + i + r)), M.2) (by omega) (by omega)
    refine ⟨M', e1, fun q h1 => ?_, fun a x hx => ?_, e4⟩
    · by_cases c : q = r
      · rw [e3 92 _ (by omega), c]
        exact ak_up_same
      · rw [e2 q (by omega)]
        exact ak_up_oth (by omega)
    · rw [e3 a x (by omega)]
      show (if a = 92 ∧ x = 40 * o + j + r then _ else M.1 a x) = _
      rw [if_neg (by omega)]
theorem StM_cpy {M M' : mm_M} {z : zT} (h : StM M.1 z) {s i o j n : Nat} (hs : s < 4) (ho : o < 4) (hz : z.1 s ≠ 0) (hi : i + n ≤ z.2.1 s) (hj : j + n ≤ 40) (e2 : ∀ q, q < n → M'.1 92 (40 * o + j + q) = M.1 92 (40 * s + i + q)) (e3 : ∀ a x, ¬ (a = 92 ∧ 40 * o + j ≤ x ∧ x < 40 * o + j + n) → M'.1 a x = M.1 a x) : StM M'.1 (zcopy z s i o j n) := by
  intro r hr
  obtain ⟨a1, a2, a3⟩ := h r hr
  refine ⟨?_, a2, fun w => ⟨?_, ?_, (a3 w).2.2.1, fun k hk => ?_⟩⟩
  · rw [e3 _ _ (by omega)]; exact a1
  · rw [e3 _ _ (by omega)]; exact (a3 w).1
  · rw [e3 _ _ (by omega)]; exact (a3 w).2.1
  · have hm := (a3 w).2.2.1
    have hk2 : k < z.2.1 r := hk
    show M'.1 92 (40 * r + k) = if r = o ∧ j ≤ k ∧ k < j + n then z.2.2 s (i + (k - j)) else z.2.2 r k
    by_cases c : r = o ∧ j ≤ k ∧ k < j + n
    · rw [if_pos c]
      have e := e2 (k - j) (by omega)
      have x1 : 40 * o + j + (k - j) = 40 * r + k := by omega
      have x2 : 40 * s + i + (k - j) = 40 * s + (i + (k - j)) := by omega
      rw [x1, x2] at e
      rw [e]
      exact ((h s hs).2.2 hz).2.2.2 _ (by omega)
    · rw [if_neg c, e3 _ _ (by omega)]
      exact (a3 w).2.2.2 k hk
