/-! level 2: image and back of the model: loops -/
theorem md_image_l2_ok : ∀ j k n (M : mm_M), k + j = 3 → j < n → ∃ M', md_image_l2 n (nI k) M = some ((), M') ∧ (∀ i, k ≤ i → i < 3 → M'.1 86 i = M.1 77 i) ∧ (∀ r p, ¬ (r = 86 ∧ k ≤ p ∧ p < 3) → M'.1 r p = M.1 r p) ∧ M'.2 = M.2 := by
  intro j
  induction j with
  | zero =>
    intro k n M hk hj
    obtain ⟨m, rfl, -⟩ := z_suc hj
    have g : ¬ nI k < (3 : Int32) := nI_nlt (show 3 ≤ k by omega) (by omega)
    rw [md_image_l2, if_neg g]
    exact ⟨M, rfl, fun i h1 h2 => by omega, fun _ _ _ => rfl, rfl⟩
  | succ j ih =>
    intro k n M hk hj
    obtain ⟨m, rfl, hm⟩ := z_suc hj
    have g : nI k < (3 : Int32) := nI_lt (show k < 3 by omega) (by decide)
    have i4 : ak_inb (nI k) 3 = true := zI_inb (by omega) (by omega)
    have tk : (nI k).toNatClampNeg = k := zI_nat (by omega)
    rw [md_image_l2, if_pos g, if_pos i4, if_pos i4, tk, nI_1]
    obtain ⟨M', e1, e2, e3, e4⟩ := ih (k + 1) m (ak_up M.1 86 k (M.1 77 k), M.2) (by omega) (by omega)
    refine ⟨M', e1, fun i h1 h2 => ?_, fun r p hr => ?_, e4⟩
    · by_cases c : i = k
      · rw [e3 86 i (by omega), c]
        exact ak_up_same
      · rw [e2 i (by omega) h2]
        show ak_up M.1 86 k (M.1 77 k) 77 i = _
        rw [ak_up_ne (by decide)]
    · rw [e3 r p (by omega)]
      show (if r = 86 ∧ p = k then _ else M.1 r p) = _
      rw [if_neg (by omega)]
theorem md_image_l27_ok : ∀ j k n (M : mm_M), k + j = 20 → j < n → ∃ M', md_image_l27 n (nI k) M = some ((), M') ∧ (∀ i, k ≤ i → i < 20 → M'.1 87 i = M.1 79 i) ∧ (∀ r p, ¬ (r = 87 ∧ k ≤ p ∧ p < 20) → M'.1 r p = M.1 r p) ∧ M'.2 = M.2 := by
  intro j
  induction j with
  | zero =>
    intro k n M hk hj
    obtain ⟨m, rfl, -⟩ := z_suc hj
    have g : ¬ nI k < (20 : Int32) := nI_nlt (show 20 ≤ k by omega) (by omega)
    rw [md_image_l27, if_neg g]
    exact ⟨M, rfl, fun i h1 h2 => by omega, fun _ _ _ => rfl, rfl⟩
  | succ j ih =>
    intro k n M hk hj
    obtain ⟨m, rfl, hm⟩ := z_suc hj
    have g : nI k < (20 : Int32) := nI_lt (show k < 20 by omega) (by decide)
    have i4 : ak_inb (nI k) 20 = true := zI_inb (by omega) (by omega)
    have tk : (nI k).toNatClampNeg = k := zI_nat (by omega)
    rw [md_image_l27, if_pos g, if_pos i4, if_pos i4, tk, nI_1]
    obtain ⟨M', e1, e2, e3, e4⟩ := ih (k + 1) m (ak_up M.1 87 k (M.1 79 k), M.2) (by omega) (by omega)
    refine ⟨M', e1, fun i h1 h2 => ?_, fun r p hr => ?_, e4⟩
    · by_cases c : i = k
      · rw [e3 87 i (by omega), c]
        exact ak_up_same
      · rw [e2 i (by omega) h2]
        show ak_up M.1 87 k (M.1 79 k) 79 i = _
        rw [ak_up_ne (by decide)]
    · rw [e3 r p (by omega)]
      show (if r = 87 ∧ p = k then _ else M.1 r p) = _
      rw [if_neg (by omega)]
theorem md_image_l53_ok : ∀ j k n (M : mm_M), k + j = 4 → j < n → ∃ M', md_image_l53 n (nI k) M = some ((), M') ∧ (∀ i, k ≤ i → i < 4 → M'.1 88 i = M.1 80 i) ∧ (∀ r p, ¬ (r = 88 ∧ k ≤ p ∧ p < 4) → M'.1 r p = M.1 r p) ∧ M'.2 = M.2 := by
  intro j
  induction j with
  | zero =>
    intro k n M hk hj
    obtain ⟨m, rfl, -⟩ := z_suc hj
    have g : ¬ nI k < (4 : Int32) := nI_nlt (show 4 ≤ k by omega) (by omega)
    rw [md_image_l53, if_neg g]
    exact ⟨M, rfl, fun i h1 h2 => by omega, fun _ _ _ => rfl, rfl⟩
  | succ j ih =>
    intro k n M hk hj
    obtain ⟨m, rfl, hm⟩ := z_suc hj
    have g : nI k < (4 : Int32) := nI_lt (show k < 4 by omega) (by decide)
    have i4 : ak_inb (nI k) 4 = true := zI_inb (by omega) (by omega)
    have tk : (nI k).toNatClampNeg = k := zI_nat (by omega)
    rw [md_image_l53, if_pos g, if_pos i4, if_pos i4, tk, nI_1]
    obtain ⟨M', e1, e2, e3, e4⟩ := ih (k + 1) m (ak_up M.1 88 k (M.1 80 k), M.2) (by omega) (by omega)
    refine ⟨M', e1, fun i h1 h2 => ?_, fun r p hr => ?_, e4⟩
    · by_cases c : i = k
      · rw [e3 88 i (by omega), c]
        exact ak_up_same
      · rw [e2 i (by omega) h2]
        show ak_up M.1 88 k (M.1 80 k) 80 i = _
        rw [ak_up_ne (by decide)]
    · rw [e3 r p (by omega)]
      show (if r = 88 ∧ p = k then _ else M.1 r p) = _
      rw [if_neg (by omega)]
theorem md_back_l13_ok : ∀ j k n (M : mm_M), k + j = 3 → j < n → ∃ M', md_back_l13 n (nI k) M = some ((), M') ∧ (∀ i, k ≤ i → i < 3 → M'.1 77 i = M.1 86 i) ∧ (∀ r p, ¬ (r = 77 ∧ k ≤ p ∧ p < 3) → M'.1 r p = M.1 r p) ∧ M'.2 = M.2 := by
  intro j
  induction j with
  | zero =>
    intro k n M hk hj
    obtain ⟨m, rfl, -⟩ := z_suc hj
    have g : ¬ nI k < (3 : Int32) := nI_nlt (show 3 ≤ k by omega) (by omega)
    rw [md_back_l13, if_neg g]
    exact ⟨M, rfl, fun i h1 h2 => by omega, fun _ _ _ => rfl, rfl⟩
  | succ j ih =>
    intro k n M hk hj
    obtain ⟨m, rfl, hm⟩ := z_suc hj
    have g : nI k < (3 : Int32) := nI_lt (show k < 3 by omega) (by decide)
    have i4 : ak_inb (nI k) 3 = true := zI_inb (by omega) (by omega)
    have tk : (nI k).toNatClampNeg = k := zI_nat (by omega)
    rw [md_back_l13, if_pos g, if_pos i4, if_pos i4, tk, nI_1]
    obtain ⟨M', e1, e2, e3, e4⟩ := ih (k + 1) m (ak_up M.1 77 k (M.1 86 k), M.2) (by omega) (by omega)
    refine ⟨M', e1, fun i h1 h2 => ?_, fun r p hr => ?_, e4⟩
    · by_cases c : i = k
      · rw [e3 77 i (by omega), c]
        exact ak_up_same
      · rw [e2 i (by omega) h2]
        show ak_up M.1 77 k (M.1 86 k) 86 i = _
        rw [ak_up_ne (by decide)]
    · rw [e3 r p (by omega)]
      show (if r = 77 ∧ p = k then _ else M.1 r p) = _
      rw [if_neg (by omega)]
theorem md_back_l38_ok : ∀ j k n (M : mm_M), k + j = 20 → j < n → ∃ M', md_back_l38 n (nI k) M = some ((), M') ∧ (∀ i, k ≤ i → i < 20 → M'.1 79 i = M.1 87 i) ∧ (∀ r p, ¬ (r = 79 ∧ k ≤ p ∧ p < 20) → M'.1 r p = M.1 r p) ∧ M'.2 = M.2 := by
  intro j
  induction j with
  | zero =>
    intro k n M hk hj
    obtain ⟨m, rfl, -⟩ := z_suc hj
    have g : ¬ nI k < (20 : Int32) := nI_nlt (show 20 ≤ k by omega) (by omega)
    rw [md_back_l38, if_neg g]
    exact ⟨M, rfl, fun i h1 h2 => by omega, fun _ _ _ => rfl, rfl⟩
  | succ j ih =>
    intro k n M hk hj
    obtain ⟨m, rfl, hm⟩ := z_suc hj
    have g : nI k < (20 : Int32) := nI_lt (show k < 20 by omega) (by decide)
    have i4 : ak_inb (nI k) 20 = true := zI_inb (by omega) (by omega)
    have tk : (nI k).toNatClampNeg = k := zI_nat (by omega)
    rw [md_back_l38, if_pos g, if_pos i4, if_pos i4, tk, nI_1]
    obtain ⟨M', e1, e2, e3, e4⟩ := ih (k + 1) m (ak_up M.1 79 k (M.1 87 k), M.2) (by omega) (by omega)
    refine ⟨M', e1, fun i h1 h2 => ?_, fun r p hr => ?_, e4⟩
    · by_cases c : i = k
      · rw [e3 79 i (by omega), c]
        exact ak_up_same
      · rw [e2 i (by omega) h2]
        show ak_up M.1 79 k (M.1 87 k) 87 i = _
        rw [ak_up_ne (by decide)]
    · rw [e3 r p (by omega)]
      show (if r = 79 ∧ p = k then _ else M.1 r p) = _
      rw [if_neg (by omega)]
theorem md_back_l64_ok : ∀ j k n (M : mm_M), k + j = 4 → j < n → ∃ M', md_back_l64 n (nI k) M = some ((), M') ∧ (∀ i, k ≤ i → i < 4 → M'.1 80 i = M.1 88 i) ∧ (∀ r p, ¬ (r = 80 ∧ k ≤ p ∧ p < 4) → M'.1 r p = M.1 r p) ∧ M'.2 = M.2 := by
  intro j
  induction j with
  | zero =>
    intro k n M hk hj
    obtain ⟨m, rfl, -⟩ := z_suc hj
    have g : ¬ nI k < (4 : Int32) := nI_nlt (show 4 ≤ k by omega) (by omega)
    rw [md_back_l64, if_neg g]
    exact ⟨M, rfl, fun i h1 h2 => by omega, fun _ _ _ => rfl, rfl⟩
  | succ j ih =>
    intro k n M hk hj
    obtain ⟨m, rfl, hm⟩ := z_suc hj
    have g : nI k < (4 : Int32) := nI_lt (show k < 4 by omega) (by decide)
    have i4 : ak_inb (nI k) 4 = true := zI_inb (by omega) (by omega)
    have tk : (nI k).toNatClampNeg = k := zI_nat (by omega)
    rw [md_back_l64, if_pos g, if_pos i4, if_pos i4, tk, nI_1]
    obtain ⟨M', e1, e2, e3, e4⟩ := ih (k + 1) m (ak_up M.1 80 k (M.1 88 k), M.2) (by omega) (by omega)
    refine ⟨M', e1, fun i h1 h2 => ?_, fun r p hr => ?_, e4⟩
    · by_cases c : i = k
      · rw [e3 80 i (by omega), c]
        exact ak_up_same
      · rw [e2 i (by omega) h2]
        show ak_up M.1 80 k (M.1 88 k) 88 i = _
        rw [ak_up_ne (by decide)]
    · rw [e3 r p (by omega)]
      show (if r = 80 ∧ p = k then _ else M.1 r p) = _
      rw [if_neg (by omega)]
