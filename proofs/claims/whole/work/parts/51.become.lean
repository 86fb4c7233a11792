/-! level 2: a shop becomes another (class) -/
theorem become_l {a b : Nat} (hab : a + 7 < b ∨ b + 7 < a) : ∀ j k n (M : mm_M), k + j = 4 → j < n → ∃ M', sh_become_l42 n a b (nI k) M = some ((), M') ∧ (∀ c p, 1 ≤ c → c ≤ 7 → k ≤ p → p < 4 → M'.1 (a + c) p = M.1 (b + c) p) ∧ (∀ r p, ¬ (a + 1 ≤ r ∧ r ≤ a + 7 ∧ k ≤ p ∧ p < 4) → M'.1 r p = M.1 r p) ∧ M'.2 = M.2 := by
  intro j
  induction j with
  | zero =>
    intro k n M hk hj
    obtain ⟨m, rfl, -⟩ := z_suc hj
    have g : ¬ nI k < (4 : Int32) := nI_nlt (show 4 ≤ k by omega) (by omega)
    rw [sh_become_l42, if_neg g]
    exact ⟨M, rfl, fun c p _ _ h1 h2 => by omega, fun _ _ _ => rfl, rfl⟩
  | succ j ih =>
    intro k n M hk hj
    obtain ⟨m, rfl, hm⟩ := z_suc hj
    have g : nI k < (4 : Int32) := nI_lt (show k < 4 by omega) (by decide)
    have i4 : ak_inb (nI k) 4 = true := zI_inb (by omega) (by omega)
    have tk : (nI k).toNatClampNeg = k := zI_nat (by omega)
    rw [sh_become_l42, if_pos g]
    simp only [i4, if_true, tk, nI_1]
    have st : ∀ (σ : Nat → Nat → Int32), (ak_up (ak_up (ak_up (ak_up (ak_up (ak_up (ak_up σ (a + 1) k (σ (b + 1) k)) (a + 2) k (σ (b + 2) k)) (a + 3) k (σ (b + 3) k)) (a + 4) k (σ (b + 4) k)) (a + 5) k (σ (b + 5) k)) (a + 6) k (σ (b + 6) k)) (a + 7) k (σ (b + 7) k)) = (fun r p => if a + 1 ≤ r ∧ r ≤ a + 7 ∧ p = k then σ (b + (r - a)) k else σ r p) := by
      intro σ
      funext r p
      simp only [up_ap]
      by_cases c : a + 1 ≤ r ∧ r ≤ a + 7 ∧ p = k
      · rw [if_pos c]
        have hc : r = a + 1 ∨ r = a + 2 ∨ r = a + 3 ∨ r = a + 4 ∨ r = a + 5 ∨ r = a + 6 ∨ r = a + 7 := by omega
        obtain ⟨-, -, c3⟩ := c
        subst c3
        rcases hc with rfl | rfl | rfl | rfl | rfl | rfl | rfl <;> simp
      · rw [if_neg c]
        repeat' rw [if_neg (by omega)]
    simp only [ak_up_ne (show b + 1 ≠ a + 1 by omega), ak_up_ne (show b + 1 ≠ a + 2 by omega), ak_up_ne (show b + 1 ≠ a + 3 by omega), ak_up_ne (show b + 1 ≠ a + 4 by omega), ak_up_ne (show b + 1 ≠ a + 5 by omega), ak_up_ne (show b + 1 ≠ a + 6 by omega), ak_up_ne (show b + 1 ≠ a + 7 by omega), ak_up_ne (show b + 2 ≠ a + 1 by omega), ak_up_ne (show b + 2 ≠ a + 2 by omega), ak_up_ne (show b + 2 ≠ a + 3 by omega), ak_up_ne (show b + 2 ≠ a + 4 by omega), ak_up_ne (show b + 2 ≠ a + 5 by omega), ak_up_ne (show b + 2 ≠ a + 6 by omega), ak_up_ne (show b + 2 ≠ a + 7 by omega), ak_up_ne (show b + 3 ≠ a + 1 by omega), ak_up_ne (show b + 3 ≠ a + 2 by omega), ak_up_ne (show b + 3 ≠ a + 3 by omega), ak_up_ne (show b + 3 ≠ a + 4 by omega), ak_up_ne (show b + 3 ≠ a + 5 by omega), ak_up_ne (show b + 3 ≠ a + 6 by omega), ak_up_ne (show b + 3 ≠ a + 7 by omega), ak_up_ne (show b + 4 ≠ a + 1 by omega), ak_up_ne (show b + 4 ≠ a + 2 by omega), ak_up_ne (show b + 4 ≠ a + 3 by omega), ak_up_ne (show b + 4 ≠ a + 4 by omega), ak_up_ne (show b + 4 ≠ a + 5 by omega), ak_up_ne (show b + 4 ≠ a + 6 by omega), ak_up_ne (show b + 4 ≠ a + 7 by omega), ak_up_ne (show b + 5 ≠ a + 1 by omega), ak_up_ne (show b + 5 ≠ a + 2 by omega), ak_up_ne (show b + 5 ≠ a + 3 by omega), ak_up_ne (show b + 5 ≠ a + 4 by omega), ak_up_ne (show b + 5 ≠ a + 5 by omega), ak_up_ne (show b + 5 ≠ a + 6 by omega), ak_up_ne (show b + 5 ≠ a + 7 by omega), ak_up_ne (show b + 6 ≠ a + 1 by omega), ak_up_ne (show b + 6 ≠ a + 2 by omega), ak_up_ne (show b + 6 ≠ a + 3 by omega), ak_up_ne (show b + 6 ≠ a + 4 by omega), ak_up_ne (show b + 6 ≠ a + 5 by omega), ak_up_ne (show b + 6 ≠ a + 6 by omega), ak_up_ne (show b + 6 ≠ a + 7 by omega), ak_up_ne (show b + 7 ≠ a + 1 by omega), ak_up_ne (show b + 7 ≠ a + 2 by omega), ak_up_ne (show b + 7 ≠ a + 3 by omega), ak_up_ne (show b + 7 ≠ a + 4 by omega), ak_up_ne (show b + 7 ≠ a + 5 by omega), ak_up_ne (show b + 7 ≠ a + 6 by omega), ak_up_ne (show b + 7 ≠ a + 7 by omega)]
    rw [st]
    obtain ⟨M', e1, e2, e3, e4⟩ := ih (k + 1) m ((fun r p => if a + 1 ≤ r ∧ r ≤ a + 7 ∧ p = k then M.1 (b + (r - a)) k else M.1 r p), M.2) (by omega) (by omega)
    refine ⟨M', e1, fun c p h1 h2 h3 h4 => ?_, fun r p hr => ?_, e4⟩
    · by_cases e : p = k
      · rw [e3 (a + c) p (by omega)]
        show (if a + 1 ≤ a + c ∧ a + c ≤ a + 7 ∧ p = k then M.1 (b + (a + c - a)) k else M.1 (a + c) p) = _
        rw [if_pos (by omega), e, Nat.add_sub_cancel_left]
      · rw [e2 c p h1 h2 (by omega) h4]
        show (if a + 1 ≤ b + c ∧ b + c ≤ a + 7 ∧ p = k then M.1 (b + (b + c - a)) k else M.1 (b + c) p) = _
        rw [if_neg (by omega)]
    · rw [e3 r p (by omega)]
      show (if a + 1 ≤ r ∧ r ≤ a + 7 ∧ p = k then M.1 (b + (r - a)) k else M.1 r p) = _
      rw [if_neg (by omega)]
theorem become_ok {a b : Nat} (hab : a + 7 < b ∨ b + 7 < a) {M : mm_M} {v : zV} (h : ShC b M.1 v) (hB : zB v) : ∃ M', sh_become a b M = some ((), M') ∧ ShC a M'.1 v ∧ (∀ r, ¬ (a ≤ r ∧ r ≤ a + 7) → M'.1 r = M.1 r) ∧ (∀ j, 4 < j → M'.1 a j = M.1 a j) ∧ M'.2 = M.2 := by
  have hn := hB.n
  have hba : b ≠ a := by omega
  obtain ⟨M', e1, e2, e3, e4⟩ := become_l hab 4 0 300 (ak_up (ak_up (ak_up (ak_up (ak_up M.1 a 0 (M.1 b 0)) a 1 (M.1 b 1)) a 2 (M.1 b 2)) a 3 (M.1 b 3)) a 4 (M.1 b 4), M.2) (by omega) (by omega)
  have e1' : sh_become_l42 300 a b (0 : Int32) (ak_up (ak_up (ak_up (ak_up (ak_up M.1 a 0 (M.1 b 0)) a 1 (M.1 b 1)) a 2 (M.1 b 2)) a 3 (M.1 b 3)) a 4 (M.1 b 4), M.2) = some ((), M') := e1
  unfold sh_become
  simp only [ak_up_ne hba]
  rw [e1']
  have sc : ∀ j, M'.1 a j = if j ≤ 4 then M.1 b j else M.1 a j := by
    intro j
    rw [e3 a j (by omega)]
    show ak_up _ a 4 _ a j = _
    simp only [up_ap, true_and]
    by_cases c : j ≤ 4
    · have hc : j = 0 ∨ j = 1 ∨ j = 2 ∨ j = 3 ∨ j = 4 := by omega
      rcases hc with rfl | rfl | rfl | rfl | rfl <;> rfl
    · rw [if_neg (by omega), if_neg (by omega), if_neg (by omega), if_neg (by omega), if_neg (by omega), if_neg c]
  have row : ∀ c p, 1 ≤ c → c ≤ 7 → p < 4 → M'.1 (a + c) p = M.1 (b + c) p := by
    intro c p h1 h2 h3
    rw [e2 c p h1 h2 (by omega) h3]
    show ak_up _ a 4 _ (b + c) p = _
    rw [ak_up_ne (by omega), ak_up_ne (by omega), ak_up_ne (by omega), ak_up_ne (by omega), ak_up_ne (by omega)]
  refine ⟨M', rfl, ⟨?_, ?_, ?_, ?_, ?_, fun p hp => ?_, fun p hp => ?_, fun p hp => ?_, fun p hp => ?_, fun p hp => ?_, fun p hp => ?_, fun p hp => ?_⟩, fun r hr => ?_, fun j hj => ?_, e4⟩
  · rw [sc]; exact h.n
  · rw [sc]; exact h.yr
  · rw [sc]; exact h.nd
  · rw [sc]; exact h.ky
  · rw [sc]; exact h.ru
  · rw [row 1 p (by omega) (by omega) (by omega)]; exact h.kd p hp
  · rw [row 2 p (by omega) (by omega) (by omega)]; exact h.nu p hp
  · rw [row 3 p (by omega) (by omega) (by omega)]; exact h.le p hp
  · rw [row 4 p (by omega) (by omega) (by omega)]; exact h.wi p hp
  · rw [row 5 p (by omega) (by omega) (by omega)]; exact h.po p hp
  · rw [row 6 p (by omega) (by omega) (by omega)]; exact h.bl p hp
  · rw [row 7 p (by omega) (by omega) (by omega)]; exact h.ap p hp
  · funext p
    rw [e3 r p (by omega)]
    show ak_up _ a 4 _ r p = _
    rw [ak_up_ne (by omega), ak_up_ne (by omega), ak_up_ne (by omega), ak_up_ne (by omega), ak_up_ne (by omega)]
  · rw [sc, if_neg (by omega)]
