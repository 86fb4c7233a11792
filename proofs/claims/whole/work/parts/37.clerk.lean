/-! level 2: clerk -/
theorem z5_0 (p : Nat) : (5 : Int32) * nI p = nI (5 * p) := zI_mul 5 p
theorem z5_1 (p : Nat) : ((5 : Int32) * nI p) + (1 : Int32) = nI (5 * p + 1) := by rw [z5_0]; exact nI_add _ 1
theorem z5_2 (p : Nat) : ((5 : Int32) * nI p) + (2 : Int32) = nI (5 * p + 2) := by rw [z5_0]; exact nI_add _ 2
theorem z5_3 (p : Nat) : ((5 : Int32) * nI p) + (3 : Int32) = nI (5 * p + 3) := by rw [z5_0]; exact nI_add _ 3
theorem z5_4 (p : Nat) : ((5 : Int32) * nI p) + (4 : Int32) = nI (5 * p + 4) := by rw [z5_0]; exact nI_add _ 4
/-- one more -/
def zjoin (v : zV) (a b c : Nat) : zV := zs (zr (zr (zr (zr (zr (zr v 0 v.n a) 1 v.n b) 2 v.n c) 3 v.n 0) 4 v.n 0) 5 v.n 0) 4 (v.n + 1)
theorem zjoin_n (v : zV) (a b c : Nat) : (zjoin v a b c).n = v.n + 1 := rfl
theorem zjoin_kd (v : zV) (a b c q : Nat) : (zjoin v a b c).kd q = if q = v.n then a else v.kd q := by
  show (if 0 = 5 ∧ q = v.n then 0 else if 0 = 4 ∧ q = v.n then 0 else if 0 = 3 ∧ q = v.n then 0 else if 0 = 2 ∧ q = v.n then c else if 0 = 1 ∧ q = v.n then b else if 0 = 0 ∧ q = v.n then a else v.2 0 q) = _
  by_cases e : q = v.n
  · simp [e]
  · simp [e]; rfl
theorem zjoin_nu (v : zV) (a b c q : Nat) : (zjoin v a b c).nu q = if q = v.n then b else v.nu q := by
  show (if 1 = 5 ∧ q = v.n then 0 else if 1 = 4 ∧ q = v.n then 0 else if 1 = 3 ∧ q = v.n then 0 else if 1 = 2 ∧ q = v.n then c else if 1 = 1 ∧ q = v.n then b else if 1 = 0 ∧ q = v.n then a else v.2 1 q) = _
  by_cases e : q = v.n
  · simp [e]
  · simp [e]; rfl
theorem zjoin_le (v : zV) (a b c q : Nat) : (zjoin v a b c).le q = if q = v.n then c else v.le q := by
  show (if 2 = 5 ∧ q = v.n then 0 else if 2 = 4 ∧ q = v.n then 0 else if 2 = 3 ∧ q = v.n then 0 else if 2 = 2 ∧ q = v.n then c else if 2 = 1 ∧ q = v.n then b else if 2 = 0 ∧ q = v.n then a else v.2 2 q) = _
  by_cases e : q = v.n
  · simp [e]
  · simp [e]; rfl
theorem zjoin_wi (v : zV) (a b c q : Nat) : (zjoin v a b c).wi q = if q = v.n then 0 else v.wi q := by
  show (if 3 = 5 ∧ q = v.n then 0 else if 3 = 4 ∧ q = v.n then 0 else if 3 = 3 ∧ q = v.n then 0 else if 3 = 2 ∧ q = v.n then c else if 3 = 1 ∧ q = v.n then b else if 3 = 0 ∧ q = v.n then a else v.2 3 q) = _
  by_cases e : q = v.n
  · simp [e]
  · simp [e]; rfl
theorem zjoin_po (v : zV) (a b c q : Nat) : (zjoin v a b c).po q = if q = v.n then 0 else v.po q := by
  show (if 4 = 5 ∧ q = v.n then 0 else if 4 = 4 ∧ q = v.n then 0 else if 4 = 3 ∧ q = v.n then 0 else if 4 = 2 ∧ q = v.n then c else if 4 = 1 ∧ q = v.n then b else if 4 = 0 ∧ q = v.n then a else v.2 4 q) = _
  by_cases e : q = v.n
  · simp [e]
  · simp [e]; rfl
theorem zjoin_bl (v : zV) (a b c q : Nat) : (zjoin v a b c).bl q = if q = v.n then 0 else v.bl q := by
  show (if 5 = 5 ∧ q = v.n then 0 else if 5 = 4 ∧ q = v.n then 0 else if 5 = 3 ∧ q = v.n then 0 else if 5 = 2 ∧ q = v.n then c else if 5 = 1 ∧ q = v.n then b else if 5 = 0 ∧ q = v.n then a else v.2 5 q) = _
  by_cases e : q = v.n
  · simp [e]
  · simp [e]; rfl
theorem zjoin_B {v : zV} (hB : zB v) (hn : v.n < 4) {a b c : Nat} (ha : a ≤ 5) (hb : b ≤ 9) (hc : 1 ≤ c ∧ c ≤ 4) : zB (zjoin v a b c) := by
  refine ⟨?_, hB.yr, hB.nd, hB.ky, hB.ru, ?_, ?_, ?_, ?_, ?_, ?_, hB.ap, ?_, hB.as, hB.ai⟩
  · rw [zjoin_n]; omega
  · intro q hq
    rw [zjoin_n] at hq
    rw [zjoin_kd]
    split
    · exact ha
    · exact hB.kd q (by omega)
  · intro q hq
    rw [zjoin_n] at hq
    rw [zjoin_nu]
    split
    · exact hb
    · exact hB.nu q (by omega)
  · intro q hq
    rw [zjoin_n] at hq
    rw [zjoin_le]
    split
    · exact hc
    · exact hB.le q (by omega)
  · intro q hq
    rw [zjoin_n] at hq
    rw [zjoin_wi]
    split
    · omega
    · exact hB.wi q (by omega)
  · intro q hq
    rw [zjoin_n] at hq
    rw [zjoin_po]
    split
    · omega
    · exact hB.po q (by omega)
  · intro q hq
    rw [zjoin_n] at hq
    rw [zjoin_bl]
    split
    · omega
    · exact hB.bl q (by omega)
  · intro q hq hz
    rw [zjoin_n] at hz
    exact hB.az q hq (by omega)
theorem ShC_join {σ : Nat → Nat → Int32} {v : zV} (h : ShC 1 σ v) (hn : v.n < 4) (a b c : Nat) : ShC 1 (ak_up (ak_up (ak_up (ak_up (ak_up (ak_up (ak_up σ 1 4 (nI (v.n + 1))) 2 v.n (nI a)) 3 v.n (nI b)) 4 v.n (nI c)) 5 v.n (0 : Int32)) 6 v.n (0 : Int32)) 7 v.n (-1 : Int32)) (zjoin v a b c) := by
  refine ⟨?_, ?_, ?_, ?_, ?_, ?_, ?_, ?_, ?_, ?_, ?_, ?_⟩
  · rw [zjoin_n]; simp [up_ap]
  · show _ = nI v.yr
    simp only [up_ap]
    simp
    exact h.yr
  · show _ = nI v.nd
    simp only [up_ap]
    simp
    exact h.nd
  · show _ = nI v.ky
    simp only [up_ap]
    simp
    exact h.ky
  · show _ = nI v.ru
    simp only [up_ap]
    simp
    exact h.ru
  · intro q hq
    rw [zjoin_n] at hq
    rw [zjoin_kd]
    by_cases e : q = v.n
    · subst e
      simp [up_ap]
    · simp [up_ap, e]
      exact h.kd q (by omega)
  · intro q hq
    rw [zjoin_n] at hq
    rw [zjoin_nu]
    by_cases e : q = v.n
    · subst e
      simp [up_ap]
    · simp [up_ap, e]
      exact h.nu q (by omega)
  · intro q hq
    rw [zjoin_n] at hq
    rw [zjoin_le]
    by_cases e : q = v.n
    · subst e
      simp [up_ap]
    · simp [up_ap, e]
      exact h.le q (by omega)
  · intro q hq
    rw [zjoin_n] at hq
    rw [zjoin_wi]
    by_cases e : q = v.n
    · subst e
      simp [up_ap]
      try rfl
    · simp [up_ap, e]
      exact h.wi q (by omega)
  · intro q hq
    rw [zjoin_n] at hq
    rw [zjoin_po]
    by_cases e : q = v.n
    · subst e
      simp [up_ap]
      try rfl
    · simp [up_ap, e]
      exact h.po q (by omega)
  · intro q hq
    rw [zjoin_n] at hq
    rw [zjoin_bl]
    by_cases e : q = v.n
    · subst e
      simp [up_ap]
      try rfl
    · simp [up_ap, e]
      exact h.bl q (by omega)
  · intro q hq
    show _ = nI (v.ap q)
    simp [up_ap]
    exact h.ap q hq
theorem ShM_join {σ : Nat → Nat → Int32} {v : zV} (h : ShM σ v) (hn : v.n < 4) (a b c : Nat) : ShM (ak_up (ak_up (ak_up (ak_up (ak_up (ak_up (ak_up σ 78 v.n (nI a)) 79 (5 * v.n) (nI b)) 79 (5 * v.n + 1) (nI c)) 79 (5 * v.n + 2) (0 : Int32)) 79 (5 * v.n + 3) (0 : Int32)) 79 (5 * v.n + 4) (-1 : Int32)) 73 11 (nI (v.n + 1))) (zjoin v a b c) := by
  refine ⟨?_, ?_, ?_, ?_, ?_, ?_, ?_, ?_, ?_, ?_, ?_, ?_⟩
  · rw [zjoin_n]; simp [up_ap]
  · show _ = nI v.yr
    simp only [up_ap]
    simp
    exact h.yr
  · show _ = nI v.nd
    simp only [up_ap]
    simp
    exact h.nd
  · show _ = nI v.ky
    simp only [up_ap]
    simp
    exact h.ky
  · show _ = nI v.ru
    simp only [up_ap]
    simp
    exact h.ru
  · intro q hq
    rw [zjoin_n] at hq
    rw [zjoin_kd]
    by_cases e : q = v.n
    · subst e
      simp only [up_ap]
      repeat' split
      all_goals first
        | omega
        | rfl
        | (exfalso; simp_all)
    · simp only [up_ap]
      repeat' split
      all_goals first
        | omega
        | exact h.kd q (by omega)
  · intro q hq
    rw [zjoin_n] at hq
    rw [zjoin_nu]
    by_cases e : q = v.n
    · subst e
      simp only [up_ap]
      repeat' split
      all_goals first
        | omega
        | rfl
        | (exfalso; simp_all)
    · simp only [up_ap]
      repeat' split
      all_goals first
        | omega
        | exact h.nu q (by omega)
  · intro q hq
    rw [zjoin_n] at hq
    rw [zjoin_le]
    by_cases e : q = v.n
    · subst e
      simp only [up_ap]
      repeat' split
      all_goals first
        | omega
        | rfl
        | (exfalso; simp_all)
    · simp only [up_ap]
      repeat' split
      all_goals first
        | omega
        | exact h.le q (by omega)
  · intro q hq
    rw [zjoin_n] at hq
    rw [zjoin_wi]
    by_cases e : q = v.n
    · subst e
      simp only [up_ap]
      repeat' split
      all_goals first
        | omega
        | rfl
        | (exfalso; simp_all)
    · simp only [up_ap]
      repeat' split
      all_goals first
        | omega
        | exact h.wi q (by omega)
  · intro q hq
    rw [zjoin_n] at hq
    rw [zjoin_po]
    by_cases e : q = v.n
    · subst e
      simp only [up_ap]
      repeat' split
      all_goals first
        | omega
        | rfl
        | (exfalso; simp_all)
    · simp only [up_ap]
      repeat' split
      all_goals first
        | omega
        | exact h.po q (by omega)
  · intro q hq
    rw [zjoin_n] at hq
    rw [zjoin_bl]
    by_cases e : q = v.n
    · subst e
      simp only [up_ap]
      repeat' split
      all_goals first
        | omega
        | rfl
        | (exfalso; simp_all)
    · simp only [up_ap]
      repeat' split
      all_goals first
        | omega
        | exact h.bl q (by omega)
  · intro q hq
    show _ = nI (v.ap q)
    simp [up_ap]
    exact h.ap q hq
