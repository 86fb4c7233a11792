/-! level 2: back of the model -/
theorem back_M0 {M : mm_M} (h0 : M.1 73 38 = -1) : md_back M = some (-3, M) := by
  unfold md_back
  rw [if_pos h0]
theorem back_M {M : mm_M} {v : zV} (h : ShK M.1 v) (hB : zB v) : Ok (md_back M) (fun y => y.1 = nI v.n ∧ ShM y.2.1 v ∧ ShK y.2.1 v ∧ (∀ r, r ≠ 73 → r ≠ 77 → r ≠ 79 → r ≠ 80 → y.2.1 r = M.1 r) ∧ (∀ j, j ≠ 11 → j ≠ 4 → y.2.1 73 j = M.1 73 j) ∧ y.2.2 = M.2) := by
  have hn := hB.n
  obtain ⟨h1, h2, h3, h4, h5, h6, h7, h8, h9, h10, h11, h12⟩ := h
  have n0 : ¬ M.1 73 38 = (-1 : Int32) := by
    rw [h1]
    have f : ∀ n ≤ 4, ¬ nI n = (-1 : Int32) := by decide
    exact f _ hn
  obtain ⟨M1, a1, a2, a3, a4⟩ := md_back_l13_ok 3 0 300 M (by omega) (by omega)
  obtain ⟨M2, b1, b2, b3, b4⟩ := md_back_l38_ok 20 0 300 M1 (by omega) (by omega)
  obtain ⟨M3, c1, c2, c3, c4⟩ := md_back_l64_ok 4 0 300 M2 (by omega) (by omega)
  have a1' : md_back_l13 300 (0 : Int32) M = some ((), M1) := a1
  have b1' : md_back_l38 300 (0 : Int32) M1 = some ((), M2) := b1
  have c1' : md_back_l64 300 (0 : Int32) M2 = some ((), M3) := c1
  have k : ∀ r, r ≠ 77 → r ≠ 79 → r ≠ 80 → M3.1 r = M.1 r := by
    intro r h1 h2 h3
    funext p
    rw [c3 r p (by omega), b3 r p (by omega), a3 r p (by omega)]
  have k77 : ∀ i, i < 3 → M3.1 77 i = M.1 86 i := fun i hi => by rw [c3 77 i (by omega), b3 77 i (by omega), a2 i (by omega) hi]
  have k79 : ∀ i, i < 20 → M3.1 79 i = M.1 87 i := fun i hi => by rw [c3 79 i (by omega), b2 i (by omega) hi, a3 87 i (by omega)]
  have k80 : ∀ i, i < 4 → M3.1 80 i = M.1 88 i := fun i hi => by rw [c2 i (by omega) hi, b3 88 i (by omega), a3 88 i (by omega)]
  have k73 : M3.1 73 = M.1 73 := k 73 (by decide) (by decide) (by decide)
  have e38 : M3.1 73 38 = nI v.n := by rw [k73]; exact h1
  have e39 : M3.1 73 39 = nI v.ru := by rw [k73]; exact h5
  unfold md_back
  rw [if_neg n0, a1']
  simp only [Option.bind_some]
  rw [b1']
  simp only [Option.bind_some]
  rw [c1']
  simp only [Option.bind_some]
  rw [ak_up_oth (show (39 : Nat) ≠ 11 by decide), e38, e39, ak_up_oth (show (11 : Nat) ≠ 4 by decide), ak_up_same]
  have o : ∀ r, r ≠ 73 → ak_up (ak_up M3.1 73 11 (nI v.n)) 73 4 (nI v.ru) r = M3.1 r := fun r hr => by rw [ak_up_ne hr, ak_up_ne hr]
  have o73 : ∀ j, j ≠ 11 → j ≠ 4 → ak_up (ak_up M3.1 73 11 (nI v.n)) 73 4 (nI v.ru) 73 j = M3.1 73 j := fun j h1 h2 => by rw [ak_up_oth h2, ak_up_oth h1]
  have w11 : ak_up (ak_up M3.1 73 11 (nI v.n)) 73 4 (nI v.ru) 73 11 = nI v.n := by rw [ak_up_oth (by decide), ak_up_same]
  have w4 : ak_up (ak_up M3.1 73 11 (nI v.n)) 73 4 (nI v.ru) 73 4 = nI v.ru := ak_up_same
  have s : ∀ r, r ≠ 73 → r ≠ 77 → r ≠ 79 → r ≠ 80 → ak_up (ak_up M3.1 73 11 (nI v.n)) 73 4 (nI v.ru) r = M.1 r := fun r h1 h2 h3 h4 => (o r h1).trans (k r h2 h3 h4)
  have s86 := s 86 (by decide) (by decide) (by decide) (by decide)
  have s87 := s 87 (by decide) (by decide) (by decide) (by decide)
  have s88 := s 88 (by decide) (by decide) (by decide) (by decide)
  have s78 := s 78 (by decide) (by decide) (by decide) (by decide)
  have o77 := o 77 (by decide)
  have o79 := o 79 (by decide)
  have o80 := o 80 (by decide)
  refine ok_ret ⟨rfl, ⟨w11, (congrFun o77 0).trans ((k77 0 (by omega)).trans h2), (congrFun o77 1).trans ((k77 1 (by omega)).trans h3), (congrFun o77 2).trans ((k77 2 (by omega)).trans h4), w4, fun p hp => (congrFun s78 p).trans (h6 p hp), fun p hp => (congrFun o79 _).trans ((k79 _ (by omega)).trans (h7 p hp)), fun p hp => (congrFun o79 _).trans ((k79 _ (by omega)).trans (h8 p hp)), fun p hp => (congrFun o79 _).trans ((k79 _ (by omega)).trans (h9 p hp)), fun p hp => (congrFun o79 _).trans ((k79 _ (by omega)).trans (h10 p hp)), fun p hp => (congrFun o79 _).trans ((k79 _ (by omega)).trans (h11 p hp)), fun p hp => (congrFun o80 _).trans ((k80 _ hp).trans (h12 p hp))⟩, ⟨(o73 38 (by decide) (by decide)).trans e38, (congrFun s86 0).trans h2, (congrFun s86 1).trans h3, (congrFun s86 2).trans h4, (o73 39 (by decide) (by decide)).trans e39, fun p hp => (congrFun s78 p).trans (h6 p hp), fun p hp => (congrFun s87 _).trans (h7 p hp), fun p hp => (congrFun s87 _).trans (h8 p hp), fun p hp => (congrFun s87 _).trans (h9 p hp), fun p hp => (congrFun s87 _).trans (h10 p hp), fun p hp => (congrFun s87 _).trans (h11 p hp), fun p hp => (congrFun s88 p).trans (h12 p hp)⟩, s, fun j h1 h2 => (o73 j h1 h2).trans (congrFun k73 j), by rw [c4, b4, a4]⟩
