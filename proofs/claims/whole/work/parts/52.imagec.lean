/-! level 2: image and back of the class -/
theorem ShC_fr {b : Nat} {σ σ' : Nat → Nat → Int32} {v : zV} (h : ShC b σ v) (e : ∀ r, b ≤ r → r ≤ b + 7 → σ' r = σ r) : ShC b σ' v := by
  refine ⟨?_, ?_, ?_, ?_, ?_, fun p hp => ?_, fun p hp => ?_, fun p hp => ?_, fun p hp => ?_, fun p hp => ?_, fun p hp => ?_, fun p hp => ?_⟩
  · rw [e b (by omega) (by omega)]; exact h.n
  · rw [e b (by omega) (by omega)]; exact h.yr
  · rw [e b (by omega) (by omega)]; exact h.nd
  · rw [e b (by omega) (by omega)]; exact h.ky
  · rw [e b (by omega) (by omega)]; exact h.ru
  · rw [e (b + 1) (by omega) (by omega)]; exact h.kd p hp
  · rw [e (b + 2) (by omega) (by omega)]; exact h.nu p hp
  · rw [e (b + 3) (by omega) (by omega)]; exact h.le p hp
  · rw [e (b + 4) (by omega) (by omega)]; exact h.wi p hp
  · rw [e (b + 5) (by omega) (by omega)]; exact h.po p hp
  · rw [e (b + 6) (by omega) (by omega)]; exact h.bl p hp
  · rw [e (b + 7) (by omega) (by omega)]; exact h.ap p hp
theorem image_C {M : mm_M} {v : zV} (h : ShC 1 M.1 v) (hB : zB v) : Ok (nb_image M) (fun y => y.1 = nI v.n ∧ ShC 1 y.2.1 v ∧ ShC 9 y.2.1 v ∧ y.2.1 0 3 = 1 ∧ (∀ r, ¬ (9 ≤ r ∧ r ≤ 16) → r ≠ 0 → y.2.1 r = M.1 r) ∧ (∀ j, j ≠ 3 → y.2.1 0 j = M.1 0 j) ∧ y.2.2 = M.2) := by
  obtain ⟨M', e1, e2, e3, e4, e5⟩ := become_ok (a := 9) (b := 1) (by omega) h hB
  have h1 : ShC 1 M'.1 v := ShC_fr h (fun r h1 h2 => e3 r (by omega))
  unfold nb_image
  rw [e1]
  refine ok_ret ⟨?_, ShC_fr h1 (fun r h1 h2 => ak_up_ne (by omega)), ShC_fr e2 (fun r h1 h2 => ak_up_ne (by omega)), ?_, fun r hr h0 => ?_, fun j hj => ?_, e5⟩
  · show ak_up M'.1 0 3 (1 : Int32) 1 4 = _
    rw [ak_up_ne (by decide)]
    exact h1.n
  · show ak_up M'.1 0 3 (1 : Int32) 0 3 = 1
    exact ak_up_same
  · show ak_up M'.1 0 3 (1 : Int32) r = _
    rw [ak_up_ne h0]
    exact e3 r (by omega)
  · show ak_up M'.1 0 3 (1 : Int32) 0 j = _
    rw [ak_up_oth hj, e3 0 (by omega)]
theorem back_C0 {M : mm_M} (h0 : M.1 0 3 = 0) : nb_back M = some (-3, M) := by
  unfold nb_back
  rw [if_pos h0]
theorem back_C {M : mm_M} {k : zV} (h : ShC 9 M.1 k) (hB : zB k) (h0 : M.1 0 3 = 1) : Ok (nb_back M) (fun y => y.1 = nI k.n ∧ ShC 1 y.2.1 k ∧ ShC 9 y.2.1 k ∧ Fr z18 M.1 y.2.1 ∧ y.2.2 = M.2) := by
  obtain ⟨M', e1, e2, e3, e4, e5⟩ := become_ok (a := 1) (b := 9) (by omega) h hB
  have h1 : ShC 9 M'.1 k := ShC_fr h (fun r h1 h2 => e3 r (by omega))
  have n0 : ¬ M.1 0 3 = 0 := by rw [h0]; decide
  unfold nb_back
  rw [if_neg n0, e1]
  refine ok_ret ⟨e2.n, e2, h1, fun r hr => ?_, e5⟩
  refine e3 r (fun w => ?_)
  unfold z18 at hr
  have w1 : 1 ≤ r := w.1
  have w2 : r ≤ 8 := by omega
  simp [w1, w2] at hr
