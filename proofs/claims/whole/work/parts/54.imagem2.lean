/-! level 2: image of the model -/
/-- what the model's image keeps (kinds stand where they stood) -/
def ShK (σ : Nat → Nat → Int32) (v : zV) : Prop := σ 73 38 = nI v.n ∧ σ 86 0 = nI v.yr ∧ σ 86 1 = nI v.nd ∧ σ 86 2 = nI v.ky ∧ σ 73 39 = nI v.ru ∧ (∀ p, p < v.n → σ 78 p = nI (v.kd p)) ∧ (∀ p, p < v.n → σ 87 (5 * p) = nI (v.nu p)) ∧ (∀ p, p < v.n → σ 87 (5 * p + 1) = nI (v.le p)) ∧ (∀ p, p < v.n → σ 87 (5 * p + 2) = nI (v.wi p)) ∧ (∀ p, p < v.n → σ 87 (5 * p + 3) = nI (v.po p)) ∧ (∀ p, p < v.n → σ 87 (5 * p + 4) = nI (v.bl p) - 1) ∧ (∀ p, p < 4 → σ 88 p = nI (v.ap p))
theorem image_M {M : mm_M} {v : zV} (h : ShM M.1 v) (hB : zB v) : Ok (md_image M) (fun y => y.1 = nI v.n ∧ ShM y.2.1 v ∧ ShK y.2.1 v ∧ (∀ r, r ≠ 73 → ¬ (86 ≤ r ∧ r ≤ 88) → y.2.1 r = M.1 r) ∧ (∀ j, j ≠ 38 → j ≠ 39 → y.2.1 73 j = M.1 73 j) ∧ y.2.2 = M.2) := by
  have hn := hB.n
  obtain ⟨M1, a1, a2, a3, a4⟩ := md_image_l2_ok 3 0 300 M (by omega) (by omega)
  obtain ⟨M2, b1, b2, b3, b4⟩ := md_image_l27_ok 20 0 300 M1 (by omega) (by omega)
  obtain ⟨M3, c1, c2, c3, c4⟩ := md_image_l53_ok 4 0 300 M2 (by omega) (by omega)
  have a1' : md_image_l2 300 (0 : Int32) M = some ((), M1) := a1
  have b1' : md_image_l27 300 (0 : Int32) M1 = some ((), M2) := b1
  have c1' : md_image_l53 300 (0 : Int32) M2 = some ((), M3) := c1
  have k : ∀ r, ¬ (86 ≤ r ∧ r ≤ 88) → M3.1 r = M.1 r := by
    intro r hr
    funext p
    rw [c3 r p (by omega), b3 r p (by omega), a3 r p (by omega)]
  have k86 : ∀ i, i < 3 → M3.1 86 i = M.1 77 i := fun i hi => by rw [c3 86 i (by omega), b3 86 i (by omega), a2 i (by omega) hi]
  have k87 : ∀ i, i < 20 → M3.1 87 i = M.1 79 i := fun i hi => by rw [c3 87 i (by omega), b2 i (by omega) hi, a3 79 i (by omega)]
  have k88 : ∀ i, i < 4 → M3.1 88 i = M.1 80 i := fun i hi => by rw [c2 i (by omega) hi, b3 80 i (by omega), a3 80 i (by omega)]
  have e11 : M3.1 73 11 = nI v.n := by rw [k 73 (by omega)]; exact h.n
  have e4 : M3.1 73 4 = nI v.ru := by rw [k 73 (by omega)]; exact h.ru
  unfold md_image
  rw [a1']
  simp only [Option.bind_some]
  rw [b1']
  simp only [Option.bind_some]
  rw [c1']
  simp only [Option.bind_some]
  rw [ak_up_oth (show (4 : Nat) ≠ 38 by decide), e11, e4, ak_up_oth (show (11 : Nat) ≠ 39 by decide), ak_up_oth (show (11 : Nat) ≠ 38 by decide), e11]
  have o : ∀ r, r ≠ 73 → ak_up (ak_up M3.1 73 38 (nI v.n)) 73 39 (nI v.ru) r = M3.1 r := fun r hr => by rw [ak_up_ne hr, ak_up_ne hr]
  have o73 : ∀ j, j ≠ 38 → j ≠ 39 → ak_up (ak_up M3.1 73 38 (nI v.n)) 73 39 (nI v.ru) 73 j = M3.1 73 j := fun j h1 h2 => by rw [ak_up_oth h2, ak_up_oth h1]
  refine ok_ret ⟨rfl, ⟨?_, ?_, ?_, ?_, ?_, fun p hp => ?_, fun p hp => ?_, fun p hp => ?_, fun p hp => ?_, fun p hp => ?_, fun p hp => ?_, fun p hp => ?_⟩, ⟨?_, ?_, ?_, ?_, ?_, fun p hp => ?_, fun p hp => ?_, fun p hp => ?_, fun p hp => ?_, fun p hp => ?_, fun p hp => ?_, fun p hp => ?_⟩, fun r h1 h2 => (o r h1).trans (k r h2), fun j h1 h2 => (o73 j h1 h2).trans (congrFun (k 73 (by omega)) j), by rw [c4, b4, a4]⟩
  · exact (o73 11 (by decide) (by decide)).trans e11
  · exact (congrFun ((o 77 (by decide)).trans (k 77 (by omega))) _).trans (h.yr)
  · exact (congrFun ((o 77 (by decide)).trans (k 77 (by omega))) _).trans (h.nd)
  · exact (congrFun ((o 77 (by decide)).trans (k 77 (by omega))) _).trans (h.ky)
  · exact (o73 4 (by decide) (by decide)).trans e4
  · exact (congrFun ((o 78 (by decide)).trans (k 78 (by omega))) _).trans (h.kd p hp)
  · exact (congrFun ((o 79 (by decide)).trans (k 79 (by omega))) _).trans (h.nu p hp)
  · exact (congrFun ((o 79 (by decide)).trans (k 79 (by omega))) _).trans (h.le p hp)
  · exact (congrFun ((o 79 (by decide)).trans (k 79 (by omega))) _).trans (h.wi p hp)
  · exact (congrFun ((o 79 (by decide)).trans (k 79 (by omega))) _).trans (h.po p hp)
  · exact (congrFun ((o 79 (by decide)).trans (k 79 (by omega))) _).trans (h.bl p hp)
  · exact (congrFun ((o 80 (by decide)).trans (k 80 (by omega))) _).trans (h.ap p hp)
  · show ak_up (ak_up M3.1 73 38 (nI v.n)) 73 39 (nI v.ru) 73 38 = _
    rw [ak_up_oth (by decide), ak_up_same]
  · exact (congrFun (o 86 (by decide)) _).trans ((k86 0 (by omega)).trans (h.yr))
  · exact (congrFun (o 86 (by decide)) _).trans ((k86 1 (by omega)).trans (h.nd))
  · exact (congrFun (o 86 (by decide)) _).trans ((k86 2 (by omega)).trans (h.ky))
  · show ak_up (ak_up M3.1 73 38 (nI v.n)) 73 39 (nI v.ru) 73 39 = _
    rw [ak_up_same]
  · exact (congrFun ((o 78 (by decide)).trans (k 78 (by omega))) _).trans (h.kd p hp)
  · exact (congrFun (o 87 (by decide)) _).trans ((k87 _ (by omega)).trans (h.nu p hp))
  · exact (congrFun (o 87 (by decide)) _).trans ((k87 _ (by omega)).trans (h.le p hp))
  · exact (congrFun (o 87 (by decide)) _).trans ((k87 _ (by omega)).trans (h.wi p hp))
  · exact (congrFun (o 87 (by decide)) _).trans ((k87 _ (by omega)).trans (h.po p hp))
  · exact (congrFun (o 87 (by decide)) _).trans ((k87 _ (by omega)).trans (h.bl p hp))
  · exact (congrFun (o 88 (by decide)) _).trans ((k88 _ (by omega)).trans (h.ap p hp))
