/-! level 2: texts: words, and the model's tokens -/
theorem zmw_iff {B : Nat → Nat} : ∀ (l : List Nat) (i : Nat), zmw B i l = true ↔ ∀ k, k < l.length → B (i + k) = l.getD k 0 := by
  intro l
  induction l with
  | nil => intro i; exact ⟨fun _ k hk => by simp at hk, fun _ => rfl⟩
  | cons c l ih =>
    intro i
    show (decide (B i = c) && zmw B (i + 1) l) = true ↔ _
    rw [Bool.and_eq_true, decide_eq_true_eq, ih (i + 1)]
    constructor
    · rintro ⟨h1, h2⟩ k hk
      cases k with
      | zero => exact h1
      | succ k =>
        have := h2 k (by simpa using hk)
        rw [show i + (k + 1) = i + 1 + k by omega]
        simpa using this
    · intro h
      refine ⟨h 0 (by simp), fun k hk => ?_⟩
      have := h (k + 1) (by simpa using hk)
      rw [show i + 1 + k = i + (k + 1) by omega]
      simpa using this
theorem zis_iff {B : Nat → Nat} {i e : Nat} {l : List Nat} : zis B i e l = true ↔ e = i + l.length ∧ ∀ k, k < l.length → B (i + k) = l.getD k 0 := by
  unfold zis
  rw [Bool.and_eq_true, decide_eq_true_eq, zmw_iff]
theorem zis_ex {B : Nat → Nat} {i e a b : Nat} {l m : List Nat} (h1 : zis B i e (a :: l) = true) (h2 : zis B i e (b :: m) = true) : l.length = m.length ∧ a = b := by
  obtain ⟨x1, x2⟩ := zis_iff.mp h1
  obtain ⟨y1, y2⟩ := zis_iff.mp h2
  have e1 := x2 0 (by simp)
  have e2 := y2 0 (by simp)
  simp only [List.length_cons] at x1 y1
  refine ⟨by omega, ?_⟩
  have e3 : B i = a := by simpa using e1
  have e4 : B i = b := by simpa using e2
  exact e3.symm.trans e4
theorem zkey_joys {B : Nat → Nat} {i e : Nat} : zkey B i e = 256 ↔ zis B i e [106, 111, 121, 115] = true := by
  constructor
  · intro h
    unfold zkey at h
    repeat' split at h
    all_goals first | assumption | (exfalso; omega)
  · intro h
    unfold zkey
    rw [if_pos h]
theorem zkey_earns {B : Nat → Nat} {i e : Nat} : zkey B i e = 257 ↔ zis B i e [101, 97, 114, 110, 115] = true := by
  constructor
  · intro h
    unfold zkey at h
    repeat' split at h
    all_goals first | assumption | (exfalso; omega)
  · intro h
    have n_joys : ¬ zis B i e [106, 111, 121, 115] = true := fun z => absurd (zis_ex z h) (by decide)
    unfold zkey
    rw [if_neg n_joys, if_pos h]
theorem zkey_may {B : Nat → Nat} {i e : Nat} : zkey B i e = 258 ↔ zis B i e [109, 97, 121] = true := by
  constructor
  · intro h
    unfold zkey at h
    repeat' split at h
    all_goals first | assumption | (exfalso; omega)
  · intro h
    have n_joys : ¬ zis B i e [106, 111, 121, 115] = true := fun z => absurd (zis_ex z h) (by decide)
    have n_earns : ¬ zis B i e [101, 97, 114, 110, 115] = true := fun z => absurd (zis_ex z h) (by decide)
    unfold zkey
    rw [if_neg n_joys, if_neg n_earns, if_pos h]
theorem zkey_or {B : Nat → Nat} {i e : Nat} : zkey B i e = 259 ↔ zis B i e [111, 114] = true := by
  constructor
  · intro h
    unfold zkey at h
    repeat' split at h
    all_goals first | assumption | (exfalso; omega)
  · intro h
    have n_joys : ¬ zis B i e [106, 111, 121, 115] = true := fun z => absurd (zis_ex z h) (by decide)
    have n_earns : ¬ zis B i e [101, 97, 114, 110, 115] = true := fun z => absurd (zis_ex z h) (by decide)
    have n_may : ¬ zis B i e [109, 97, 121] = true := fun z => absurd (zis_ex z h) (by decide)
    unfold zkey
    rw [if_neg n_joys, if_neg n_earns, if_neg n_may, if_pos h]
theorem zkey_and {B : Nat → Nat} {i e : Nat} : zkey B i e = 260 ↔ zis B i e [97, 110, 100] = true := by
  constructor
  · intro h
    unfold zkey at h
    repeat' split at h
    all_goals first | assumption | (exfalso; omega)
  · intro h
    have n_joys : ¬ zis B i e [106, 111, 121, 115] = true := fun z => absurd (zis_ex z h) (by decide)
    have n_earns : ¬ zis B i e [101, 97, 114, 110, 115] = true := fun z => absurd (zis_ex z h) (by decide)
    have n_may : ¬ zis B i e [109, 97, 121] = true := fun z => absurd (zis_ex z h) (by decide)
    have n_or : ¬ zis B i e [111, 114] = true := fun z => absurd (zis_ex z h) (by decide)
    unfold zkey
    rw [if_neg n_joys, if_neg n_earns, if_neg n_may, if_neg n_or, if_pos h]
theorem zkey_not {B : Nat → Nat} {i e : Nat} : zkey B i e = 261 ↔ zis B i e [110, 111, 116] = true := by
  constructor
  · intro h
    unfold zkey at h
    repeat' split at h
    all_goals first | assumption | (exfalso; omega)
  · intro h
    have n_joys : ¬ zis B i e [106, 111, 121, 115] = true := fun z => absurd (zis_ex z h) (by decide)
    have n_earns : ¬ zis B i e [101, 97, 114, 110, 115] = true := fun z => absurd (zis_ex z h) (by decide)
    have n_may : ¬ zis B i e [109, 97, 121] = true := fun z => absurd (zis_ex z h) (by decide)
    have n_or : ¬ zis B i e [111, 114] = true := fun z => absurd (zis_ex z h) (by decide)
    have n_and : ¬ zis B i e [97, 110, 100] = true := fun z => absurd (zis_ex z h) (by decide)
    unfold zkey
    rw [if_neg n_joys, if_neg n_earns, if_neg n_may, if_neg n_or, if_neg n_and, if_pos h]
theorem znam_joys {B : Nat → Nat} {i e : Nat} (h : zis B i e [106, 111, 121, 115] = true) : znam B i e = 6 := by
  have n_week : ¬ zis B i e [119, 101, 101, 107] = true := fun z => absurd (zis_ex z h) (by decide)
  have n_wished : ¬ zis B i e [119, 105, 115, 104, 101, 100] = true := fun z => absurd (zis_ex z h) (by decide)
  have n_number : ¬ zis B i e [110, 117, 109, 98, 101, 114] = true := fun z => absurd (zis_ex z h) (by decide)
  have n_length : ¬ zis B i e [108, 101, 110, 103, 116, 104] = true := fun z => absurd (zis_ex z h) (by decide)
  have n_points : ¬ zis B i e [112, 111, 105, 110, 116, 115] = true := fun z => absurd (zis_ex z h) (by decide)
  have n_away : ¬ zis B i e [97, 119, 97, 121] = true := fun z => absurd (zis_ex z h) (by decide)
  unfold znam
  rw [if_neg n_week, if_neg n_wished, if_neg n_number, if_neg n_length, if_neg n_points, if_neg n_away]
theorem znam_earns {B : Nat → Nat} {i e : Nat} (h : zis B i e [101, 97, 114, 110, 115] = true) : znam B i e = 6 := by
  have n_week : ¬ zis B i e [119, 101, 101, 107] = true := fun z => absurd (zis_ex z h) (by decide)
  have n_wished : ¬ zis B i e [119, 105, 115, 104, 101, 100] = true := fun z => absurd (zis_ex z h) (by decide)
  have n_number : ¬ zis B i e [110, 117, 109, 98, 101, 114] = true := fun z => absurd (zis_ex z h) (by decide)
  have n_length : ¬ zis B i e [108, 101, 110, 103, 116, 104] = true := fun z => absurd (zis_ex z h) (by decide)
  have n_points : ¬ zis B i e [112, 111, 105, 110, 116, 115] = true := fun z => absurd (zis_ex z h) (by decide)
  have n_away : ¬ zis B i e [97, 119, 97, 121] = true := fun z => absurd (zis_ex z h) (by decide)
  unfold znam
  rw [if_neg n_week, if_neg n_wished, if_neg n_number, if_neg n_length, if_neg n_points, if_neg n_away]
theorem znam_may {B : Nat → Nat} {i e : Nat} (h : zis B i e [109, 97, 121] = true) : znam B i e = 6 := by
  have n_week : ¬ zis B i e [119, 101, 101, 107] = true := fun z => absurd (zis_ex z h) (by decide)
  have n_wished : ¬ zis B i e [119, 105, 115, 104, 101, 100] = true := fun z => absurd (zis_ex z h) (by decide)
  have n_number : ¬ zis B i e [110, 117, 109, 98, 101, 114] = true := fun z => absurd (zis_ex z h) (by decide)
  have n_length : ¬ zis B i e [108, 101, 110, 103, 116, 104] = true := fun z => absurd (zis_ex z h) (by decide)
  have n_points : ¬ zis B i e [112, 111, 105, 110, 116, 115] = true := fun z => absurd (zis_ex z h) (by decide)
  have n_away : ¬ zis B i e [97, 119, 97, 121] = true := fun z => absurd (zis_ex z h) (by decide)
  unfold znam
  rw [if_neg n_week, if_neg n_wished, if_neg n_number, if_neg n_length, if_neg n_points, if_neg n_away]
theorem znam_or {B : Nat → Nat} {i e : Nat} (h : zis B i e [111, 114] = true) : znam B i e = 6 := by
  have n_week : ¬ zis B i e [119, 101, 101, 107] = true := fun z => absurd (zis_ex z h) (by decide)
  have n_wished : ¬ zis B i e [119, 105, 115, 104, 101, 100] = true := fun z => absurd (zis_ex z h) (by decide)
  have n_number : ¬ zis B i e [110, 117, 109, 98, 101, 114] = true := fun z => absurd (zis_ex z h) (by decide)
  have n_length : ¬ zis B i e [108, 101, 110, 103, 116, 104] = true := fun z => absurd (zis_ex z h) (by decide)
  have n_points : ¬ zis B i e [112, 111, 105, 110, 116, 115] = true := fun z => absurd (zis_ex z h) (by decide)
  have n_away : ¬ zis B i e [97, 119, 97, 121] = true := fun z => absurd (zis_ex z h) (by decide)
  unfold znam
  rw [if_neg n_week, if_neg n_wished, if_neg n_number, if_neg n_length, if_neg n_points, if_neg n_away]
theorem znam_and {B : Nat → Nat} {i e : Nat} (h : zis B i e [97, 110, 100] = true) : znam B i e = 6 := by
  have n_week : ¬ zis B i e [119, 101, 101, 107] = true := fun z => absurd (zis_ex z h) (by decide)
  have n_wished : ¬ zis B i e [119, 105, 115, 104, 101, 100] = true := fun z => absurd (zis_ex z h) (by decide)
  have n_number : ¬ zis B i e [110, 117, 109, 98, 101, 114] = true := fun z => absurd (zis_ex z h) (by decide)
  have n_length : ¬ zis B i e [108, 101, 110, 103, 116, 104] = true := fun z => absurd (zis_ex z h) (by decide)
  have n_points : ¬ zis B i e [112, 111, 105, 110, 116, 115] = true := fun z => absurd (zis_ex z h) (by decide)
  have n_away : ¬ zis B i e [97, 119, 97, 121] = true := fun z => absurd (zis_ex z h) (by decide)
  unfold znam
  rw [if_neg n_week, if_neg n_wished, if_neg n_number, if_neg n_length, if_neg n_points, if_neg n_away]
theorem znam_not {B : Nat → Nat} {i e : Nat} (h : zis B i e [110, 111, 116] = true) : znam B i e = 6 := by
  have n_week : ¬ zis B i e [119, 101, 101, 107] = true := fun z => absurd (zis_ex z h) (by decide)
  have n_wished : ¬ zis B i e [119, 105, 115, 104, 101, 100] = true := fun z => absurd (zis_ex z h) (by decide)
  have n_number : ¬ zis B i e [110, 117, 109, 98, 101, 114] = true := fun z => absurd (zis_ex z h) (by decide)
  have n_length : ¬ zis B i e [108, 101, 110, 103, 116, 104] = true := fun z => absurd (zis_ex z h) (by decide)
  have n_points : ¬ zis B i e [112, 111, 105, 110, 116, 115] = true := fun z => absurd (zis_ex z h) (by decide)
  have n_away : ¬ zis B i e [97, 119, 97, 121] = true := fun z => absurd (zis_ex z h) (by decide)
  unfold znam
  rw [if_neg n_week, if_neg n_wished, if_neg n_number, if_neg n_length, if_neg n_points, if_neg n_away]
theorem zkey_nam {B : Nat → Nat} {i e : Nat} (h : zkey B i e ≠ 262) : znam B i e = 6 := by
  have hk := zkey_le B i e
  have h2 : zkey B i e = 256 ∨ zkey B i e = 257 ∨ zkey B i e = 258 ∨ zkey B i e = 259 ∨ zkey B i e = 260 ∨ zkey B i e = 261 := by omega
  rcases h2 with z | z | z | z | z | z
  · exact znam_joys (zkey_joys.mp z)
  · exact znam_earns (zkey_earns.mp z)
  · exact znam_may (zkey_may.mp z)
  · exact znam_or (zkey_or.mp z)
  · exact znam_and (zkey_and.mp z)
  · exact znam_not (zkey_not.mp z)
theorem zwd_key {B : Nat → Nat} {i e k : Nat} (hk : k < 262) : (zwd B i e).1 = k ↔ zkey B i e = k := by
  unfold zwd
  split
  · rename_i h
    split
    · exact ⟨fun z => by have z2 : 265 = k := z; omega, fun z => by omega⟩
    · exact ⟨fun z => by have z2 : 262 = k := z; omega, fun z => by omega⟩
  · exact Iff.rfl
theorem zwd_nam {B : Nat → Nat} {i e : Nat} : ((zwd B i e).1 = 262 ↔ znam B i e ≠ 6) ∧ ((zwd B i e).1 = 262 → (zwd B i e).2 = znam B i e) := by
  unfold zwd
  split
  · split
    · rename_i h
      exact ⟨⟨fun z => by have z2 : 265 = 262 := z; omega, fun z => absurd h z⟩, fun z => by have z2 : 265 = 262 := z; omega⟩
    · rename_i h
      exact ⟨⟨fun _ => h, fun _ => rfl⟩, fun _ => rfl⟩
  · rename_i h
    refine ⟨⟨fun z => absurd z h, fun z => absurd (zkey_nam h) z⟩, fun z => absurd z h⟩
theorem zrun_all {p : Nat → Bool} : ∀ j i k, i ≤ k → k < zrun p j i → p k = true := by
  intro j
  induction j with
  | zero => intro i k h1 h2; have h3 : k < i := h2; omega
  | succ j ih =>
    intro i k h1 h2
    unfold zrun at h2
    split at h2
    · rename_i c
      by_cases e : k = i
      · rw [e]; exact c
      · exact ih (i + 1) k (by omega) h2
    · omega
theorem zdig_lt {B : Nat → Nat} {s : Nat} : ∀ k, (∀ i, i < k → zdgt (B (s + i)) = true) → zdig B s k < 10 ^ k := by
  intro k
  induction k with
  | zero => intro _; exact Nat.one_pos
  | succ k ih =>
    intro h
    have h1 := ih (fun i hi => h i (by omega))
    have h2 := of_decide_eq_true (h k (by omega))
    show 10 * zdig B s k + (B (s + k) - 48) < 10 ^ (k + 1)
    rw [Nat.pow_succ]
    omega
/-- the model's bytes -/
def zMB (fr n : Nat) (B : Nat → Nat) (σ : Nat → Nat → Int32) : Prop := n ≤ 160 ∧ fr ≤ 800 ∧ σ 73 18 = nI fr ∧ σ 73 19 = nI n ∧ ∀ i, i < n → σ 74 (fr + i) = nI (B i) ∧ B i < 256
abbrev zMw : Nat → Nat → Prop := fun r c => r = 73 ∧ (c = 20 ∨ c = 21 ∨ c = 22 ∨ c = 24 ∨ c = 25 ∨ c = 26)
abbrev zMx : Nat → Nat → Prop := fun r c => r = 73 ∧ (c = 20 ∨ c = 21 ∨ c = 22)
theorem zMB.fx {fr n : Nat} {B : Nat → Nat} {σ σ' : Nat → Nat → Int32} (h : zMB fr n B σ) {P : Nat → Nat → Prop} (hf : zfx P σ σ') (h1 : ¬ P 73 18) (h2 : ¬ P 73 19) (h3 : ∀ c, ¬ P 74 c) : zMB fr n B σ' :=
  ⟨h.1, h.2.1, (hf _ _ h1).trans h.2.2.1, (hf _ _ h2).trans h.2.2.2.1, fun i hi => by rw [hf 74 _ (h3 _)]; exact h.2.2.2.2 i hi⟩
theorem byteAt_eq {fr n : Nat} {B : Nat → Nat} {M : mm_M} (h : zMB fr n B M.1) {i : Nat} (hi : i < 2147483648) : md_byteAt (nI i) M = some (if i < n then nI (B i) else -1, M) := by
  obtain ⟨h1, h2, h3, h4, h5⟩ := h
  unfold md_byteAt
  rw [h4, h3]
  by_cases c : i < n
  · rw [if_pos (nI_lt c (by omega)), if_pos c, nI_add, if_pos (zI_inb (by omega) (by omega)), zI_nat (by omega), (h5 i c).1]
  · rw [if_neg (nI_nlt (by omega) hi), if_neg c]
section
variable {fr n : Nat} {B : Nat → Nat}
theorem nextM_l0 : ∀ j i m (M : mm_M), zMB fr n B M.1 → M.1 73 20 = nI i → i + j = n → j < m → md_next_l0 m M = some ((), (ak_up M.1 73 20 (nI (zrun (fun k => zbla (B k)) j i)), M.2)) := by
  intro j
  induction j with
  | zero =>
    intro i m M h h6 hi hj
    have hn := h.1
    obtain ⟨m, rfl, -⟩ := z_suc hj
    unfold md_next_l0
    rw [h6, byteAt_eq h (by omega), if_neg (by omega)]
    simp only [Option.bind_some]
    rw [if_neg (by decide), h6, byteAt_eq h (by omega), if_neg (by omega)]
    simp only [Option.bind_some]
    rw [if_neg (by decide)]
    show some ((), M) = some ((), (ak_up M.1 73 20 (nI i), M.2))
    rw [up_self h6]
  | succ j ih =>
    intro i m M h h6 hi hj
    have hn := h.1
    obtain ⟨m, rfl, hm⟩ := z_suc hj
    have e := ih (i + 1) m (ak_up M.1 73 20 (nI (i + 1)), M.2) (h.fx (P := zMx) (zfx.rf.up ⟨rfl, Or.inl rfl⟩) (by omega) (by omega) (by omega)) (show ak_up M.1 73 20 (nI (i + 1)) 73 20 = nI (i + 1) from ak_up_same) (by omega) (by omega)
    rw [show ((ak_up M.1 73 20 (nI (i + 1)), M.2) : mm_M).1 = ak_up M.1 73 20 (nI (i + 1)) from rfl, up_up] at e
    have hb := (h.2.2.2.2 i (by omega)).2
    have e32 : nI (B i) = 32 ↔ B i = 32 := nI_eq (b := 32) (by omega) (by decide)
    have e10 : nI (B i) = 10 ↔ B i = 10 := nI_eq (b := 10) (by omega) (by decide)
    unfold md_next_l0 zrun
    rw [h6, byteAt_eq h (by omega), if_pos (show i < n by omega)]
    simp only [Option.bind_some, h6, nI_1]
    by_cases c1 : B i = 32
    · have zb : zbla (B i) = true := by unfold zbla; simp [c1]
      rw [if_pos (e32.mpr c1), if_pos zb]
      exact e
    · rw [if_neg (fun z => c1 (e32.mp z)), byteAt_eq h (by omega), if_pos (show i < n by omega)]
      simp only [Option.bind_some, h6, nI_1]
      by_cases c2 : B i = 10
      · have zb : zbla (B i) = true := by unfold zbla; simp [c2]
        rw [if_pos (e10.mpr c2), if_pos zb]
        exact e
      · have zb : ¬ zbla (B i) = true := by unfold zbla; simp [c1, c2]
        rw [if_neg (fun z => c2 (e10.mp z)), if_neg zb, up_self h6]
theorem inM_eq {k : Nat} (hk : k < 256) (a b : Nat) (ha : a < 256) (hb : b < 256) (M : mm_M) : md_in (nI k).toInt64 (nI a).toInt64 (nI b).toInt64 M = some (bI (a ≤ k ∧ k ≤ b), M) := by
  rw [in_eq]
  refine some_bI ?_ M
  rw [Int32.toInt_toInt64, Int32.toInt_toInt64, Int32.toInt_toInt64, zI_int (by omega), zI_int (by omega), zI_int (by omega)]
  omega
theorem inM_m1 (a b : Nat) (ha : a < 256) (hb : b < 256) (M : mm_M) : md_in (-1 : Int32).toInt64 (nI a).toInt64 (nI b).toInt64 M = some (bI False, M) := by
  rw [in_eq]
  refine some_bI ?_ M
  rw [Int32.toInt_toInt64, Int32.toInt_toInt64, Int32.toInt_toInt64, zI_int (by omega), zI_int (by omega), show (-1 : Int32).toInt = -1 from rfl]
  exact ⟨fun z => by omega, fun z => z.elim⟩
theorem nextM_l100 : ∀ j i m (M : mm_M), zMB fr n B M.1 → M.1 73 20 = nI i → i + j = n → j < m → md_next_l100 m M = some ((), (ak_up M.1 73 20 (nI (zrun (fun k => zlet (B k)) j i)), M.2)) := by
  intro j
  induction j with
  | zero =>
    intro i m M h h6 hi hj
    have hn := h.1
    obtain ⟨m, rfl, -⟩ := z_suc hj
    unfold md_next_l100
    rw [h6, byteAt_eq h (by omega), if_neg (by omega)]
    simp only [Option.bind_some]
    rw [show (97 : Int64) = (nI 97).toInt64 from rfl, show (122 : Int64) = (nI 122).toInt64 from rfl, inM_m1 _ _ (by decide) (by decide)]
    simp only [Option.bind_some]
    rw [if_pos (by decide)]
    show some ((), M) = some ((), (ak_up M.1 73 20 (nI i), M.2))
    rw [up_self h6]
  | succ j ih =>
    intro i m M h h6 hi hj
    have hn := h.1
    obtain ⟨m, rfl, hm⟩ := z_suc hj
    have e := ih (i + 1) m (ak_up M.1 73 20 (nI (i + 1)), M.2) (h.fx (P := zMx) (zfx.rf.up ⟨rfl, Or.inl rfl⟩) (by omega) (by omega) (by omega)) (show ak_up M.1 73 20 (nI (i + 1)) 73 20 = nI (i + 1) from ak_up_same) (by omega) (by omega)
    rw [show ((ak_up M.1 73 20 (nI (i + 1)), M.2) : mm_M).1 = ak_up M.1 73 20 (nI (i + 1)) from rfl, up_up] at e
    have hb := (h.2.2.2.2 i (by omega)).2
    unfold md_next_l100 zrun
    rw [h6, byteAt_eq h (by omega), if_pos (by omega)]
    simp only [Option.bind_some, h6]
    rw [show (97 : Int64) = (nI 97).toInt64 from rfl, show (122 : Int64) = (nI 122).toInt64 from rfl, inM_eq hb _ _ (by decide) (by decide)]
    simp only [Option.bind_some, h6, nI_1, e, bI_if]
    by_cases c1 : 97 ≤ B i ∧ B i ≤ 122
    · have zb : zlet (B i) = true := by unfold zlet; simp [c1]
      rw [if_pos c1, if_pos zb]
    · have zb : ¬ zlet (B i) = true := by unfold zlet; simp only [decide_eq_true_eq]; exact c1
      rw [if_neg c1, if_neg zb, up_self h6]
theorem dig_step : ∀ v < 1000, ∀ d < 10, (10 : Int64) * (nI v).toInt64 + (nI (48 + d)).toInt64 - 48 = (nI (10 * v + d)).toInt64 := by decide +kernel
theorem nextM_l160 {s : Nat} : ∀ j i m (M : mm_M), zMB fr n B M.1 → M.1 73 20 = nI i → s ≤ i → (∀ k, s ≤ k → k < i → zdgt (B k) = true) → M.2.2 = (nI (zdig B s (min (i - s) 4))).toInt64 → i + j = n → j < m → Ok (md_next_l160 m (nI (i - s)) M) (fun y => y.1 = nI (zrun (fun k => zdgt (B k)) j i - s) ∧ y.2.1 73 20 = nI (zrun (fun k => zdgt (B k)) j i) ∧ y.2.2.2 = (nI (zdig B s (min (zrun (fun k => zdgt (B k)) j i - s) 4))).toInt64 ∧ zfx (fun r c => r = 73 ∧ c = 20) M.1 y.2.1 ∧ y.2.2.1 = M.2.1) := by
  intro j
  induction j with
  | zero =>
    intro i m M h h6 hs ha ht hi hj
    have hn := h.1
    obtain ⟨m, rfl, -⟩ := z_suc hj
    unfold md_next_l160
    rw [h6, byteAt_eq h (by omega), if_neg (by omega)]
    simp only [Option.bind_some]
    rw [show (48 : Int64) = (nI 48).toInt64 from rfl, show (57 : Int64) = (nI 57).toInt64 from rfl, inM_m1 _ _ (by decide) (by decide)]
    simp only [Option.bind_some]
    exact ok_pos (by decide) (ok_ret ⟨rfl, h6, ht, zfx.rf, rfl⟩)
  | succ j ih =>
    intro i m M h h6 hs ha ht hi hj
    have hn := h.1
    obtain ⟨m, rfl, hm⟩ := z_suc hj
    have hb := (h.2.2.2.2 i (by omega)).2
    unfold md_next_l160 zrun
    rw [h6, byteAt_eq h (by omega), if_pos (by omega)]
    simp only [Option.bind_some]
    rw [show (48 : Int64) = (nI 48).toInt64 from rfl, show (57 : Int64) = (nI 57).toInt64 from rfl, inM_eq hb _ _ (by decide) (by decide)]
    simp only [Option.bind_some, bI_if]
    by_cases c1 : 48 ≤ B i ∧ B i ≤ 57
    · have cd : zdgt (B i) = true := by unfold zdgt; simp [c1]
      rw [if_pos c1, if_pos cd]
      have hf : zfx (fun r c => r = 73 ∧ c = 20) M.1 (ak_up M.1 73 20 (nI (i + 1))) := zfx.rf.up ⟨rfl, rfl⟩
      have ha2 : ∀ k, s ≤ k → k < i + 1 → zdgt (B k) = true := by
        intro k h1 h2
        by_cases e : k = i
        · rw [e]; exact cd
        · exact ha k h1 (by omega)
      have fin : ∀ tw : Int64, tw = (nI (zdig B s (min (i + 1 - s) 4))).toInt64 → Ok (md_next_l160 m (nI (i - s) + 1) (ak_up M.1 73 20 (nI (i + 1)), M.2.1, tw)) (fun y => y.1 = nI (zrun (fun k => zdgt (B k)) j (i + 1) - s) ∧ y.2.1 73 20 = nI (zrun (fun k => zdgt (B k)) j (i + 1)) ∧ y.2.2.2 = (nI (zdig B s (min (zrun (fun k => zdgt (B k)) j (i + 1) - s) 4))).toInt64 ∧ zfx (fun r c => r = 73 ∧ c = 20) M.1 y.2.1 ∧ y.2.2.1 = M.2.1) := by
        intro tw htw
        have := ih (i + 1) m (ak_up M.1 73 20 (nI (i + 1)), M.2.1, tw) (h.fx hf (by omega) (by omega) (by omega)) (show ak_up M.1 73 20 (nI (i + 1)) 73 20 = nI (i + 1) from ak_up_same) (by omega) ha2 htw (by omega) (by omega)
        rw [nI_1, show i - s + 1 = i + 1 - s by omega]
        exact ok_mono this (fun y hy => ⟨hy.1, hy.2.1, hy.2.2.1, hf.tr hy.2.2.2.1, hy.2.2.2.2⟩)
      refine ok_ite (fun z => ?_) (fun z => ?_)
      · have z2 : i - s < 4 := (nI_ltI (b := 4) (by omega) (by decide)).mp z
        rw [h6, byteAt_eq h (by omega), if_pos (show i < n by omega)]
        simp only [Option.bind_some]
        rw [h6, nI_1 i]
        refine fin _ ?_
        rw [ht, Nat.min_eq_left (by omega), Nat.min_eq_left (by omega), show i + 1 - s = (i - s) + 1 by omega]
        have hz : zdig B s (i - s) < 10 ^ (i - s) := zdig_lt _ (fun k hk => ha (s + k) (by omega) (by omega))
        have hp : 10 ^ (i - s) ≤ 10 ^ 3 := Nat.pow_le_pow_right (by decide) (by omega)
        have e := dig_step (zdig B s (i - s)) (by omega) (B i - 48) (by omega)
        rw [show 48 + (B i - 48) = B i by omega] at e
        refine e.trans ?_
        show _ = (nI (10 * zdig B s (i - s) + (B (s + (i - s)) - 48))).toInt64
        rw [show s + (i - s) = i by omega]
      · have z2 : ¬ i - s < 4 := fun w => z (nI_lt (b := 4) w (by decide))
        rw [h6, nI_1 i]
        refine fin _ ?_
        rw [ht, Nat.min_eq_right (by omega), Nat.min_eq_right (by omega)]
    · have cd : ¬ zdgt (B i) = true := by unfold zdgt; simp only [decide_eq_true_eq]; exact c1
      rw [if_neg c1, if_neg cd]
      exact ok_ret ⟨rfl, h6, ht, zfx.rf, rfl⟩
end
