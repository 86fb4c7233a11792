/-! level 2: one more in a plan; turns -/
section
variable {v : zV} {T : zT3}
theorem zbt_add {f : Nat → Bool} {n p : Nat} (hp : p < n) (hf : f p = false) (c : Bool) : zbt (fun q => if q = p then c else f q) n = if c = true then zbt f n ||| 2 ^ p else zbt f n := by
  refine Nat.eq_of_testBit_eq (fun i => ?_)
  rw [zbt_tb]
  by_cases hc : c = true
  · rw [if_pos hc, Nat.testBit_or, zbt_tb, Nat.testBit_two_pow]
    by_cases e : i = p
    · simp [e, hp, hc]
    · have e2 : ¬ p = i := fun z => e z.symm
      simp [e, e2]
  · rw [if_neg hc, zbt_tb]
    have hc2 : c = false := by simpa using hc
    by_cases e : i = p
    · simp [e, hf, hc2]
    · simp [e]
theorem zwk_0 (l : Nat) : zwk l 0 = 0 := rfl
theorem zaw_do {d : Nat → Nat} {p k : Nat} (hp : p < v.n) (h0 : d p = 0) (w : Nat) : zaw v (zdo d p k) w = if (zwk (v.le p) k).testBit w = true then zaw v d w ||| 2 ^ p else zaw v d w := by
  unfold zaw
  have e : (fun q => (zwk (v.le q) (zdo d p k q)).testBit w) = (fun q => if q = p then (zwk (v.le p) k).testBit w else (fun q => (zwk (v.le q) (d q)).testBit w) q) := by
    funext q
    unfold zdo
    by_cases g : q = p
    · rw [if_pos g, if_pos g, g]
    · rw [if_neg g, if_neg g]
  rw [e]
  refine zbt_add hp ?_ _
  show (zwk (v.le p) (d p)).testBit w = false
  rw [h0, zwk_0]
  exact Nat.zero_testBit w
/-- the weeks closed to one -/
def zcls (v : zV) (d : Nat → Nat) (p : Nat) : Nat := zbt (fun w => !(zal v (zaw v d w ||| 2 ^ p))) 8
def zcan (T : zT3) (v : zV) (d : Nat → Nat) (p k : Nat) : Bool := zcb T v p k && decide (zwk (v.le p) k &&& zcls v d p = 0)
theorem zcan_eq {d : Nat → Nat} {p k : Nat} (hp : p < v.n) (h0 : d p = 0) (hh : zhd T v d = true) : zhd T v (zdo d p k) = zcan T v d p k := by
  unfold zhd at hh
  rw [Bool.and_eq_true, zaf_iff, zaf_iff] at hh
  obtain ⟨h1, h2⟩ := hh
  have a1 : zaf (fun q => zcb T v q (zdo d p k q)) 0 v.n = zcb T v p k := by
    rw [Bool.eq_iff_iff, zaf_iff]
    constructor
    · intro h
      have := h p (Nat.zero_le p) (by omega)
      unfold zdo at this
      rw [if_pos rfl] at this
      exact this
    · intro h i hi1 hi2
      unfold zdo
      by_cases e : i = p
      · rw [if_pos e, e]; exact h
      · rw [if_neg e]; exact h1 i hi1 hi2
  have a2 : zaf (zrt v (zdo d p k)) 0 8 = decide (zwk (v.le p) k &&& zcls v d p = 0) := by
    rw [Bool.eq_iff_iff, zaf_iff, decide_eq_true_eq]
    have hr : ∀ w, zrt v (zdo d p k) w = if (zwk (v.le p) k).testBit w = true then zal v (zaw v d w ||| 2 ^ p) else zrt v d w := by
      intro w
      unfold zrt
      rw [zaw_do hp h0]
      split <;> rfl
    constructor
    · intro h
      refine Nat.eq_of_testBit_eq (fun i => ?_)
      rw [Nat.testBit_and, Nat.zero_testBit]
      unfold zcls
      rw [zbt_tb]
      by_cases hi : i < 8
      · have := h i (Nat.zero_le i) (by omega)
        rw [hr i] at this
        by_cases c : (zwk (v.le p) k).testBit i = true
        · rw [if_pos c] at this
          simp [this]
        · simp [c]
      · simp [hi]
    · intro h i hi1 hi2
      rw [hr i]
      by_cases c : (zwk (v.le p) k).testBit i = true
      · rw [if_pos c]
        have h3 : (zwk (v.le p) k &&& zcls v d p).testBit i = false := by rw [h]; exact Nat.zero_testBit i
        rw [Nat.testBit_and, c] at h3
        unfold zcls at h3
        rw [zbt_tb] at h3
        have hi8 : i < 8 := by omega
        simpa [hi8] using h3
      · rw [if_neg c]
        exact h2 i hi1 hi2
  unfold zhd zcan
  rw [a1, a2]
theorem zorp {a p : Nat} (ha : a < 16) (hp : p < 4) : nI a ||| ((1 : Int32) <<< (nI p &&& 31)) = nI (a ||| 2 ^ p) ∧ a ||| 2 ^ p < 16 := by
  have h : ∀ a < 16, ∀ p < 4, nI a ||| ((1 : Int32) <<< (nI p &&& 31)) = nI (a ||| 2 ^ p) ∧ a ||| 2 ^ p < 16 := by decide +kernel
  exact h a ha p hp
theorem closedC_l {b : Nat} {d : Nat → Nat} {M : mm_M} (hB : zB v) (h : zPC b v T M) (hd : zDg 61 v.n d M.1) {p : Nat} (hp : p < v.n) : ∀ j k m, k + j = 8 → j < m → pl_weeksClosedTo_l4 m (nI p) (nI (zbt (fun w => !(zal v (zaw v d w ||| 2 ^ p))) k)) (nI k) M = some (nI (zcls v d p), M) := by
  have hn := hB.n
  intro j
  induction j with
  | zero =>
    intro k m hk hm
    obtain ⟨m, rfl, -⟩ := z_suc hm
    obtain rfl : k = 8 := by omega
    rw [pl_weeksClosedTo_l4, if_neg (by decide)]
    rfl
  | succ j ih =>
    intro k m hk hm
    obtain ⟨m, rfl, hm2⟩ := z_suc hm
    have hl : nI k < (8 : Int32) := nI_lt (b := 8) (by omega) (by decide)
    obtain ⟨e1, e2⟩ := zorp (p := p) (zaw_lt (v := v) (d := d) hn k) (by omega)
    have e := ih (k + 1) m (by omega) (by omega)
    rw [pl_weeksClosedTo_l4, if_pos hl, awayInC_eq hB h hd (by omega)]
    simp only [Option.bind_some]
    rw [e1, if_pos (zI_inb (by omega) e2), zI_nat (by omega), h.2.2.2.1 _ e2, bI_if, nI_1]
    by_cases c : zal v (zaw v d k ||| 2 ^ p) = true
    · rw [if_pos c, ← e]
      congr 2
      show _ = zbt _ k + (if (!(zal v (zaw v d k ||| 2 ^ p))) = true then 2 ^ k else 0)
      simp [c]
    · rw [if_neg c, zor8_t (by omega) (zbt_lt _ _), ← e]
      congr 2
      show _ = zbt _ k + (if (!(zal v (zaw v d k ||| 2 ^ p))) = true then 2 ^ k else 0)
      simp [c]
theorem closedC_eq {b : Nat} {d : Nat → Nat} {M : mm_M} (hB : zB v) (h : zPC b v T M) (hd : zDg 61 v.n d M.1) {p : Nat} (hp : p < v.n) : pl_weeksClosedTo (nI p) M = some (nI (zcls v d p), M) := by
  unfold pl_weeksClosedTo
  rw [show pl_weeksClosedTo_l4 300 (nI p) (0 : Int32) (0 : Int32) M = _ from closedC_l hB h hd hp 8 0 300 (by decide) (by decide)]
  rfl
theorem canAddC_eq {b : Nat} {d : Nat → Nat} {M : mm_M} (hB : zB v) (h : zPC b v T M) {p k : Nat} (hp : p < v.n) (hk : k ≤ 8) : pl_canAdd (nI (9 * p + k)) (nI (zcls v d p)) M = some (bI (zcan T v d p k = true), M) := by
  have hn := hB.n
  obtain ⟨r1, r2, r3⟩ := h.2.2.2.2 p k hp hk
  have gi : ak_inb (nI (9 * p + k)) 36 = true := zI_inb (by omega) (by omega)
  unfold pl_canAdd zcan
  rw [if_pos gi, zI_nat (by omega), r3, bI_if, r1]
  by_cases c : zcb T v p k = true
  · rw [if_pos c, if_pos gi, nI_and]
    have hlt : zwk (v.le p) k &&& zcls v d p < 2147483648 := Nat.lt_of_le_of_lt Nat.and_le_left (Nat.lt_trans (zwk_lt _ _) (by decide))
    by_cases e : zwk (v.le p) k &&& zcls v d p = 0
    · rw [if_pos ((z_eq0 hlt).mpr e), bI_t (by simp [c, e])]
    · rw [if_neg (fun z => e ((z_eq0 hlt).mp z)), bI_f (by simp [e])]
  · rw [if_neg c, bI_f (by simp [c])]
/-! whose turn it is -/
def zci (c : Nat) : Int32 := if c = 9 then -1 else nI c
def znt (v : zV) (tk : Nat) : Nat → Nat → Nat → Nat
  | _, 0, c => c
  | k, j + 1, c => if tk.testBit k = true then znt v tk (k + 1) j c else if c = 9 then znt v tk (k + 1) j k else if v.po c < v.po k then znt v tk (k + 1) j k else znt v tk (k + 1) j c
theorem znt_ok (tk : Nat) : ∀ j k c, (c = 9 ∨ (c < k ∧ tk.testBit c = false)) → (c ≠ 9 ∨ ∃ q, k ≤ q ∧ q < k + j ∧ tk.testBit q = false) → k + j ≤ 8 → znt v tk k j c < k + j ∧ tk.testBit (znt v tk k j c) = false := by
  intro j
  induction j with
  | zero =>
    intro k c h1 h2 hk
    rcases h2 with z | ⟨q, q1, q2, q3⟩
    · rcases h1 with w | w
      · exact absurd w z
      · exact ⟨by show c < k + 0; omega, w.2⟩
    · omega
  | succ j ih =>
    intro k c h1 h2 hk
    rw [znt]
    have ek : k + 1 + j = k + (j + 1) := by omega
    by_cases t : tk.testBit k = true
    · rw [if_pos t, ← ek]
      refine ih (k + 1) c (h1.imp id (fun w => ⟨by omega, w.2⟩)) (h2.imp id (fun ⟨q, q1, q2, q3⟩ => ⟨q, ?_, by omega, q3⟩)) (by omega)
      by_cases e : q = k
      · rw [e] at q3
        rw [q3] at t
        cases t
      · omega
    · have t2 : tk.testBit k = false := by simpa using t
      rw [if_neg t, ← ek]
      by_cases c9 : c = 9
      · rw [if_pos c9]
        exact ih (k + 1) k (Or.inr ⟨by omega, t2⟩) (Or.inl (by omega)) (by omega)
      · rw [if_neg c9]
        have h3 := h1.resolve_left c9
        by_cases g : v.po c < v.po k
        · rw [if_pos g]
          exact ih (k + 1) k (Or.inr ⟨by omega, t2⟩) (Or.inl (by omega)) (by omega)
        · rw [if_neg g]
          exact ih (k + 1) c (Or.inr ⟨by omega, h3.2⟩) (Or.inl c9) (by omega)
theorem zci_m1 {c : Nat} (hc : c < 4 ∨ c = 9) : zci c = -1 ↔ c = 9 := by
  unfold zci
  by_cases e : c = 9
  · rw [if_pos e]; exact ⟨fun _ => e, fun _ => rfl⟩
  · rw [if_neg e]
    have : ∀ k < 4, nI k ≠ (-1 : Int32) := by decide
    exact ⟨fun z => absurd z (this c (by omega)), fun z => absurd z e⟩
theorem nextC_l {b : Nat} {M : mm_M} (hB : zB v) (h : zPC b v T M) {tk : Nat} (ht : tk < 16) : ∀ j k m c, k + j = v.n → j < m → (c = 9 ∨ c < k) → pl_nextInTurn_l4 m (nI tk) (zci c) (nI k) M = some (zci (znt v tk k j c), M) := by
  have hn := hB.n
  intro j
  induction j with
  | zero =>
    intro k m c hk hm hc
    obtain ⟨m, rfl, -⟩ := z_suc hm
    rw [pl_nextInTurn_l4, if_pos h.is8, h.n, if_neg (nI_nlt (by omega) (by omega))]
    rfl
  | succ j ih =>
    intro k m c hk hm hc
    obtain ⟨m, rfl, hm2⟩ := z_suc hm
    have hk4 : k < v.n := by omega
    have hS := h.2.2.1
    rw [pl_nextInTurn_l4, if_pos h.is8, h.n, if_pos (nI_lt hk4 (by omega)), zI_sh (by omega) (by omega), bI_if, nI_1, znt]
    by_cases t : tk.testBit k = true
    · rw [if_pos t, if_pos t]
      exact ih (k + 1) m c (by omega) (by omega) (by omega)
    · rw [if_neg t, if_neg t]
      have hk9 : zci k = nI k := if_neg (by omega)
      by_cases c9 : c = 9
      · rw [if_pos ((zci_m1 (by omega)).mpr c9), if_pos c9, ← hk9]
        exact ih (k + 1) m k (by omega) (by omega) (by omega)
      · have hc2 : c < k := hc.resolve_left c9
        have ec : zci c = nI c := if_neg c9
        rw [if_neg (fun z => c9 ((zci_m1 (by omega)).mp z)), if_neg c9, if_pos h.is8, if_pos (zI_inb (by omega) (by omega)), if_pos h.is8, ec, if_pos (zI_inb (by omega) (by omega)), zI_nat (by omega), zI_nat (by omega), h.1, hS.po c (by omega), hS.po k hk4]
        have p1 := hB.po c (by omega)
        have p2 := hB.po k hk4
        by_cases g : v.po c < v.po k
        · rw [if_pos (nI_lt g (by omega)), if_pos g, ← hk9]
          exact ih (k + 1) m k (by omega) (by omega) (by omega)
        · rw [if_neg (nI_nlt (by omega) (by omega)), if_neg g, ← ec]
          exact ih (k + 1) m c (by omega) (by omega) (by omega)
theorem nextM_l {M : mm_M} (hB : zB v) (h : ShM M.1 v) {tk : Nat} (ht : tk < 16) : ∀ j k m c, k + j = v.n → j < m → (c = 9 ∨ c < k) → md_nextTurn_l4 m (nI tk) (zci c) (nI k) M = some (zci (znt v tk k j c), M) := by
  have hn := hB.n
  intro j
  induction j with
  | zero =>
    intro k m c hk hm hc
    obtain ⟨m, rfl, -⟩ := z_suc hm
    rw [md_nextTurn_l4, h.n, if_neg (nI_nlt (by omega) (by omega))]
    rfl
  | succ j ih =>
    intro k m c hk hm hc
    obtain ⟨m, rfl, hm2⟩ := z_suc hm
    have hk4 : k < v.n := by omega
    rw [md_nextTurn_l4, h.n, if_pos (nI_lt hk4 (by omega)), zI_sh (by omega) (by omega), bI_if, nI_1, znt]
    by_cases t : tk.testBit k = true
    · rw [if_pos t, if_pos t]
      exact ih (k + 1) m c (by omega) (by omega) (by omega)
    · rw [if_neg t, if_neg t]
      have hk9 : zci k = nI k := if_neg (by omega)
      by_cases c9 : c = 9
      · rw [if_pos ((zci_m1 (by omega)).mpr c9), if_pos c9, ← hk9]
        exact ih (k + 1) m k (by omega) (by omega) (by omega)
      · have hc2 : c < k := hc.resolve_left c9
        have ec : zci c = nI c := if_neg c9
        rw [if_neg (fun z => c9 ((zci_m1 (by omega)).mp z)), if_neg c9, ec, z5_3, z5_3, if_pos (zI_inb (by omega) (by omega)), if_pos (zI_inb (by omega) (by omega)), zI_nat (by omega), zI_nat (by omega), h.po c (by omega), h.po k hk4]
        have p1 := hB.po c (by omega)
        have p2 := hB.po k hk4
        by_cases g : v.po c < v.po k
        · rw [if_pos (nI_lt g (by omega)), if_pos g, ← hk9]
          exact ih (k + 1) m k (by omega) (by omega) (by omega)
        · rw [if_neg (nI_nlt (by omega) (by omega)), if_neg g, ← ec]
          exact ih (k + 1) m c (by omega) (by omega) (by omega)
def zntr (v : zV) (tk : Nat) : Nat := znt v tk 0 v.n 9
theorem nextC_eq {b : Nat} {M : mm_M} (hB : zB v) (h : zPC b v T M) {tk : Nat} (ht : tk < 16) : pl_nextInTurn (nI tk) M = some (zci (zntr v tk), M) := by
  have hn := hB.n
  unfold pl_nextInTurn zntr
  rw [show pl_nextInTurn_l4 300 (nI tk) (-1 : Int32) (0 : Int32) M = _ from nextC_l hB h ht v.n 0 300 9 (by omega) (by omega) (Or.inl rfl)]
  rfl
theorem nextM_eq {M : mm_M} (hB : zB v) (h : ShM M.1 v) {tk : Nat} (ht : tk < 16) : md_nextTurn (nI tk) M = some (zci (zntr v tk), M) := by
  have hn := hB.n
  unfold md_nextTurn zntr
  rw [show md_nextTurn_l4 300 (nI tk) (-1 : Int32) (0 : Int32) M = _ from nextM_l hB h ht v.n 0 300 9 (by omega) (by omega) (Or.inl rfl)]
  rfl
/-- the gladdest week of one that still fits -/
def zgd (T : zT3) (v : zV) (d : Nat → Nat) (p : Nat) : Nat → Nat → Nat → Nat
  | _, 0, c => c
  | k, j + 1, c => if zhd T v (zdo d p k) = true ∧ zgs T v p c < zgs T v p k then zgd T v d p (k + 1) j k else zgd T v d p (k + 1) j c
theorem zgd_ok {d : Nat → Nat} {p : Nat} : ∀ j k c, c < k → k + j = 9 → zhd T v (zdo d p c) = true → zgd T v d p k j c ≤ 8 ∧ zhd T v (zdo d p (zgd T v d p k j c)) = true := by
  intro j
  induction j with
  | zero =>
    intro k c h1 h2 h3
    exact ⟨by show c ≤ 8; omega, h3⟩
  | succ j ih =>
    intro k c h1 h2 h3
    rw [zgd]
    split
    · rename_i z
      exact ih (k + 1) k (by omega) (by omega) z.1
    · exact ih (k + 1) c (by omega) (by omega) h3
theorem zdo_0 {d : Nat → Nat} {p : Nat} (h : d p = 0) : zdo d p 0 = d := by
  funext q
  unfold zdo
  split
  · rename_i e
    rw [e, h]
  · rfl
theorem zdo_do {d : Nat → Nat} {p a c : Nat} : zdo (zdo d p a) p c = zdo d p c := by
  funext q
  unfold zdo
  split <;> rfl
theorem gladdestC_l {b : Nat} {d : Nat → Nat} {M : mm_M} (hB : zB v) (h : zPC b v T M) (hh : zhd T v d = true) {p : Nat} (hp : p < v.n) (h0 : d p = 0) : ∀ j k m c, k + j = 9 → j < m → c < k → pl_gladdest_l17 m (nI (zcls v d p)) (nI (9 * p)) (nI c) (nI k) M = some (nI (zgd T v d p k j c), M) := by
  have hn := hB.n
  intro j
  induction j with
  | zero =>
    intro k m c hk hm hc
    obtain ⟨m, rfl, -⟩ := z_suc hm
    obtain rfl : k = 9 := by omega
    rw [pl_gladdest_l17, if_neg (by decide)]
    rfl
  | succ j ih =>
    intro k m c hk hm hc
    obtain ⟨m, rfl, hm2⟩ := z_suc hm
    have hl : nI k < (9 : Int32) := nI_lt (b := 9) (by omega) (by decide)
    rw [pl_gladdest_l17, if_pos hl, nI_add, nI_add, nI_1, canAddC_eq (d := d) hB h hp (show k ≤ 8 by omega)]
    simp only [Option.bind_some, bI_if]
    rw [zgd, zcan_eq hp h0 hh]
    by_cases e : zcan T v d p k = true
    · rw [if_pos e, if_pos (zI_inb (by omega) (by omega)), if_pos (zI_inb (by omega) (by omega)), zI_nat (by omega), zI_nat (by omega), (h.2.2.2.2 p c hp (by omega)).2.1, (h.2.2.2.2 p k hp (by omega)).2.1]
      by_cases g : zgs T v p c < zgs T v p k
      · rw [if_pos g, if_pos ⟨e, g⟩]
        exact ih (k + 1) m k (by omega) (by omega) (by omega)
      · rw [if_neg g, if_neg (fun z => g z.2)]
        exact ih (k + 1) m c (by omega) (by omega) (by omega)
    · rw [if_neg e, if_neg (fun z => e z.1)]
      exact ih (k + 1) m c (by omega) (by omega) (by omega)
theorem gladdestC_eq {b : Nat} {d : Nat → Nat} {M : mm_M} (hB : zB v) (h : zPC b v T M) (hd : zDg 61 v.n d M.1) (hh : zhd T v d = true) {p : Nat} (hp : p < v.n) (h0 : d p = 0) : pl_gladdest (nI p) M = some (nI (zgd T v d p 1 8 0), M) := by
  unfold pl_gladdest
  rw [closedC_eq hB h hd hp]
  simp only [Option.bind_some]
  rw [show nI p * (9 : Int32) = nI (9 * p) from by rw [show (9 : Int32) = nI 9 from rfl, zI_mul, Nat.mul_comm], show pl_gladdest_l17 300 (nI (zcls v d p)) (nI (9 * p)) (0 : Int32) (1 : Int32) M = _ from gladdestC_l hB h hh hp h0 8 1 300 0 (by decide) (by decide) (by decide)]
  rfl
theorem takesM_l {d : Nat → Nat} (hB : zB v) {p : Nat} (hp : p < v.n) : ∀ j k m c (M : mm_M), k + j = 9 → j < m → c < k → zPM v T M → (∃ a, a ≤ 8 ∧ zDg 84 v.n (zdo d p a) M.1) → Ok (md_takes_l7 m (nI p) (nI c) (zgs T v p c) (nI k) M) (fun y => y.1 = nI (zgd T v d p k j c) ∧ zPM v T y.2 ∧ (∃ a, a ≤ 8 ∧ zDg 84 v.n (zdo d p a) y.2.1) ∧ zfx (fun r _ => r = 84) M.1 y.2.1 ∧ y.2.2 = M.2) := by
  have hn := hB.n
  intro j
  induction j with
  | zero =>
    intro k m c M hk hm hc h hd
    obtain ⟨m, rfl, -⟩ := z_suc hm
    obtain rfl : k = 9 := by omega
    rw [md_takes_l7]
    exact ok_pos (by decide) (ok_ret ⟨rfl, h, hd, zfx.rf, rfl⟩)
  | succ j ih =>
    intro k m c M hk hm hc h hd
    obtain ⟨m, rfl, hm2⟩ := z_suc hm
    obtain ⟨a, ha, hd⟩ := hd
    have gi : ak_inb (nI (9 * p + k)) 36 = true := zI_inb (by omega) (by omega)
    rw [md_takes_l7, z9b, nI_1]
    refine ok_neg (nI_nlt (a := 8) (by omega) (by decide)) (ok_pos (zI_inb (by omega) (by omega)) (ok_pos gi ?_))
    rw [zI_nat (show p < 2147483648 by omega), zI_nat (show 9 * p + k < 2147483648 by omega)]
    have hf : zfx (fun r _ => r = 84) M.1 (ak_up M.1 84 p (nI k)) := zfx.rf.up rfl
    have h2 : zPM v T (ak_up M.1 84 p (nI k), M.2) := h.w84 (M' := (_, M.2)) hf
    have hd2 : zDg 84 v.n (zdo d p k) (ak_up M.1 84 p (nI k)) := by
      have := hd.up (p := p) (k := k) (by omega)
      rw [zdo_do] at this
      exact this
    have e82 : ak_up M.1 84 p (nI k) 82 (9 * p + k) = zgs T v p k := (h2.2 p k hp (by omega)).2.1
    rw [e82, zgd]
    by_cases g : zgs T v p c < zgs T v p k
    · refine ok_pos g ?_
      rw [holdsM_eq (M := (ak_up M.1 84 p (nI k), M.2)) hB h2 hd2]
      simp only [Option.bind_some, bI_if]
      by_cases e : zhd T v (zdo d p k) = true
      · rw [if_pos e, if_pos gi, if_pos (show zhd T v (zdo d p k) = true ∧ zgs T v p c < zgs T v p k from ⟨e, g⟩), e82]
        exact ok_mono (ih (k + 1) m k (_, M.2) (by omega) (by omega) (by omega) h2 ⟨k, by omega, hd2⟩) (fun y hy => ⟨hy.1, hy.2.1, hy.2.2.1, hf.tr hy.2.2.2.1, hy.2.2.2.2⟩)
      · rw [if_neg e, if_neg (show ¬ (zhd T v (zdo d p k) = true ∧ zgs T v p c < zgs T v p k) from fun z => e z.1)]
        exact ok_mono (ih (k + 1) m c (_, M.2) (by omega) (by omega) (by omega) h2 ⟨k, by omega, hd2⟩) (fun y hy => ⟨hy.1, hy.2.1, hy.2.2.1, hf.tr hy.2.2.2.1, hy.2.2.2.2⟩)
    · refine ok_neg g ?_
      rw [if_neg (fun z => g z.2)]
      exact ok_mono (ih (k + 1) m c (_, M.2) (by omega) (by omega) (by omega) h2 ⟨k, by omega, hd2⟩) (fun y hy => ⟨hy.1, hy.2.1, hy.2.2.1, hf.tr hy.2.2.2.1, hy.2.2.2.2⟩)
theorem zgs_0 (T : zT3) (v : zV) (p : Nat) : zgs T v p 0 = 0 := by
  unfold zgs
  rw [zwk_0]
  simp [zsI]
theorem takesM_ok {d : Nat → Nat} {M : mm_M} (hB : zB v) (h : zPM v T M) (hd : zDg 84 v.n d M.1) (hh : zhd T v d = true) {p : Nat} (hp : p < v.n) (h0 : d p = 0) : Ok (md_takes (nI p) M) (fun y => zPM v T y.2 ∧ zDg 84 v.n (zdo d p (zgd T v d p 1 8 0)) y.2.1 ∧ zfx (fun r _ => r = 84) M.1 y.2.1 ∧ y.2.2 = M.2) := by
  have hn := hB.n
  unfold md_takes
  have e0 := zgs_0 T v p
  have l := takesM_l (T := T) (d := d) hB hp 8 1 300 0 M (by decide) (by decide) (by decide) h ⟨0, by decide, by rw [zdo_0 h0]; exact hd⟩
  rw [e0] at l
  refine ok_then l (fun y hy => ?_)
  obtain ⟨y1, y2, ⟨a, ha, y3⟩, y4, y5⟩ := hy
  have ok8 := (zgd_ok (T := T) (v := v) (d := d) (p := p) 8 1 0 (by decide) (by decide) (by rw [zdo_0 h0]; exact hh)).1
  refine ok_pos (zI_inb (by omega) (by omega)) ?_
  rw [zI_nat (by omega), y1]
  have hf : zfx (fun r _ => r = 84) y.2.1 (ak_up y.2.1 84 p (nI (zgd T v d p 1 8 0))) := zfx.rf.up rfl
  refine ok_ret ⟨y2.w84 (M' := (_, y.2.2)) hf, ?_, y4.tr hf, y5⟩
  have := y3.up (p := p) (k := zgd T v d p 1 8 0) ok8
  rw [zdo_do] at this
  exact this
end
