/-! level 2: the planner: spec, and what the class's looks at -/
def zdo (d : Nat → Nat) (p k : Nat) : Nat → Nat := fun q => if q = p then k else d q
def zbt (f : Nat → Bool) : Nat → Nat
  | 0 => 0
  | k + 1 => zbt f k + (if f k = true then 2 ^ k else 0)
theorem zbt_lt (f : Nat → Bool) : ∀ k, zbt f k < 2 ^ k := by
  intro k
  induction k with
  | zero => exact Nat.one_pos
  | succ k ih =>
    show zbt f k + _ < 2 ^ (k + 1)
    rw [Nat.pow_succ]
    split <;> omega
theorem zbt_16 (f : Nat → Bool) {k : Nat} (hk : k ≤ 4) : zbt f k < 16 := by
  have h1 := zbt_lt f k
  have h2 : 2 ^ k ≤ 2 ^ 4 := Nat.pow_le_pow_right (by decide) hk
  omega
/-- who is away in week w (bits) -/
def zaw (v : zV) (d : Nat → Nat) (w : Nat) : Nat := zbt (fun q => (zwk (v.le q) (d q)).testBit w) v.n
/-- the first of k .. that isn't g, -1 none -/
def zfi (g : Nat → Bool) : Nat → Nat → Int32
  | _, 0 => -1
  | k, j + 1 => if g k = true then zfi g (k + 1) j else nI k
def zrt (v : zV) (d : Nat → Nat) (w : Nat) : Bool := zal v (zaw v d w)
def zfw (v : zV) (d : Nat → Nat) : Int32 := zfi (zrt v d) 0 8
def zhd (T : zT3) (v : zV) (d : Nat → Nat) : Bool := zaf (fun p => zcb T v p (d p)) 0 v.n && zaf (zrt v d) 0 8
def zsm (T : zT3) (v : zV) (d : Nat → Nat) : Int32 := zsI (fun p => zgs T v p (d p)) v.n
def zdg (d : Nat → Nat) : Nat → Nat
  | 0 => 0
  | k + 1 => 10 * zdg d k + d k
/-- the least, from x on -/
def zlf (f : Nat → Int32) : Nat → Nat → Int32 → Int32
  | _, 0, x => x
  | k, j + 1, x => zlf f (k + 1) j (if f k < x then f k else x)
def zls (T : zT3) (v : zV) (d : Nat → Nat) : Int32 := if v.n = 0 then 0 else zlf (fun p => zgs T v p (d p)) 1 (v.n - 1) (zgs T v 0 (d 0))
/-- digits -/
def zDg (r n : Nat) (d : Nat → Nat) (σ : Nat → Nat → Int32) : Prop := ∀ p, p < n → σ r p = nI (d p) ∧ d p ≤ 8
theorem zfi_m1 (g : Nat → Bool) : ∀ j k, k + j ≤ 8 → (zfi g k j = -1 ↔ zaf g k j = true) := by
  intro j
  induction j with
  | zero => intro k _; exact ⟨fun _ => rfl, fun _ => rfl⟩
  | succ j ih =>
    intro k hk
    show (if g k = true then zfi g (k + 1) j else nI k) = -1 ↔ (g k && zaf g (k + 1) j) = true
    by_cases c : g k = true
    · rw [if_pos c, ih (k + 1) (by omega)]
      simp [c]
    · rw [if_neg c]
      have : ∀ k < 8, nI k ≠ (-1 : Int32) := by decide
      exact ⟨fun z => absurd z (this k (by omega)), fun z => by simp [c] at z⟩
theorem zor_t {k a : Nat} (hk : k < 4) (ha : a < 2 ^ k) : nI a ||| ((1 : Int32) <<< (nI k &&& 31)) = nI (a + 2 ^ k) := by
  have h : ∀ k < 4, ∀ a < 16, a < 2 ^ k → nI a ||| ((1 : Int32) <<< (nI k &&& 31)) = nI (a + 2 ^ k) := by decide +kernel
  have h2 : 2 ^ k ≤ 2 ^ 3 := Nat.pow_le_pow_right (by decide) (by omega)
  exact h k hk a (by omega) ha
theorem zor_f {k a : Nat} (hk : k < 4) (ha : a < 16) : nI a ||| ((0 : Int32) <<< (nI k &&& 31)) = nI a := by
  have h : ∀ k < 4, ∀ a < 16, nI a ||| ((0 : Int32) <<< (nI k &&& 31)) = nI a := by decide +kernel
  exact h k hk a ha
theorem zor_b {k : Nat} (hk : k < 4) (f : Nat → Bool) : nI (zbt f k) ||| (bI (f k = true) <<< (nI k &&& 31)) = nI (zbt f (k + 1)) := by
  show _ = nI (zbt f k + _)
  by_cases c : f k = true
  · rw [bI_t c, if_pos c, zor_t hk (zbt_lt f k)]
  · rw [bI_f c, if_neg c, zor_f hk (zbt_16 f (by omega))]
    rfl
/-- the class's planner has looked at a shop -/
def zPC (b : Nat) (v : zV) (T : zT3) (M : mm_M) : Prop := M.2.1 = b ∧ (b = 1 ∨ b = 17) ∧ ShC b M.1 v ∧ (∀ aw, aw < 16 → M.1 59 aw = bI (zal v aw = true)) ∧ (∀ p k, p < v.n → k ≤ 8 → M.1 56 (9 * p + k) = nI (zwk (v.le p) k) ∧ M.1 57 (9 * p + k) = zgs T v p k ∧ M.1 58 (9 * p + k) = bI (zcb T v p k = true))
theorem zPC.fx {b : Nat} {v : zV} {T : zT3} {M M' : mm_M} (h : zPC b v T M) {P : Nat → Nat → Prop} (hf : zfx P M.1 M'.1) (h2 : M'.2.1 = M.2.1) (p1 : ∀ r c, b ≤ r → r ≤ b + 7 → ¬ P r c) (p2 : ∀ r c, 56 ≤ r → r ≤ 59 → ¬ P r c) : zPC b v T M' := by
  obtain ⟨h3, h4, h5, h6, h7⟩ := h
  refine ⟨h2.trans h3, h4, h5.fx hf p1, fun aw ha => (hf _ _ (p2 _ _ (by decide) (by decide))).trans (h6 aw ha), fun p k hp hk => ?_⟩
  obtain ⟨a1, a2, a3⟩ := h7 p k hp hk
  exact ⟨(hf _ _ (p2 _ _ (by decide) (by decide))).trans a1, (hf _ _ (p2 _ _ (by decide) (by decide))).trans a2, (hf _ _ (p2 _ _ (by decide) (by decide))).trans a3⟩
section
variable {b : Nat} {v : zV} {T : zT3} {d : Nat → Nat} {M : mm_M}
theorem zPC.is8 (h : zPC b v T M) : mm_is8 M.2.1 = true := by
  rw [h.1]
  rcases h.2.1 with rfl | rfl <;> decide
theorem zPC.n (h : zPC b v T M) : M.1 M.2.1 4 = nI v.n := by
  rw [h.1]
  exact h.2.2.1.n
theorem z9a (p k : Nat) : (nI p * (9 : Int32)) + nI k = nI (9 * p + k) := by
  rw [show (9 : Int32) = nI 9 from rfl, zI_mul, nI_add, Nat.mul_comm]
theorem z9b (p k : Nat) : ((9 : Int32) * nI p) + nI k = nI (9 * p + k) := by
  rw [show (9 : Int32) = nI 9 from rfl, zI_mul, nI_add]
theorem placeC_eq (hn : v.n ≤ 4) (hd : zDg 61 v.n d M.1) {p : Nat} (hp : p < v.n) : pl_place (nI p) M = some (nI (9 * p + d p), M) := by
  unfold pl_place
  rw [if_pos (zI_inb (by omega) (by omega)), zI_nat (by omega), (hd p hp).1, z9a]
theorem awayInC_l (hn : v.n ≤ 4) (h : zPC b v T M) (hd : zDg 61 v.n d M.1) (hle : ∀ p, p < v.n → 1 ≤ v.le p ∧ v.le p ≤ 4) {w : Nat} (hw : w < 8) : ∀ j k m, k + j = v.n → j < m → pl_awayIn_l4 m (nI w) (nI (zbt (fun q => (zwk (v.le q) (d q)).testBit w) k)) (nI k) M = some (nI (zaw v d w), M) := by
  intro j
  induction j with
  | zero =>
    intro k m hk hm
    obtain ⟨m, rfl, -⟩ := z_suc hm
    rw [pl_awayIn_l4, if_pos h.is8, h.n, if_neg (nI_nlt (by omega) (by omega))]
    unfold zaw
    rw [show k = v.n by omega]
  | succ j ih =>
    intro k m hk hm
    obtain ⟨m, rfl, hm2⟩ := z_suc hm
    have hp : k < v.n := by omega
    have hk8 := (hd k hp).2
    rw [pl_awayIn_l4, if_pos h.is8, h.n, if_pos (nI_lt hp (by omega)), placeC_eq hn hd hp]
    simp only [Option.bind_some]
    rw [if_pos (zI_inb (by omega) (by omega)), zI_nat (by omega), (h.2.2.2.2 k (d k) hp hk8).1, nI_1, zI_sh (zwk_lt _ _) hw, zor_b (by omega) (fun q => (zwk (v.le q) (d q)).testBit w)]
    exact ih (k + 1) m (by omega) (by omega)
theorem awayInC_eq (hB : zB v) (h : zPC b v T M) (hd : zDg 61 v.n d M.1) {w : Nat} (hw : w < 8) : pl_awayIn (nI w) M = some (nI (zaw v d w), M) := by
  have hn := hB.n
  unfold pl_awayIn
  rw [show pl_awayIn_l4 300 (nI w) (0 : Int32) (0 : Int32) M = _ from awayInC_l hn h hd hB.le hw v.n 0 300 (by omega) (by omega)]
  rfl
theorem zaw_lt (hn : v.n ≤ 4) (w : Nat) : zaw v d w < 16 := zbt_16 _ hn
theorem firstWrongC_l (hB : zB v) (h : zPC b v T M) (hd : zDg 61 v.n d M.1) : ∀ j k m, k + j = 8 → j < m → pl_firstWrongWeek_l2 m (nI k) M = some (if zaf (zrt v d) k j = true then .inr ((), M) else .inl (zfi (zrt v d) k j, M)) := by
  have hn := hB.n
  intro j
  induction j with
  | zero =>
    intro k m hk hm
    obtain ⟨m, rfl, -⟩ := z_suc hm
    obtain rfl : k = 8 := by omega
    rw [pl_firstWrongWeek_l2, if_neg (by decide)]
    rfl
  | succ j ih =>
    intro k m hk hm
    obtain ⟨m, rfl, hm2⟩ := z_suc hm
    have hl : nI k < (8 : Int32) := nI_lt (b := 8) (by omega) (by decide)
    have ha := zaw_lt (v := v) (d := d) hn k
    rw [pl_firstWrongWeek_l2, if_pos hl, awayInC_eq hB h hd (by omega)]
    simp only [Option.bind_some]
    rw [if_pos (zI_inb (by omega) ha), zI_nat (by omega), h.2.2.2.1 _ ha, bI_if, nI_1, ih (k + 1) m (by omega) (by omega)]
    show _ = some (if (zrt v d k && zaf (zrt v d) (k + 1) j) = true then _ else Sum.inl ((if zrt v d k = true then zfi (zrt v d) (k + 1) j else nI k), M))
    by_cases c : zrt v d k = true
    · rw [if_pos (show zal v (zaw v d k) = true from c)]
      simp [c]
    · rw [if_neg (show ¬ zal v (zaw v d k) = true from c)]
      simp [c]
theorem firstWrongC_eq (hB : zB v) (h : zPC b v T M) (hd : zDg 61 v.n d M.1) : pl_firstWrongWeek M = some (zfw v d, M) := by
  unfold pl_firstWrongWeek
  rw [show pl_firstWrongWeek_l2 300 (0 : Int32) M = _ from firstWrongC_l hB h hd 8 0 300 (by decide) (by decide)]
  by_cases c : zaf (zrt v d) 0 8 = true
  · rw [if_pos c]
    show some ((-1 : Int32), M) = _
    unfold zfw
    rw [(zfi_m1 _ 8 0 (by decide)).mpr c]
  · rw [if_neg c]
    rfl
theorem holdsC_l (hB : zB v) (h : zPC b v T M) (hd : zDg 61 v.n d M.1) : ∀ j k m, k + j = v.n → j < m → pl_holds_l2 m (nI k) M = some (if zaf (fun p => zcb T v p (d p)) k j = true then .inr ((), M) else .inl (0, M)) := by
  have hn := hB.n
  intro j
  induction j with
  | zero =>
    intro k m hk hm
    obtain ⟨m, rfl, -⟩ := z_suc hm
    rw [pl_holds_l2, if_pos h.is8, h.n, if_neg (nI_nlt (by omega) (by omega))]
    rfl
  | succ j ih =>
    intro k m hk hm
    obtain ⟨m, rfl, hm2⟩ := z_suc hm
    have hp : k < v.n := by omega
    have hk8 := (hd k hp).2
    rw [pl_holds_l2, if_pos h.is8, h.n, if_pos (nI_lt hp (by omega)), placeC_eq hn hd hp]
    simp only [Option.bind_some]
    rw [if_pos (zI_inb (by omega) (by omega)), zI_nat (by omega), (h.2.2.2.2 k (d k) hp hk8).2.2, bI_if, nI_1, ih (k + 1) m (by omega) (by omega)]
    show _ = some (if (zcb T v k (d k) && zaf (fun p => zcb T v p (d p)) (k + 1) j) = true then _ else _)
    by_cases c : zcb T v k (d k) = true
    · rw [if_pos c]
      simp [c]
    · rw [if_neg c]
      simp [c]
theorem holdsC_eq (hB : zB v) (h : zPC b v T M) (hd : zDg 61 v.n d M.1) : pl_holds M = some (bI (zhd T v d = true), M) := by
  have hn := hB.n
  unfold pl_holds zhd
  rw [show pl_holds_l2 300 (0 : Int32) M = _ from holdsC_l hB h hd v.n 0 300 (by omega) (by omega)]
  by_cases c : zaf (fun p => zcb T v p (d p)) 0 v.n = true
  · rw [if_pos c]
    simp only [Option.bind_some]
    rw [firstWrongC_eq hB h hd]
    simp only [Option.bind_some]
    have e := zfi_m1 (zrt v d) 8 0 (by decide)
    by_cases q : zaf (zrt v d) 0 8 = true
    · rw [if_pos (show zfw v d = -1 from e.mpr q), bI_t (by simp [c, q])]
    · rw [if_neg (show ¬ zfw v d = -1 from fun z => q (e.mp z)), bI_f (by simp [q])]
  · rw [if_neg c]
    simp only [Option.bind_some]
    rw [bI_f (by simp [c])]
theorem allC_l (hB : zB v) (h : zPC b v T M) (hd : zDg 61 v.n d M.1) : ∀ j k m, k + j = v.n → j < m → pl_all_l4 m (zsI (fun p => zgs T v p (d p)) k) (nI k) M = some (zsm T v d, M) := by
  have hn := hB.n
  intro j
  induction j with
  | zero =>
    intro k m hk hm
    obtain ⟨m, rfl, -⟩ := z_suc hm
    rw [pl_all_l4, if_pos h.is8, h.n, if_neg (nI_nlt (by omega) (by omega))]
    unfold zsm
    rw [show k = v.n by omega]
  | succ j ih =>
    intro k m hk hm
    obtain ⟨m, rfl, hm2⟩ := z_suc hm
    have hp : k < v.n := by omega
    have hk8 := (hd k hp).2
    rw [pl_all_l4, if_pos h.is8, h.n, if_pos (nI_lt hp (by omega)), placeC_eq hn hd hp]
    simp only [Option.bind_some]
    rw [if_pos (zI_inb (by omega) (by omega)), zI_nat (by omega), (h.2.2.2.2 k (d k) hp hk8).2.1, nI_1]
    exact ih (k + 1) m (by omega) (by omega)
theorem allC_eq (hB : zB v) (h : zPC b v T M) (hd : zDg 61 v.n d M.1) : pl_all M = some (zsm T v d, M) := by
  have hn := hB.n
  unfold pl_all
  rw [show pl_all_l4 300 (0 : Int32) (0 : Int32) M = _ from allC_l hB h hd v.n 0 300 (by omega) (by omega)]
  rfl
theorem leastC_l (hB : zB v) (h : zPC b v T M) (hd : zDg 61 v.n d M.1) : ∀ j k m x, k + j = v.n → j < m → pl_least_l27 m x (nI k) M = some (zlf (fun p => zgs T v p (d p)) k j x, M) := by
  have hn := hB.n
  intro j
  induction j with
  | zero =>
    intro k m x hk hm
    obtain ⟨m, rfl, -⟩ := z_suc hm
    rw [pl_least_l27, if_pos h.is8, h.n, if_neg (nI_nlt (by omega) (by omega))]
    rfl
  | succ j ih =>
    intro k m x hk hm
    obtain ⟨m, rfl, hm2⟩ := z_suc hm
    have hp : k < v.n := by omega
    have hk8 := (hd k hp).2
    rw [pl_least_l27, if_pos h.is8, h.n, if_pos (nI_lt hp (by omega)), placeC_eq hn hd hp]
    simp only [Option.bind_some]
    rw [if_pos (zI_inb (by omega) (by omega)), zI_nat (by omega), (h.2.2.2.2 k (d k) hp hk8).2.1, nI_1]
    exact ih (k + 1) m _ (by omega) (by omega)
theorem leastC_eq (hB : zB v) (h : zPC b v T M) (hd : zDg 61 v.n d M.1) : pl_least M = some (zls T v d, M) := by
  have hn := hB.n
  unfold pl_least zls
  rw [if_pos h.is8, h.n]
  by_cases c : v.n = 0
  · rw [if_pos c, c, if_neg (by decide)]
    have e : pl_least_l27 300 (0 : Int32) (1 : Int32) M = some (0, M) := by
      rw [pl_least_l27, if_pos h.is8, h.n, c, if_neg (by decide)]
    rw [e]
    rfl
  · have hp : 0 < v.n := by omega
    have hk8 := (hd 0 hp).2
    rw [if_neg c, if_pos (show (0 : Int32) < nI v.n from nI_lt (a := 0) hp (by omega)), show (0 : Int32) = nI 0 from rfl, placeC_eq hn hd hp]
    simp only [Option.bind_some]
    rw [if_pos (zI_inb (by omega) (by omega)), zI_nat (by omega), (h.2.2.2.2 0 (d 0) hp hk8).2.1]
    rw [show pl_least_l27 300 (zgs T v 0 (d 0)) (1 : Int32) M = _ from leastC_l hB h hd (v.n - 1) 1 300 _ (by omega) (by omega)]
    rfl
theorem zdg_lt : ∀ k, (∀ p, p < k → d p ≤ 8) → zdg d k < 10 ^ k := by
  intro k
  induction k with
  | zero => intro _; exact Nat.one_pos
  | succ k ih =>
    intro h
    have h1 := ih (fun p hp => h p (by omega))
    have h2 := h k (by omega)
    show 10 * zdg d k + d k < 10 ^ (k + 1)
    rw [Nat.pow_succ]
    omega
theorem z10 (x y : Nat) : ((10 : Int32) * nI x) + nI y = nI (10 * x + y) := by
  rw [show (10 : Int32) = nI 10 from rfl, zI_mul, nI_add]
theorem inDigitsC_l (hB : zB v) (h : zPC b v T M) (hd : zDg 61 v.n d M.1) : ∀ j k m, k + j = v.n → j < m → pl_inDigits_l4 m (nI (zdg d k)) (nI k) M = some (nI (zdg d v.n), M) := by
  have hn := hB.n
  intro j
  induction j with
  | zero =>
    intro k m hk hm
    obtain ⟨m, rfl, -⟩ := z_suc hm
    rw [pl_inDigits_l4, if_pos h.is8, h.n, if_neg (nI_nlt (by omega) (by omega)), show k = v.n by omega]
  | succ j ih =>
    intro k m hk hm
    obtain ⟨m, rfl, hm2⟩ := z_suc hm
    have hp : k < v.n := by omega
    rw [pl_inDigits_l4, if_pos h.is8, h.n, if_pos (nI_lt hp (by omega)), if_pos (zI_inb (by omega) (by omega)), zI_nat (by omega), (hd k hp).1, z10, nI_1]
    exact ih (k + 1) m (by omega) (by omega)
theorem inDigitsC_eq (hB : zB v) (h : zPC b v T M) (hd : zDg 61 v.n d M.1) : pl_inDigits M = some (nI (zdg d v.n), M) := by
  have hn := hB.n
  unfold pl_inDigits
  rw [show pl_inDigits_l4 300 (0 : Int32) (0 : Int32) M = _ from inDigitsC_l hB h hd v.n 0 300 (by omega) (by omega)]
  rfl
end
