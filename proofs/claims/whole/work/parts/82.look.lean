/-! level 2: the planner's tables -/
theorem zbt_tb (f : Nat → Bool) : ∀ k i, (zbt f k).testBit i = (decide (i < k) && f i) := by
  intro k
  induction k with
  | zero =>
    intro i
    show (0 : Nat).testBit i = _
    simp
  | succ k ih =>
    intro i
    have hlt := zbt_lt f k
    show (zbt f k + (if f k = true then 2 ^ k else 0)).testBit i = _
    by_cases c : f k = true
    · rw [if_pos c, Nat.add_comm]
      by_cases e : i = k
      · rw [e, Nat.testBit_two_pow_add_eq, ih k]
        simp [c]
      · by_cases g : i < k
        · rw [Nat.testBit_two_pow_add_gt g, ih i]
          simp [g, Nat.lt_succ_of_lt g]
        · have : 2 ^ k + zbt f k < 2 ^ i := by
            have h1 : 2 ^ (k + 1) ≤ 2 ^ i := Nat.pow_le_pow_right (by decide) (by omega)
            rw [Nat.pow_succ] at h1
            omega
          rw [Nat.testBit_lt_two_pow this]
          have : ¬ i < k + 1 := by omega
          simp [this]
    · rw [if_neg c, Nat.add_zero, ih i]
      by_cases e : i = k
      · rw [e]
        simp [c]
      · have : (i < k + 1) ↔ i < k := by omega
        simp [this]
theorem zbt_256 (f : Nat → Bool) {k : Nat} (hk : k ≤ 8) : zbt f k < 256 := by
  have h1 := zbt_lt f k
  have h2 : 2 ^ k ≤ 2 ^ 8 := Nat.pow_le_pow_right (by decide) hk
  omega
theorem zor8_t {k a : Nat} (hk : k < 8) (ha : a < 2 ^ k) : nI a ||| ((1 : Int32) <<< (nI k &&& 31)) = nI (a + 2 ^ k) := by
  have h : ∀ k < 8, ∀ a < 128, a < 2 ^ k → nI a ||| ((1 : Int32) <<< (nI k &&& 31)) = nI (a + 2 ^ k) := by decide +kernel
  have h2 : 2 ^ k ≤ 2 ^ 7 := Nat.pow_le_pow_right (by decide) (by omega)
  exact h k hk a (by omega) ha
theorem nI_and (a b : Nat) : nI a &&& nI b = nI (a &&& b) := by
  apply Int32.toBitVec_inj.mp
  show (Int32.ofNat a).toBitVec &&& (Int32.ofNat b).toBitVec = (Int32.ofNat (a &&& b)).toBitVec
  simp [Int32.toBitVec_ofNat', BitVec.ofNat_and]
theorem z_mask {a c : Nat} (ha : a < 256) (hc : c < 256) : nI a &&& (nI c ^^^ (-1 : Int32)) = nI (a &&& (255 ^^^ c)) := by
  have h1 : ∀ a < 256, nI a = nI a &&& nI 255 := by decide +kernel
  have h2 : ∀ c < 256, nI 255 &&& (nI c ^^^ (-1 : Int32)) = nI (255 ^^^ c) := by decide +kernel
  rw [h1 a ha, Int32.and_assoc, h2 c hc]
  exact nI_and a (255 ^^^ c)
theorem zaf_iff (f : Nat → Bool) : ∀ j k, zaf f k j = true ↔ ∀ i, k ≤ i → i < k + j → f i = true := by
  intro j
  induction j with
  | zero => intro k; exact ⟨fun _ i h1 h2 => by omega, fun _ => rfl⟩
  | succ j ih =>
    intro k
    show (f k && zaf f (k + 1) j) = true ↔ _
    rw [Bool.and_eq_true, ih (k + 1)]
    constructor
    · rintro ⟨h1, h2⟩ i a b
      by_cases e : i = k
      · rw [e]; exact h1
      · exact h2 i (by omega) (by omega)
    · intro h
      exact ⟨h k (Nat.le_refl k) (by omega), fun i a b => h i (by omega) (by omega)⟩
theorem z_sub {a : Nat} (ha : a < 256) (f : Nat → Bool) : nI a &&& (nI (zbt f 8) ^^^ (-1 : Int32)) = 0 ↔ zaf (fun w => !(a.testBit w) || f w) 0 8 = true := by
  have hc := zbt_256 f (k := 8) (by decide)
  rw [z_mask ha hc, z_eq0 (Nat.lt_of_le_of_lt Nat.and_le_left (by omega)), zaf_iff]
  constructor
  · intro h i h1 h2
    have h3 : (a &&& (255 ^^^ zbt f 8)).testBit i = false := by rw [h]; simp
    rw [Nat.testBit_and, Nat.testBit_xor, zbt_tb] at h3
    have h4 : (255 : Nat).testBit i = true := by
      have : ∀ i < 8, (255 : Nat).testBit i = true := by decide
      exact this i (by omega)
    rw [h4] at h3
    have h5 : i < 8 := by omega
    cases ea : a.testBit i <;> cases ef : f i <;> simp [ea, ef, h5] at h3 ⊢
  · intro h
    refine Nat.eq_of_testBit_eq (fun i => ?_)
    rw [Nat.testBit_and, Nat.testBit_xor, zbt_tb, Nat.zero_testBit]
    by_cases h5 : i < 8
    · have h4 : (255 : Nat).testBit i = true := by
        have : ∀ i < 8, (255 : Nat).testBit i = true := by decide
        exact this i h5
      have h6 := h i (by omega) (by omega)
      rw [h4]
      cases ea : a.testBit i <;> cases ef : f i <;> simp [ea, ef, h5] at h6 ⊢
    · have : a < 2 ^ i := by
        have h1 : 2 ^ 8 ≤ 2 ^ i := Nat.pow_le_pow_right (by decide) (by omega)
        omega
      rw [Nat.testBit_lt_two_pow this]
      rfl
section
variable {b : Nat} {v : zV} {T : zT3}
abbrev zLk : Nat → Nat → Prop := fun r _ => r = 35 ∨ r = 36 ∨ (56 ≤ r ∧ r ≤ 61)
/-- what stands while the planner looks -/
def zLi (b : Nat) (v : zV) (T : zT3) (M : mm_M) : Prop := M.2.1 = b ∧ (b = 1 ∨ b = 17) ∧ ShC b M.1 v ∧ zTX (37 + 3 * v.ru) T M.1
theorem zLi.fx {M M' : mm_M} (h : zLi b v T M) {P : Nat → Nat → Prop} (hf : zfx P M.1 M'.1) (h2 : M'.2.1 = M.2.1) (hp : ∀ r c, P r c → r = 35 ∨ r = 36 ∨ (56 ≤ r ∧ r ≤ 61)) (hru : v.ru < 6) : zLi b v T M' := by
  obtain ⟨h3, h4, h5, h6⟩ := h
  exact ⟨h2.trans h3, h4, h5.fx hf (fun r c a b z => by have := hp r c z; omega), h6.fx hf (fun r c a b z => by have := hp r c z; omega)⟩
theorem zLi.is8 {M : mm_M} (h : zLi b v T M) : mm_is8 M.2.1 = true := by
  rw [h.1]
  rcases h.2.1 with rfl | rfl <;> decide
theorem lookC_l7 (hB : zB v) : ∀ j k m (M : mm_M), k + j = 16 → j < m → zLi b v T M → (∀ aw, aw < k → M.1 59 aw = bI (zal v aw = true)) → Ok (pl_look_l7 m (nI k) M) (fun y => (∀ aw, aw < 16 → y.2.1 59 aw = bI (zal v aw = true)) ∧ zfx (fun r _ => r = 59) M.1 y.2.1 ∧ y.2.2 = M.2) := by
  intro j
  induction j with
  | zero =>
    intro k m M hk hm h h59
    obtain ⟨m, rfl, -⟩ := z_suc hm
    obtain rfl : k = 16 := by omega
    rw [pl_look_l7]
    exact ok_neg (by decide) (ok_ret ⟨h59, zfx.rf, rfl⟩)
  | succ j ih =>
    intro k m M hk hm h h59
    obtain ⟨m, rfl, hm2⟩ := z_suc hm
    have hru := hB.ru
    rw [pl_look_l7, nI_1]
    refine ok_pos (nI_lt (b := 16) (by omega) (by decide)) (ok_pos h.is8 ?_)
    rw [h.1, allows_eq h.2.2.1 hB (show k < 16 by omega)]
    simp only [Option.bind_some]
    refine ok_pos (zI_inb (by omega) (by omega)) (ok_pos (bI_01.mpr trivial) ?_)
    rw [zI_nat (by omega)]
    have hf : zfx (fun r _ => r = 59) M.1 (ak_up M.1 59 k (bI (zal v k = true))) := zfx.rf.up rfl
    refine ok_mono (ih (k + 1) m (_, M.2) (by omega) (by omega) (h.fx (M' := (_, M.2)) hf rfl (fun r c z => by have z2 : r = 59 := z; omega) hru) (fun aw ha => ?_)) (fun y hy => ⟨hy.1, hf.tr hy.2.1, hy.2.2⟩)
    by_cases e : aw = k
    · rw [e]; exact ups1
    · rw [show ((ak_up M.1 59 k (bI (zal v k = true)), M.2) : mm_M).1 59 aw = M.1 59 aw from ak_up_oth e]
      exact h59 aw (by omega)
theorem lookOneC_l4 (hB : zB v) (hG : zGT T) {p : Nat} (hp : p < v.n) : ∀ j k m (M : mm_M), k + j = 8 → j < m → zLi b v T M → (∀ w, w < k → M.1 60 w = zgl T v p w) → Ok (pl_lookAtOne_l4 m (nI p) (nI (zbt (zwn T v p) k)) (nI k) M) (fun y => y.1 = nI (zbt (zwn T v p) 8) ∧ (∀ w, w < 8 → y.2.1 60 w = zgl T v p w) ∧ zfx (fun r _ => r = 35 ∨ r = 36 ∨ r = 60) M.1 y.2.1 ∧ y.2.2 = M.2) := by
  have hru := hB.ru
  intro j
  induction j with
  | zero =>
    intro k m M hk hm h h60
    obtain ⟨m, rfl, -⟩ := z_suc hm
    obtain rfl : k = 8 := by omega
    rw [pl_lookAtOne_l4]
    exact ok_neg (by decide) (ok_ret ⟨rfl, h60, zfx.rf, rfl⟩)
  | succ j ih =>
    intro k m M hk hm h h60
    obtain ⟨m, rfl, hm2⟩ := z_suc hm
    rw [pl_lookAtOne_l4, nI_1]
    refine ok_pos (nI_lt (b := 8) (by omega) (by decide)) (ok_pos h.is8 ?_)
    rw [h.1]
    refine ok_then (gladC_ok h.2.1 h.2.2.1 hB h.2.2.2 hG hp (w := k) (by omega)) (fun y3 h3 => ?_)
    obtain ⟨a1, a2, a3⟩ := h3
    refine ok_pos (zI_inb (by omega) (by omega)) ?_
    rw [zI_nat (by omega), a1, a3, h.1]
    have hf1 : zfx (fun r _ => r = 35 ∨ r = 36 ∨ r = 60) M.1 (ak_up y3.2.1 60 k (zgl T v p k)) := (a2.wk (fun r c z => z.elim Or.inl (fun w => Or.inr (Or.inl w)))).up (Or.inr (Or.inr rfl))
    have h1 : zLi b v T (ak_up y3.2.1 60 k (zgl T v p k), M.2) := h.fx (M' := (_, M.2)) hf1 rfl (fun r c z => by have z2 : r = 35 ∨ r = 36 ∨ r = 60 := z; omega) hru
    refine ok_pos (by rw [← h.1]; exact h.is8) ?_
    refine ok_then (wantsC_ok (M := (ak_up y3.2.1 60 k (zgl T v p k), M.2)) h.2.1 h1.2.2.1 hB h1.2.2.2 hG hp (w := k) (by omega)) (fun y6 h6 => ?_)
    obtain ⟨b1, b2, b3⟩ := h6
    have hf2 : zfx (fun r _ => r = 35 ∨ r = 36 ∨ r = 60) M.1 y6.2.1 := hf1.tr (b2.wk (fun r c z => z.elim Or.inl (fun w => Or.inr (Or.inl w))))
    have h2 : zLi b v T y6.2 := h.fx hf2 (congrArg Prod.fst b3) (fun r c z => by have z2 : r = 35 ∨ r = 36 ∨ r = 60 := z; omega) hru
    have h60' : ∀ w, w < k + 1 → y6.2.1 60 w = zgl T v p w := by
      intro w hw
      rw [b2 60 w (show ¬ (60 = 35 ∨ 60 = 36) by decide)]
      by_cases e : w = k
      · rw [e]; exact ups1
      · rw [show ((ak_up y3.2.1 60 k (zgl T v p k), M.2) : mm_M).1 60 w = y3.2.1 60 w from ak_up_oth e, a2 60 w (show ¬ (60 = 35 ∨ 60 = 36) by decide)]
        exact h60 w (by omega)
    rw [b1, bI_if]
    by_cases c : zwn T v p k = true
    · rw [if_pos c]
      have e : nI (zbt (zwn T v p) k) ||| ((1 : Int32) <<< (nI k &&& 31)) = nI (zbt (zwn T v p) (k + 1)) := by
        rw [zor8_t (by omega) (zbt_lt _ _)]
        show _ = nI (zbt (zwn T v p) k + _)
        rw [if_pos c]
      rw [e]
      exact ok_mono (ih (k + 1) m y6.2 (by omega) (by omega) h2 h60') (fun y hy => ⟨hy.1, hy.2.1, hf2.tr hy.2.2.1, hy.2.2.2.trans b3⟩)
    · rw [if_neg c]
      have e : zbt (zwn T v p) k = zbt (zwn T v p) (k + 1) := by
        show _ = zbt (zwn T v p) k + _
        rw [if_neg c]
        rfl
      rw [e]
      exact ok_mono (ih (k + 1) m y6.2 (by omega) (by omega) h2 h60') (fun y hy => ⟨hy.1, hy.2.1, hf2.tr hy.2.2.1, hy.2.2.2.trans b3⟩)
theorem gladOfC_l {g : Nat → Int32} {a : Nat} (ha : a < 256) {M : mm_M} (hg : ∀ w, w < 8 → M.1 60 w = g w) : ∀ j k m, k + j = 8 → j < m → pl_gladnessOf_l4 m (nI a) (zsI (fun w => if a.testBit w = true then g w else 0) k) (nI k) M = some (zsI (fun w => if a.testBit w = true then g w else 0) 8, M) := by
  intro j
  induction j with
  | zero =>
    intro k m hk hm
    obtain ⟨m, rfl, -⟩ := z_suc hm
    obtain rfl : k = 8 := by omega
    rw [pl_gladnessOf_l4, if_neg (by decide)]
  | succ j ih =>
    intro k m hk hm
    obtain ⟨m, rfl, hm2⟩ := z_suc hm
    have hl : nI k < (8 : Int32) := nI_lt (b := 8) (by omega) (by decide)
    have e := ih (k + 1) m (by omega) (by omega)
    rw [pl_gladnessOf_l4, if_pos hl, zI_sh ha (by omega), bI_if, nI_1]
    by_cases c : a.testBit k = true
    · rw [if_pos c, if_pos (zI_inb (by omega) (by omega)), zI_nat (by omega), hg k (by omega), ← e]
      congr 1
      show _ = zsI _ k + (if a.testBit k = true then g k else 0)
      rw [if_pos c]
    · rw [if_neg c, ← e]
      congr 1
      show _ = zsI _ k + (if a.testBit k = true then g k else 0)
      rw [if_neg c, Int32.add_zero]
theorem gladOfC_eq {g : Nat → Int32} {a : Nat} (ha : a < 256) {M : mm_M} (hg : ∀ w, w < 8 → M.1 60 w = g w) : pl_gladnessOf (nI a) M = some (zsI (fun w => if a.testBit w = true then g w else 0) 8, M) := by
  unfold pl_gladnessOf
  rw [show pl_gladnessOf_l4 300 (nI a) (0 : Int32) (0 : Int32) M = _ from gladOfC_l ha hg 8 0 300 (by decide) (by decide)]
  rfl
/-- the rows of one -/
def zRo (v : zV) (T : zT3) (p k : Nat) (σ : Nat → Nat → Int32) : Prop := ∀ i, i < k → σ 56 (9 * p + i) = nI (zwk (v.le p) i) ∧ σ 57 (9 * p + i) = zgs T v p i ∧ σ 58 (9 * p + i) = bI (zcb T v p i = true)
theorem lookOneC_l59 (hB : zB v) {p : Nat} (hp : p < v.n) : ∀ j k m (M : mm_M), k + j = 9 → j < m → zLi b v T M → (∀ w, w < 8 → M.1 60 w = zgl T v p w) → zRo v T p k M.1 → Ok (pl_lookAtOne_l59 m (nI p) (nI (zbt (zwn T v p) 8)) (nI k) M) (fun y => zRo v T p 9 y.2.1 ∧ zfx (fun r c => 56 ≤ r ∧ r ≤ 58 ∧ 9 * p ≤ c ∧ c < 9 * p + 9) M.1 y.2.1 ∧ y.2.2 = M.2) := by
  have hru := hB.ru
  have hn := hB.n
  intro j
  induction j with
  | zero =>
    intro k m M hk hm h h60 hR
    obtain ⟨m, rfl, -⟩ := z_suc hm
    obtain rfl : k = 9 := by omega
    rw [pl_lookAtOne_l59]
    exact ok_neg (by decide) (ok_ret ⟨hR, zfx.rf, rfl⟩)
  | succ j ih =>
    intro k m M hk hm h h60 hR
    obtain ⟨m, rfl, hm2⟩ := z_suc hm
    have hw := zwk_lt (v.le p) k
    have gi : ak_inb (nI (9 * p + k)) 36 = true := zI_inb (by omega) (by omega)
    rw [pl_lookAtOne_l59, nI_1, z9a]
    refine ok_pos (nI_lt (b := 9) (by omega) (by decide)) (ok_pos h.is8 ?_)
    rw [h.1, weeksFrom_eq h.2.2.1 hB hp (show k ≤ 8 by omega)]
    simp only [Option.bind_some]
    refine ok_pos gi (ok_pos gi ?_)
    rw [zI_nat (show 9 * p + k < 2147483648 by omega), ak_up_same]
    have go : ∀ q : Int32, q = bI (zcb T v p k = true) → Ok (if ak_inb (nI (9 * p + k)) 36 = true then if ak_inb (nI (9 * p + k)) 36 = true then (pl_gladnessOf ((ak_up (ak_up M.1 56 (9 * p + k) (nI (zwk (v.le p) k))) 58 (9 * p + k) q) 56 (9 * p + k)) (ak_up (ak_up M.1 56 (9 * p + k) (nI (zwk (v.le p) k))) 58 (9 * p + k) q, M.2)).bind fun y9 => if ak_inb (nI (9 * p + k)) 36 = true then pl_lookAtOne_l59 m (nI p) (nI (zbt (zwn T v p) 8)) (nI (k + 1)) (ak_up y9.2.1 57 (9 * p + k) y9.1, y9.2.2) else none else none else none) (fun y => zRo v T p 9 y.2.1 ∧ zfx (fun r c => 56 ≤ r ∧ r ≤ 58 ∧ 9 * p ≤ c ∧ c < 9 * p + 9) M.1 y.2.1 ∧ y.2.2 = M.2) := by
      intro q hq
      refine ok_pos gi (ok_pos gi ?_)
      rw [ak_up_ne (show (56 : Nat) ≠ 58 by decide), ak_up_same]
      have hf : zfx (fun r c => 56 ≤ r ∧ r ≤ 58 ∧ 9 * p ≤ c ∧ c < 9 * p + 9) M.1 (ak_up (ak_up M.1 56 (9 * p + k) (nI (zwk (v.le p) k))) 58 (9 * p + k) q) := (zfx.rf.up ⟨by decide, by decide, by omega, by omega⟩).up ⟨by decide, by decide, by omega, by omega⟩
      rw [gladOfC_eq (g := zgl T v p) hw (M := (ak_up (ak_up M.1 56 (9 * p + k) (nI (zwk (v.le p) k))) 58 (9 * p + k) q, M.2)) (fun w hw8 => (hf _ _ (by omega)).trans (h60 w hw8))]
      simp only [Option.bind_some]
      refine ok_pos gi ?_
      have hf2 := hf.up (i := 57) (j := 9 * p + k) (v := zsI (fun w => if (zwk (v.le p) k).testBit w = true then zgl T v p w else 0) 8) ⟨by decide, by decide, by omega, by omega⟩
      have h2 : zLi b v T (ak_up (ak_up (ak_up M.1 56 (9 * p + k) (nI (zwk (v.le p) k))) 58 (9 * p + k) q) 57 (9 * p + k) (zsI (fun w => if (zwk (v.le p) k).testBit w = true then zgl T v p w else 0) 8), M.2) := h.fx (M' := (_, M.2)) hf2 rfl (fun r c z => by have z2 : 56 ≤ r ∧ r ≤ 58 ∧ 9 * p ≤ c ∧ c < 9 * p + 9 := z; omega) hru
      refine ok_mono (ih (k + 1) m _ (by omega) (by omega) h2 (fun w hw8 => (hf2 _ _ (by omega)).trans (h60 w hw8)) (fun i hi => ?_)) (fun y hy => ⟨hy.1, hf2.tr hy.2.1, hy.2.2⟩)
      show ak_up (ak_up (ak_up M.1 56 (9 * p + k) (nI (zwk (v.le p) k))) 58 (9 * p + k) q) 57 (9 * p + k) (zgs T v p k) 56 (9 * p + i) = _ ∧ ak_up (ak_up (ak_up M.1 56 (9 * p + k) (nI (zwk (v.le p) k))) 58 (9 * p + k) q) 57 (9 * p + k) (zgs T v p k) 57 (9 * p + i) = _ ∧ ak_up (ak_up (ak_up M.1 56 (9 * p + k) (nI (zwk (v.le p) k))) 58 (9 * p + k) q) 57 (9 * p + k) (zgs T v p k) 58 (9 * p + i) = _
      by_cases e : i = k
      · rw [e]
        refine ⟨?_, ak_up_same, ?_⟩
        · rw [ak_up_ne (by decide), ak_up_ne (by decide), ak_up_same]
        · rw [ak_up_ne (by decide), ak_up_same]
          exact hq
      · obtain ⟨r1, r2, r3⟩ := hR i (by omega)
        have ne : 9 * p + i ≠ 9 * p + k := by omega
        refine ⟨?_, ?_, ?_⟩
        · rw [ak_up_oth ne, ak_up_oth ne, ak_up_oth ne]; exact r1
        · rw [ak_up_oth ne, ak_up_oth ne, ak_up_oth ne]; exact r2
        · rw [ak_up_oth ne, ak_up_oth ne, ak_up_oth ne]; exact r3
    have hs := z_sub hw (zwn T v p)
    refine ok_ite (fun z => go 1 (bI_t ?_).symm) (fun z => go 0 (bI_f ?_).symm)
    · exact hs.mp z
    · exact fun w => z (hs.mpr w)
theorem lookC_l38 (hB : zB v) (hG : zGT T) : ∀ j k m (M : mm_M), k + j = v.n → j < m → zLi b v T M → (∀ p, p < k → zRo v T p 9 M.1) → Ok (pl_look_l38 m (nI k) M) (fun y => (∀ p, p < v.n → zRo v T p 9 y.2.1) ∧ zfx (fun r _ => r = 35 ∨ r = 36 ∨ r = 60 ∨ (56 ≤ r ∧ r ≤ 58)) M.1 y.2.1 ∧ y.2.2 = M.2) := by
  have hru := hB.ru
  have hn := hB.n
  intro j
  induction j with
  | zero =>
    intro k m M hk hm h hR
    obtain ⟨m, rfl, -⟩ := z_suc hm
    rw [pl_look_l38]
    refine ok_pos h.is8 ?_
    rw [h.1, h.2.2.1.n]
    exact ok_neg (nI_nlt (by omega) (by omega)) (ok_ret ⟨fun p hp => hR p (by omega), zfx.rf, rfl⟩)
  | succ j ih =>
    intro k m M hk hm h hR
    obtain ⟨m, rfl, hm2⟩ := z_suc hm
    have hp : k < v.n := by omega
    rw [pl_look_l38, nI_1]
    refine ok_pos h.is8 ?_
    rw [h.1, h.2.2.1.n]
    refine ok_pos (nI_lt hp (by omega)) ?_
    unfold pl_lookAtOne
    refine ok_bind (ok_then (lookOneC_l4 hB hG hp 8 0 300 M (by decide) (by decide) h (fun w hw => by omega)) (fun y1 h1 => ?_))
    obtain ⟨a1, a2, a3, a4⟩ := h1
    have h1 : zLi b v T y1.2 := h.fx a3 (congrArg Prod.fst a4) (fun r c z => by have z2 : r = 35 ∨ r = 36 ∨ r = 60 := z; omega) hru
    rw [a1]
    refine ok_then (lookOneC_l59 hB hp 9 0 300 y1.2 (by decide) (by decide) h1 a2 (fun i hi => by omega)) (fun y2 h2 => ok_ret ?_)
    obtain ⟨b1, b2, b3⟩ := h2
    have hf : zfx (fun r _ => r = 35 ∨ r = 36 ∨ r = 60 ∨ (56 ≤ r ∧ r ≤ 58)) M.1 y2.2.1 := (a3.wk (fun r c z => by have z2 : r = 35 ∨ r = 36 ∨ r = 60 := z; omega)).tr (b2.wk (fun r c z => by have z2 : 56 ≤ r ∧ r ≤ 58 ∧ 9 * k ≤ c ∧ c < 9 * k + 9 := z; omega))
    have h2 : zLi b v T y2.2 := h1.fx b2 (congrArg Prod.fst b3) (fun r c z => by have z2 : 56 ≤ r ∧ r ≤ 58 ∧ 9 * k ≤ c ∧ c < 9 * k + 9 := z; omega) hru
    refine ok_mono (ih (k + 1) m y2.2 (by omega) (by omega) h2 (fun p hpk => ?_)) (fun y hy => ⟨hy.1, hf.tr hy.2.1, hy.2.2.trans (b3.trans a4)⟩)
    by_cases e : p = k
    · rw [e]; exact b1
    · intro i hi
      have := hR p (by omega) i hi
      rw [b2 56 _ (by omega), b2 57 _ (by omega), b2 58 _ (by omega), a3 56 _ (by omega), a3 57 _ (by omega), a3 58 _ (by omega)]
      exact this
theorem takeBookedC_l (hB : zB v) : ∀ j k m (M : mm_M), k + j = v.n → j < m → zLi b v T M → (∀ p, p < k → M.1 61 p = nI (v.bl p)) → Ok (pl_takeBooked_l2 m (nI k) M) (fun y => (∀ p, p < v.n → y.2.1 61 p = nI (v.bl p)) ∧ zfx (fun r _ => r = 61) M.1 y.2.1 ∧ y.2.2 = M.2) := by
  have hru := hB.ru
  have hn := hB.n
  intro j
  induction j with
  | zero =>
    intro k m M hk hm h hR
    obtain ⟨m, rfl, -⟩ := z_suc hm
    rw [pl_takeBooked_l2]
    refine ok_pos h.is8 ?_
    rw [h.1, h.2.2.1.n]
    exact ok_neg (nI_nlt (by omega) (by omega)) (ok_ret ⟨fun p hp => hR p (by omega), zfx.rf, rfl⟩)
  | succ j ih =>
    intro k m M hk hm h hR
    obtain ⟨m, rfl, hm2⟩ := z_suc hm
    have hp : k < v.n := by omega
    have g4 : ak_inb (nI k) 4 = true := zI_inb (by omega) (by omega)
    have hbl := hB.bl k hp
    rw [pl_takeBooked_l2, nI_1]
    refine ok_pos h.is8 ?_
    rw [h.1, h.2.2.1.n]
    refine ok_pos (nI_lt hp (by omega)) (ok_pos (by rw [← h.1]; exact h.is8) (ok_pos g4 ?_))
    rw [zI_nat (by omega), h.2.2.1.bl k hp, isWeekC_eq]
    simp only [Option.bind_some, bI_if]
    have kk : ∀ k ≤ 8, ((0 ≤ (nI k - 1).toInt ∧ (nI k - 1).toInt < 8) ↔ k ≠ 0) ∧ nI k - 1 + 1 = nI k := by decide
    have go : Ok (pl_takeBooked_l2 m (nI (k + 1)) (ak_up M.1 61 k (nI (v.bl k)), M.2)) (fun y => (∀ p, p < v.n → y.2.1 61 p = nI (v.bl p)) ∧ zfx (fun r _ => r = 61) M.1 y.2.1 ∧ y.2.2 = M.2) := by
      have hf : zfx (fun r _ => r = 61) M.1 (ak_up M.1 61 k (nI (v.bl k))) := zfx.rf.up rfl
      refine ok_mono (ih (k + 1) m (_, M.2) (by omega) (by omega) (h.fx (M' := (_, M.2)) hf rfl (fun r c z => by have z2 : r = 61 := z; omega) hru) (fun p hpk => ?_)) (fun y hy => ⟨hy.1, hf.tr hy.2.1, hy.2.2⟩)
      by_cases e : p = k
      · rw [e]; exact ups1
      · rw [show ((ak_up M.1 61 k (nI (v.bl k)), M.2) : mm_M).1 61 p = M.1 61 p from ak_up_oth e]
        exact hR p (by omega)
    by_cases c : v.bl k = 0
    · rw [if_neg (fun z => ((kk _ hbl).1.mp z) c)]
      refine ok_pos g4 ?_
      rw [c] at go
      exact go
    · rw [if_pos ((kk _ hbl).1.mpr c)]
      refine ok_pos h.is8 (ok_pos g4 (ok_pos g4 ?_))
      rw [h.1, h.2.2.1.bl k hp, (kk _ hbl).2]
      exact go
theorem lookC_ok (hb : b = 1 ∨ b = 17) {M : mm_M} (h : ShC b M.1 v) (hB : zB v) (hT : zTX (37 + 3 * v.ru) T M.1) (hG : zGT T) : Ok (pl_look b M) (fun y => zPC b v T y.2 ∧ zDg 61 v.n v.bl y.2.1 ∧ zfx zLk M.1 y.2.1 ∧ y.2.2.2 = M.2.2) := by
  have hru := hB.ru
  have hn := hB.n
  unfold pl_look
  have h0 : zLi b v T (M.1, b, M.2.2) := ⟨rfl, hb, h, hT⟩
  refine ok_then (lookC_l7 hB 16 0 300 (M.1, b, M.2.2) (by decide) (by decide) h0 (fun aw ha => by omega)) (fun y1 h1 => ?_)
  obtain ⟨a1, a2, a3⟩ := h1
  have i1 : zLi b v T y1.2 := h0.fx a2 (congrArg Prod.fst a3) (fun r c z => by have z2 : r = 59 := z; omega) hru
  refine ok_then (lookC_l38 hB hG v.n 0 300 y1.2 (by omega) (by omega) i1 (fun p hp => by omega)) (fun y2 h2 => ?_)
  obtain ⟨b1, b2, b3⟩ := h2
  have i2 : zLi b v T y2.2 := i1.fx b2 (congrArg Prod.fst b3) (fun r c z => by have z2 : r = 35 ∨ r = 36 ∨ r = 60 ∨ (56 ≤ r ∧ r ≤ 58) := z; omega) hru
  unfold pl_takeBooked
  refine ok_bind (ok_then (takeBookedC_l hB v.n 0 300 y2.2 (by omega) (by omega) i2 (fun p hp => by omega)) (fun y3 h3 => ok_ret (ok_ret ?_)))
  obtain ⟨d1, d2, d3⟩ := h3
  have i3 : zLi b v T y3.2 := i2.fx d2 (congrArg Prod.fst d3) (fun r c z => by have z2 : r = 61 := z; omega) hru
  refine ⟨⟨i3.1, hb, i3.2.2.1, fun aw ha => ?_, fun p k hp hk => ?_⟩, fun p hp => ⟨d1 p hp, hB.bl p hp⟩, ?_, ?_⟩
  · rw [d2 59 aw (by omega), b2 59 aw (by omega)]
    exact a1 aw ha
  · have := b1 p hp k (by omega)
    rw [d2 56 _ (by omega), d2 57 _ (by omega), d2 58 _ (by omega)]
    exact this
  · exact ((a2.wk (fun r c z => by have z2 : r = 59 := z; omega)).tr (b2.wk (fun r c z => by have z2 : r = 35 ∨ r = 36 ∨ r = 60 ∨ (56 ≤ r ∧ r ≤ 58) := z; omega))).tr (d2.wk (fun r c z => by have z2 : r = 61 := z; omega))
  · show y3.2.2.2 = M.2.2
    rw [d3, b3, a3]
/-! the model's tables -/
abbrev zTa : Nat → Nat → Prop := fun r c => (81 ≤ r ∧ r ≤ 83) ∨ (r = 73 ∧ 12 ≤ c ∧ c ≤ 26)
def zRm (v : zV) (T : zT3) (p k : Nat) (σ : Nat → Nat → Int32) : Prop := ∀ i, i < k → σ 83 (9 * p + i) = nI (zwk (v.le p) i) ∧ σ 82 (9 * p + i) = zgs T v p i ∧ σ 81 (9 * p + i) = bI (zcb T v p i = true)
theorem zTa_S {σ σ' : Nat → Nat → Int32} (h : ShM σ v) (hf : zfx zTa σ σ') : ShM σ' v := h.fx hf (fun z => by have z2 : (81 ≤ 73 ∧ 73 ≤ 83) ∨ (73 = 73 ∧ 12 ≤ 11 ∧ 11 ≤ 26) := z; omega) (fun z => by have z2 : (81 ≤ 73 ∧ 73 ≤ 83) ∨ (73 = 73 ∧ 12 ≤ 4 ∧ 4 ≤ 26) := z; omega) (fun r c a b z => by have z2 : (81 ≤ r ∧ r ≤ 83) ∨ (r = 73 ∧ 12 ≤ c ∧ c ≤ 26) := z; omega)
theorem zTa_T {c : Nat} {σ σ' : Nat → Nat → Int32} (h : zTMx c T σ) (hf : zfx zTa σ σ') : zTMx c T σ' := h.fx hf (fun r c a b z => by have z2 : (81 ≤ r ∧ r ≤ 83) ∨ (r = 73 ∧ 12 ≤ c ∧ c ≤ 26) := z; omega)
theorem tablesM_l12 (hB : zB v) {p : Nat} (hp : p < v.n) : ∀ j k m (M : mm_M), k + j = 9 → j < m → ShM M.1 v → zTMx v.ru T M.1 → zRm v T p k M.1 → Ok (md_tables_l12 m (nI p) (nI k) M) (fun y => zRm v T p 9 y.2.1 ∧ zfx (fun r c => (81 ≤ r ∧ r ≤ 83 ∧ 9 * p ≤ c ∧ c < 9 * p + 9) ∨ (r = 73 ∧ 12 ≤ c ∧ c ≤ 26)) M.1 y.2.1 ∧ y.2.2.1 = M.2.1) := by
  have hn := hB.n
  intro j
  induction j with
  | zero =>
    intro k m M hk hm h hT hR
    obtain ⟨m, rfl, -⟩ := z_suc hm
    obtain rfl : k = 9 := by omega
    rw [md_tables_l12]
    exact ok_pos (by decide) (ok_ret ⟨hR, zfx.rf, rfl⟩)
  | succ j ih =>
    intro k m M hk hm h hT hR
    obtain ⟨m, rfl, hm2⟩ := z_suc hm
    have gi : ak_inb (nI (9 * p + k)) 36 = true := zI_inb (by omega) (by omega)
    rw [md_tables_l12, nI_1, z9b]
    refine ok_neg (nI_nlt (a := 8) (by omega) (by decide)) ?_
    have wk0 : ∀ r c : Nat, ((81 ≤ r ∧ r ≤ 83 ∧ 9 * p ≤ c ∧ c < 9 * p + 9) ∨ (r = 73 ∧ 12 ≤ c ∧ c ≤ 26)) → zTa r c := fun r c z => by
      show (81 ≤ r ∧ r ≤ 83) ∨ (r = 73 ∧ 12 ≤ c ∧ c ≤ 26)
      omega
    refine ok_then (canBeM_ok h hB hT hp (show k ≤ 8 by omega)) (fun y2 h2 => ?_)
    obtain ⟨a1, a2, a3⟩ := h2
    rw [a1]
    refine ok_pos gi (ok_pos (bI_01.mpr trivial) ?_)
    rw [zI_nat (show 9 * p + k < 2147483648 by omega)]
    have f1 : zfx (fun r c => (81 ≤ r ∧ r ≤ 83 ∧ 9 * p ≤ c ∧ c < 9 * p + 9) ∨ (r = 73 ∧ 12 ≤ c ∧ c ≤ 26)) M.1 (ak_up y2.2.1 81 (9 * p + k) (bI (zcb T v p k = true))) := (a2.wk (fun r c z => Or.inr z)).up (Or.inl ⟨by decide, by decide, by omega, by omega⟩)
    refine ok_then (hasOfM_ok (M := (ak_up y2.2.1 81 (9 * p + k) (bI (zcb T v p k = true)), y2.2.2)) (zTa_S h (f1.wk wk0)) hB (zTa_T hT (f1.wk wk0)) hp (show k ≤ 8 by omega)) (fun y5 h5 => ?_)
    obtain ⟨b1, b2, b3⟩ := h5
    rw [b1]
    refine ok_pos gi ?_
    have f2 : zfx (fun r c => (81 ≤ r ∧ r ≤ 83 ∧ 9 * p ≤ c ∧ c < 9 * p + 9) ∨ (r = 73 ∧ 12 ≤ c ∧ c ≤ 26)) M.1 (ak_up y5.2.1 82 (9 * p + k) (zgs T v p k)) := (f1.tr (b2.wk (fun r c z => Or.inr z))).up (Or.inl ⟨by decide, by decide, by omega, by omega⟩)
    rw [weeksOf_eq (M := (ak_up y5.2.1 82 (9 * p + k) (zgs T v p k), y5.2.2)) (zTa_S h (f2.wk wk0)) hB hp (show k ≤ 8 by omega)]
    simp only [Option.bind_some]
    refine ok_pos gi ?_
    have f3 : zfx (fun r c => (81 ≤ r ∧ r ≤ 83 ∧ 9 * p ≤ c ∧ c < 9 * p + 9) ∨ (r = 73 ∧ 12 ≤ c ∧ c ≤ 26)) M.1 (ak_up (ak_up y5.2.1 82 (9 * p + k) (zgs T v p k)) 83 (9 * p + k) (nI (zwk (v.le p) k))) := f2.up (Or.inl ⟨by decide, by decide, by omega, by omega⟩)
    refine ok_mono (ih (k + 1) m (_, y5.2.2) (by omega) (by omega) (zTa_S h (f3.wk wk0)) (zTa_T hT (f3.wk wk0)) (fun i hi => ?_)) (fun y hy => ⟨hy.1, f3.tr hy.2.1, hy.2.2.trans (b3.trans a3)⟩)
    show ak_up (ak_up y5.2.1 82 (9 * p + k) (zgs T v p k)) 83 (9 * p + k) (nI (zwk (v.le p) k)) 83 (9 * p + i) = _ ∧ ak_up (ak_up y5.2.1 82 (9 * p + k) (zgs T v p k)) 83 (9 * p + k) (nI (zwk (v.le p) k)) 82 (9 * p + i) = _ ∧ ak_up (ak_up y5.2.1 82 (9 * p + k) (zgs T v p k)) 83 (9 * p + k) (nI (zwk (v.le p) k)) 81 (9 * p + i) = _
    by_cases e : i = k
    · rw [e]
      refine ⟨ak_up_same, ?_, ?_⟩
      · rw [ak_up_ne (by decide), ak_up_same]
      · rw [ak_up_ne (by decide), ak_up_ne (by decide), b2 81 _ (by omega)]
        exact ups1
    · obtain ⟨r1, r2, r3⟩ := hR i (by omega)
      have ne : 9 * p + i ≠ 9 * p + k := by omega
      have e5 : ∀ r, 81 ≤ r → r ≤ 83 → y5.2.1 r (9 * p + i) = M.1 r (9 * p + i) := fun r h1 h2 => by
        rw [b2 r _ (by omega)]
        show ak_up y2.2.1 81 (9 * p + k) _ r (9 * p + i) = _
        rw [ak_up_oth ne, a2 r _ (by omega)]
      refine ⟨?_, ?_, ?_⟩
      · rw [ak_up_oth ne, ak_up_oth ne, e5 83 (by decide) (by decide)]; exact r1
      · rw [ak_up_oth ne, ak_up_oth ne, e5 82 (by decide) (by decide)]; exact r2
      · rw [ak_up_oth ne, ak_up_oth ne, e5 81 (by decide) (by decide)]; exact r3
theorem tablesM_l2 (hB : zB v) : ∀ j k m (M : mm_M), k + j = v.n → j < m → ShM M.1 v → zTMx v.ru T M.1 → (∀ p, p < k → zRm v T p 9 M.1) → Ok (md_tables_l2 m (nI k) M) (fun y => (∀ p, p < v.n → zRm v T p 9 y.2.1) ∧ zfx zTa M.1 y.2.1 ∧ y.2.2.1 = M.2.1) := by
  have hn := hB.n
  intro j
  induction j with
  | zero =>
    intro k m M hk hm h hT hR
    obtain ⟨m, rfl, -⟩ := z_suc hm
    rw [md_tables_l2, h.n]
    exact ok_neg (nI_nlt (by omega) (by omega)) (ok_ret ⟨fun p hp => hR p (by omega), zfx.rf, rfl⟩)
  | succ j ih =>
    intro k m M hk hm h hT hR
    obtain ⟨m, rfl, hm2⟩ := z_suc hm
    have hp : k < v.n := by omega
    rw [md_tables_l2, h.n, nI_1]
    refine ok_pos (nI_lt hp (by omega)) ?_
    refine ok_then (tablesM_l12 hB hp 9 0 300 M (by decide) (by decide) h hT (fun i hi => by omega)) (fun y2 h2 => ?_)
    obtain ⟨a1, a2, a3⟩ := h2
    have f1 : zfx zTa M.1 y2.2.1 := a2.wk (fun r c z => by
      show (81 ≤ r ∧ r ≤ 83) ∨ (r = 73 ∧ 12 ≤ c ∧ c ≤ 26)
      omega)
    refine ok_mono (ih (k + 1) m y2.2 (by omega) (by omega) (zTa_S h f1) (zTa_T hT f1) (fun p hpk => ?_)) (fun y hy => ⟨hy.1, f1.tr hy.2.1, hy.2.2.trans a3⟩)
    by_cases e : p = k
    · rw [e]; exact a1
    · intro i hi
      have := hR p (by omega) i hi
      rw [a2 83 _ (by omega), a2 82 _ (by omega), a2 81 _ (by omega)]
      exact this
theorem tablesM_ok {M : mm_M} (h : ShM M.1 v) (hB : zB v) (hT : zTMx v.ru T M.1) : Ok (md_tables M) (fun y => zPM v T y.2 ∧ zfx zTa M.1 y.2.1 ∧ y.2.2.1 = M.2.1) := by
  have hn := hB.n
  unfold md_tables
  refine ok_then (tablesM_l2 hB v.n 0 300 M (by omega) (by omega) h hT (fun p hp => by omega)) (fun y hy => ok_ret ?_)
  obtain ⟨a1, a2, a3⟩ := hy
  exact ⟨⟨zTa_S h a2, fun p k hp hk => a1 p hp k (by omega)⟩, a2, a3⟩
theorem bookedM_l (hB : zB v) : ∀ j k m (M : mm_M), k + j = v.n → j < m → ShM M.1 v → (∀ p, p < k → M.1 84 p = nI (v.bl p)) → Ok (md_booked_l2 m (nI k) M) (fun y => (∀ p, p < v.n → y.2.1 84 p = nI (v.bl p)) ∧ zfx (fun r _ => r = 84) M.1 y.2.1 ∧ y.2.2 = M.2) := by
  have hn := hB.n
  intro j
  induction j with
  | zero =>
    intro k m M hk hm h hR
    obtain ⟨m, rfl, -⟩ := z_suc hm
    rw [md_booked_l2, h.n]
    exact ok_neg (nI_nlt (by omega) (by omega)) (ok_ret ⟨fun p hp => hR p (by omega), zfx.rf, rfl⟩)
  | succ j ih =>
    intro k m M hk hm h hR
    obtain ⟨m, rfl, hm2⟩ := z_suc hm
    have hp : k < v.n := by omega
    have kk : ∀ k ≤ 8, nI k - 1 + 1 = nI k := by decide
    rw [md_booked_l2, h.n, nI_1, z5_4]
    refine ok_pos (nI_lt hp (by omega)) (ok_pos (zI_inb (by omega) (by omega)) (ok_pos (zI_inb (by omega) (by omega)) ?_))
    rw [zI_nat (by omega), zI_nat (by omega), h.bl k hp, kk _ (hB.bl k hp)]
    have hf : zfx (fun r _ => r = 84) M.1 (ak_up M.1 84 k (nI (v.bl k))) := zfx.rf.up rfl
    refine ok_mono (ih (k + 1) m (_, M.2) (by omega) (by omega) (h.fx hf (by omega) (by omega) (by omega)) (fun p hpk => ?_)) (fun y hy => ⟨hy.1, hf.tr hy.2.1, hy.2.2⟩)
    by_cases e : p = k
    · rw [e]; exact ups1
    · rw [show ((ak_up M.1 84 k (nI (v.bl k)), M.2) : mm_M).1 84 p = M.1 84 p from ak_up_oth e]
      exact hR p (by omega)
abbrev zTb : Nat → Nat → Prop := fun r c => (81 ≤ r ∧ r ≤ 84) ∨ (r = 73 ∧ 12 ≤ c ∧ c ≤ 26)
theorem zPM.w84 {M M' : mm_M} (h : zPM v T M) (hf : zfx (fun r _ => r = 84) M.1 M'.1) : zPM v T M' := h.fx hf (by omega) (by omega) (fun r c a b z => by omega)
theorem bookedM_ok {M : mm_M} (h : zPM v T M) (hB : zB v) : Ok (md_booked M) (fun y => zPM v T y.2 ∧ zDg 84 v.n v.bl y.2.1 ∧ zfx (fun r _ => r = 84) M.1 y.2.1 ∧ y.2.2 = M.2) := by
  have hn := hB.n
  unfold md_booked
  refine ok_then (bookedM_l hB v.n 0 300 M (by omega) (by omega) h.1 (fun p hp => by omega)) (fun y hy => ok_ret ?_)
  obtain ⟨a1, a2, a3⟩ := hy
  exact ⟨h.fx a2 (by omega) (by omega) (fun r c a b z => by omega), fun p hp => ⟨a1 p hp, hB.bl p hp⟩, a2, a3⟩
end
