/-! level 2: tells, both -/
section
variable {v : zV} {Ts : Nat → zT3}
/-- what of a told one's gladness is asked -/
def ztw (Ts : Nat → zT3) (cnt : Nat) (v : zV) (p : Nat) (it : Nat → Int32) (q : Nat) : Int32 :=
  if q = 0 then zfo Ts v p it else if q = 1 then nI (zbt (fun x => zft Ts (zvr 7 v p x) p it) 6) else if q = 2 then nI (zbt (fun x => zft Ts (zvr 3 v p x) p it) 10) else if q = 3 then nI (zwp (zow1 Ts v p it) 8) else if q = 4 then (if zaf (fun w => zow1 Ts v p it w false || zow1 Ts v p it w true) 0 8 = true then nI (zbt (zlwb (zow1 Ts v p it)) 8) else -1) else nI (zbt (fun x => zft Ts (zvr 8 v p x) p it) cnt)
def ztl (Ts : Nat → zT3) (cnt : Nat) (v : zV) (z : zT) (a1 a2 a3 : Int32) : Int32 := if (0 ≤ a1.toInt ∧ a1.toInt < 4) ∧ (0 ≤ a2.toInt ∧ a2.toInt < v.n) ∧ 0 ≤ a3.toInt ∧ a3.toInt ≤ 5 then (if z.1 a1.toInt.toNat = 0 then -11 else if z.2.1 a1.toInt.toNat = 8 then ztw Ts cnt v a2.toInt.toNat (z.2.2 a1.toInt.toNat) a3.toInt.toNat else -2) else -2
theorem kd_B (hB : zB v) {p : Nat} (hp : p < v.n) (cnt : Nat) : zvk 7 (zog 7 v p) cnt := by
  have hn := hB.n
  have := hB.kd p hp
  refine Or.inl ⟨rfl, ?_⟩
  show v.kd p ≤ 5
  exact this
theorem nu_B (hB : zB v) {p : Nat} (hp : p < v.n) (cnt : Nat) : zvk 3 (zog 3 v p) cnt := by
  have hn := hB.n
  have := hB.nu p hp
  refine Or.inr (Or.inl ⟨rfl, ?_⟩)
  show v.nu p ≤ 9
  exact this
theorem wi_B (hB : zB v) {p : Nat} (hp : p < v.n) (cnt : Nat) : zvk 5 (zog 5 v p) cnt := by
  have hn := hB.n
  have := hB.wi p hp
  refine Or.inr (Or.inr (Or.inl ⟨rfl, ?_⟩))
  show v.wi p ≤ 255
  exact this
theorem ru_B {cnt : Nat} (hr : v.ru < cnt) (p : Nat) : zvk 8 (zog 8 v p) cnt := by
  refine Or.inr (Or.inr (Or.inr ⟨rfl, ?_⟩))
  show v.ru < cnt
  exact hr
theorem tellsC_ok {cnt : Nat} {z : zT} {M : mm_M} (h : ShC 1 M.1 v) (hB : zB v) (hc : cnt ≤ 6) (hr : v.ru < cnt) (h26 : M.1 26 0 = nI cnt) (hT : zTC Ts cnt M.1) (hS : StC M.1 z) (a1 a2 a3 : Int32) : Ok (nb_tells a1 a2 a3 M) (fun y => y.1 = ztl Ts cnt v z a1 a2 a3 ∧ zfx zTe M.1 y.2.1 ∧ y.2.2 = M.2) := by
  have hn := hB.n
  unfold nb_tells
  have bad : ¬ ((0 ≤ a1.toInt ∧ a1.toInt < 4) ∧ (0 ≤ a2.toInt ∧ a2.toInt < v.n) ∧ 0 ≤ a3.toInt ∧ a3.toInt ≤ 5) → Ok (some ((-2 : Int32), M)) (fun y => y.1 = ztl Ts cnt v z a1 a2 a3 ∧ zfx zTe M.1 y.2.1 ∧ y.2.2 = M.2) := by
    intro c
    unfold ztl
    rw [if_neg c]
    exact ok_ret ⟨rfl, zfx.rf, rfl⟩
  have l0 : a3 < (0 : Int32) ↔ a3.toInt < 0 := by rw [i_lt, zi0]
  have l5 : (5 : Int32) < a3 ↔ 5 < a3.toInt := by rw [i_lt, show (5 : Int32).toInt = 5 from rfl]
  rw [isSheetC_eq]
  simp only [Option.bind_some, bI_if]
  by_cases g : 0 ≤ a1.toInt ∧ a1.toInt < 4
  · rw [if_pos g, isOneC_eq h hB]
    simp only [Option.bind_some, bI_if]
    by_cases o : 0 ≤ a2.toInt ∧ a2.toInt < v.n
    · rw [if_pos o]
      refine ok_ite (fun c => bad (fun w => by have := l0.mp c; omega)) (fun c1 => ok_ite (fun c => bad (fun w => by have := l5.mp c; omega)) (fun c2 => ?_))
      have n1 : ¬ a3.toInt < 0 := fun w => c1 (l0.mpr w)
      have n2 : ¬ 5 < a3.toInt := fun w => c2 (l5.mpr w)
      unfold ztl
      rw [if_pos (show (0 ≤ a1.toInt ∧ a1.toInt < 4) ∧ (0 ≤ a2.toInt ∧ a2.toInt < v.n) ∧ 0 ≤ a3.toInt ∧ a3.toInt ≤ 5 from ⟨g, o, by omega, by omega⟩)]
      obtain ⟨s, hs0, rfl, es⟩ := zI_of (x := a1) g.1
      obtain ⟨p, hp0, rfl, ep⟩ := zI_of (x := a2) o.1
      obtain ⟨q, hq0, rfl, eq⟩ := zI_of (x := a3) (by omega)
      have esn : (nI s).toInt.toNat = s := by omega
      have epn : (nI p).toInt.toNat = p := by omega
      have eqn : (nI q).toInt.toNat = q := by omega
      have hs : s < 4 := by omega
      have hp : p < v.n := by omega
      rw [esn, epn, eqn]
      refine ok_pos (zI_inb (by omega) hs) ?_
      rw [zI_nat (show s < 2147483648 by omega), missing_eq hS hs]
      simp only [Option.bind_some, bI_if]
      obtain ⟨t1, t2, t3⟩ := hS s hs
      by_cases c0 : z.1 s = 0
      · rw [if_pos c0, if_pos c0]
        exact ok_ret ⟨rfl, zfx.rf, rfl⟩
      · rw [if_neg c0, if_neg c0]
        obtain ⟨t4, t5, t6⟩ := t3 c0
        rw [t4]
        have e8 : nI (z.2.1 s) = (8 : Int32) ↔ z.2.1 s = 8 := by
          have : ∀ a ≤ 40, (nI a = (8 : Int32) ↔ a = 8) := by decide
          exact this _ t5
        by_cases c8 : z.2.1 s = 8
        · rw [if_pos c8]
          refine ok_pos (e8.mpr c8) ?_
          obtain ⟨M', b1, b2, b3, b4, b5⟩ := become_ok (a := 17) (b := 1) (Or.inr (by decide)) h hB
          rw [b1]
          simp only [Option.bind_some]
          have hf : zfx zTe M.1 M'.1 := fun r c w => by rw [b3 r (fun u => w (Or.inl u))]
          have hI : ∀ w, w < 8 → M'.1 (65 + 2 * s + 1) w = z.2.2 s w := fun w hw => (hf _ _ (fun u => by have := zTe_n u; omega)).trans (t6 w (by omega))
          have hT' : zTC Ts cnt M'.1 := hT.fx hc hf (fun r q a b z => by have := zTe_n z; omega)
          have h26' : M'.1 26 0 = nI cnt := (hf _ _ (fun z => by have := zTe_n z; omega)).trans h26
          have og : ∀ k : Nat, ShC 17 M'.1 (zvr k v p (zog k v p)) := fun k => by rw [zvr_og]; exact b2
          have eqq : ∀ c : Nat, c < 10 → (nI q = nI c ↔ q = c) := fun c hc => by
            have : ∀ a < 10, ∀ c < 10, (nI a = nI c ↔ a = c) := by decide
            exact this _ (by omega) _ hc
          unfold ztw
          by_cases q0 : q = 0
          · rw [if_pos q0]
            refine ok_pos ((eqq 0 (by decide)).mpr q0) (ok_then (foC_ok hc hB hr hp b2 hT' hI) (fun y hy => ok_ret ⟨hy.1, hf.tr (hy.2.1.wk (fun r c w => Or.inr w)), hy.2.2.trans b5⟩))
          refine ok_neg (fun w => q0 ((eqq 0 (by decide)).mp w)) ?_
          rw [if_neg q0]
          by_cases q1 : q = 1
          · rw [if_pos q1]
            unfold nb_kindsTold
            refine ok_pos ((eqq 1 (by decide)).mpr q1) ?_
            rw [Option.bind_assoc]
            refine ok_then (kindsC_l hc hB hr hp 6 0 300 M' (by decide) (by decide) ⟨_, kd_B hB hp cnt, og 7⟩ hT' hI) (fun y hy => ok_ret ⟨hy.1, hf.tr hy.2.1, hy.2.2.trans b5⟩)
          refine ok_neg (fun w => q1 ((eqq 1 (by decide)).mp w)) ?_
          rw [if_neg q1]
          by_cases q2 : q = 2
          · rw [if_pos q2]
            unfold nb_numbersTold
            refine ok_pos ((eqq 2 (by decide)).mpr q2) ?_
            rw [Option.bind_assoc]
            refine ok_then (numbersC_l hc hB hr hp 10 0 300 M' (by decide) (by decide) ⟨_, nu_B hB hp cnt, og 3⟩ hT' hI) (fun y hy => ok_ret ⟨hy.1, hf.tr hy.2.1, hy.2.2.trans b5⟩)
          refine ok_neg (fun w => q2 ((eqq 2 (by decide)).mp w)) ?_
          rw [if_neg q2]
          by_cases q3 : q = 3
          · rw [if_pos q3]
            unfold nb_wishesTold
            refine ok_pos ((eqq 3 (by decide)).mpr q3) ?_
            rw [Option.bind_assoc]
            refine ok_then (wishesC_l hc hB hr hp 8 0 300 M' (by decide) (by decide) ⟨_, wi_B hB hp cnt, og 5⟩ hT' hI) (fun y hy => ok_ret ⟨hy.1, hf.tr hy.2.1, hy.2.2.trans b5⟩)
          refine ok_neg (fun w => q3 ((eqq 3 (by decide)).mp w)) ?_
          rw [if_neg q3]
          by_cases q4 : q = 4
          · rw [if_pos q4]
            unfold nb_leastWishesTold
            refine ok_pos ((eqq 4 (by decide)).mpr q4) ?_
            rw [Option.bind_assoc]
            refine ok_then (leastWC_l hc hB hr hp 8 0 300 M' (by decide) (by decide) ⟨_, wi_B hB hp cnt, og 5⟩ hT' hI) (fun y hy => ?_)
            obtain ⟨M2, e1, e2, e3⟩ := hy
            by_cases ca : zaf (fun w => zow1 Ts v p (z.2.2 s) w false || zow1 Ts v p (z.2.2 s) w true) 0 8 = true
            · rw [if_pos ca] at e1
              rw [if_pos ca, e1]
              exact ok_ret ⟨rfl, hf.tr e2, e3.trans b5⟩
            · rw [if_neg ca] at e1
              rw [if_neg ca, e1]
              exact ok_ret ⟨rfl, hf.tr e2, e3.trans b5⟩
          refine ok_neg (fun w => q4 ((eqq 4 (by decide)).mp w)) ?_
          rw [if_neg q4]
          unfold nb_textsTold
          rw [Option.bind_assoc]
          refine ok_then (textsC_l hc hB hr hp cnt 0 300 M' (by omega) (by omega) h26' ⟨_, ru_B hr p, og 8⟩ hT' hI) (fun y hy => ok_ret ⟨hy.1, hf.tr hy.2.1, hy.2.2.trans b5⟩)
        · rw [if_neg c8]
          exact ok_neg (fun w => c8 (e8.mp w)) (ok_ret ⟨rfl, zfx.rf, rfl⟩)
    · rw [if_neg o]
      exact bad (fun w => o w.2.1)
  · rw [if_neg g]
    exact bad (fun w => g w.1)
/-! the model counts one by one -/
def zuc (f : Nat → Bool) : Nat → Nat → Nat
  | _, 0 => 0
  | k, j + 1 => (if f k = true then 1 else 0) + zuc f (k + 1) j
def zul (f : Nat → Bool) : Nat → Nat → Int32
  | _, 0 => -1
  | k, j + 1 => if f k = true then nI k else zul f (k + 1) j
theorem zuc_add (f : Nat → Bool) : ∀ a k b, zuc f k (a + b) = zuc f k a + zuc f (k + a) b := by
  intro a
  induction a with
  | zero => intro k b; rw [Nat.zero_add]; show _ = 0 + zuc f (k + 0) b; rw [Nat.zero_add, Nat.add_zero]
  | succ a ih =>
    intro k b
    rw [show a + 1 + b = (a + b) + 1 by omega]
    show _ + zuc f (k + 1) (a + b) = (_ + zuc f (k + 1) a) + _
    rw [ih (k + 1) b, show k + 1 + a = k + (a + 1) by omega]
    omega
theorem zuc_eq {f g : Nat → Bool} (d : Nat) : ∀ j k, (∀ i, k ≤ i → i < k + j → f (d + i) = g i) → zuc f (d + k) j = zuc g k j := by
  intro j
  induction j with
  | zero => intro k _; rfl
  | succ j ih =>
    intro k h
    show _ + zuc f (d + k + 1) j = _ + zuc g (k + 1) j
    rw [h k (Nat.le_refl _) (by omega), show d + k + 1 = d + (k + 1) by omega, ih (k + 1) (fun i a b => h i (by omega) (by omega))]
theorem zuc_no {f : Nat → Bool} : ∀ j k, (∀ i, k ≤ i → i < k + j → f i = false) → zuc f k j = 0 := by
  intro j
  induction j with
  | zero => intro k _; rfl
  | succ j ih =>
    intro k h
    show (if f k = true then 1 else 0) + zuc f (k + 1) j = 0
    rw [h k (Nat.le_refl _) (by omega), ih (k + 1) (fun i a b => h i (by omega) (by omega))]
    rfl
theorem zul_no {f : Nat → Bool} : ∀ j k, (∀ i, k ≤ i → i < k + j → f i = false) → zul f k j = -1 := by
  intro j
  induction j with
  | zero => intro k _; rfl
  | succ j ih =>
    intro k h
    show (if f k = true then nI k else zul f (k + 1) j) = -1
    rw [h k (Nat.le_refl _) (by omega), if_neg (by decide)]
    exact ih (k + 1) (fun i a b => h i (by omega) (by omega))
theorem zul_at {f : Nat → Bool} {y : Nat} (hy : f y = true) : ∀ j k, k ≤ y → y < k + j → (∀ i, k ≤ i → i < y → f i = false) → zul f k j = nI y := by
  intro j
  induction j with
  | zero => intro k a b; omega
  | succ j ih =>
    intro k a b h
    show (if f k = true then nI k else zul f (k + 1) j) = nI y
    by_cases e : k = y
    · rw [e, if_pos hy]
    · rw [h k (Nat.le_refl _) (by omega), if_neg (by decide)]
      exact ih (k + 1) (by omega) (by omega) (fun i a b => h i (by omega) (by omega))
/-- week after week as its bit says -/
def zAl (g : Nat → Bool → Bool) : Nat → Nat → Bool
  | 0, _ => true
  | k + 1, x => zAl g k x && g k (x.testBit k)
theorem zAl_iff {g : Nat → Bool → Bool} {x : Nat} : ∀ k, zAl g k x = true ↔ ∀ w, w < k → g w (x.testBit w) = true := by
  intro k
  induction k with
  | zero => exact ⟨fun _ w hw => by omega, fun _ => rfl⟩
  | succ k ih =>
    show (zAl g k x && g k (x.testBit k)) = true ↔ _
    rw [Bool.and_eq_true, ih]
    constructor
    · rintro ⟨a, b⟩ w hw
      by_cases e : w = k
      · rw [e]; exact b
      · exact a w (by omega)
    · intro a
      exact ⟨fun w hw => a w (by omega), a k (by omega)⟩
theorem zAl_hi {g : Nat → Bool → Bool} {x k : Nat} : ∀ j, j ≤ k → zAl g j (2 ^ k + x) = zAl g j x := by
  intro j
  induction j with
  | zero => intro _; rfl
  | succ j ih =>
    intro hj
    show (zAl g j (2 ^ k + x) && g j ((2 ^ k + x).testBit j)) = (zAl g j x && g j (x.testBit j))
    rw [ih (by omega), Nat.testBit_two_pow_add_gt (by omega)]
theorem zuc_wp (g : Nat → Bool → Bool) : ∀ k, zuc (zAl g k) 0 (2 ^ k) = zwp g k := by
  intro k
  induction k with
  | zero => rfl
  | succ k ih =>
    rw [show 2 ^ (k + 1) = 2 ^ k + 2 ^ k by rw [Nat.pow_succ]; omega, zuc_add, Nat.zero_add]
    have lo : zuc (zAl g (k + 1)) 0 (2 ^ k) = zwp g k * (if g k false = true then 1 else 0) := by
      by_cases c : g k false = true
      · rw [if_pos c, Nat.mul_one, ← ih]
        have := zuc_eq (f := zAl g (k + 1)) (g := zAl g k) 0 (2 ^ k) 0 (fun i a b => by
          show (zAl g k (0 + i) && g k ((0 + i).testBit k)) = zAl g k i
          rw [Nat.zero_add, Nat.testBit_lt_two_pow (by omega), c, Bool.and_true])
        simpa using this
      · rw [if_neg c, Nat.mul_zero]
        refine zuc_no _ _ (fun i a b => ?_)
        show (zAl g k i && g k (i.testBit k)) = false
        rw [Nat.testBit_lt_two_pow (by omega), Bool.not_eq_true _ |>.mp c, Bool.and_false]
    have hi : zuc (zAl g (k + 1)) (2 ^ k) (2 ^ k) = zwp g k * (if g k true = true then 1 else 0) := by
      have bt : ∀ i, i < 2 ^ k → (2 ^ k + i).testBit k = true := fun i hi => by
        rw [Nat.testBit_two_pow_add_eq, Nat.testBit_lt_two_pow hi]; rfl
      by_cases c : g k true = true
      · rw [if_pos c, Nat.mul_one, ← ih]
        have := zuc_eq (f := zAl g (k + 1)) (g := zAl g k) (2 ^ k) (2 ^ k) 0 (fun i a b => by
          show (zAl g k (2 ^ k + i) && g k ((2 ^ k + i).testBit k)) = zAl g k i
          rw [bt i (by omega), c, Bool.and_true, zAl_hi k (Nat.le_refl _)])
        simpa using this
      · rw [if_neg c, Nat.mul_zero]
        refine zuc_no _ _ (fun i a b => ?_)
        show (zAl g k i && g k (i.testBit k)) = false
        have := bt (i - 2 ^ k) (by omega)
        rw [show 2 ^ k + (i - 2 ^ k) = i by omega] at this
        rw [this, Bool.not_eq_true _ |>.mp c, Bool.and_false]
    rw [lo, hi, ← Nat.mul_add]
    rfl
theorem zul_wp (g : Nat → Bool → Bool) : zul (zAl g 8) 0 256 = if zaf (fun w => g w false || g w true) 0 8 = true then nI (zbt (zlwb g) 8) else -1 := by
  by_cases c : zaf (fun w => g w false || g w true) 0 8 = true
  · rw [if_pos c]
    rw [zaf_iff] at c
    have hlt := zbt_lt (zlwb g) 8
    refine zul_at ?_ 256 0 (Nat.zero_le _) (by omega) (fun i a b => ?_)
    · rw [zAl_iff]
      intro w hw
      rw [zbt_tb, decide_eq_true hw, Bool.true_and]
      have := c w (Nat.zero_le _) (by omega)
      unfold zlwb
      cases e : g w false
      · rw [e] at this; simpa using this
      · simpa using e
    · by_cases f : zAl g 8 i = true
      · exfalso
        rw [zAl_iff] at f
        have sub : zbt (zlwb g) 8 &&& i = zbt (zlwb g) 8 := by
          refine Nat.eq_of_testBit_eq (fun w => ?_)
          rw [Nat.testBit_and, zbt_tb]
          by_cases hw : w < 8
          · rw [decide_eq_true hw, Bool.true_and]
            have := f w hw
            unfold zlwb
            cases e : i.testBit w
            · rw [e] at this; simp [this]
            · simp
          · simp [hw]
        have : zbt (zlwb g) 8 &&& i ≤ i := Nat.and_le_right
        omega
      · simpa using f
  · rw [if_neg c]
    refine zul_no _ _ (fun i a b => ?_)
    by_cases f : zAl g 8 i = true
    · exfalso
      rw [zAl_iff] at f
      refine c ((zaf_iff _ _ _).mpr (fun w a b => ?_))
      have := f w (by omega)
      cases e : i.testBit w
      · rw [e] at this; simp [this]
      · rw [e] at this; simp [this]
    · simpa using f
theorem zft_wi {p : Nat} {it : Nat → Int32} : (fun x => zft Ts (zvr 5 v p x) p it) = zAl (zow1 Ts v p it) 8 := by
  funext x
  rw [Bool.eq_iff_iff, zAl_iff]
  unfold zft
  rw [zaf_iff]
  have e : ∀ w, w < 8 → (zfg Ts (zvr 5 v p x) p it w = zow1 Ts v p it w (x.testBit w)) := by
    intro w hw
    unfold zfg zow1
    have : zgl (Ts v.ru) (zvr 5 v p x) p w = zgl (Ts v.ru) (zvr 5 v p (if x.testBit w = true then 2 ^ w else 0)) p w := by
      refine zgl_wi ?_
      by_cases c : x.testBit w = true
      · rw [if_pos c, c, Nat.testBit_two_pow]; simp
      · rw [if_neg c, Nat.zero_testBit]; simpa using c
    rw [← this]
    rfl
  constructor
  · intro h w hw
    rw [← e w hw]
    exact h w (Nat.zero_le _) (by omega)
  · intro h w _ hw
    rw [e w (by omega)]
    exact h w (by omega)
end
