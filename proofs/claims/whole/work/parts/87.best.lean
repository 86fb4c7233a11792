/-! level 2: best: spec; bounds; both searches find the same plan -/
theorem i_add {a b : Int32} (h1 : -2147483648 ≤ a.toInt + b.toInt) (h2 : a.toInt + b.toInt < 2147483648) : (a + b).toInt = a.toInt + b.toInt := by
  rw [Int32.toInt_add]
  exact Int.bmod_eq_of_le (by omega) (by omega)
theorem i_sb {a b : Int32} (h1 : -2147483648 ≤ a.toInt - b.toInt) (h2 : a.toInt - b.toInt < 2147483648) : (a - b).toInt = a.toInt - b.toInt := by
  rw [Int32.toInt_sub]
  exact Int.bmod_eq_of_le (by omega) (by omega)
section
variable {v : zV} {T : zT3}
theorem zjy_b (T : zT3) (v : zV) (p w : Nat) : -99 ≤ (zjy T v p w).toInt ∧ (zjy T v p w).toInt ≤ 99 := by
  unfold zjy zcp
  simp only [i_lt, show (-99 : Int32).toInt = -99 from rfl, show (99 : Int32).toInt = 99 from rfl]
  split
  · decide
  · split
    · decide
    · omega
theorem half_b {x : Int32} (h1 : -99 ≤ x.toInt) (h2 : x.toInt ≤ 99) : -99 ≤ (x / 2).toInt ∧ (x / 2).toInt ≤ 99 := by
  have h : ∀ k < 199, -99 ≤ ((nI k - 99) / 2).toInt ∧ ((nI k - 99) / 2).toInt ≤ 99 := by decide +kernel
  have g : ∀ k < 199, (nI k - 99).toInt = (k : Int) - 99 := by decide +kernel
  have e : x = nI (x.toInt + 99).toNat - 99 := by
    rw [i_eq, g _ (by omega)]
    omega
  rw [e]
  exact h _ (by omega)
theorem zbs_b (T : zT3) (v : zV) (p w : Nat) : -99 ≤ (zbs T v p w).toInt ∧ (zbs T v p w).toInt ≤ 99 := by
  unfold zbs
  split
  · exact zjy_b T v p w
  · exact half_b (zjy_b T v p w).1 (zjy_b T v p w).2
theorem zgl_b (hB : zB v) {p w : Nat} (hp : p < v.n) (hw : w < 8) : -300 ≤ (zgl T v p w).toInt ∧ (zgl T v p w).toInt ≤ 300 := by
  have hb := zbs_b T v p w
  have hnu := hB.nu p hp
  have enu : (nI (v.nu p)).toInt = v.nu p := zI_int (by omega)
  have ew : (nI w).toInt = w := zI_int (by omega)
  unfold zgl
  split
  · split <;> decide
  · split
    · decide
    · split
      · split
        · have e : (2 : Int32) * zbs T v p w = zbs T v p w + zbs T v p w := by rw [show (2 : Int32) = 1 + 1 from rfl, Int32.add_mul, Int32.one_mul]
          rw [e, i_add (by omega) (by omega)]
          omega
        · omega
      · split
        · rw [i_add (by omega) (by omega)]
          omega
        · split
          · have e1 := i_add (a := zbs T v p w) (b := nI (v.nu p)) (by omega) (by omega)
            rw [i_sb (by omega) (by omega)]
            omega
          · omega
theorem zsI_b {f : Nat → Int32} {c : Nat} (hc : c ≤ 10000) {n : Nat} (hn : n ≤ 8) (h : ∀ k, k < n → -(c : Int) ≤ (f k).toInt ∧ (f k).toInt ≤ c) : ∀ k, k ≤ n → -((k : Int) * c) ≤ (zsI f k).toInt ∧ (zsI f k).toInt ≤ (k : Int) * c := by
  intro k
  induction k with
  | zero =>
    intro _
    show -(((0 : Nat) : Int) * c) ≤ (0 : Int32).toInt ∧ (0 : Int32).toInt ≤ ((0 : Nat) : Int) * c
    rw [zi0]
    simp
  | succ k ih =>
    intro hk
    have h1 := ih (by omega)
    have h2 := h k (by omega)
    have h3 : (k : Int) * c ≤ 8 * 10000 := Int.mul_le_mul (by omega) (by omega) (by omega) (by omega)
    have h4 : ((k + 1 : Nat) : Int) * c = (k : Int) * c + c := by rw [Int.natCast_add, Int.add_mul]; simp
    show _ ≤ (zsI f k + f k).toInt ∧ (zsI f k + f k).toInt ≤ _
    rw [i_add (by omega) (by omega), h4]
    omega
theorem zsI_s {f : Nat → Int32} {c : Nat} (hc : c ≤ 10000) {n : Nat} (hn : n ≤ 8) (h : ∀ k, k < n → -(c : Int) ≤ (f k).toInt ∧ (f k).toInt ≤ c) {k : Nat} (hk : k < n) : (zsI f (k + 1)).toInt = (zsI f k).toInt + (f k).toInt := by
  have h1 := zsI_b hc hn h k (by omega)
  have h2 := h k hk
  have h3 : (k : Int) * c ≤ 8 * 10000 := Int.mul_le_mul (by omega) (by omega) (by omega) (by omega)
  exact i_add (by omega) (by omega)
theorem zgs_b (hB : zB v) {p k : Nat} (hp : p < v.n) : -2400 ≤ (zgs T v p k).toInt ∧ (zgs T v p k).toInt ≤ 2400 := by
  have := zsI_b (f := fun w => if (zwk (v.le p) k).testBit w = true then zgl T v p w else 0) (c := 300) (by decide) (n := 8) (by decide) (fun w hw => by
    show -300 ≤ (if (zwk (v.le p) k).testBit w = true then zgl T v p w else 0).toInt ∧ (if (zwk (v.le p) k).testBit w = true then zgl T v p w else 0).toInt ≤ 300
    split
    · exact zgl_b hB hp hw
    · decide) 8 (by decide)
  exact this
/-- what one can have at most -/
def zhm (T : zT3) (v : zV) (p : Nat) : Nat → Nat → Int32 → Int32
  | _, 0, x => x
  | k, j + 1, x => zhm T v p (k + 1) j (if zcb T v p k = true then i_max x (zgs T v p k) else x)
theorem zhm_ok (hB : zB v) {p : Nat} (hp : p < v.n) : ∀ j k x, 0 ≤ x.toInt → x.toInt ≤ 2400 → x.toInt ≤ (zhm T v p k j x).toInt ∧ (zhm T v p k j x).toInt ≤ 2400 ∧ ∀ i, k ≤ i → i < k + j → zcb T v p i = true → (zgs T v p i).toInt ≤ (zhm T v p k j x).toInt := by
  intro j
  induction j with
  | zero => intro k x h1 h2; exact ⟨Int.le_refl _, h2, fun i a b => by omega⟩
  | succ j ih =>
    intro k x h1 h2
    have hb := zgs_b (T := T) hB hp (k := k)
    have hm : x.toInt ≤ (i_max x (zgs T v p k)).toInt ∧ (zgs T v p k).toInt ≤ (i_max x (zgs T v p k)).toInt ∧ (i_max x (zgs T v p k)).toInt ≤ 2400 := by
      unfold i_max
      simp only [i_lt]
      split <;> omega
    rw [zhm]
    by_cases c : zcb T v p k = true
    · rw [if_pos c]
      obtain ⟨a1, a2, a3⟩ := ih (k + 1) (i_max x (zgs T v p k)) (by omega) hm.2.2
      refine ⟨by omega, a2, fun i b1 b2 b3 => ?_⟩
      by_cases e : i = k
      · rw [e]; omega
      · exact a3 i (by omega) (by omega) b3
    · rw [if_neg c]
      obtain ⟨a1, a2, a3⟩ := ih (k + 1) x h1 h2
      refine ⟨a1, a2, fun i b1 b2 b3 => ?_⟩
      by_cases e : i = k
      · rw [e] at b3; exact absurd b3 c
      · exact a3 i (by omega) (by omega) b3
/-- what the last j can have at most -/
def zhp (T : zT3) (v : zV) : Nat → Int32
  | 0 => 0
  | j + 1 => zhp T v j + zhm T v (v.n - (j + 1)) 0 9 0
theorem zhp_b (hB : zB v) : ∀ j, j ≤ v.n → 0 ≤ (zhp T v j).toInt ∧ (zhp T v j).toInt ≤ 2400 * j ∧ ((h : 0 < j) → (zhp T v j).toInt = (zhp T v (j - 1)).toInt + (zhm T v (v.n - j) 0 9 0).toInt) := by
  have hn := hB.n
  intro j
  induction j with
  | zero =>
    intro _
    refine ⟨?_, ?_, fun h => absurd h (by decide)⟩
    · show 0 ≤ (0 : Int32).toInt
      rw [zi0]; omega
    · show (0 : Int32).toInt ≤ _
      rw [zi0]; omega
  | succ j ih =>
    intro hj
    obtain ⟨h1, h2, -⟩ := ih (by omega)
    obtain ⟨a1, a2, -⟩ := zhm_ok (T := T) hB (p := v.n - (j + 1)) (by omega) 9 0 0 (by rw [zi0]; omega) (by rw [zi0]; omega)
    rw [zi0] at a1
    have e : (zhp T v (j + 1)).toInt = (zhp T v j).toInt + (zhm T v (v.n - (j + 1)) 0 9 0).toInt := i_add (by omega) (by omega)
    refine ⟨by omega, by omega, fun _ => e⟩
/-! plans -/
theorem zaw_cg {d d' : Nat → Nat} (h : ∀ q, q < v.n → d q = d' q) (w : Nat) : zaw v d w = zaw v d' w := by
  unfold zaw
  refine Nat.eq_of_testBit_eq (fun i => ?_)
  rw [zbt_tb, zbt_tb]
  by_cases e : i < v.n
  · rw [h i e]
  · simp [e]
theorem zhd_cg {d d' : Nat → Nat} (h : ∀ q, q < v.n → d q = d' q) : zhd T v d = zhd T v d' := by
  unfold zhd
  have e1 : zaf (fun p => zcb T v p (d p)) 0 v.n = zaf (fun p => zcb T v p (d' p)) 0 v.n := by
    rw [Bool.eq_iff_iff, zaf_iff, zaf_iff]
    exact ⟨fun g i a b => by have := g i a b; rw [h i (by omega)] at this; exact this, fun g i a b => by have := g i a b; rw [← h i (by omega)] at this; exact this⟩
  have e2 : zrt v d = zrt v d' := by
    funext w
    unfold zrt
    rw [zaw_cg h]
  rw [e1, e2]
theorem zsI_cg {f g : Nat → Int32} : ∀ n, (∀ q, q < n → f q = g q) → zsI f n = zsI g n := by
  intro n
  induction n with
  | zero => intro _; rfl
  | succ n ih =>
    intro h
    show zsI f n + f n = zsI g n + g n
    rw [ih (fun q hq => h q (by omega)), h n (by omega)]
theorem zsm_cg {d d' : Nat → Nat} (h : ∀ q, q < v.n → d q = d' q) : zsm T v d = zsm T v d' := zsI_cg _ (fun q hq => by rw [h q hq])
/-- the least of the first k -/
def zmn (f : Nat → Int32) : Nat → Int32
  | 0 => 100000
  | k + 1 => i_min (zmn f k) (f k)
theorem zmn_cg {f g : Nat → Int32} : ∀ n, (∀ q, q < n → f q = g q) → zmn f n = zmn g n := by
  intro n
  induction n with
  | zero => intro _; rfl
  | succ n ih =>
    intro h
    show i_min (zmn f n) (f n) = i_min (zmn g n) (g n)
    rw [ih (fun q hq => h q (by omega)), h n (by omega)]
theorem zlf_mn (f : Nat → Int32) : ∀ j k, zlf f k j (zmn f k) = zmn f (k + j) := by
  intro j
  induction j with
  | zero => intro k; rfl
  | succ j ih =>
    intro k
    show zlf f (k + 1) j (zmn f (k + 1)) = _
    rw [ih (k + 1)]
    congr 1
    omega
theorem zmn_1 (f : Nat → Int32) (h0 : (f 0).toInt ≤ 100000) : zmn f 1 = f 0 := by
  show (if f 0 < 100000 then f 0 else 100000) = f 0
  split
  · rfl
  · rename_i h
    rw [i_lt, show (100000 : Int32).toInt = 100000 from rfl] at h
    rw [i_eq, show (100000 : Int32).toInt = 100000 from rfl]
    omega
theorem zls_mn {d : Nat → Nat} (h : 0 < v.n) (h0 : (zgs T v 0 (d 0)).toInt ≤ 100000) : zls T v d = zmn (fun p => zgs T v p (d p)) v.n := by
  unfold zls
  rw [if_neg (by omega), ← zmn_1 (fun p => zgs T v p (d p)) h0, zlf_mn]
  congr 1
  omega
theorem zmn_le (f : Nat → Int32) : ∀ j k, (zmn f (k + j)).toInt ≤ (zmn f k).toInt := by
  intro j
  induction j with
  | zero => intro k; exact Int.le_refl _
  | succ j ih =>
    intro k
    have := ih k
    show (i_min (zmn f (k + j)) (f (k + j))).toInt ≤ _
    unfold i_min
    simp only [i_lt]
    split <;> omega
/-- what a plan is worth -/
def zval (T : zT3) (v : zV) (fair : Bool) (d : Nat → Nat) : Int32 := if fair = true then zls T v d else zsm T v d
/-- what it may be worth at most -/
def zbn (T : zT3) (v : zV) (fair : Bool) (p : Nat) (a2 a3 : Int32) : Int32 := if fair = true then a3 else a2 + zhp T v (v.n - p)
abbrev zBs : Type := Int32 × (Nat → Nat)
/-- the class's search -/
def zexk (g : Nat → zBs → zBs) : Nat → Nat → zBs → zBs
  | _, 0, B => B
  | k, j + 1, B => zexk g (k + 1) j (g k B)
def zex (T : zT3) (v : zV) (fair : Bool) : Nat → Nat → Int32 → Int32 → (Nat → Nat) → zBs → zBs
  | 0, p, a2, a3, d, B => if B.1 < zbn T v fair p a2 a3 then (zbn T v fair p a2 a3, d) else B
  | j + 1, p, a2, a3, d, B => if B.1 < zbn T v fair p a2 a3 then zexk (fun k B => if zcan T v d p k = true then zex T v fair j (p + 1) (a2 + zgs T v p k) (i_min a3 (zgs T v p k)) (zdo d p k) B else B) 0 9 B else B
/-- every plan -/
def zfl (T : zT3) (v : zV) (fair : Bool) : Nat → Nat → (Nat → Nat) → zBs → zBs
  | 0, _, d, B => if zhd T v d = true ∧ B.1 < zval T v fair d then (zval T v fair d, d) else B
  | j + 1, p, d, B => zexk (fun k B => if zcb T v p k = true then zfl T v fair j (p + 1) (zdo d p k) B else B) 0 9 B
/-- the model's search -/
def zskk (g : Nat → Option zBs → Option zBs) : Nat → Nat → Option zBs → Option zBs
  | _, 0, B => B
  | k, j + 1, B => zskk g (k + 1) j (g k B)
def zskl (T : zT3) (v : zV) (fair : Bool) (d : Nat → Nat) (B : Option zBs) : Option zBs := if zhd T v d = true then (match B with
  | none => some (zval T v fair d, d)
  | some b => if b.1 < zval T v fair d then some (zval T v fair d, d) else some b) else B
def zsk (T : zT3) (v : zV) (fair : Bool) : Nat → Nat → (Nat → Nat) → Option zBs → Option zBs
  | 0, _, d, B => zskl T v fair d B
  | j + 1, p, d, B => zskk (fun k B => if zcb T v p k = true then zsk T v fair j (p + 1) (zdo d p k) B else B) 0 9 B
theorem zskk_some {g : Nat → Option zBs → Option zBs} {h : Nat → zBs → zBs} (e : ∀ k b, g k (some b) = some (h k b)) : ∀ j k b, zskk g k j (some b) = some (zexk h k j b) := by
  intro j
  induction j with
  | zero => intro k b; rfl
  | succ j ih =>
    intro k b
    show zskk g (k + 1) j (g k (some b)) = some (zexk h (k + 1) j (h k b))
    rw [e, ih]
theorem zsk_some (fair : Bool) : ∀ j p d b, zsk T v fair j p d (some b) = some (zfl T v fair j p d b) := by
  intro j
  induction j with
  | zero =>
    intro p d b
    show zskl T v fair d (some b) = some (if zhd T v d = true ∧ b.1 < zval T v fair d then (zval T v fair d, d) else b)
    unfold zskl
    by_cases c : zhd T v d = true
    · by_cases e : b.1 < zval T v fair d
      · simp [c, e]
      · simp [c, e]
    · simp [c]
  | succ j ih =>
    intro p d b
    refine zskk_some (fun k b => ?_) 9 0 b
    show (if zcb T v p k = true then zsk T v fair j (p + 1) (zdo d p k) (some b) else some b) = some (if zcb T v p k = true then zfl T v fair j (p + 1) (zdo d p k) b else b)
    rw [ih]
    split <;> rfl
theorem zsk_none (fair : Bool) {d : Nat → Nat} (hh : zhd T v d = true) : ∀ j p, (∀ q, p ≤ q → d q = 0) → zsk T v fair j p d none = some (zfl T v fair j p d (zval T v fair d, d)) := by
  intro j
  induction j with
  | zero =>
    intro p h
    show zskl T v fair d none = some (if zhd T v d = true ∧ zval T v fair d < zval T v fair d then (zval T v fair d, d) else (zval T v fair d, d))
    rw [ite_self]
    unfold zskl
    rw [if_pos hh]
  | succ j ih =>
    intro p h
    have e0 := zdo_0 (h p (Nat.le_refl p))
    show zskk (fun k B => if zcb T v p k = true then zsk T v fair j (p + 1) (zdo d p k) B else B) 1 8 (if zcb T v p 0 = true then zsk T v fair j (p + 1) (zdo d p 0) none else none) = some (zexk (fun k B => if zcb T v p k = true then zfl T v fair j (p + 1) (zdo d p k) B else B) 1 8 (if zcb T v p 0 = true then zfl T v fair j (p + 1) (zdo d p 0) (zval T v fair d, d) else (zval T v fair d, d)))
    rw [if_pos (zcb_0 T v p), if_pos (zcb_0 T v p), e0, ih (p + 1) (fun q hq => h q (by omega))]
    refine zskk_some (fun k b => ?_) 8 1 _
    rw [zsk_some]
    split <;> rfl
/-- a search changes nothing where nothing is better -/
theorem zexk_id {g : Nat → zBs → zBs} {B : zBs} : ∀ j k, (∀ i, k ≤ i → i < k + j → g i B = B) → zexk g k j B = B := by
  intro j
  induction j with
  | zero => intro k _; rfl
  | succ j ih =>
    intro k h
    show zexk g (k + 1) j (g k B) = B
    rw [h k (Nat.le_refl k) (by omega)]
    exact ih (k + 1) (fun i a b => h i (by omega) (by omega))
theorem zfl_id (fair : Bool) {B : zBs} : ∀ j p d, (∀ d' : Nat → Nat, (∀ q, q < p → d' q = d q) → (∀ q, p ≤ q → q < p + j → d' q ≤ 8 ∧ zcb T v q (d' q) = true) → zhd T v d' = true → ¬ B.1 < zval T v fair d') → zfl T v fair j p d B = B := by
  intro j
  induction j with
  | zero =>
    intro p d h
    show (if zhd T v d = true ∧ B.1 < zval T v fair d then _ else B) = B
    rw [if_neg (fun z => h d (fun _ _ => rfl) (fun q a b => by omega) z.1 z.2)]
  | succ j ih =>
    intro p d h
    refine zexk_id 9 0 (fun k _ hk => ?_)
    show (if zcb T v p k = true then zfl T v fair j (p + 1) (zdo d p k) B else B) = B
    by_cases c : zcb T v p k = true
    · rw [if_pos c]
      refine ih (p + 1) (zdo d p k) (fun d' h1 h2 h3 => h d' (fun q hq => ?_) (fun q a b => ?_) h3)
      · rw [h1 q (by omega)]
        unfold zdo
        rw [if_neg (by omega)]
      · by_cases e : q = p
        · rw [h1 q (by omega), e]
          unfold zdo
          rw [if_pos rfl]
          exact ⟨by omega, c⟩
        · exact h2 q (by omega) (by omega)
    · rw [if_neg c]
theorem zfl_le (fair : Bool) : ∀ j p d (B : zBs), B.1.toInt ≤ (zfl T v fair j p d B).1.toInt := by
  intro j
  induction j with
  | zero =>
    intro p d B
    show B.1.toInt ≤ (if zhd T v d = true ∧ B.1 < zval T v fair d then (zval T v fair d, d) else B).1.toInt
    split
    · rename_i z
      have := i_lt.mp z.2
      show B.1.toInt ≤ (zval T v fair d).toInt
      omega
    · exact Int.le_refl _
  | succ j ih =>
    intro p d B
    have gen : ∀ m k (B : zBs), B.1.toInt ≤ (zexk (fun k B => if zcb T v p k = true then zfl T v fair j (p + 1) (zdo d p k) B else B) k m B).1.toInt := by
      intro m
      induction m with
      | zero => intro k B; exact Int.le_refl _
      | succ m ihm =>
        intro k B
        have h1 : B.1.toInt ≤ (if zcb T v p k = true then zfl T v fair j (p + 1) (zdo d p k) B else B).1.toInt := by
          split
          · exact ih _ _ _
          · exact Int.le_refl _
        have h2 := ihm (k + 1) (if zcb T v p k = true then zfl T v fair j (p + 1) (zdo d p k) B else B)
        exact Int.le_trans h1 h2
    exact gen 9 0 B
/-! fewer away is allowed too -/
def zm2 (n a c : Nat) : Bool := (List.range 16).all (fun k => !(decide (c &&& a = c) && decide ((k &&& zev n) &&& (zev n &&& (15 ^^^ a)) ≠ 0)) || decide ((k &&& zev n) &&& (zev n &&& (15 ^^^ c)) ≠ 0))
theorem zal_mono (hB : zB v) {a c : Nat} (ha : a < 16) (hc : c < 16) (hs : c &&& a = c) (h : zal v a = true) : zal v c = true := by
  have hn := hB.n
  have hky := hB.ky
  have m1 : ∀ n ≤ 4, ∀ a < 16, ∀ c < 16, ¬ (c &&& a = c) ∨ zpc (zev n &&& (15 ^^^ a)) ≤ zpc (zev n &&& (15 ^^^ c)) := by decide +kernel
  have m2 : ∀ n ≤ 4, ∀ a < 16, ∀ c < 16, zm2 n a c = true := by decide +kernel
  have m2' : ∀ k < 16, (k &&& zev v.n) &&& (zev v.n &&& (15 ^^^ a)) ≠ 0 → (k &&& zev v.n) &&& (zev v.n &&& (15 ^^^ c)) ≠ 0 := by
    intro k hk z
    have := m2 _ hn a ha c hc
    unfold zm2 at this
    rw [List.all_eq_true] at this
    have := this k (List.mem_range.mpr hk)
    simpa [hs, z] using this
  have m3 : ∀ a < 16, ∀ c < 16, ∀ x < 16, ¬ (c &&& a = c ∧ x &&& a = 0) ∨ x &&& c = 0 := by decide +kernel
  have m4 : ∀ a < 16, ∀ c < 16, ∀ q < 4, ¬ (c &&& a = c ∧ c.testBit q = true) ∨ a.testBit q = true := by decide +kernel
  unfold zal at h ⊢
  simp only [Bool.and_eq_true, Bool.or_eq_true, decide_eq_true_eq] at h ⊢
  obtain ⟨h1, h2, h3⟩ := h
  refine ⟨?_, ?_, ?_⟩
  · have := (m1 _ hn a ha c hc).resolve_left (fun z => z hs)
    omega
  · rcases h2 with z | z
    · exact Or.inl z
    · exact Or.inr (m2' v.ky (by omega) z)
  · rw [zaf_iff] at h3 ⊢
    intro i i1 i2
    have := h3 i i1 i2
    unfold zok at this ⊢
    have hx := hB.ap i (by omega)
    cases e : c.testBit i
    · rfl
    · have e2 := (m4 a ha c hc i (by omega)).resolve_left (fun w => w ⟨hs, e⟩)
      rw [e2] at this
      have e3 : v.ap i &&& a = 0 := by simpa using this
      have e4 := (m3 a ha c hc (v.ap i) hx).resolve_left (fun w => w ⟨hs, e3⟩)
      simp [e4]
theorem zhd_mono (hB : zB v) {d e : Nat → Nat} (h : ∀ q, q < v.n → e q = d q ∨ e q = 0) (hh : zhd T v d = true) : zhd T v e = true := by
  have hn := hB.n
  unfold zhd at hh ⊢
  rw [Bool.and_eq_true, zaf_iff, zaf_iff] at hh ⊢
  obtain ⟨h1, h2⟩ := hh
  refine ⟨fun i a b => ?_, fun w a b => ?_⟩
  · rcases h i (by omega) with z | z
    · rw [z]; exact h1 i a b
    · rw [z]; exact zcb_0 T v i
  · refine zal_mono hB (zaw_lt (d := d) hn w) (zaw_lt hn w) ?_ (h2 w a b)
    refine Nat.eq_of_testBit_eq (fun i => ?_)
    unfold zaw
    rw [Nat.testBit_and, zbt_tb, zbt_tb]
    by_cases hi : i < v.n
    · rcases h i hi with z | z
      · rw [z]; simp
      · rw [z, zwk_0]; simp
    · simp [hi]
end
