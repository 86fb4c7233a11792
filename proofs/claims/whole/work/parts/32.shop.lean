/-! level 2: the class's shop: its short functions -/
theorem z_suc {j n : Nat} (h : j < n) : ∃ m, n = m + 1 ∧ j ≤ m := ⟨n - 1, by omega, by omega⟩
theorem z_ii {p : Nat} {k : Nat} (h : p < 2147483648) : (0 ≤ (nI p).toInt ∧ (nI p).toInt < (k : Int)) ↔ p < k := by
  rw [zI_int h]
  omega
/-- the weeks (bits) of a block: le long, from week k - 1 on (0: none) -/
def zwk (le k : Nat) : Nat := if k = 0 then 0 else ((2 ^ le - 1) * 2 ^ (k - 1)) % 256
theorem zwk_lt (le k : Nat) : zwk le k < 256 := by
  unfold zwk
  split
  · omega
  · exact Nat.mod_lt _ (by omega)
def zcnt (f : Nat → Bool) : Nat → Nat
  | 0 => 0
  | k + 1 => zcnt f k + (if f k = true then 1 else 0)
theorem zcnt_le (f : Nat → Bool) : ∀ k, zcnt f k ≤ k
  | 0 => Nat.le_refl 0
  | k + 1 => by
    have := zcnt_le f k
    show zcnt f k + (if f k = true then 1 else 0) ≤ k + 1
    split <;> omega
def zow (v : zV) (p w : Nat) : Nat := zcnt (fun q => decide (q ≠ p) && (v.wi q).testBit w) v.n
/-- how many of four bits -/
def zpc (a : Nat) : Nat := a % 2 + a / 2 % 2 + a / 4 % 2 + a / 8 % 2
def zM0 : mm_M := (fun _ _ => 0, 0, 0)
theorem bitCount_eq {a : Nat} (ha : a < 16) (M : mm_M) : ji_bitCount (nI a) M = some (nI (zpc a), M) := by
  have h : ∀ a < 16, (ji_bitCount (nI a) zM0).map Prod.fst = some (nI (zpc a)) := by decide +kernel
  have e : ji_bitCount (nI a) M = ((ji_bitCount (nI a) zM0).map Prod.fst).map (fun r => (r, M)) := rfl
  rw [e, h a ha]
  rfl
theorem weeksFrom_eq {b : Nat} {M : mm_M} {v : zV} (h : ShC b M.1 v) (hB : zB v) {p k : Nat} (hp : p < v.n) (hk : k ≤ 8) : sh_weeksFrom b (nI p) (nI k - 1) M = some (nI (zwk (v.le p) k), M) := by
  have hn := hB.n
  have hl := hB.le p hp
  have hq : p < 2147483648 := by omega
  unfold sh_weeksFrom
  rw [isOneC_eq h hB, bI_t ((z_ii hq).mpr hp)]
  simp only [Option.bind_some]
  rw [if_neg (by decide), isWeekC_eq]
  simp only [Option.bind_some]
  have key : ∀ k ≤ 8, (0 ≤ (nI k - 1).toInt ∧ (nI k - 1).toInt < 8) ↔ k ≠ 0 := by decide
  by_cases hk0 : k = 0
  · subst hk0
    rw [if_pos (bI_0.mpr (by decide))]
    rfl
  · rw [if_neg (fun e => (bI_0.mp e) ((key k hk).mpr hk0)), if_pos (zI_inb hq (by omega))]
    rw [zI_nat hq, h.le p hp]
    have fin : ∀ k ≤ 8, k ≠ 0 → ∀ l ≤ 4, ((((1 : Int32) <<< ((nI l) &&& 31)) - (1 : Int32)) <<< ((nI k - 1) &&& 31)) &&& (255 : Int32) = nI (zwk l k) := by decide +kernel
    rw [fin k hk hk0 _ hl.2]
theorem wishesFor_eq {b : Nat} {M : mm_M} {v : zV} (h : ShC b M.1 v) (hB : zB v) {p w : Nat} (hp : p < v.n) (hw : w < 8) : sh_wishesFor b (nI p) (nI w) M = some (bI ((v.wi p).testBit w = true), M) := by
  have hn := hB.n
  have hx := hB.wi p hp
  have hq : p < 2147483648 := by omega
  unfold sh_wishesFor
  rw [if_pos (zI_inb hq (by omega)), zI_nat hq, h.wi p hp, zI_sh (by omega) hw]
  by_cases hb : (v.wi p).testBit w = true
  · rw [bI_t hb, if_neg (by decide)]
  · rw [bI_f hb, if_pos rfl]
theorem othersWishing_l {b : Nat} {M : mm_M} {v : zV} (h : ShC b M.1 v) (hB : zB v) {p w : Nat} (hp : p < 2147483648) (hw : w < 8) : ∀ j k n, k + j = v.n → j < n → sh_othersWishing_l5 n b (nI p) (nI w) (nI (zcnt (fun q => decide (q ≠ p) && (v.wi q).testBit w) k)) (nI k) M = some (nI (zow v p w), M) := by
  have hn := hB.n
  intro j
  induction j with
  | zero =>
    intro k n hk hj
    obtain ⟨m, rfl, -⟩ := z_suc hj
    rw [sh_othersWishing_l5, h.n, if_neg (nI_nlt (by omega) (by omega))]
    unfold zow
    rw [← hk]
    rfl
  | succ j ih =>
    intro k n hk hj
    obtain ⟨m, rfl, hm⟩ := z_suc hj
    have hk1 : k < v.n := by omega
    rw [sh_othersWishing_l5, h.n, if_pos (nI_lt hk1 (by omega)), nI_1]
    have hx := hB.wi k hk1
    by_cases e : k = p
    · rw [if_pos (by rw [e])]
      have := ih (k + 1) m (by omega) (by omega)
      rw [← this]
      congr 2
      show zcnt _ k = zcnt _ k + _
      simp [e]
    · rw [if_neg (fun z => e ((nI_eq (by omega) hp).mp z)), if_pos (zI_inb (by omega) (by omega)), zI_nat (by omega), h.wi k hk1, zI_sh (by omega) hw]
      have := ih (k + 1) m (by omega) (by omega)
      rw [← this]
      congr 1
      show _ = nI (zcnt _ k + _)
      rw [← nI_add]
      congr 1
      by_cases hb : (v.wi k).testBit w = true
      · rw [bI_t hb]; simp [e, hb]; rfl
      · rw [bI_f hb]; simp [e, hb]; rfl
theorem othersWishing_eq {b : Nat} {M : mm_M} {v : zV} (h : ShC b M.1 v) (hB : zB v) {p w : Nat} (hp : p < 2147483648) (hw : w < 8) : sh_othersWishing b (nI p) (nI w) M = some (nI (zow v p w), M) := by
  have hn := hB.n
  unfold sh_othersWishing
  have := othersWishing_l h hB hp hw v.n 0 300 (by omega) (by omega)
  rw [show (0 : Int32) = nI (zcnt (fun q => decide (q ≠ p) && (v.wi q).testBit w) 0) from rfl]
  rw [show nI (zcnt (fun q => decide (q ≠ p) && (v.wi q).testBit w) 0) = nI 0 from rfl] at *
  rw [this]
  rfl
