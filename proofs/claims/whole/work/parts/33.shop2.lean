/-! level 2: the class's shop: who may be away, sums -/
def zaf (f : Nat → Bool) : Nat → Nat → Bool
  | _, 0 => true
  | k, j + 1 => f k && zaf f (k + 1) j
def zev (n : Nat) : Nat := 2 ^ n - 1
def zok (v : zV) (aw q : Nat) : Bool := !(aw.testBit q) || decide (v.ap q &&& aw = 0)
/-- whether those (bits) may be away in one week -/
def zal (v : zV) (aw : Nat) : Bool := decide (min v.nd v.n ≤ zpc (zev v.n &&& (15 ^^^ aw))) && ((decide (v.ky &&& zev v.n = 0) || decide ((v.ky &&& zev v.n) &&& (zev v.n &&& (15 ^^^ aw)) ≠ 0)) && zaf (zok v aw) 0 v.n)
theorem z_and {a b : Nat} (ha : a < 16) (hb : b < 16) : nI a &&& nI b = nI (a &&& b) := by
  have h : ∀ a < 16, ∀ b < 16, nI a &&& nI b = nI (a &&& b) := by decide +kernel
  exact h a ha b hb
theorem z_andn {a b : Nat} (ha : a < 16) (hb : b < 16) : nI a &&& (nI b ^^^ (-1 : Int32)) = nI (a &&& (15 ^^^ b)) := by
  have h : ∀ a < 16, ∀ b < 16, nI a &&& (nI b ^^^ (-1 : Int32)) = nI (a &&& (15 ^^^ b)) := by decide +kernel
  exact h a ha b hb
theorem z_and16 {a b : Nat} (ha : a < 16) : a &&& b < 16 := Nat.lt_of_le_of_lt Nat.and_le_left ha
theorem z_xor16 {b : Nat} (hb : b < 16) : 15 ^^^ b < 16 := by
  have h : ∀ b < 16, 15 ^^^ b < 16 := by decide
  exact h b hb
theorem zev_eq {n : Nat} (hn : n ≤ 4) : ((1 : Int32) <<< ((nI n) &&& 31)) - (1 : Int32) = nI (zev n) := by
  have h : ∀ n ≤ 4, ((1 : Int32) <<< ((nI n) &&& 31)) - (1 : Int32) = nI (zev n) := by decide
  exact h n hn
theorem zev_lt {n : Nat} (hn : n ≤ 4) : zev n < 16 := by
  have h : ∀ n ≤ 4, zev n < 16 := by decide
  exact h n hn
theorem z_min {a b : Nat} (ha : a < 2147483648) (hb : b < 2147483648) : i_min (nI a) (nI b) = nI (min a b) := by
  unfold i_min
  by_cases h : a ≤ b
  · rw [if_neg (fun z => absurd ((nI_ltI (by omega) (by omega)).mp z) (by omega)), Nat.min_eq_left h]
  · rw [if_pos ((nI_ltI (by omega) (by omega)).mpr (by omega)), Nat.min_eq_right (by omega)]
theorem z_eq0 {a : Nat} (h : a < 2147483648) : nI a = (0 : Int32) ↔ a = 0 := nI_eq (b := 0) h (by decide)
theorem zpc_le {a : Nat} : zpc a ≤ 4 := by unfold zpc; omega
theorem allows_l {b : Nat} {M : mm_M} {v : zV} (h : ShC b M.1 v) (hB : zB v) {aw : Nat} (ha : aw < 16) : ∀ j k n, k + j = v.n → j < n → sh_allows_l58 n b (nI aw) (nI k) M = some (if zaf (zok v aw) k j = true then .inr ((), M) else .inl (0, M)) := by
  have hn := hB.n
  intro j
  induction j with
  | zero =>
    intro k n hk hj
    obtain ⟨m, rfl, -⟩ := z_suc hj
    rw [sh_allows_l58, h.n, if_neg (nI_nlt (by omega) (by omega))]
    rfl
  | succ j ih =>
    intro k n hk hj
    obtain ⟨m, rfl, hm⟩ := z_suc hj
    have hk1 : k < v.n := by omega
    have hx := hB.ap k (by omega)
    rw [sh_allows_l58, h.n, if_pos (nI_lt hk1 (by omega)), nI_1, zI_sh (by omega) (by omega), ih (k + 1) m (by omega) (by omega)]
    show _ = some (if ((!(aw.testBit k) || decide (v.ap k &&& aw = 0)) && zaf (zok v aw) (k + 1) j) = true then _ else _)
    by_cases hb : aw.testBit k = true
    · rw [bI_t hb, if_neg (by decide), if_pos (zI_inb (by omega) (by omega)), zI_nat (by omega), h.ap k (by omega), z_and hx ha]
      by_cases hz : v.ap k &&& aw = 0
      · rw [if_pos (by rw [hz]; rfl)]
        simp [hz]
      · rw [if_neg (fun e => hz ((z_eq0 (Nat.lt_trans (z_and16 hx) (by decide))).mp e))]
        simp [hz, hb]
    · rw [bI_f hb, if_pos rfl]
      simp [hb]
theorem allows_eq {b : Nat} {M : mm_M} {v : zV} (h : ShC b M.1 v) (hB : zB v) {aw : Nat} (ha : aw < 16) : sh_allows b (nI aw) M = some (bI (zal v aw = true), M) := by
  have hn := hB.n
  have hnd := hB.nd
  have hky := hB.ky
  have he := zev_lt hn
  have e1 := allows_l h hB ha v.n 0 300 (by omega) (by omega)
  rw [show nI 0 = (0 : Int32) from rfl] at e1
  unfold sh_allows
  rw [h.n, zev_eq hn, z_andn he ha, bitCount_eq (z_and16 he)]
  simp only [Option.bind_some]
  rw [h.nd, h.n, h.ky, z_min (by omega) (by omega), z_and (by omega) he, z_and (z_and16 (by omega)) (z_and16 he), e1]
  unfold zal
  have hm : min v.nd v.n < 2147483648 := by omega
  have hp := @zpc_le (zev v.n &&& (15 ^^^ aw))
  by_cases c1 : min v.nd v.n ≤ zpc (zev v.n &&& (15 ^^^ aw))
  · rw [if_neg (nI_nlt c1 (by omega))]
    by_cases c2 : v.ky &&& zev v.n = 0
    · rw [if_pos (by rw [c2]; rfl)]
      by_cases c3 : zaf (zok v aw) 0 v.n = true
      · rw [if_pos c3, bI_t (by simp [c1, c2, c3])]
        rfl
      · rw [if_neg c3, bI_f (by simp [c3])]
        rfl
    · rw [if_neg (fun e => c2 ((z_eq0 (Nat.lt_trans (z_and16 (by omega)) (by decide))).mp e))]
      by_cases c4 : (v.ky &&& zev v.n) &&& (zev v.n &&& (15 ^^^ aw)) = 0
      · rw [if_pos (by rw [c4]; rfl), bI_f (by simp [c2, c4])]
      · rw [if_neg (fun e => c4 ((z_eq0 (Nat.lt_trans (z_and16 (z_and16 (by omega))) (by decide))).mp e))]
        by_cases c3 : zaf (zok v aw) 0 v.n = true
        · rw [if_pos c3, bI_t (by simp [c1, c4, c3])]
          rfl
        · rw [if_neg c3, bI_f (by simp [c3])]
          rfl
  · rw [if_pos (nI_lt (by omega) (by omega)), bI_f (by simp [c1])]
/-- sums over the people -/
def zsum (f : Nat → Nat) : Nat → Nat
  | 0 => 0
  | k + 1 => zsum f k + f k
theorem pointsOfAll_l {b : Nat} {M : mm_M} {v : zV} (h : ShC b M.1 v) (hB : zB v) : ∀ j k n, k + j = v.n → j < n → sh_pointsOfAll_l4 n b (nI (zsum v.po k)) (nI k) M = some (nI (zsum v.po v.n), M) := by
  have hn := hB.n
  intro j
  induction j with
  | zero =>
    intro k n hk hj
    obtain ⟨m, rfl, -⟩ := z_suc hj
    rw [sh_pointsOfAll_l4, h.n, if_neg (nI_nlt (by omega) (by omega)), ← hk]
    rfl
  | succ j ih =>
    intro k n hk hj
    obtain ⟨m, rfl, hm⟩ := z_suc hj
    have hk1 : k < v.n := by omega
    rw [sh_pointsOfAll_l4, h.n, if_pos (nI_lt hk1 (by omega)), if_pos (zI_inb (by omega) (by omega)), nI_1, zI_nat (by omega), h.po k hk1, nI_add]
    exact ih (k + 1) m (by omega) (by omega)
theorem pointsOfAll_eq {b : Nat} {M : mm_M} {v : zV} (h : ShC b M.1 v) (hB : zB v) : sh_pointsOfAll b M = some (nI (zsum v.po v.n), M) := by
  have hn := hB.n
  have e := pointsOfAll_l h hB v.n 0 300 (by omega) (by omega)
  unfold sh_pointsOfAll
  rw [show sh_pointsOfAll_l4 300 b 0 0 M = _ from e]
  rfl
theorem z_m1 {k : Nat} (hk : k ≤ 8) : nI k - 1 = (-1 : Int32) ↔ k = 0 := by
  have h : ∀ k ≤ 8, nI k - 1 = (-1 : Int32) ↔ k = 0 := by decide
  exact h k hk
def zbk (v : zV) : Nat := zcnt (fun q => decide (v.bl q ≠ 0)) v.n
theorem booked_l {b : Nat} {M : mm_M} {v : zV} (h : ShC b M.1 v) (hB : zB v) : ∀ j k n, k + j = v.n → j < n → sh_booked_l4 n b (nI (zcnt (fun q => decide (v.bl q ≠ 0)) k)) (nI k) M = some (nI (zbk v), M) := by
  have hn := hB.n
  intro j
  induction j with
  | zero =>
    intro k n hk hj
    obtain ⟨m, rfl, -⟩ := z_suc hj
    rw [sh_booked_l4, h.n, if_neg (nI_nlt (by omega) (by omega))]
    unfold zbk
    rw [← hk]
    rfl
  | succ j ih =>
    intro k n hk hj
    obtain ⟨m, rfl, hm⟩ := z_suc hj
    have hk1 : k < v.n := by omega
    have e := ih (k + 1) m (by omega) (by omega)
    rw [sh_booked_l4, h.n, if_pos (nI_lt hk1 (by omega)), if_pos (zI_inb (by omega) (by omega)), nI_1, zI_nat (by omega), h.bl k hk1]
    by_cases c : v.bl k = 0
    · rw [if_pos ((z_m1 (hB.bl k hk1)).mpr c), ← e]
      congr 1
      show nI _ + nI 0 = nI (zcnt _ k + _)
      rw [nI_add]
      simp [c]
    · rw [if_neg (fun z => c ((z_m1 (hB.bl k hk1)).mp z)), ← e]
      congr 1
      show nI _ + nI 1 = nI (zcnt _ k + _)
      rw [nI_add]
      simp [c]
theorem booked_eq {b : Nat} {M : mm_M} {v : zV} (h : ShC b M.1 v) (hB : zB v) : sh_booked b M = some (nI (zbk v), M) := by
  have hn := hB.n
  have e := booked_l h hB v.n 0 300 (by omega) (by omega)
  unfold sh_booked
  rw [show sh_booked_l4 300 b 0 0 M = _ from e]
  rfl
theorem twosApart_l {b : Nat} {M : mm_M} {v : zV} (h : ShC b M.1 v) (hB : zB v) : ∀ j k n, k + j = v.n → j < n → sh_twosApart_l4 n b (nI (zsum (fun q => zpc (v.ap q)) k)) (nI k) M = some (nI (zsum (fun q => zpc (v.ap q)) v.n), M) := by
  have hn := hB.n
  intro j
  induction j with
  | zero =>
    intro k n hk hj
    obtain ⟨m, rfl, -⟩ := z_suc hj
    rw [sh_twosApart_l4, h.n, if_neg (nI_nlt (by omega) (by omega)), ← hk]
    rfl
  | succ j ih =>
    intro k n hk hj
    obtain ⟨m, rfl, hm⟩ := z_suc hj
    have hk1 : k < v.n := by omega
    rw [sh_twosApart_l4, h.n, if_pos (nI_lt hk1 (by omega)), if_pos (zI_inb (by omega) (by omega)), nI_1, zI_nat (by omega), h.ap k (by omega), bitCount_eq (hB.ap k (by omega))]
    simp only [Option.bind_some]
    rw [nI_add]
    exact ih (k + 1) m (by omega) (by omega)
theorem twosApart_eq {b : Nat} {M : mm_M} {v : zV} (h : ShC b M.1 v) (hB : zB v) : sh_twosApart b M = some (nI (zsum (fun q => zpc (v.ap q)) v.n) / 2, M) := by
  have hn := hB.n
  have e := twosApart_l h hB v.n 0 300 (by omega) (by omega)
  unfold sh_twosApart
  rw [show sh_twosApart_l4 300 b 0 0 M = _ from e]
  rfl
