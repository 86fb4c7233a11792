/-! level 2: a shop as both states hold it; the short functions that change nothing -/
/-- a shop: year, needed, key, rule, how many; of each: kind, number, length, wishes, points, block (1 more than its first week, 0 none), apart (bits) -/
abbrev zV : Type := (Nat → Nat) × (Nat → Nat → Nat)
def zV.yr (v : zV) : Nat := v.1 0
def zV.nd (v : zV) : Nat := v.1 1
def zV.ky (v : zV) : Nat := v.1 2
def zV.ru (v : zV) : Nat := v.1 3
def zV.n (v : zV) : Nat := v.1 4
def zV.kd (v : zV) : Nat → Nat := v.2 0
def zV.nu (v : zV) : Nat → Nat := v.2 1
def zV.le (v : zV) : Nat → Nat := v.2 2
def zV.wi (v : zV) : Nat → Nat := v.2 3
def zV.po (v : zV) : Nat → Nat := v.2 4
def zV.bl (v : zV) : Nat → Nat := v.2 5
def zV.ap (v : zV) : Nat → Nat := v.2 6
/-- what its numbers may be -/
def zB (v : zV) : Prop := (v.n ≤ 4) ∧ (v.yr ≤ 999) ∧ (v.nd ≤ 4) ∧ (v.ky ≤ 15) ∧ (v.ru < 6) ∧ (∀ p, p < v.n → v.kd p ≤ 5) ∧ (∀ p, p < v.n → v.nu p ≤ 9) ∧ (∀ p, p < v.n → 1 ≤ v.le p ∧ v.le p ≤ 4) ∧ (∀ p, p < v.n → v.wi p ≤ 255) ∧ (∀ p, p < v.n → v.po p ≤ 999) ∧ (∀ p, p < v.n → v.bl p ≤ 8) ∧ (∀ p, p < 4 → v.ap p < 16) ∧ (∀ p, p < 4 → v.n ≤ p → v.ap p = 0) ∧ (∀ p q, p < 4 → q < 4 → (v.ap p).testBit q = (v.ap q).testBit p) ∧ (∀ p, p < 4 → (v.ap p).testBit p = false)
theorem zB.n {v : zV} (h : zB v) : v.n ≤ 4 := h.1
theorem zB.yr {v : zV} (h : zB v) : v.yr ≤ 999 := h.2.1
theorem zB.nd {v : zV} (h : zB v) : v.nd ≤ 4 := h.2.2.1
theorem zB.ky {v : zV} (h : zB v) : v.ky ≤ 15 := h.2.2.2.1
theorem zB.ru {v : zV} (h : zB v) : v.ru < 6 := h.2.2.2.2.1
theorem zB.kd {v : zV} (h : zB v) : ∀ p, p < v.n → v.kd p ≤ 5 := h.2.2.2.2.2.1
theorem zB.nu {v : zV} (h : zB v) : ∀ p, p < v.n → v.nu p ≤ 9 := h.2.2.2.2.2.2.1
theorem zB.le {v : zV} (h : zB v) : ∀ p, p < v.n → 1 ≤ v.le p ∧ v.le p ≤ 4 := h.2.2.2.2.2.2.2.1
theorem zB.wi {v : zV} (h : zB v) : ∀ p, p < v.n → v.wi p ≤ 255 := h.2.2.2.2.2.2.2.2.1
theorem zB.po {v : zV} (h : zB v) : ∀ p, p < v.n → v.po p ≤ 999 := h.2.2.2.2.2.2.2.2.2.1
theorem zB.bl {v : zV} (h : zB v) : ∀ p, p < v.n → v.bl p ≤ 8 := h.2.2.2.2.2.2.2.2.2.2.1
theorem zB.ap {v : zV} (h : zB v) : ∀ p, p < 4 → v.ap p < 16 := h.2.2.2.2.2.2.2.2.2.2.2.1
theorem zB.az {v : zV} (h : zB v) : ∀ p, p < 4 → v.n ≤ p → v.ap p = 0 := h.2.2.2.2.2.2.2.2.2.2.2.2.1
theorem zB.as {v : zV} (h : zB v) : ∀ p q, p < 4 → q < 4 → (v.ap p).testBit q = (v.ap q).testBit p := h.2.2.2.2.2.2.2.2.2.2.2.2.2.1
theorem zB.ai {v : zV} (h : zB v) : ∀ p, p < 4 → (v.ap p).testBit p = false := h.2.2.2.2.2.2.2.2.2.2.2.2.2.2
/-- the class's shop at the cell b holds it -/
def ShC (b : Nat) (σ : Nat → Nat → Int32) (v : zV) : Prop := (σ b 4 = nI v.n) ∧ (σ b 0 = nI v.yr) ∧ (σ b 1 = nI v.nd) ∧ (σ b 2 = nI v.ky) ∧ (σ b 3 = nI v.ru) ∧ (∀ p, p < v.n → σ (b + 1) p = nI (v.kd p)) ∧ (∀ p, p < v.n → σ (b + 2) p = nI (v.nu p)) ∧ (∀ p, p < v.n → σ (b + 3) p = nI (v.le p)) ∧ (∀ p, p < v.n → σ (b + 4) p = nI (v.wi p)) ∧ (∀ p, p < v.n → σ (b + 5) p = nI (v.po p)) ∧ (∀ p, p < v.n → σ (b + 6) p = nI (v.bl p) - 1) ∧ (∀ p, p < 4 → σ (b + 7) p = nI (v.ap p))
theorem ShC.n {b : Nat} {σ : Nat → Nat → Int32} {v : zV} (h : ShC b σ v) : σ b 4 = nI v.n := h.1
theorem ShC.yr {b : Nat} {σ : Nat → Nat → Int32} {v : zV} (h : ShC b σ v) : σ b 0 = nI v.yr := h.2.1
theorem ShC.nd {b : Nat} {σ : Nat → Nat → Int32} {v : zV} (h : ShC b σ v) : σ b 1 = nI v.nd := h.2.2.1
theorem ShC.ky {b : Nat} {σ : Nat → Nat → Int32} {v : zV} (h : ShC b σ v) : σ b 2 = nI v.ky := h.2.2.2.1
theorem ShC.ru {b : Nat} {σ : Nat → Nat → Int32} {v : zV} (h : ShC b σ v) : σ b 3 = nI v.ru := h.2.2.2.2.1
theorem ShC.kd {b : Nat} {σ : Nat → Nat → Int32} {v : zV} (h : ShC b σ v) : ∀ p, p < v.n → σ (b + 1) p = nI (v.kd p) := h.2.2.2.2.2.1
theorem ShC.nu {b : Nat} {σ : Nat → Nat → Int32} {v : zV} (h : ShC b σ v) : ∀ p, p < v.n → σ (b + 2) p = nI (v.nu p) := h.2.2.2.2.2.2.1
theorem ShC.le {b : Nat} {σ : Nat → Nat → Int32} {v : zV} (h : ShC b σ v) : ∀ p, p < v.n → σ (b + 3) p = nI (v.le p) := h.2.2.2.2.2.2.2.1
theorem ShC.wi {b : Nat} {σ : Nat → Nat → Int32} {v : zV} (h : ShC b σ v) : ∀ p, p < v.n → σ (b + 4) p = nI (v.wi p) := h.2.2.2.2.2.2.2.2.1
theorem ShC.po {b : Nat} {σ : Nat → Nat → Int32} {v : zV} (h : ShC b σ v) : ∀ p, p < v.n → σ (b + 5) p = nI (v.po p) := h.2.2.2.2.2.2.2.2.2.1
theorem ShC.bl {b : Nat} {σ : Nat → Nat → Int32} {v : zV} (h : ShC b σ v) : ∀ p, p < v.n → σ (b + 6) p = nI (v.bl p) - 1 := h.2.2.2.2.2.2.2.2.2.2.1
theorem ShC.ap {b : Nat} {σ : Nat → Nat → Int32} {v : zV} (h : ShC b σ v) : ∀ p, p < 4 → σ (b + 7) p = nI (v.ap p) := h.2.2.2.2.2.2.2.2.2.2.2
/-- the model holds it -/
def ShM (σ : Nat → Nat → Int32) (v : zV) : Prop := (σ 73 11 = nI v.n) ∧ (σ 77 0 = nI v.yr) ∧ (σ 77 1 = nI v.nd) ∧ (σ 77 2 = nI v.ky) ∧ (σ 73 4 = nI v.ru) ∧ (∀ p, p < v.n → σ 78 p = nI (v.kd p)) ∧ (∀ p, p < v.n → σ 79 (5 * p) = nI (v.nu p)) ∧ (∀ p, p < v.n → σ 79 (5 * p + 1) = nI (v.le p)) ∧ (∀ p, p < v.n → σ 79 (5 * p + 2) = nI (v.wi p)) ∧ (∀ p, p < v.n → σ 79 (5 * p + 3) = nI (v.po p)) ∧ (∀ p, p < v.n → σ 79 (5 * p + 4) = nI (v.bl p) - 1) ∧ (∀ p, p < 4 → σ 80 p = nI (v.ap p))
theorem ShM.n {σ : Nat → Nat → Int32} {v : zV} (h : ShM σ v) : σ 73 11 = nI v.n := h.1
theorem ShM.yr {σ : Nat → Nat → Int32} {v : zV} (h : ShM σ v) : σ 77 0 = nI v.yr := h.2.1
theorem ShM.nd {σ : Nat → Nat → Int32} {v : zV} (h : ShM σ v) : σ 77 1 = nI v.nd := h.2.2.1
theorem ShM.ky {σ : Nat → Nat → Int32} {v : zV} (h : ShM σ v) : σ 77 2 = nI v.ky := h.2.2.2.1
theorem ShM.ru {σ : Nat → Nat → Int32} {v : zV} (h : ShM σ v) : σ 73 4 = nI v.ru := h.2.2.2.2.1
theorem ShM.kd {σ : Nat → Nat → Int32} {v : zV} (h : ShM σ v) : ∀ p, p < v.n → σ 78 p = nI (v.kd p) := h.2.2.2.2.2.1
theorem ShM.nu {σ : Nat → Nat → Int32} {v : zV} (h : ShM σ v) : ∀ p, p < v.n → σ 79 (5 * p) = nI (v.nu p) := h.2.2.2.2.2.2.1
theorem ShM.le {σ : Nat → Nat → Int32} {v : zV} (h : ShM σ v) : ∀ p, p < v.n → σ 79 (5 * p + 1) = nI (v.le p) := h.2.2.2.2.2.2.2.1
theorem ShM.wi {σ : Nat → Nat → Int32} {v : zV} (h : ShM σ v) : ∀ p, p < v.n → σ 79 (5 * p + 2) = nI (v.wi p) := h.2.2.2.2.2.2.2.2.1
theorem ShM.po {σ : Nat → Nat → Int32} {v : zV} (h : ShM σ v) : ∀ p, p < v.n → σ 79 (5 * p + 3) = nI (v.po p) := h.2.2.2.2.2.2.2.2.2.1
theorem ShM.bl {σ : Nat → Nat → Int32} {v : zV} (h : ShM σ v) : ∀ p, p < v.n → σ 79 (5 * p + 4) = nI (v.bl p) - 1 := h.2.2.2.2.2.2.2.2.2.2.1
theorem ShM.ap {σ : Nat → Nat → Int32} {v : zV} (h : ShM σ v) : ∀ p, p < 4 → σ 80 p = nI (v.ap p) := h.2.2.2.2.2.2.2.2.2.2.2
theorem zi0 : (0 : Int32).toInt = 0 := rfl
theorem lg_lt0 {a b : Int64} : lg_cmp a b < 0 ↔ a.toInt < b.toInt := (lg_cmp_lt a b).trans Int64.lt_iff_toInt_lt
theorem lg_gt0 {a b : Int64} : 0 < lg_cmp a b ↔ b.toInt < a.toInt := (lg_cmp_gt a b).trans Int64.lt_iff_toInt_lt
theorem in_eq (a b c : Int64) (M : mm_M) : md_in a b c M = some (bI (b.toInt ≤ a.toInt ∧ a.toInt ≤ c.toInt), M) := by
  unfold md_in bI
  simp only [lg_lt0, lg_gt0]
  repeat' split
  all_goals first | rfl | omega
theorem isOneC_eq {b : Nat} {M : mm_M} {v : zV} (h : ShC b M.1 v) (hB : zB v) (a : Int32) : sh_isOne b a M = some (bI (0 ≤ a.toInt ∧ a.toInt < v.n), M) := by
  have hn := hB.n
  unfold sh_isOne bI
  rw [h.n]
  simp only [i_lt, zI_int (show v.n < 2147483648 by omega), zi0]
  repeat' split
  all_goals first | rfl | omega
theorem isWeekC_eq (a : Int32) (M : mm_M) : nb_isWeek a M = some (bI (0 ≤ a.toInt ∧ a.toInt < 8), M) := by
  unfold nb_isWeek bI
  simp only [i_lt, zi0, show (8 : Int32).toInt = 8 from rfl]
  repeat' split
  all_goals first | rfl | omega
theorem isSheetC_eq (a : Int32) (M : mm_M) : nb_isSheet a M = some (bI (0 ≤ a.toInt ∧ a.toInt < 4), M) := by
  unfold nb_isSheet bI
  simp only [i_lt, zi0, show (4 : Int32).toInt = 4 from rfl]
  repeat' split
  all_goals first | rfl | omega
theorem bI_guard {p : Prop} [Decidable p] (M : mm_M) : (if bI p = 0 ∨ bI p = 1 then some (bI p, M) else none) = some (bI p, M) := if_pos (bI_01.mpr trivial)
theorem some_bI {p q : Prop} [Decidable p] [Decidable q] (h : p ↔ q) (M : mm_M) : some (bI p, M) = some (bI q, M) := by rw [bI_eq h]
theorem isOneM_eq {M : mm_M} {v : zV} (h : ShM M.1 v) (hB : zB v) (a : Int32) : md_isOne a M = some (bI (0 ≤ a.toInt ∧ a.toInt < v.n), M) := by
  have hn := hB.n
  unfold md_isOne
  rw [in_eq]
  show (if bI _ = 0 ∨ bI _ = 1 then some (bI _, M) else none) = _
  rw [bI_guard, h.n]
  have e : (nI v.n - 1).toInt = (v.n : Int) - 1 := by
    have : ∀ k ≤ 4, (nI k - 1).toInt = (k : Int) - 1 := by decide
    exact this _ hn
  refine some_bI ?_ M
  simp only [Int32.toInt_toInt64, e, show (0 : Int64).toInt = 0 from rfl]
  omega
theorem isWeekM_eq (a : Int32) (M : mm_M) : md_isWeek a M = some (bI (0 ≤ a.toInt ∧ a.toInt < 8), M) := by
  unfold md_isWeek
  rw [in_eq]
  show (if bI _ = 0 ∨ bI _ = 1 then some (bI _, M) else none) = _
  rw [bI_guard]
  refine some_bI ?_ M
  simp only [Int32.toInt_toInt64, show (0 : Int64).toInt = 0 from rfl, show (7 : Int64).toInt = 7 from rfl]
  omega
theorem isSheetM_eq (a : Int32) (M : mm_M) : md_isSheet a M = some (bI (0 ≤ a.toInt ∧ a.toInt < 4), M) := by
  unfold md_isSheet
  rw [in_eq]
  show (if bI _ = 0 ∨ bI _ = 1 then some (bI _, M) else none) = _
  rw [bI_guard]
  refine some_bI ?_ M
  simp only [Int32.toInt_toInt64, show (0 : Int64).toInt = 0 from rfl, show (3 : Int64).toInt = 3 from rfl]
  omega
theorem within_eq (a b c : Int32) (M : mm_M) : md_within a b c M = some (if a < b then b else if c < a then c else a, M) := by
  unfold md_within
  repeat' split
  all_goals rfl
/-- the bounds of a number that can be set -/
def z_lo (w : Nat) : Nat := if w = 4 then 1 else 0
def z_hi (w : Nat) : Nat := if w = 0 ∨ w = 6 then 999 else if w = 1 ∨ w = 4 then 4 else if w = 2 then 15 else if w = 3 then 9 else 255
theorem mostOf_eq {w : Nat} (hw : w ≤ 6) (M : mm_M) : md_mostOf (nI w) M = some (nI (z_hi w), M) := by
  have h : w = 0 ∨ w = 1 ∨ w = 2 ∨ w = 3 ∨ w = 4 ∨ w = 5 ∨ w = 6 := by omega
  rcases h with rfl | rfl | rfl | rfl | rfl | rfl | rfl <;> rfl
