/-! level 2: the model's short functions of a shop -/
theorem isWishedM_eq {M : mm_M} {v : zV} (h : ShM M.1 v) (hB : zB v) {p w : Nat} (hp : p < v.n) (hw : w < 8) : md_isWished (nI p) (nI w) M = some (bI ((v.wi p).testBit w = true), M) := by
  have hn := hB.n
  have hx := hB.wi p hp
  have hv : M.1 79 (5 * p + 2) = nI (v.wi p) := h.wi p hp
  unfold md_isWished
  rw [z5_2, if_pos (zI_inb (by omega) (by omega)), zI_nat (by omega), hv, zI_sh (by omega) hw]
  by_cases hb : (v.wi p).testBit w = true
  · rw [bI_t hb, if_pos rfl]
  · rw [bI_f hb, if_neg (by decide)]
def zwl : Nat → Int32 → Int32 → Int32 → Int32 → Option Int32
  | 0, _, _, _, _ => none
  | n + 1, w1, l, s, w => if w1 = (-1 : Int32) then some s else if w < (8 : Int32) then (if w < w1 + l then zwl n w1 l (s ||| ((1 : Int32) <<< (w &&& 31))) (w + (1 : Int32)) else some s) else some s
theorem weeksOf_l {M : mm_M} {v : zV} (h : ShM M.1 v) (hB : zB v) {p : Nat} (hp : p < v.n) : ∀ (n : Nat) (w1 s w : Int32), md_weeksOf_l5 n (nI p) w1 s w M = (zwl n w1 (nI (v.le p)) s w).map (fun r => (r, M)) := by
  have hn := hB.n
  have hv : M.1 79 (5 * p + 1) = nI (v.le p) := h.le p hp
  intro n
  induction n with
  | zero => intro w1 s w; rfl
  | succ n ih =>
    intro w1 s w
    rw [md_weeksOf_l5, zwl, z5_1, if_pos (zI_inb (by omega) (by omega) : ak_inb (nI (5 * p + 1)) 20 = true), zI_nat (by omega), hv, ih]
    repeat' split
    all_goals rfl
theorem weeksOf_eq {M : mm_M} {v : zV} (h : ShM M.1 v) (hB : zB v) {p k : Nat} (hp : p < v.n) (hk : k ≤ 8) : md_weeksOf (nI p) (nI k - 1) M = some (nI (zwk (v.le p) k), M) := by
  have hl := hB.le p hp
  have f : ∀ k ≤ 8, ∀ l ≤ 4, zwl 300 (nI k - 1) (nI l) 0 (nI k - 1) = some (nI (zwk l k)) := by decide +kernel
  unfold md_weeksOf
  rw [weeksOf_l h hB hp, f k hk _ hl.2]
  rfl
def zbl : Nat → Int32 → Int32 → Option Int32
  | 0, _, _ => none
  | n + 1, c, x => if x = (0 : Int32) then some c else zbl n (c + (1 : Int32)) (x &&& (x - (1 : Int32)))
theorem bitsOf_l (M : mm_M) : ∀ (n : Nat) (c x : Int32), md_bitsOf_l4 n c x M = (zbl n c x).map (fun r => (r, M)) := by
  intro n
  induction n with
  | zero => intro c x; rfl
  | succ n ih =>
    intro c x
    rw [md_bitsOf_l4, zbl, ih]
    split
    · rfl
    · rfl
theorem bitsOf_eq {a : Nat} (ha : a < 16) (M : mm_M) : md_bitsOf (nI a) M = some (nI (zpc a), M) := by
  have f : ∀ a < 16, zbl 300 0 (nI a) = some (nI (zpc a)) := by decide +kernel
  unfold md_bitsOf
  rw [bitsOf_l, f a ha]
  rfl
theorem nI_or {a b : Nat} (ha : a < 16) (hb : b < 16) : nI a ||| nI b = nI (a ||| b) := by
  have h : ∀ a < 16, ∀ b < 16, nI a ||| nI b = nI (a ||| b) := by decide +kernel
  exact h a ha b hb
