/-! level 2: the planner: what the model looks at -/
/-- the model's tables -/
def zPM (v : zV) (T : zT3) (M : mm_M) : Prop := ShM M.1 v ∧ (∀ p k, p < v.n → k ≤ 8 → M.1 83 (9 * p + k) = nI (zwk (v.le p) k) ∧ M.1 82 (9 * p + k) = zgs T v p k ∧ M.1 81 (9 * p + k) = bI (zcb T v p k = true))
theorem zPM.fx {v : zV} {T : zT3} {M M' : mm_M} (h : zPM v T M) {P : Nat → Nat → Prop} (hf : zfx P M.1 M'.1) (p0 : ¬ P 73 11) (p1 : ¬ P 73 4) (p2 : ∀ r c, 77 ≤ r → r ≤ 83 → ¬ P r c) : zPM v T M' := by
  obtain ⟨h1, h2⟩ := h
  refine ⟨h1.fx hf p0 p1 (fun r c a b => p2 r c a (by omega)), fun p k hp hk => ?_⟩
  obtain ⟨a1, a2, a3⟩ := h2 p k hp hk
  exact ⟨(hf _ _ (p2 _ _ (by decide) (by decide))).trans a1, (hf _ _ (p2 _ _ (by decide) (by decide))).trans a2, (hf _ _ (p2 _ _ (by decide) (by decide))).trans a3⟩
section
variable {v : zV} {T : zT3} {d : Nat → Nat} {M : mm_M}
theorem awayInM_l (hn : v.n ≤ 4) (h : zPM v T M) (hd : zDg 84 v.n d M.1) {w : Nat} (hw : w < 8) : ∀ j k m, k + j = v.n → j < m → md_awayIn_l4 m (nI w) (nI (zbt (fun q => (zwk (v.le q) (d q)).testBit w) k)) (nI k) M = some (nI (zaw v d w), M) := by
  intro j
  induction j with
  | zero =>
    intro k m hk hm
    obtain ⟨m, rfl, -⟩ := z_suc hm
    rw [md_awayIn_l4, h.1.n, if_neg (nI_nlt (by omega) (by omega))]
    unfold zaw
    rw [show k = v.n by omega]
  | succ j ih =>
    intro k m hk hm
    obtain ⟨m, rfl, hm2⟩ := z_suc hm
    have hp : k < v.n := by omega
    have hk8 := (hd k hp).2
    rw [md_awayIn_l4, h.1.n, if_pos (nI_lt hp (by omega)), if_pos (zI_inb (by omega) (by omega)), zI_nat (show k < 2147483648 by omega), (hd k hp).1, z9b, if_pos (zI_inb (by omega) (by omega)), zI_nat (by omega), (h.2 k (d k) hp hk8).1, nI_1, zI_sh (zwk_lt _ _) hw, zor_b (by omega) (fun q => (zwk (v.le q) (d q)).testBit w)]
    exact ih (k + 1) m (by omega) (by omega)
theorem awayInM_eq (hB : zB v) (h : zPM v T M) (hd : zDg 84 v.n d M.1) {w : Nat} (hw : w < 8) : md_awayIn (nI w) M = some (nI (zaw v d w), M) := by
  have hn := hB.n
  unfold md_awayIn
  rw [show md_awayIn_l4 300 (nI w) (0 : Int32) (0 : Int32) M = _ from awayInM_l hn h hd hw v.n 0 300 (by omega) (by omega)]
  rfl
theorem isRightM_l (hB : zB v) (h : ShM M.1 v) {aw : Nat} (ha : aw < 16) (x : Int32) : ∀ j k m, k + j = v.n → j < m → md_isRight_l18 m (nI aw) x (nI k) M = some (if zaf (zok v aw) k j = true then .inr ((), M) else .inl (0, M)) := by
  have hn := hB.n
  intro j
  induction j with
  | zero =>
    intro k m hk hm
    obtain ⟨m, rfl, -⟩ := z_suc hm
    rw [md_isRight_l18, h.n, if_neg (nI_nlt (by omega) (by omega))]
    rfl
  | succ j ih =>
    intro k m hk hm
    obtain ⟨m, rfl, hm2⟩ := z_suc hm
    have hp : k < v.n := by omega
    have hx := hB.ap k (by omega)
    rw [md_isRight_l18, h.n, if_pos (nI_lt hp (by omega)), nI_1, zI_sh (by omega) (by omega), ih (k + 1) m (by omega) (by omega)]
    show _ = some (if ((!(aw.testBit k) || decide (v.ap k &&& aw = 0)) && zaf (zok v aw) (k + 1) j) = true then _ else _)
    by_cases hb : aw.testBit k = true
    · rw [bI_t hb, if_pos rfl, if_pos (zI_inb (by omega) (by omega)), zI_nat (by omega), h.ap k (by omega), z_and hx ha]
      by_cases hz : v.ap k &&& aw = 0
      · rw [if_pos (by rw [hz]; rfl)]
        simp [hz]
      · rw [if_neg (fun e => hz ((z_eq0 (Nat.lt_trans (z_and16 hx) (by decide))).mp e))]
        simp [hz, hb]
    · rw [bI_f hb, if_neg (by decide)]
      simp [hb]
theorem z_npc {n aw : Nat} (hn : n ≤ 4) (ha : aw < 2 ^ n) : nI n - nI (zpc aw) = nI (zpc (zev n &&& (15 ^^^ aw))) := by
  have h : ∀ n ≤ 4, ∀ aw < 16, aw < 2 ^ n → nI n - nI (zpc aw) = nI (zpc (zev n &&& (15 ^^^ aw))) := by decide +kernel
  have h2 : 2 ^ n ≤ 2 ^ 4 := Nat.pow_le_pow_right (by decide) hn
  exact h n hn aw (by omega) ha
theorem z_kev {n aw ky : Nat} (hn : n ≤ 4) (ha : aw < 16) (hk : ky < 16) : ((ky &&& zev n) &&& (15 ^^^ aw)) = ((ky &&& zev n) &&& (zev n &&& (15 ^^^ aw))) := by
  have h : ∀ n ≤ 4, ∀ aw < 16, ∀ ky < 16, ((ky &&& zev n) &&& (15 ^^^ aw)) = ((ky &&& zev n) &&& (zev n &&& (15 ^^^ aw))) := by decide +kernel
  exact h n hn aw ha ky hk
theorem isRightM_eq (hB : zB v) (h : zPM v T M) (hd : zDg 84 v.n d M.1) {w : Nat} (hw : w < 8) : md_isRight (nI w) M = some (bI (zrt v d w = true), M) := by
  have hn := hB.n
  have hnd := hB.nd
  have hky := hB.ky
  have ha := zaw_lt (v := v) (d := d) hn w
  have ha2 : zaw v d w < 2 ^ v.n := zbt_lt _ _
  have he := zev_lt hn
  unfold md_isRight
  rw [awayInM_eq hB h hd hw]
  simp only [Option.bind_some]
  rw [h.1.n, zev_eq hn]
  unfold zrt zal
  generalize zaw v d w = aw at ha ha2 ⊢
  rw [show md_isRight_l18 300 (nI aw) (nI (zev v.n)) (0 : Int32) M = _ from isRightM_l hB h.1 ha _ v.n 0 300 (by omega) (by omega)]
  by_cases c3 : zaf (zok v aw) 0 v.n = true
  · rw [if_pos c3]
    simp only [Option.bind_some]
    rw [if_pos (show ak_inb (1 : Int32) 3 = true from by decide), h.1.n, show (1 : Int32).toNatClampNeg = 1 from rfl, show (2 : Int32).toNatClampNeg = 2 from rfl, h.1.nd, h.1.ky, bitsOf_eq ha]
    simp only [Option.bind_some]
    rw [z_npc hn ha2, z_and (by omega) he, z_andn (z_and16 (by omega)) ha, z_kev hn ha (by omega)]
    have hpc := @zpc_le (zev v.n &&& (15 ^^^ aw))
    have hkk : v.ky &&& zev v.n < 2147483648 := Nat.lt_trans (z_and16 (by omega)) (by decide)
    have hkk2 : (v.ky &&& zev v.n) &&& (zev v.n &&& (15 ^^^ aw)) < 2147483648 := Nat.lt_trans (z_and16 (z_and16 (by omega))) (by decide)
    have tail : ∀ N : Nat, N < 5 → N = min v.nd v.n → (if nI (zpc (zev v.n &&& (15 ^^^ aw))) < nI N then some ((0 : Int32), M) else if nI (v.ky &&& zev v.n) = (0 : Int32) then some ((1 : Int32), M) else if nI ((v.ky &&& zev v.n) &&& (zev v.n &&& (15 ^^^ aw))) = (0 : Int32) then some ((0 : Int32), M) else some ((1 : Int32), M)) = some (bI ((decide (min v.nd v.n ≤ zpc (zev v.n &&& (15 ^^^ aw))) && ((decide (v.ky &&& zev v.n = 0) || decide ((v.ky &&& zev v.n) &&& (zev v.n &&& (15 ^^^ aw)) ≠ 0)) && zaf (zok v aw) 0 v.n)) = true), M) := by
      intro N hN eN
      rw [← eN]
      by_cases c1 : N ≤ zpc (zev v.n &&& (15 ^^^ aw))
      · rw [if_neg (nI_nlt c1 (by omega))]
        by_cases c2 : v.ky &&& zev v.n = 0
        · rw [if_pos (by rw [c2]; rfl), bI_t (by simp [c1, c2, c3])]
        · rw [if_neg (fun e => c2 ((z_eq0 hkk).mp e))]
          by_cases c4 : (v.ky &&& zev v.n) &&& (zev v.n &&& (15 ^^^ aw)) = 0
          · rw [if_pos (by rw [c4]; rfl), bI_f (by simp [c2, c4])]
          · rw [if_neg (fun e => c4 ((z_eq0 hkk2).mp e)), bI_t (by simp [c1, c4, c3])]
      · rw [if_pos (nI_lt (by omega) (by omega)), bI_f (by simp [c1])]
    by_cases c5 : v.nd < v.n
    · rw [if_pos (nI_lt c5 (by omega)), if_pos (show ak_inb (1 : Int32) 3 = true from by decide), if_pos (show ak_inb (2 : Int32) 3 = true from by decide)]
      exact tail v.nd (by omega) (by omega)
    · rw [if_neg (nI_nlt (by omega) (by omega)), if_pos (show ak_inb (2 : Int32) 3 = true from by decide)]
      exact tail v.n (by omega) (by omega)
  · rw [if_neg c3]
    simp only [Option.bind_some]
    rw [bI_f (by simp [c3])]
theorem firstWrongM_l (hB : zB v) (h : zPM v T M) (hd : zDg 84 v.n d M.1) : ∀ j k m, k + j = 8 → j < m → md_firstWrong_l2 m (nI k) M = some (if zaf (zrt v d) k j = true then .inr ((), M) else .inl (zfi (zrt v d) k j, M)) := by
  have hn := hB.n
  intro j
  induction j with
  | zero =>
    intro k m hk hm
    obtain ⟨m, rfl, -⟩ := z_suc hm
    obtain rfl : k = 8 := by omega
    rw [md_firstWrong_l2, if_neg (by decide)]
    rfl
  | succ j ih =>
    intro k m hk hm
    obtain ⟨m, rfl, hm2⟩ := z_suc hm
    have hl : nI k < (8 : Int32) := nI_lt (b := 8) (by omega) (by decide)
    rw [md_firstWrong_l2, if_pos hl, isRightM_eq hB h hd (by omega)]
    simp only [Option.bind_some]
    rw [bI_if, nI_1, ih (k + 1) m (by omega) (by omega)]
    show _ = some (if (zrt v d k && zaf (zrt v d) (k + 1) j) = true then _ else Sum.inl ((if zrt v d k = true then zfi (zrt v d) (k + 1) j else nI k), M))
    by_cases c : zrt v d k = true
    · rw [if_pos c]
      simp [c]
    · rw [if_neg c]
      simp [c]
theorem firstWrongM_eq (hB : zB v) (h : zPM v T M) (hd : zDg 84 v.n d M.1) : md_firstWrong M = some (zfw v d, M) := by
  unfold md_firstWrong
  rw [show md_firstWrong_l2 300 (0 : Int32) M = _ from firstWrongM_l hB h hd 8 0 300 (by decide) (by decide)]
  by_cases c : zaf (zrt v d) 0 8 = true
  · rw [if_pos c]
    show some ((-1 : Int32), M) = _
    unfold zfw
    rw [(zfi_m1 _ 8 0 (by decide)).mpr c]
  · rw [if_neg c]
    rfl
theorem holdsM_l (hB : zB v) (h : zPM v T M) (hd : zDg 84 v.n d M.1) : ∀ j k m, k + j = v.n → j < m → md_holds_l2 m (nI k) M = some (if zaf (fun p => zcb T v p (d p)) k j = true then .inr ((), M) else .inl (0, M)) := by
  have hn := hB.n
  intro j
  induction j with
  | zero =>
    intro k m hk hm
    obtain ⟨m, rfl, -⟩ := z_suc hm
    rw [md_holds_l2, h.1.n, if_neg (nI_nlt (by omega) (by omega))]
    rfl
  | succ j ih =>
    intro k m hk hm
    obtain ⟨m, rfl, hm2⟩ := z_suc hm
    have hp : k < v.n := by omega
    have hk8 := (hd k hp).2
    rw [md_holds_l2, h.1.n, if_pos (nI_lt hp (by omega)), if_pos (zI_inb (by omega) (by omega)), zI_nat (show k < 2147483648 by omega), (hd k hp).1, z9b, if_pos (zI_inb (by omega) (by omega)), zI_nat (by omega), (h.2 k (d k) hp hk8).2.2, bI_if, nI_1, ih (k + 1) m (by omega) (by omega)]
    show _ = some (if (zcb T v k (d k) && zaf (fun p => zcb T v p (d p)) (k + 1) j) = true then _ else _)
    by_cases c : zcb T v k (d k) = true
    · rw [if_pos c]
      simp [c]
    · rw [if_neg c]
      simp [c]
theorem holdsM_eq (hB : zB v) (h : zPM v T M) (hd : zDg 84 v.n d M.1) : md_holds M = some (bI (zhd T v d = true), M) := by
  have hn := hB.n
  unfold md_holds zhd
  rw [show md_holds_l2 300 (0 : Int32) M = _ from holdsM_l hB h hd v.n 0 300 (by omega) (by omega)]
  by_cases c : zaf (fun p => zcb T v p (d p)) 0 v.n = true
  · rw [if_pos c]
    simp only [Option.bind_some]
    rw [firstWrongM_eq hB h hd]
    simp only [Option.bind_some]
    have e := zfi_m1 (zrt v d) 8 0 (by decide)
    by_cases q : zaf (zrt v d) 0 8 = true
    · rw [if_pos (show zfw v d = -1 from e.mpr q), bI_t (by simp [c, q])]
    · rw [if_neg (show ¬ zfw v d = -1 from fun z => q (e.mp z)), bI_f (by simp [q])]
  · rw [if_neg c]
    simp only [Option.bind_some]
    rw [bI_f (by simp [c])]
theorem allM_l (hB : zB v) (h : zPM v T M) (hd : zDg 84 v.n d M.1) : ∀ j k m, k + j = v.n → j < m → md_allOf_l4 m (zsI (fun p => zgs T v p (d p)) k) (nI k) M = some (zsm T v d, M) := by
  have hn := hB.n
  intro j
  induction j with
  | zero =>
    intro k m hk hm
    obtain ⟨m, rfl, -⟩ := z_suc hm
    rw [md_allOf_l4, h.1.n, if_neg (nI_nlt (by omega) (by omega))]
    unfold zsm
    rw [show k = v.n by omega]
  | succ j ih =>
    intro k m hk hm
    obtain ⟨m, rfl, hm2⟩ := z_suc hm
    have hp : k < v.n := by omega
    have hk8 := (hd k hp).2
    rw [md_allOf_l4, h.1.n, if_pos (nI_lt hp (by omega)), if_pos (zI_inb (by omega) (by omega)), zI_nat (show k < 2147483648 by omega), (hd k hp).1, z9b, if_pos (zI_inb (by omega) (by omega)), zI_nat (by omega), (h.2 k (d k) hp hk8).2.1, nI_1]
    exact ih (k + 1) m (by omega) (by omega)
theorem allM_eq (hB : zB v) (h : zPM v T M) (hd : zDg 84 v.n d M.1) : md_allOf M = some (zsm T v d, M) := by
  have hn := hB.n
  unfold md_allOf
  rw [show md_allOf_l4 300 (0 : Int32) (0 : Int32) M = _ from allM_l hB h hd v.n 0 300 (by omega) (by omega)]
  rfl
theorem leastM_l (hB : zB v) (h : zPM v T M) (hd : zDg 84 v.n d M.1) : ∀ j k m x, k + j = v.n → j < m → md_leastOf_l25 m x (nI k) M = some (zlf (fun p => zgs T v p (d p)) k j x, M) := by
  have hn := hB.n
  intro j
  induction j with
  | zero =>
    intro k m x hk hm
    obtain ⟨m, rfl, -⟩ := z_suc hm
    rw [md_leastOf_l25, h.1.n, if_neg (nI_nlt (by omega) (by omega))]
    rfl
  | succ j ih =>
    intro k m x hk hm
    obtain ⟨m, rfl, hm2⟩ := z_suc hm
    have hp : k < v.n := by omega
    have hk8 := (hd k hp).2
    have g1 : ak_inb (nI k) 4 = true := zI_inb (by omega) (by omega)
    have g2 : ak_inb (nI (9 * k + d k)) 36 = true := zI_inb (by omega) (by omega)
    rw [md_leastOf_l25, h.1.n, if_pos (nI_lt hp (by omega)), if_pos g1, zI_nat (show k < 2147483648 by omega), (hd k hp).1, z9b, if_pos g2, zI_nat (by omega), (h.2 k (d k) hp hk8).2.1, nI_1]
    by_cases c : zgs T v k (d k) < x
    · rw [if_pos c, if_pos g1, if_pos g2, ih (k + 1) m _ (by omega) (by omega)]
      show _ = some (zlf _ (k + 1) j (if zgs T v k (d k) < x then zgs T v k (d k) else x), M)
      rw [if_pos c]
    · rw [if_neg c, ih (k + 1) m _ (by omega) (by omega)]
      show _ = some (zlf _ (k + 1) j (if zgs T v k (d k) < x then zgs T v k (d k) else x), M)
      rw [if_neg c]
theorem leastM_eq (hB : zB v) (h : zPM v T M) (hd : zDg 84 v.n d M.1) : md_leastOf M = some (zls T v d, M) := by
  have hn := hB.n
  unfold md_leastOf zls
  rw [h.1.n]
  by_cases c : v.n = 0
  · rw [if_pos (show nI v.n = 0 by rw [c]; rfl), if_pos c]
    have e : md_leastOf_l25 300 (0 : Int32) (1 : Int32) M = some (0, M) := by
      rw [md_leastOf_l25, h.1.n, c, if_neg (by decide)]
    rw [e]
    rfl
  · have hp : 0 < v.n := by omega
    have hk8 := (hd 0 hp).2
    rw [if_neg (fun z => c ((z_eq0 (by omega)).mp z)), if_neg c, if_pos (show ak_inb (0 : Int32) 4 = true from by decide), show (0 : Int32).toNatClampNeg = 0 from rfl, (hd 0 hp).1, if_pos (zI_inb (by omega) (by omega)), zI_nat (by omega)]
    have e82 := (h.2 0 (d 0) hp hk8).2.1
    rw [show 9 * 0 + d 0 = d 0 by omega] at e82
    rw [e82, show md_leastOf_l25 300 (zgs T v 0 (d 0)) (1 : Int32) M = _ from leastM_l hB h hd (v.n - 1) 1 300 _ (by omega) (by omega)]
    rfl
theorem digitsM_l (hB : zB v) (h : ShM M.1 v) (hd : zDg 84 v.n d M.1) : ∀ j k m, k + j = v.n → j < m → md_digits_l4 m (nI (zdg d k)) (nI k) M = some (nI (zdg d v.n), M) := by
  have hn := hB.n
  intro j
  induction j with
  | zero =>
    intro k m hk hm
    obtain ⟨m, rfl, -⟩ := z_suc hm
    rw [md_digits_l4, h.n, if_neg (nI_nlt (by omega) (by omega)), show k = v.n by omega]
  | succ j ih =>
    intro k m hk hm
    obtain ⟨m, rfl, hm2⟩ := z_suc hm
    have hp : k < v.n := by omega
    rw [md_digits_l4, h.n, if_pos (nI_lt hp (by omega)), if_pos (zI_inb (by omega) (by omega)), zI_nat (by omega), (hd k hp).1, z10, nI_1]
    exact ih (k + 1) m (by omega) (by omega)
theorem digitsM_eq (hB : zB v) (h : ShM M.1 v) (hd : zDg 84 v.n d M.1) : md_digits M = some (nI (zdg d v.n), M) := by
  have hn := hB.n
  unfold md_digits
  rw [show md_digits_l4 300 (0 : Int32) (0 : Int32) M = _ from digitsM_l hB h hd v.n 0 300 (by omega) (by omega)]
  rfl
end
