/-! level 2: book and year -/
section
variable {v : zV} {T : zT3}
theorem zB.r5 (hB : zB v) {p k : Nat} (hk : k ≤ 8) : zB (zr v 5 p k) := by
  refine ⟨hB.n, hB.yr, hB.nd, hB.ky, hB.ru, fun q hq => hB.kd q hq, fun q hq => hB.nu q hq, fun q hq => hB.le q hq, fun q hq => hB.wi q hq, fun q hq => hB.po q hq, fun q hq => ?_, fun q hq => hB.ap q hq, fun q hq => hB.az q hq, fun q r hq hr => hB.as q r hq hr, fun q hq => hB.ai q hq⟩
  show (if 5 = 5 ∧ q = p then k else v.bl q) ≤ 8
  split
  · exact hk
  · exact hB.bl q hq
abbrev zbo (v : zV) (a1 a2 : Int32) : Prop := (0 ≤ a1.toInt ∧ a1.toInt < v.n) ∧ -1 ≤ a2.toInt ∧ a2.toInt ≤ 7
def zbook (T : zT3) (v : zV) (a1 a2 : Int32) : Int32 × zV := if zbo v a1 a2 then (if zcb T v a1.toInt.toNat (a2.toInt + 1).toNat = true then (nI (v.bl a1.toInt.toNat) - 1, zr v 5 a1.toInt.toNat (a2.toInt + 1).toNat) else (-3, v)) else (-2, v)
theorem zbook_B (hB : zB v) (a1 a2 : Int32) : zB (zbook T v a1 a2).2 := by
  unfold zbook
  split
  · rename_i h
    split
    · exact hB.r5 (by omega)
    · exact hB
  · exact hB
theorem zbk_a {a : Int32} (h1 : -1 ≤ a.toInt) (h2 : a.toInt ≤ 7) : a = nI (a.toInt + 1).toNat - 1 ∧ (a.toInt + 1).toNat ≤ 8 := by
  have h : ∀ k ≤ 8, (nI k - 1).toInt = (k : Int) - 1 := by decide
  refine ⟨?_, by omega⟩
  rw [i_eq, h _ (by omega)]
  omega
abbrev z7 : Nat → Nat → Prop := fun r _ => r = 7 ∨ r = 35 ∨ r = 36
theorem bookC_ok {M : mm_M} (h : ShC 1 M.1 v) (hB : zB v) (hT : zTX (37 + 3 * v.ru) T M.1) (hG : zGT T) (a1 a2 : Int32) : Ok (nb_book a1 a2 M) (fun y => y.1 = (zbook T v a1 a2).1 ∧ ShC 1 y.2.1 (zbook T v a1 a2).2 ∧ zfx z7 M.1 y.2.1 ∧ y.2.2 = M.2) := by
  have hn := hB.n
  unfold nb_book
  rw [isOneC_eq h hB]
  simp only [Option.bind_some, bI_if]
  by_cases o : 0 ≤ a1.toInt ∧ a1.toInt < v.n
  · rw [if_pos o]
    obtain ⟨p, hp0, rfl, ep⟩ := zI_of (x := a1) o.1
    have hp : p < v.n := by omega
    have epn : (nI p).toInt.toNat = p := by omega
    have go : -1 ≤ a2.toInt ∧ a2.toInt ≤ 7 → Ok ((ru_canBe 1 (nI p) a2 M).bind fun y4 => if y4.1 = (0 : Int32) then some ((-3 : Int32), y4.2) else if ak_inb (nI p) 4 = true then (if ak_inb (nI p) 4 = true then some (y4.2.1 7 (nI p).toNatClampNeg, (ak_up y4.2.1 7 (nI p).toNatClampNeg a2, y4.2.2)) else none) else none) (fun y => y.1 = (zbook T v (nI p) a2).1 ∧ ShC 1 y.2.1 (zbook T v (nI p) a2).2 ∧ zfx z7 M.1 y.2.1 ∧ y.2.2 = M.2) := by
      intro g
      obtain ⟨e2, k8⟩ := zbk_a g.1 g.2
      unfold zbook
      rw [if_pos ⟨o, g⟩, epn]
      generalize (a2.toInt + 1).toNat = k at e2 k8 ⊢
      rw [e2]
      refine ok_then (canBeC_ok (Or.inl rfl) h hB hT hG hp k8) (fun y4 h4 => ?_)
      obtain ⟨b1, b2, b3⟩ := h4
      have hS := h.fx b2 (n356 (Or.inl rfl))
      have ff : zfx z7 M.1 y4.2.1 := b2.wk (fun r c z => Or.inr z)
      rw [b1, bI_if]
      by_cases c : zcb T v p k = true
      · rw [if_pos c, if_pos c]
        refine ok_pos (zI_inb (by omega) (by omega)) (ok_pos (zI_inb (by omega) (by omega)) ?_)
        rw [zI_nat (by omega)]
        exact ok_ret ⟨hS.bl p hp, ShC_r5 hS, ff.up (Or.inl rfl), b3⟩
      · rw [if_neg c, if_neg c]
        exact ok_ret ⟨rfl, hS, ff, b3⟩
    refine ok_ite (fun z => go ?_) (fun z => ?_)
    · rw [z]
      decide
    · rw [isWeekC_eq]
      simp only [Option.bind_some, bI_if]
      by_cases g : 0 ≤ a2.toInt ∧ a2.toInt < 8
      · rw [if_pos g]
        exact go (by omega)
      · rw [if_neg g]
        have hn1 : a2.toInt ≠ -1 := fun w => z (by rw [i_eq, w]; rfl)
        have nb : ¬ zbo v (nI p) a2 := fun w => by have := w.2; omega
        refine ok_ret ⟨?_, ?_, zfx.rf, rfl⟩
        · unfold zbook; rw [if_neg nb]
        · unfold zbook; rw [if_neg nb]; exact h
  · rw [if_neg o]
    have nb : ¬ zbo v a1 a2 := fun w => o w.1
    refine ok_ret ⟨?_, ?_, zfx.rf, rfl⟩
    · unfold zbook; rw [if_neg nb]
    · unfold zbook; rw [if_neg nb]; exact h
abbrev z79 : Nat → Nat → Prop := fun r c => r = 79 ∨ (r = 73 ∧ 12 ≤ c ∧ c ≤ 26)
theorem bookM_ok {M : mm_M} (h : ShM M.1 v) (hB : zB v) (hT : zTMx v.ru T M.1) (a1 a2 : Int32) : Ok (md_book a1 a2 M) (fun y => y.1 = (zbook T v a1 a2).1 ∧ ShM y.2.1 (zbook T v a1 a2).2 ∧ zfx z79 M.1 y.2.1 ∧ y.2.2.1 = M.2.1) := by
  have hn := hB.n
  unfold md_book
  rw [isOneM_eq h hB]
  simp only [Option.bind_some, bI_if]
  by_cases o : 0 ≤ a1.toInt ∧ a1.toInt < v.n
  · rw [if_pos o]
    obtain ⟨p, hp0, rfl, ep⟩ := zI_of (x := a1) o.1
    have hp : p < v.n := by omega
    have epn : (nI p).toInt.toNat = p := by omega
    have g4 : ak_inb (((5 : Int32) * nI p) + (4 : Int32)) 20 = true := by rw [z5_4]; exact zI_inb (by omega) (by omega)
    have c4 : (((5 : Int32) * nI p) + (4 : Int32)).toNatClampNeg = 5 * p + 4 := by rw [z5_4]; exact zI_nat (by omega)
    rw [c4]
    have go : -1 ≤ a2.toInt ∧ a2.toInt ≤ 7 → Ok ((md_canBe (nI p) a2 M).bind fun y4 => if y4.1 = (0 : Int32) then some ((-3 : Int32), y4.2) else if ak_inb (((5 : Int32) * nI p) + (4 : Int32)) 20 = true then (if ak_inb (((5 : Int32) * nI p) + (4 : Int32)) 20 = true then some (y4.2.1 79 (5 * p + 4), (ak_up y4.2.1 79 (5 * p + 4) a2, y4.2.2)) else none) else none) (fun y => y.1 = (zbook T v (nI p) a2).1 ∧ ShM y.2.1 (zbook T v (nI p) a2).2 ∧ zfx z79 M.1 y.2.1 ∧ y.2.2.1 = M.2.1) := by
      intro g
      obtain ⟨e2, k8⟩ := zbk_a g.1 g.2
      unfold zbook
      rw [if_pos ⟨o, g⟩, epn]
      generalize (a2.toInt + 1).toNat = k at e2 k8 ⊢
      rw [e2]
      refine ok_then (canBeM_ok h hB hT hp k8) (fun y4 h4 => ?_)
      obtain ⟨b1, b2, b3⟩ := h4
      have hS := h.as b2
      have ff : zfx z79 M.1 y4.2.1 := b2.wk (fun r c z => Or.inr z)
      rw [b1, bI_if]
      by_cases c : zcb T v p k = true
      · rw [if_pos c, if_pos c]
        exact ok_pos g4 (ok_pos g4 (ok_ret ⟨hS.bl p hp, ShM_r5 hS, ff.up (Or.inl rfl), b3⟩))
      · rw [if_neg c, if_neg c]
        exact ok_ret ⟨rfl, hS, ff, b3⟩
    refine ok_ite (fun z => go ?_) (fun z => ?_)
    · rw [z]
      decide
    · rw [isWeekM_eq]
      simp only [Option.bind_some, bI_if]
      by_cases g : 0 ≤ a2.toInt ∧ a2.toInt < 8
      · rw [if_pos g]
        exact go (by omega)
      · rw [if_neg g]
        have hn1 : a2.toInt ≠ -1 := fun w => z (by rw [i_eq, w]; rfl)
        have nb : ¬ zbo v (nI p) a2 := fun w => by have := w.2; omega
        refine ok_ret ⟨?_, ?_, zfx.rf, rfl⟩
        · unfold zbook; rw [if_neg nb]
        · unfold zbook; rw [if_neg nb]; exact h
  · rw [if_neg o]
    have nb : ¬ zbo v a1 a2 := fun w => o w.1
    refine ok_ret ⟨?_, ?_, zfx.rf, rfl⟩
    · unfold zbook; rw [if_neg nb]
    · unfold zbook; rw [if_neg nb]; exact h
/-- the points of one after the year -/
def zpn (T : zT3) (v : zV) (q : Nat) : Nat := min 999 (v.po q + (zer T v q).toInt.toNat)
/-- points of the first k are the year's, blocks of the first j are gone -/
def zyk (T : zT3) (v : zV) (k j : Nat) : zV := (v.1, fun r q => if r = 4 then (if q < k then zpn T v q else v.2 4 q) else if r = 5 then (if q < j then 0 else v.2 5 q) else v.2 r q)
theorem zyk_0 : zyk T v 0 0 = v := by
  unfold zyk
  refine Prod.ext rfl ?_
  funext r q
  simp only [Nat.not_lt_zero, if_false]
  by_cases e : r = 4
  · rw [if_pos e, e]
  · rw [if_neg e]
    by_cases e2 : r = 5
    · rw [if_pos e2, e2]
    · rw [if_neg e2]
theorem zyk_4 (k j : Nat) : zr (zyk T v k j) 4 k (zpn T v k) = zyk T v (k + 1) j := by
  unfold zyk zr
  refine Prod.ext rfl ?_
  funext r q
  show (if r = 4 ∧ q = k then _ else (if r = 4 then _ else _)) = (if r = 4 then _ else _)
  by_cases e : r = 4
  · rw [if_pos e, if_pos e]
    by_cases d : q = k
    · rw [if_pos ⟨e, d⟩, if_pos (by omega), d]
    · rw [if_neg (fun z => d z.2)]
      by_cases f : q < k
      · rw [if_pos f, if_pos (by omega)]
      · rw [if_neg f, if_neg (by omega)]
  · rw [if_neg (fun z => e z.1), if_neg e, if_neg e]
theorem zyk_5 (k j : Nat) : zr (zyk T v k j) 5 j 0 = zyk T v k (j + 1) := by
  unfold zyk zr
  refine Prod.ext rfl ?_
  funext r q
  show (if r = 5 ∧ q = j then _ else (if r = 4 then _ else (if r = 5 then _ else _))) = (if r = 4 then _ else (if r = 5 then _ else _))
  by_cases e : r = 5
  · have e4 : ¬ r = 4 := by omega
    rw [if_neg e4, if_neg e4, if_pos e, if_pos e]
    by_cases d : q = j
    · rw [if_pos ⟨e, d⟩, if_pos (by omega)]
    · rw [if_neg (fun z => d z.2)]
      by_cases f : q < j
      · rw [if_pos f, if_pos (by omega)]
      · rw [if_neg f, if_neg (by omega)]
  · rw [if_neg (fun z => e z.1), if_neg e, if_neg e]
theorem zyk_B (hB : zB v) (k j : Nat) : zB (zyk T v k j) := by
  refine ⟨hB.n, hB.yr, hB.nd, hB.ky, hB.ru, fun q hq => hB.kd q hq, fun q hq => hB.nu q hq, fun q hq => hB.le q hq, fun q hq => hB.wi q hq, fun q hq => ?_, fun q hq => ?_, fun q hq => hB.ap q hq, fun q hq => hB.az q hq, fun q r hq hr => hB.as q r hq hr, fun q hq => hB.ai q hq⟩
  · show (if q < k then zpn T v q else v.po q) ≤ 999
    split
    · exact Nat.min_le_left _ _
    · exact hB.po q hq
  · show (if q < j then 0 else v.bl q) ≤ 8
    split
    · exact Nat.zero_le _
    · exact hB.bl q hq
theorem zer_cg {v' : zV} {p : Nat} (hn : v'.n = v.n) (hkd : v'.kd p = v.kd p) (hnu : v'.nu p = v.nu p) (hle : v'.le p = v.le p) (hwi : v'.wi = v.wi) (hpo : v'.po p = v.po p) (hbl : v'.bl p = v.bl p) : zer T v' p = zer T v p := by
  have hen : ∀ w, zen v' p w = zen v p w := by
    intro w
    funext i
    unfold zen zow
    rw [hn, hnu, hle, hwi, hpo]
  unfold zer zgs zgl zbs zjy
  simp only [hen, hkd, hnu, hle, hwi, hbl]
theorem zer_yk {p k j : Nat} (hk : k ≤ p) (hj : j ≤ p) : zer T (zyk T v k j) p = zer T v p := by
  refine zer_cg rfl rfl rfl rfl rfl ?_ ?_
  · show (if p < k then zpn T v p else v.po p) = v.po p
    rw [if_neg (by omega)]
  · show (if p < j then 0 else v.bl p) = v.bl p
    rw [if_neg (by omega)]
def zyear (T : zT3) (v : zV) : Int32 × zV := if v.yr = 999 then (-3, v) else (nI (zsum (zpn T v) v.n), zs (zyk T v v.n v.n) 0 (v.yr + 1))
theorem zyear_B (hB : zB v) : zB (zyear T v).2 := by
  unfold zyear
  split
  · exact hB
  · rename_i h
    have hy := hB.yr
    have h2 := zyk_B (T := T) hB v.n v.n
    refine ⟨h2.n, ?_, h2.nd, h2.ky, h2.ru, fun q hq => h2.kd q hq, fun q hq => h2.nu q hq, fun q hq => h2.le q hq, fun q hq => h2.wi q hq, fun q hq => h2.po q hq, fun q hq => h2.bl q hq, fun q hq => h2.ap q hq, fun q hq => h2.az q hq, fun q r hq hr => h2.as q r hq hr, fun q hq => h2.ai q hq⟩
    show v.yr + 1 ≤ 999
    omega
theorem zpn_eq (hB : zB v) {p : Nat} (hp : p < v.n) : nI (v.po p) + zer T v p = nI (v.po p + (zer T v p).toInt.toNat) ∧ v.po p + (zer T v p).toInt.toNat ≤ 1100 := by
  have := hB.po p hp
  obtain ⟨e, he, h⟩ := zer_n T v p
  rw [h, zI_int (by omega)]
  refine ⟨nI_add _ _, ?_⟩
  show v.po p + ((e : Int)).toNat ≤ 1100
  omega
abbrev zY : Nat → Nat → Prop := fun r _ => (1 ≤ r ∧ r ≤ 8) ∨ r = 35 ∨ r = 36
theorem yearC_l (hB : zB v) (hG : zGT T) : ∀ j k m (M : mm_M), k + j = v.n → j < m → ShC 1 M.1 (zyk T v k k) → zTX (37 + 3 * v.ru) T M.1 → Ok (nb_year_l18 m (nI k) M) (fun y => ShC 1 y.2.1 (zyk T v v.n v.n) ∧ zfx zY M.1 y.2.1 ∧ y.2.2 = M.2) := by
  have hn := hB.n
  intro j
  induction j with
  | zero =>
    intro k m M hk hm h hT
    obtain ⟨m, rfl, -⟩ := z_suc hm
    rw [nb_year_l18, h.n]
    refine ok_neg (nI_nlt (by show v.n ≤ k; omega) (by omega)) (ok_ret ⟨?_, zfx.rf, rfl⟩)
    rw [show v.n = k by omega]
    exact h
  | succ j ih =>
    intro k m M hk hm h hT
    obtain ⟨m, rfl, hm2⟩ := z_suc hm
    have hp : k < v.n := by omega
    rw [nb_year_l18, h.n, nI_1]
    refine ok_pos (nI_lt (show k < v.n from hp) (by show v.n < 2 ^ 31; omega)) (ok_pos (zI_inb (by omega) (by omega)) ?_)
    refine ok_then (earnedC_ok (v := zyk T v k k) (Or.inl rfl) h (zyk_B hB k k) hT hG hp) (fun y3 h3 => ?_)
    obtain ⟨a1, a2, a3⟩ := h3
    refine ok_pos (zI_inb (by omega) (by omega)) (ok_pos (zI_inb (by omega) (by omega)) ?_)
    have hpo : M.1 6 k = nI (v.po k) := by
      have := h.po k hp
      rw [this]
      show nI (if k < k then _ else v.2 4 k) = _
      rw [if_neg (by omega)]
      rfl
    obtain ⟨z1, z2⟩ := zpn_eq (T := T) hB hp
    have ev : i_min (999 : Int32) (M.1 6 k + y3.1) = nI (zpn T v k) := by
      rw [a1, zer_yk (Nat.le_refl k) (Nat.le_refl k), hpo, z1]
      exact z_min (a := 999) (by decide) (by omega)
    rw [zI_nat (by omega), ev]
    have hS := h.fx a2 (n356 (Or.inl rfl))
    have hS2 : ShC 1 (ak_up (ak_up y3.2.1 6 k (nI (zpn T v k))) 7 k (-1)) (zyk T v (k + 1) (k + 1)) := by
      have h1 := ShC_r5 (p := k) (x := 0) (ShC_r4 (p := k) (x := zpn T v k) hS)
      rw [zyk_4, zyk_5] at h1
      exact h1
    have ff : zfx zY M.1 (ak_up (ak_up y3.2.1 6 k (nI (zpn T v k))) 7 k (-1)) := ((a2.wk (fun r c z => Or.inr z)).up (Or.inl (by decide))).up (Or.inl (by decide))
    refine ok_mono (ih (k + 1) m (_, y3.2.2) (by omega) (by omega) hS2 (hT.fx ff (fun r c a b z => by have z2 : (1 ≤ r ∧ r ≤ 8) ∨ r = 35 ∨ r = 36 := z; omega))) (fun y hy => ⟨hy.1, ff.tr hy.2.1, hy.2.2.trans a3⟩)
theorem zsum_cg {f g : Nat → Nat} : ∀ n, (∀ q, q < n → f q = g q) → zsum f n = zsum g n := by
  intro n
  induction n with
  | zero => intro _; rfl
  | succ n ih =>
    intro h
    show zsum f n + f n = zsum g n + g n
    rw [ih (fun q hq => h q (by omega)), h n (by omega)]
theorem yearC_ok {M : mm_M} (h : ShC 1 M.1 v) (hB : zB v) (hT : zTX (37 + 3 * v.ru) T M.1) (hG : zGT T) : Ok (nb_year M) (fun y => y.1 = (zyear T v).1 ∧ ShC 1 y.2.1 (zyear T v).2 ∧ zfx zY M.1 y.2.1 ∧ y.2.2 = M.2) := by
  have hn := hB.n
  have hy := hB.yr
  unfold nb_year zyear
  rw [h.yr]
  by_cases c : v.yr = 999
  · rw [if_pos c]
    exact ok_neg (by rw [c]; decide) (ok_ret ⟨rfl, h, zfx.rf, rfl⟩)
  · rw [if_neg c]
    refine ok_pos (nI_lt (b := 999) (by omega) (by decide)) ?_
    refine ok_then (yearC_l hB hG v.n 0 300 M (by omega) (by omega) (by rw [zyk_0]; exact h) hT) (fun y2 h2 => ?_)
    obtain ⟨a1, a2, a3⟩ := h2
    have e0 : y2.2.1 1 0 = nI v.yr := a1.yr
    rw [e0, nI_1]
    have hS : ShC 1 (ak_up y2.2.1 1 0 (nI (v.yr + 1))) (zs (zyk T v v.n v.n) 0 (v.yr + 1)) := ShC_s0 a1
    have hB2 : zB (zs (zyk T v v.n v.n) 0 (v.yr + 1)) := by
      have := zyear_B (T := T) hB
      unfold zyear at this
      rw [if_neg c] at this
      exact this
    rw [pointsOfAll_eq (M := (ak_up y2.2.1 1 0 (nI (v.yr + 1)), y2.2.2)) hS hB2]
    simp only [Option.bind_some]
    refine ok_ret ⟨?_, hS, a2.up (Or.inl (by decide)), a3⟩
    show nI (zsum (zs (zyk T v v.n v.n) 0 (v.yr + 1)).po v.n) = nI (zsum (zpn T v) v.n)
    congr 1
    refine zsum_cg _ (fun q hq => ?_)
    show (if q < v.n then zpn T v q else v.2 4 q) = zpn T v q
    rw [if_pos hq]
theorem yearM_l19 (hB : zB v) : ∀ j k m (M : mm_M), k + j = v.n → j < m → ShM M.1 (zyk T v k 0) → zTMx v.ru T M.1 → Ok (md_year_l19 m (nI (zsum (zpn T v) k)) (nI k) M) (fun y => y.1 = nI (zsum (zpn T v) v.n) ∧ ShM y.2.1 (zyk T v v.n 0) ∧ zfx z79 M.1 y.2.1 ∧ y.2.2.1 = M.2.1) := by
  have hn := hB.n
  intro j
  induction j with
  | zero =>
    intro k m M hk hm h hT
    obtain ⟨m, rfl, -⟩ := z_suc hm
    rw [md_year_l19, h.n]
    refine ok_neg (nI_nlt (by show v.n ≤ k; omega) (by omega)) (ok_ret ⟨?_, ?_, zfx.rf, rfl⟩)
    · rw [show v.n = k by omega]
    · rw [show v.n = k by omega]
      exact h
  | succ j ih =>
    intro k m M hk hm h hT
    obtain ⟨m, rfl, hm2⟩ := z_suc hm
    have hp : k < v.n := by omega
    have g3 : ak_inb (((5 : Int32) * nI k) + (3 : Int32)) 20 = true := by rw [z5_3]; exact zI_inb (by omega) (by omega)
    have c3 : (((5 : Int32) * nI k) + (3 : Int32)).toNatClampNeg = 5 * k + 3 := by rw [z5_3]; exact zI_nat (by omega)
    rw [md_year_l19, h.n, nI_1, c3]
    refine ok_pos (nI_lt (show k < v.n from hp) (by show v.n < 2 ^ 31; omega)) (ok_pos g3 ?_)
    refine ok_then (earnsM_ok (v := zyk T v k 0) h (zyk_B hB k 0) hT hp) (fun y3 h3 => ?_)
    obtain ⟨a1, a2, a3⟩ := h3
    have hpo : M.1 79 (5 * k + 3) = nI (v.po k) := by
      have := h.po k hp
      rw [this]
      show nI (if k < k then _ else v.2 4 k) = _
      rw [if_neg (by omega)]
      rfl
    obtain ⟨z1, z2⟩ := zpn_eq (T := T) hB hp
    rw [within_eq, a1, zer_yk (Nat.le_refl k) (Nat.zero_le k), hpo, z1]
    simp only [Option.bind_some]
    have ev : (if nI (v.po k + (zer T v k).toInt.toNat) < (0 : Int32) then (0 : Int32) else if (999 : Int32) < nI (v.po k + (zer T v k).toInt.toNat) then (999 : Int32) else nI (v.po k + (zer T v k).toInt.toNat)) = nI (zpn T v k) := by
      rw [if_neg (nI_pos (by omega))]
      unfold zpn
      by_cases c : 999 < v.po k + (zer T v k).toInt.toNat
      · rw [if_pos (show (999 : Int32) < nI _ from nI_lt (a := 999) c (by omega)), Nat.min_eq_left (by omega)]
        rfl
      · rw [if_neg (show ¬ (999 : Int32) < nI _ from nI_nlt (a := 999) (by omega) (by decide)), Nat.min_eq_right (by omega)]
    rw [ev, ak_up_same, nI_add]
    refine ok_pos g3 (ok_pos g3 ?_)
    have hS := h.as a2
    have hS2 : ShM (ak_up y3.2.1 79 (5 * k + 3) (nI (zpn T v k))) (zyk T v (k + 1) 0) := by
      have h1 := ShM_r4 (p := k) (x := zpn T v k) hS
      rw [zyk_4] at h1
      exact h1
    have ff : zfx z79 M.1 (ak_up y3.2.1 79 (5 * k + 3) (nI (zpn T v k))) := (a2.wk (fun r c z => Or.inr z)).up (Or.inl rfl)
    exact ok_mono (ih (k + 1) m (_, y3.2.2) (by omega) (by omega) hS2 (hT.fx ff (fun r c a b z => by have z2 : r = 79 ∨ (r = 73 ∧ 12 ≤ c ∧ c ≤ 26) := z; omega))) (fun y hy => ⟨hy.1, hy.2.1, ff.tr hy.2.2.1, hy.2.2.2.trans a3⟩)
theorem yearM_l81 (hB : zB v) (x : Int32) : ∀ j k m (M : mm_M), k + j = v.n → j < m → ShM M.1 (zyk T v v.n k) → Ok (md_year_l81 m x (nI k) M) (fun y => ShM y.2.1 (zyk T v v.n v.n) ∧ zfx z79 M.1 y.2.1 ∧ y.2.2 = M.2) := by
  have hn := hB.n
  intro j
  induction j with
  | zero =>
    intro k m M hk hm h
    obtain ⟨m, rfl, -⟩ := z_suc hm
    rw [md_year_l81, h.n]
    refine ok_neg (nI_nlt (by show v.n ≤ k; omega) (by omega)) (ok_ret ⟨?_, zfx.rf, rfl⟩)
    have e : k = v.n := by omega
    rw [e] at h
    exact h
  | succ j ih =>
    intro k m M hk hm h
    obtain ⟨m, rfl, hm2⟩ := z_suc hm
    have hp : k < v.n := by omega
    have g4 : ak_inb (((5 : Int32) * nI k) + (4 : Int32)) 20 = true := by rw [z5_4]; exact zI_inb (by omega) (by omega)
    have c4 : (((5 : Int32) * nI k) + (4 : Int32)).toNatClampNeg = 5 * k + 4 := by rw [z5_4]; exact zI_nat (by omega)
    rw [md_year_l81, h.n, nI_1, c4]
    refine ok_pos (nI_lt (show k < v.n from hp) (by show v.n < 2 ^ 31; omega)) (ok_pos g4 ?_)
    have hS2 : ShM (ak_up M.1 79 (5 * k + 4) (-1)) (zyk T v v.n (k + 1)) := by
      have h1 := ShM_r5 (p := k) (x := 0) h
      rw [zyk_5] at h1
      exact h1
    have ff : zfx z79 M.1 (ak_up M.1 79 (5 * k + 4) (-1)) := zfx.rf.up (Or.inl rfl)
    exact ok_mono (ih (k + 1) m (_, M.2) (by omega) (by omega) hS2) (fun y hy => ⟨hy.1, ff.tr hy.2.1, hy.2.2⟩)
abbrev zYM : Nat → Nat → Prop := fun r c => r = 77 ∨ r = 79 ∨ (r = 73 ∧ 12 ≤ c ∧ c ≤ 26)
theorem yearM_ok {M : mm_M} (h : ShM M.1 v) (hB : zB v) (hT : zTMx v.ru T M.1) : Ok (md_year M) (fun y => y.1 = (zyear T v).1 ∧ ShM y.2.1 (zyear T v).2 ∧ zfx zYM M.1 y.2.1 ∧ y.2.2.1 = M.2.1) := by
  have hn := hB.n
  have hy := hB.yr
  unfold md_year zyear
  have e0 : (0 : Int32).toNatClampNeg = 0 := rfl
  have ey : nI v.yr = 999 ↔ v.yr = 999 := nI_eq (b := 999) (by omega) (by decide)
  rw [e0, h.yr]
  refine ok_pos (by decide) ?_
  by_cases c : v.yr = 999
  · rw [if_pos c]
    exact ok_pos (ey.mpr c) (ok_ret ⟨rfl, h, zfx.rf, rfl⟩)
  · rw [if_neg c]
    refine ok_neg (fun z => c (ey.mp z)) ?_
    refine ok_then (yearM_l19 (T := T) hB v.n 0 300 M (by omega) (by omega) (by rw [zyk_0]; exact h) hT) (fun y3 h3 => ?_)
    obtain ⟨a1, a2, a3, a4⟩ := h3
    refine ok_then (yearM_l81 (T := T) hB y3.1 v.n 0 300 y3.2 (by omega) (by omega) a2) (fun y4 h4 => ?_)
    obtain ⟨b1, b2, b3⟩ := h4
    refine ok_pos (by decide) (ok_pos (by decide) ?_)
    have e1 : y4.2.1 77 0 = nI v.yr := b1.yr
    rw [e1, nI_1]
    exact ok_ret ⟨a1, ShM_s0 b1, ((a3.tr b2).wk (fun r c z => z.elim (fun w => Or.inr (Or.inl w)) (fun w => Or.inr (Or.inr w)))).up (Or.inl rfl), (congrArg Prod.fst b3).trans a4⟩
end
