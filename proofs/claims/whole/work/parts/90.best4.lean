/-! level 2: best -/
section
variable {b : Nat} {v : zV} {T : zT3}
theorem search12 : ∀ j k m (M : mm_M), k + j = 4 → j < m → (∀ q, q < k → M.1 62 q = 0) → Ok (pl_search_l12 m (nI k) M) (fun y => (∀ q, q < 4 → y.2.1 62 q = 0) ∧ zfx (fun r _ => r = 62) M.1 y.2.1 ∧ y.2.2 = M.2) := by
  intro j
  induction j with
  | zero =>
    intro k m M hk hm h
    obtain ⟨m, rfl, -⟩ := z_suc hm
    obtain rfl : k = 4 := by omega
    rw [pl_search_l12]
    exact ok_neg (by decide) (ok_ret ⟨h, zfx.rf, rfl⟩)
  | succ j ih =>
    intro k m M hk hm h
    obtain ⟨m, rfl, hm2⟩ := z_suc hm
    rw [pl_search_l12, nI_1]
    refine ok_pos (nI_lt (b := 4) (by omega) (by decide)) (ok_pos (zI_inb (by omega) (by omega)) ?_)
    rw [zI_nat (by omega)]
    have hf : zfx (fun r _ => r = 62) M.1 (ak_up M.1 62 k 0) := zfx.rf.up rfl
    refine ok_mono (ih (k + 1) m (_, M.2) (by omega) (by omega) (fun q hq => ?_)) (fun y hy => ⟨hy.1, hf.tr hy.2.1, hy.2.2⟩)
    show ak_up M.1 62 k 0 62 q = 0
    by_cases e : q = k
    · rw [e, ak_up_same]
    · rw [ak_up_oth e]; exact h q (by omega)
theorem search48 : ∀ j k m (M : mm_M), k + j = 4 → j < m → (∀ q, q < k → M.1 61 q = M.1 62 q) → Ok (pl_search_l48 m (nI k) M) (fun y => (∀ q, q < 4 → y.2.1 61 q = M.1 62 q) ∧ zfx (fun r _ => r = 61) M.1 y.2.1 ∧ y.2.2 = M.2) := by
  intro j
  induction j with
  | zero =>
    intro k m M hk hm h
    obtain ⟨m, rfl, -⟩ := z_suc hm
    obtain rfl : k = 4 := by omega
    rw [pl_search_l48]
    exact ok_neg (by decide) (ok_ret ⟨h, zfx.rf, rfl⟩)
  | succ j ih =>
    intro k m M hk hm h
    obtain ⟨m, rfl, hm2⟩ := z_suc hm
    rw [pl_search_l48, nI_1]
    refine ok_pos (nI_lt (b := 4) (by omega) (by decide)) (ok_pos (zI_inb (by omega) (by omega)) (ok_pos (zI_inb (by omega) (by omega)) ?_))
    rw [zI_nat (by omega)]
    have hf : zfx (fun r _ => r = 61) M.1 (ak_up M.1 61 k (M.1 62 k)) := zfx.rf.up rfl
    refine ok_mono (ih (k + 1) m (_, M.2) (by omega) (by omega) (fun q hq => ?_)) (fun y hy => ⟨fun q hq => (hy.1 q hq).trans (hf 62 q (by omega)), hf.tr hy.2.1, hy.2.2⟩)
    show ak_up M.1 61 k (M.1 62 k) 61 q = ak_up M.1 61 k (M.1 62 k) 62 q
    rw [ak_up_ne (show (62 : Nat) ≠ 61 by decide)]
    by_cases e : q = k
    · rw [e, ak_up_same]
    · rw [ak_up_oth e]; exact h q (by omega)
abbrev zBx : Nat → Nat → Prop := fun r c => (61 ≤ r ∧ r ≤ 63) ∨ (r = 55 ∧ (c = 10 ∨ c = 11))
theorem zPC.bx {M M' : mm_M} (h : zPC b v T M) (hf : zfx zBx M.1 M'.1) (h2 : M'.2.1 = M.2.1) : zPC b v T M' := h.fx hf h2 (fun r c a d z => by have z2 : (61 ≤ r ∧ r ≤ 63) ∨ (r = 55 ∧ (c = 10 ∨ c = 11)) := z; have := h.2.1; omega) (fun r c a d z => by have z2 : (61 ≤ r ∧ r ≤ 63) ∨ (r = 55 ∧ (c = 10 ∨ c = 11)) := z; omega)
theorem wBx {P : Nat → Nat → Prop} {σ σ' : Nat → Nat → Int32} (h : zfx P σ σ') (hp : ∀ r c, P r c → (61 ≤ r ∧ r ≤ 63) ∨ (r = 55 ∧ (c = 10 ∨ c = 11))) : zfx zBx σ σ' := h.wk hp
theorem searchC_ok {M : mm_M} (hB : zB v) (h : zPC b v T M) (fair : Bool) : Ok (pl_search (bI (fair = true)) M) (fun y => zPC b v T y.2 ∧ zDg 61 v.n (zbst T v fair) y.2.1 ∧ zfx zBx M.1 y.2.1 ∧ y.2.2 = M.2) := by
  have hn := hB.n
  unfold pl_search
  refine ok_pos (bI_01.mpr trivial) ?_
  have hf0 : zfx zBx M.1 (ak_up (ak_up M.1 55 10 (bI (fair = true))) 55 11 0) := (zfx.rf.up (Or.inr ⟨rfl, Or.inl rfl⟩)).up (Or.inr ⟨rfl, Or.inr rfl⟩)
  have t10 : ak_up (ak_up M.1 55 10 (bI (fair = true))) 55 11 0 55 10 = bI (fair = true) := by rw [ak_up_oth (by decide), ak_up_same]
  have t11 : ak_up (ak_up M.1 55 10 (bI (fair = true))) 55 11 0 55 11 = 0 := ak_up_same
  generalize ak_up (ak_up M.1 55 10 (bI (fair = true))) 55 11 0 = σ at hf0 t10 t11 ⊢
  refine ok_then (search12 4 0 300 (σ, M.2) (by decide) (by decide) (fun q hq => by omega)) (fun y2 h2 => ?_)
  obtain ⟨a1, a2, a3⟩ := h2
  refine ok_then (takeNoneC_ok y2.2) (fun y3 h3 => ?_)
  obtain ⟨b1, b2, b3⟩ := h3
  have g1 : zfx zBx M.1 y3.2.1 := (hf0.tr (wBx a2 (fun r c z => by omega))).tr (wBx b2 (fun r c z => by have z2 : r = 61 := z; omega))
  have g1m : y3.2.2 = M.2 := b3.trans a3
  refine ok_then (hopesC_ok hB (h.bx g1 (congrArg Prod.fst g1m))) (fun y4 h4 => ?_)
  obtain ⟨c1, c2, c3, c4⟩ := h4
  have hS : zSC b v T fair zd0 (0, zd0) y4.2 := by
    refine ⟨c1, fun q hq => ⟨?_, Nat.zero_le _⟩, c2, ?_, ?_, fun q hq => ⟨?_, Nat.zero_le _⟩⟩
    · rw [c3 61 q (by omega)]
      exact b1 q hq
    · rw [c3 55 10 (by omega), b2 55 10 (show ¬ 55 = 61 by decide), a2 55 10 (by omega)]
      exact t10
    · rw [c3 55 11 (by omega), b2 55 11 (show ¬ 55 = 61 by decide), a2 55 11 (by omega)]
      exact t11
    · rw [c3 62 q (by omega), b2 62 q (show ¬ 62 = 61 by decide)]
      exact a1 q hq
  refine ok_then (exC hB fair v.n 0 8 0 100000 zd0 (0, zd0) y4.2 (by omega) (by omega) (fun _ _ => rfl) hS) (fun y5 h5 => ?_)
  obtain ⟨d1, d2, d3⟩ := h5
  have e62 : zDg 62 4 (zbst T v fair) y5.2.1 := by
    have := d1.2.2.2.2.2
    rw [zbst_C hB] at this
    exact this
  refine ok_then (search48 4 0 300 y5.2 (by decide) (by decide) (fun q hq => by omega)) (fun y6 h6 => ok_ret ?_)
  obtain ⟨f1, f2, f3⟩ := h6
  refine ⟨d1.1.w61 (M' := y6.2) f2 (congrArg Prod.fst f3), fun q hq => ⟨(f1 q (by omega)).trans (e62 q (by omega)).1, (e62 q (by omega)).2⟩, ?_, f3.trans (d3.trans (c4.trans g1m))⟩
  exact ((g1.tr (wBx c3 (fun r c z => by omega))).tr (wBx d2 (fun r c z => by have z2 : r = 61 ∨ r = 62 ∨ (r = 55 ∧ c = 11) := z; omega))).tr (wBx f2 (fun r c z => by omega))
abbrev zBl : Nat → Nat → Prop := fun r c => r = 35 ∨ r = 36 ∨ (56 ≤ r ∧ r ≤ 63) ∨ (r = 55 ∧ (c = 10 ∨ c = 11))
theorem bestC_ok {M : mm_M} (h : ShC 1 M.1 v) (hB : zB v) (hT : zTX (37 + 3 * v.ru) T M.1) (hG : zGT T) (a1 : Int32) : Ok (nb_best a1 M) (fun y => y.1 = zbest T v a1 ∧ zfx zBl M.1 y.2.1) := by
  have hn := hB.n
  unfold nb_best zbest
  have l0 : a1 < (0 : Int32) ↔ a1.toInt < 0 := by rw [i_lt, zi0]
  have l3 : (3 : Int32) < a1 ↔ 3 < a1.toInt := by rw [i_lt, show (3 : Int32).toInt = 3 from rfl]
  have l2 : a1 < (2 : Int32) ↔ a1.toInt < 2 := by rw [i_lt, show (2 : Int32).toInt = 2 from rfl]
  have q : ∀ c : Nat, c < 100 → (a1 = nI c ↔ a1.toInt = c) := fun c hc => by rw [i_eq, zI_int (by omega)]
  have q1 : a1 = (1 : Int32) ↔ a1.toInt = 1 := q 1 (by decide)
  have q3 : a1 = (3 : Int32) ↔ a1.toInt = 3 := q 3 (by decide)
  by_cases g : 0 ≤ a1.toInt ∧ a1.toInt ≤ 3
  · refine ok_neg (fun z => by have := l0.mp z; omega) (ok_neg (fun z => by have := l3.mp z; omega) ?_)
    refine ok_then (lookC_ok (Or.inl rfl) h hB hT hG) (fun y3 h3 => ?_)
    obtain ⟨p1, p2, p3, p4⟩ := h3
    have fl : zfx zBl M.1 y3.2.1 := p3.wk (fun r c z => by
      have z2 : r = 35 ∨ r = 36 ∨ (56 ≤ r ∧ r ≤ 61) := z
      show r = 35 ∨ r = 36 ∨ (56 ≤ r ∧ r ≤ 63) ∨ (r = 55 ∧ (c = 10 ∨ c = 11))
      omega)
    have fx : ∀ {σ : Nat → Nat → Int32}, zfx zBx y3.2.1 σ → zfx zBl M.1 σ := fun {σ} hx => fl.tr (hx.wk (fun r c z => by
      have z2 : (61 ≤ r ∧ r ≤ 63) ∨ (r = 55 ∧ (c = 10 ∨ c = 11)) := z
      show r = 35 ∨ r = 36 ∨ (56 ≤ r ∧ r ≤ 63) ∨ (r = 55 ∧ (c = 10 ∨ c = 11))
      omega))
    by_cases c2 : a1.toInt < 2
    · refine ok_pos (l2.mpr c2) (ok_then (searchC_ok hB p1 false) (fun y5 h5 => ?_))
      obtain ⟨b1, b2, b3, b4⟩ := h5
      by_cases c1 : a1.toInt = 1
      · rw [if_neg (show ¬ a1.toInt = 0 by omega), if_pos c1, allC_eq hB b1 b2]
        exact ok_pos (q1.mpr c1) (ok_ret ⟨rfl, fx b3⟩)
      · rw [if_pos (show a1.toInt = 0 by omega), inDigitsC_eq hB b1 b2]
        exact ok_neg (fun z => c1 (q1.mp z)) (ok_neg (fun z => by have := q3.mp z; omega) (ok_ret ⟨rfl, fx b3⟩))
    · refine ok_neg (fun z => c2 (l2.mp z)) (ok_then (searchC_ok hB p1 true) (fun y5 h5 => ?_))
      obtain ⟨b1, b2, b3, b4⟩ := h5
      rw [if_neg (show ¬ a1.toInt = 0 by omega), if_neg (show ¬ a1.toInt = 1 by omega)]
      refine ok_neg (fun z => by have := q1.mp z; omega) ?_
      by_cases c3 : a1.toInt = 3
      · rw [if_neg (show ¬ a1.toInt = 2 by omega), if_pos c3, leastC_eq hB b1 b2]
        exact ok_pos (q3.mpr c3) (ok_ret ⟨rfl, fx b3⟩)
      · rw [if_pos (show a1.toInt = 2 by omega), inDigitsC_eq hB b1 b2]
        exact ok_neg (fun z => c3 (q3.mp z)) (ok_ret ⟨rfl, fx b3⟩)
  · rw [if_neg (show ¬ a1.toInt = 0 by omega), if_neg (show ¬ a1.toInt = 1 by omega), if_neg (show ¬ a1.toInt = 2 by omega), if_neg (show ¬ a1.toInt = 3 by omega)]
    refine ok_ite (fun _ => ok_ret ⟨rfl, zfx.rf⟩) (fun z => ok_pos (l3.mpr ?_) (ok_ret ⟨rfl, zfx.rf⟩))
    have : ¬ a1.toInt < 0 := fun w => z (l0.mpr w)
    omega
/-! the model's search -/
def zSo (n : Nat) (B : Option zBs) (σ : Nat → Nat → Int32) : Prop := match B with
  | none => σ 73 31 = 0
  | some x => σ 73 31 = 1 ∧ σ 73 33 = x.1 ∧ σ 73 32 = nI (zdg x.2 n)
theorem zSo.fx {n : Nat} {B : Option zBs} {σ σ' : Nat → Nat → Int32} (h : zSo n B σ) {P : Nat → Nat → Prop} (hf : zfx P σ σ') (hp : ∀ c, 31 ≤ c → c ≤ 33 → ¬ P 73 c) : zSo n B σ' := by
  cases B with
  | none => exact (hf _ _ (hp 31 (by decide) (by decide))).trans h
  | some x => exact ⟨(hf _ _ (hp 31 (by decide) (by decide))).trans h.1, (hf _ _ (hp 33 (by decide) (by decide))).trans h.2.1, (hf _ _ (hp 32 (by decide) (by decide))).trans h.2.2⟩
abbrev zSk : Nat → Nat → Prop := fun r c => r = 84 ∨ (r = 73 ∧ 31 ≤ c ∧ c ≤ 33)
theorem zPM.sk {M M' : mm_M} (h : zPM v T M) (hf : zfx zSk M.1 M'.1) : zPM v T M' := h.fx hf (fun z => by have z2 : 73 = 84 ∨ (73 = 73 ∧ 31 ≤ 11 ∧ 11 ≤ 33) := z; omega) (fun z => by have z2 : 73 = 84 ∨ (73 = 73 ∧ 31 ≤ 4 ∧ 4 ≤ 33) := z; omega) (fun r c a d z => by have z2 : r = 84 ∨ (r = 73 ∧ 31 ≤ c ∧ c ≤ 33) := z; omega)
theorem leafM {M : mm_M} (hB : zB v) (h : zPM v T M) {d : Nat → Nat} (hd : zDg 84 v.n d M.1) {B : Option zBs} (hS : zSo v.n B M.1) {fair : Bool} {x : Int32} (hx : x = zval T v fair d) : Ok ((md_holds M).bind fun y4 => if y4.1 = (0 : Int32) then some ((), y4.2) else if (y4.2.1 73 31) = (0 : Int32) then (md_digits (ak_up y4.2.1 73 31 (1 : Int32), y4.2.2)).bind fun y7 => some ((), (ak_up (ak_up y7.2.1 73 32 y7.1) 73 33 x, y7.2.2)) else if (y4.2.1 73 33) < x then (md_digits (ak_up y4.2.1 73 31 (1 : Int32), y4.2.2)).bind fun y9 => some ((), (ak_up (ak_up y9.2.1 73 32 y9.1) 73 33 x, y9.2.2)) else some ((), y4.2)) (fun y => zPM v T y.2 ∧ zSo v.n (zskl T v fair d B) y.2.1 ∧ zfx (fun r c => r = 73 ∧ 31 ≤ c ∧ c ≤ 33) M.1 y.2.1 ∧ y.2.2 = M.2) := by
  rw [holdsM_eq hB h hd]
  simp only [Option.bind_some, bI_if]
  have h1f : zfx (fun r c => r = 73 ∧ 31 ≤ c ∧ c ≤ 33) M.1 (ak_up M.1 73 31 1) := zfx.rf.up ⟨rfl, by decide, by decide⟩
  have hS1 : ShM (ak_up M.1 73 31 1) v := h.1.fx h1f (by omega) (by omega) (by omega)
  have hd1 : zDg 84 v.n d (ak_up M.1 73 31 1) := hd.fx h1f (by omega)
  have put : Ok ((md_digits (ak_up M.1 73 31 (1 : Int32), M.2)).bind fun y7 => some ((), (ak_up (ak_up y7.2.1 73 32 y7.1) 73 33 x, y7.2.2))) (fun y => zPM v T y.2 ∧ zSo v.n (some (zval T v fair d, d)) y.2.1 ∧ zfx (fun r c => r = 73 ∧ 31 ≤ c ∧ c ≤ 33) M.1 y.2.1 ∧ y.2.2 = M.2) := by
    rw [digitsM_eq (M := (ak_up M.1 73 31 1, M.2)) hB hS1 hd1]
    simp only [Option.bind_some]
    have hf : zfx (fun r c => r = 73 ∧ 31 ≤ c ∧ c ≤ 33) M.1 (ak_up (ak_up (ak_up M.1 73 31 1) 73 32 (nI (zdg d v.n))) 73 33 x) := (h1f.up ⟨rfl, by decide, by decide⟩).up ⟨rfl, by decide, by decide⟩
    refine ok_ret ⟨h.sk (M' := (_, M.2)) (hf.wk (fun r c z => Or.inr z)), ⟨?_, ?_, ?_⟩, hf, rfl⟩
    · show ak_up (ak_up (ak_up M.1 73 31 1) 73 32 (nI (zdg d v.n))) 73 33 x 73 31 = 1
      rw [ak_up_oth (by decide), ak_up_oth (by decide), ak_up_same]
    · show ak_up (ak_up (ak_up M.1 73 31 1) 73 32 (nI (zdg d v.n))) 73 33 x 73 33 = zval T v fair d
      rw [ak_up_same, hx]
    · show ak_up (ak_up (ak_up M.1 73 31 1) 73 32 (nI (zdg d v.n))) 73 33 x 73 32 = nI (zdg d v.n)
      rw [ak_up_oth (by decide), ak_up_same]
  unfold zskl
  by_cases c : zhd T v d = true
  · rw [if_pos c, if_pos c]
    cases B with
    | none =>
      exact ok_pos hS put
    | some y =>
      refine ok_neg (by rw [hS.1]; decide) ?_
      show Ok _ (fun z : Unit × mm_M => zPM v T z.2 ∧ zSo v.n (if y.1 < zval T v fair d then some (zval T v fair d, d) else some y) z.2.1 ∧ _)
      rw [hS.2.1]
      by_cases g : y.1 < zval T v fair d
      · rw [if_pos g]
        exact ok_pos (by rw [hx]; exact g) put
      · rw [if_neg g]
        exact ok_neg (by rw [hx]; exact g) (ok_ret ⟨h, hS, zfx.rf, rfl⟩)
  · rw [if_neg c, if_neg c]
    exact ok_ret ⟨h, hS, zfx.rf, rfl⟩
theorem skM (hB : zB v) (fair : Bool) : ∀ j p kf d (B : Option zBs) (M : mm_M), p + j = v.n → j < kf → zPM v T M → zDg 84 p d M.1 → zSo v.n B M.1 → Ok (md_sk kf (nI p) (bI (fair = true)) M) (fun y => zPM v T y.2 ∧ zDg 84 p d y.2.1 ∧ zSo v.n (zsk T v fair j p d B) y.2.1 ∧ zfx zSk M.1 y.2.1 ∧ y.2.2 = M.2) := by
  have hn := hB.n
  intro j
  induction j with
  | zero =>
    intro p kf d B M hp hk h hd hS
    obtain ⟨kf, rfl, -⟩ := z_suc hk
    show Ok (md_seeks_b _ (nI p) (bI (fair = true)) M) _
    unfold md_seeks_b
    rw [h.1.n]
    have epn : p = v.n := by omega
    have hd2 : zDg 84 v.n d M.1 := by rw [← epn]; exact hd
    refine ok_pos (by rw [epn]) ?_
    have wk : ∀ {y : Unit × mm_M}, (zPM v T y.2 ∧ zSo v.n (zskl T v fair d B) y.2.1 ∧ zfx (fun r c => r = 73 ∧ 31 ≤ c ∧ c ≤ 33) M.1 y.2.1 ∧ y.2.2 = M.2) → (zPM v T y.2 ∧ zDg 84 p d y.2.1 ∧ zSo v.n (zsk T v fair 0 p d B) y.2.1 ∧ zfx zSk M.1 y.2.1 ∧ y.2.2 = M.2) := fun {y} hy => ⟨hy.1, hd.fx hy.2.2.1 (by omega), hy.2.1, hy.2.2.1.wk (fun r c z => Or.inr z), hy.2.2.2⟩
    cases fair with
    | false =>
      refine ok_pos (by decide) ?_
      rw [allM_eq hB h hd2]
      simp only [Option.bind_some]
      exact ok_mono (leafM (fair := false) hB h hd2 hS rfl) (fun y hy => wk hy)
    | true =>
      refine ok_neg (by decide) ?_
      rw [leastM_eq hB h hd2]
      simp only [Option.bind_some]
      exact ok_mono (leafM (fair := true) hB h hd2 hS rfl) (fun y hy => wk hy)
  | succ j ih =>
    intro p kf d B M hp hk h hd hS
    obtain ⟨kf, rfl, hk2⟩ := z_suc hk
    have hpn : p < v.n := by omega
    show Ok (md_seeks_b (fun a1 a2 m => md_sk kf a1 a2 m) (nI p) (bI (fair = true)) M) _
    unfold md_seeks_b
    rw [h.1.n]
    refine ok_neg (fun z => by have := (nI_eq (by omega) (by omega)).mp z; omega) ?_
    have loop : ∀ m k fu (B : Option zBs) (M : mm_M), k + m = 9 → m < fu → zPM v T M → zDg 84 p d M.1 → zSo v.n B M.1 → Ok (md_seeks_l67 (fun a1 a2 m => md_sk kf a1 a2 m) fu (nI p) (bI (fair = true)) (nI k) M) (fun y => zPM v T y.2 ∧ zDg 84 p d y.2.1 ∧ zSo v.n (zskk (fun k B => if zcb T v p k = true then zsk T v fair j (p + 1) (zdo d p k) B else B) k m B) y.2.1 ∧ zfx zSk M.1 y.2.1 ∧ y.2.2 = M.2) := by
      intro m
      induction m with
      | zero =>
        intro k fu B M hk hf h hd hS
        obtain ⟨fu, rfl, -⟩ := z_suc hf
        obtain rfl : k = 9 := by omega
        rw [md_seeks_l67]
        exact ok_pos (by decide) (ok_ret ⟨h, hd, hS, zfx.rf, rfl⟩)
      | succ m ihm =>
        intro k fu B M hk hf h hd hS
        obtain ⟨fu, rfl, hf2⟩ := z_suc hf
        rw [md_seeks_l67, z9b, nI_1 k]
        refine ok_neg (nI_nlt (a := 8) (by omega) (by decide)) (ok_pos (zI_inb (by omega) (by omega)) ?_)
        rw [zI_nat (show 9 * p + k < 2147483648 by omega), (h.2 p k hpn (by omega)).2.2, bI_if]
        show Ok _ (fun y : Unit × mm_M => zPM v T y.2 ∧ zDg 84 p d y.2.1 ∧ zSo v.n (zskk _ (k + 1) m (if zcb T v p k = true then zsk T v fair j (p + 1) (zdo d p k) B else B)) y.2.1 ∧ zfx zSk M.1 y.2.1 ∧ y.2.2 = M.2)
        by_cases c : zcb T v p k = true
        · rw [if_pos c, if_pos c]
          refine ok_pos (zI_inb (by omega) (by omega)) ?_
          rw [zI_nat (by omega), nI_1 p]
          have hf0 : zfx (fun r _ => r = 84) M.1 (ak_up M.1 84 p (nI k)) := zfx.rf.up rfl
          have hd2 : zDg 84 (p + 1) (zdo d p k) (ak_up M.1 84 p (nI k)) := by
            intro q hq
            unfold zdo
            by_cases e : q = p
            · rw [if_pos e, e]
              exact ⟨ak_up_same, by omega⟩
            · rw [if_neg e, ak_up_oth e]
              exact hd q (by omega)
          refine ok_then (ih (p + 1) kf (zdo d p k) B (ak_up M.1 84 p (nI k), M.2) (by omega) (by omega) (h.w84 (M' := (_, M.2)) hf0) hd2 (hS.fx hf0 (fun c a b => by omega))) (fun y5 h5 => ?_)
          obtain ⟨a1, a2, a3, a4, a5⟩ := h5
          have hd3 : zDg 84 p d y5.2.1 := by
            intro q hq
            have := a2 q (by omega)
            unfold zdo at this
            rw [if_neg (by omega)] at this
            exact this
          exact ok_mono (ihm (k + 1) fu _ y5.2 (by omega) (by omega) a1 hd3 a3) (fun y hy => ⟨hy.1, hy.2.1, hy.2.2.1, ((hf0.wk (fun r c z => Or.inl z)).tr a4).tr hy.2.2.2.1, hy.2.2.2.2.trans a5⟩)
        · rw [if_neg c, if_neg c]
          exact ihm (k + 1) fu B M (by omega) (by omega) h hd hS
    exact ok_then (loop 9 0 300 B M (by decide) (by decide) h hd hS) (fun y hy => ok_ret hy)
abbrev zBm : Nat → Nat → Prop := fun r c => (81 ≤ r ∧ r ≤ 84) ∨ (r = 73 ∧ 12 ≤ c ∧ c ≤ 33)
theorem bestM_ok {M : mm_M} (h : ShM M.1 v) (hB : zB v) (hT : zTMx v.ru T M.1) (a1 : Int32) : Ok (md_best a1 M) (fun y => y.1 = zbest T v a1 ∧ zfx zBm M.1 y.2.1) := by
  have hn := hB.n
  unfold md_best zbest
  have l1 : (1 : Int32) < a1 ↔ 1 < a1.toInt := by rw [i_lt, show (1 : Int32).toInt = 1 from rfl]
  simp only [in_eq, Option.bind_some, bI_if, Int32.toInt_toInt64, show (0 : Int64).toInt = 0 from rfl, show (3 : Int64).toInt = 3 from rfl]
  by_cases g : 0 ≤ a1.toInt ∧ a1.toInt ≤ 3
  · refine ok_pos g (ok_then (tablesM_ok h hB hT) (fun y3 h3 => ?_))
    obtain ⟨p1, p2, p3⟩ := h3
    have hf0 : zfx zSk y3.2.1 (ak_up y3.2.1 73 31 0) := zfx.rf.up (Or.inr ⟨rfl, by decide, by decide⟩)
    have h0 : zPM v T (ak_up y3.2.1 73 31 0, y3.2.2) := p1.sk (M' := (_, y3.2.2)) hf0
    have fl : ∀ {σ : Nat → Nat → Int32}, zfx zSk (ak_up y3.2.1 73 31 0) σ → zfx zBm M.1 σ := fun {σ} hx => (p2.wk (fun r c z => by
      have z2 : (81 ≤ r ∧ r ≤ 83) ∨ (r = 73 ∧ 12 ≤ c ∧ c ≤ 26) := z
      show (81 ≤ r ∧ r ≤ 84) ∨ (r = 73 ∧ 12 ≤ c ∧ c ≤ 33)
      omega)).tr ((hf0.tr hx).wk (fun r c z => by
      have z2 : r = 84 ∨ (r = 73 ∧ 31 ≤ c ∧ c ≤ 33) := z
      show (81 ≤ r ∧ r ≤ 84) ∨ (r = 73 ∧ 12 ≤ c ∧ c ≤ 33)
      omega))
    have run : ∀ fair : Bool, Ok (md_seeks (0 : Int32) (bI (fair = true)) (ak_up y3.2.1 73 31 (0 : Int32), y3.2.2)) (fun y => y.2.1 73 33 = zval T v fair (zbst T v fair) ∧ y.2.1 73 32 = nI (zdg (zbst T v fair) v.n) ∧ zfx zBm M.1 y.2.1) := by
      intro fair
      have := skM (T := T) hB fair v.n 0 8 zd0 none (ak_up y3.2.1 73 31 0, y3.2.2) (by omega) (by omega) h0 (fun q hq => by omega) ups1
      rw [zbst_M hB] at this
      exact ok_mono this (fun y hy => ⟨hy.2.2.1.2.1, hy.2.2.1.2.2, fl hy.2.2.2.1⟩)
    have md : ∀ k < 4, (nI k - nI k / (2 : Int32) * (2 : Int32) = 0 ↔ k % 2 = 0) := by decide
    obtain ⟨k, hk0, rfl, ek⟩ := zI_of (x := a1) g.1
    have mk := md k (by omega)
    rw [ek]
    by_cases c1 : 1 < k
    · refine ok_pos (l1.mpr (by omega)) (ok_then (run true) (fun y5 h5 => ?_))
      obtain ⟨r1, r2, r3⟩ := h5
      rw [if_neg (show ¬ (k : Int) = 0 by omega), if_neg (show ¬ (k : Int) = 1 by omega)]
      by_cases e : k = 2
      · rw [if_pos (show (k : Int) = 2 by omega)]
        exact ok_pos (mk.mpr (by omega)) (ok_ret ⟨r2, r3⟩)
      · rw [if_neg (show ¬ (k : Int) = 2 by omega), if_pos (show (k : Int) = 3 by omega)]
        exact ok_neg (fun z => by have := mk.mp z; omega) (ok_ret ⟨r1, r3⟩)
    · refine ok_neg (fun z => by have := l1.mp z; omega) (ok_then (run false) (fun y5 h5 => ?_))
      obtain ⟨r1, r2, r3⟩ := h5
      by_cases e : k = 0
      · rw [if_pos (show (k : Int) = 0 by omega)]
        exact ok_pos (mk.mpr (by omega)) (ok_ret ⟨r2, r3⟩)
      · rw [if_neg (show ¬ (k : Int) = 0 by omega), if_pos (show (k : Int) = 1 by omega)]
        exact ok_neg (fun z => by have := mk.mp z; omega) (ok_ret ⟨r1, r3⟩)
  · rw [if_neg (show ¬ a1.toInt = 0 by omega), if_neg (show ¬ a1.toInt = 1 by omega), if_neg (show ¬ a1.toInt = 2 by omega), if_neg (show ¬ a1.toInt = 3 by omega)]
    exact ok_neg g (ok_ret ⟨rfl, zfx.rf⟩)
end
