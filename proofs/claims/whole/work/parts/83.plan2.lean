/-! level 2: plan, bars -/
section
variable {v : zV} {T : zT3}
def zplan (T : zT3) (v : zV) (a1 : Int32) : Int32 := if a1.toInt = 0 then bI (zhd T v v.bl = true) else if a1.toInt = 1 then zsm T v v.bl else if a1.toInt = 2 then zfw v v.bl else if 10 ≤ a1.toInt ∧ a1.toInt ≤ 17 then nI (zaw v v.bl (a1.toInt.toNat - 10)) else -100000
theorem planC_ok {M : mm_M} (h : ShC 1 M.1 v) (hB : zB v) (hT : zTX (37 + 3 * v.ru) T M.1) (hG : zGT T) (a1 : Int32) : Ok (nb_plan a1 M) (fun y => y.1 = zplan T v a1 ∧ zfx zLk M.1 y.2.1) := by
  unfold nb_plan zplan
  have l10 : a1 < (10 : Int32) ↔ a1.toInt < 10 := by rw [i_lt, show (10 : Int32).toInt = 10 from rfl]
  have q : ∀ c : Nat, c < 100 → (a1 = nI c ↔ a1.toInt = c) := fun c hc => by rw [i_eq, zI_int (by omega)]
  have q0 : a1 = (0 : Int32) ↔ a1.toInt = 0 := q 0 (by decide)
  have q1 : a1 = (1 : Int32) ↔ a1.toInt = 1 := q 1 (by decide)
  have q2 : a1 = (2 : Int32) ↔ a1.toInt = 2 := q 2 (by decide)
  have look := lookC_ok (Or.inl rfl) h hB hT hG
  by_cases c0 : a1.toInt = 0
  · rw [if_pos c0]
    have e := q0.mpr c0
    refine ok_pos (l10.mpr (by omega)) (ok_pos e (ok_then look (fun y3 h3 => ok_pos e ?_)))
    obtain ⟨p1, p2, p3, p4⟩ := h3
    rw [holdsC_eq hB p1 p2]
    simp only [Option.bind_some, bI_if]
    by_cases g : zhd T v v.bl = true
    · rw [if_pos g]
      exact ok_ret ⟨(bI_t g).symm, p3⟩
    · rw [if_neg g]
      exact ok_ret ⟨(bI_f g).symm, p3⟩
  rw [if_neg c0]
  have n0 : ¬ a1 = (0 : Int32) := fun z => c0 (q0.mp z)
  by_cases c1 : a1.toInt = 1
  · rw [if_pos c1]
    have e := q1.mpr c1
    refine ok_pos (l10.mpr (by omega)) (ok_neg n0 (ok_pos e (ok_then look (fun y3 h3 => ok_neg n0 (ok_pos e ?_)))))
    obtain ⟨p1, p2, p3, p4⟩ := h3
    rw [allC_eq hB p1 p2]
    exact ok_ret ⟨rfl, p3⟩
  rw [if_neg c1]
  have n1 : ¬ a1 = (1 : Int32) := fun z => c1 (q1.mp z)
  by_cases c2 : a1.toInt = 2
  · rw [if_pos c2]
    have e := q2.mpr c2
    refine ok_pos (l10.mpr (by omega)) (ok_neg n0 (ok_neg n1 (ok_pos e (ok_then look (fun y3 h3 => ok_neg n0 (ok_neg n1 ?_))))))
    obtain ⟨p1, p2, p3, p4⟩ := h3
    rw [firstWrongC_eq hB p1 p2]
    exact ok_ret ⟨rfl, p3⟩
  rw [if_neg c2]
  have n2 : ¬ a1 = (2 : Int32) := fun z => c2 (q2.mp z)
  by_cases g : 10 ≤ a1.toInt ∧ a1.toInt ≤ 17
  · rw [if_pos g]
    have es : a1 - (10 : Int32) = nI (a1.toInt.toNat - 10) := zsub_i (c := 10) g.1
    refine ok_neg (fun z => by have := l10.mp z; omega) ?_
    rw [isWeekC_eq, bI_t (show 0 ≤ (a1 - (10 : Int32)).toInt ∧ (a1 - (10 : Int32)).toInt < 8 from by rw [es, zI_int (by omega)]; omega)]
    simp only [Option.bind_some]
    refine ok_neg (by decide) (ok_neg n0 (ok_neg n1 (ok_neg n2 (ok_then look (fun y3 h3 => ?_)))))
    obtain ⟨p1, p2, p3, p4⟩ := h3
    rw [es, awayInC_eq hB p1 p2 (by omega)]
    exact ok_ret ⟨rfl, p3⟩
  · rw [if_neg g]
    refine ok_ite (fun z => ok_neg n0 (ok_neg n1 (ok_neg n2 (ok_ret ⟨rfl, zfx.rf⟩)))) (fun z => ?_)
    have h10 : ¬ a1.toInt < 10 := fun w => z (l10.mpr w)
    rw [isWeekC_eq, bI_f (show ¬ (0 ≤ (a1 - (10 : Int32)).toInt ∧ (a1 - (10 : Int32)).toInt < 8) from zsub_o (c := 10) (by decide) g (by omega))]
    simp only [Option.bind_some]
    exact ok_pos True.intro (ok_neg n0 (ok_neg n1 (ok_neg n2 (ok_ret ⟨rfl, zfx.rf⟩))))
theorem zTb_a {σ σ' : Nat → Nat → Int32} (h : zfx zTa σ σ') : zfx zTb σ σ' := h.wk (fun r c z => by
  have z2 : (81 ≤ r ∧ r ≤ 83) ∨ (r = 73 ∧ 12 ≤ c ∧ c ≤ 26) := z
  show (81 ≤ r ∧ r ≤ 84) ∨ (r = 73 ∧ 12 ≤ c ∧ c ≤ 26)
  omega)
theorem zTb_84 {σ σ' : Nat → Nat → Int32} (h : zfx (fun r _ => r = 84) σ σ') : zfx zTb σ σ' := h.wk (fun r c z => by
  have z2 : r = 84 := z
  show (81 ≤ r ∧ r ≤ 84) ∨ (r = 73 ∧ 12 ≤ c ∧ c ≤ 26)
  omega)
/-- tables and what is booked, of the model -/
theorem lookM_ok {M : mm_M} (h : ShM M.1 v) (hB : zB v) (hT : zTMx v.ru T M.1) {β : Type} {f : Unit × mm_M → Option β} {P : β → Prop} (k : ∀ y : Unit × mm_M, zPM v T y.2 → zDg 84 v.n v.bl y.2.1 → zfx zTb M.1 y.2.1 → Ok (f y) P) : Ok ((md_tables M).bind fun y5 => (md_booked y5.2).bind fun y6 => f y6) P := by
  refine ok_then (tablesM_ok h hB hT) (fun y5 h5 => ?_)
  obtain ⟨a1, a2, a3⟩ := h5
  refine ok_then (bookedM_ok a1 hB) (fun y6 h6 => ?_)
  obtain ⟨b1, b2, b3, b4⟩ := h6
  exact k y6 b1 b2 ((zTb_a a2).tr (zTb_84 b3))
theorem planM_ok {M : mm_M} (h : ShM M.1 v) (hB : zB v) (hT : zTMx v.ru T M.1) (a1 : Int32) : Ok (md_plan a1 M) (fun y => y.1 = zplan T v a1 ∧ zfx zTb M.1 y.2.1) := by
  unfold md_plan zplan
  have q : ∀ c : Nat, c < 100 → (a1 = nI c ↔ a1.toInt = c) := fun c hc => by rw [i_eq, zI_int (by omega)]
  have q0 : a1 = (0 : Int32) ↔ a1.toInt = 0 := q 0 (by decide)
  have q1 : a1 = (1 : Int32) ↔ a1.toInt = 1 := q 1 (by decide)
  have q2 : a1 = (2 : Int32) ↔ a1.toInt = 2 := q 2 (by decide)
  simp only [in_eq, Option.bind_some, bI_if, Int32.toInt_toInt64, show (0 : Int64).toInt = 0 from rfl, show (2 : Int64).toInt = 2 from rfl, show (10 : Int64).toInt = 10 from rfl, show (17 : Int64).toInt = 17 from rfl]
  have hold : ∀ M' : mm_M, zPM v T M' → zDg 84 v.n v.bl M'.1 → zfx zTb M.1 M'.1 → Ok ((md_holds M').bind fun y18 => if y18.1 = (0 : Int32) then some ((0 : Int32), y18.2) else some ((1 : Int32), y18.2)) (fun y => y.1 = bI (zhd T v v.bl = true) ∧ zfx zTb M.1 y.2.1) := by
    intro M' p1 p2 p3
    rw [holdsM_eq hB p1 p2]
    simp only [Option.bind_some, bI_if]
    by_cases g : zhd T v v.bl = true
    · rw [if_pos g]
      exact ok_ret ⟨(bI_t g).symm, p3⟩
    · rw [if_neg g]
      exact ok_ret ⟨(bI_f g).symm, p3⟩
  by_cases lo : 0 ≤ a1.toInt ∧ a1.toInt ≤ 2
  · refine ok_pos lo (lookM_ok h hB hT (fun yy p1 p2 p3 => ?_))
    generalize yy.2 = M' at p1 p2 p3 ⊢
    by_cases c0 : a1.toInt = 0
    · rw [if_pos c0]
      exact ok_pos (q0.mpr c0) (hold M' p1 p2 p3)
    rw [if_neg c0]
    refine ok_neg (fun z => c0 (q0.mp z)) ?_
    by_cases c1 : a1.toInt = 1
    · rw [if_pos c1, allM_eq hB p1 p2]
      exact ok_pos (q1.mpr c1) (ok_ret ⟨rfl, p3⟩)
    rw [if_neg c1]
    refine ok_neg (fun z => c1 (q1.mp z)) ?_
    have c2 : a1.toInt = 2 := by omega
    rw [if_pos c2, firstWrongM_eq hB p1 p2]
    exact ok_pos (q2.mpr c2) (ok_ret ⟨rfl, p3⟩)
  · refine ok_neg lo ?_
    rw [if_neg (show ¬ a1.toInt = 0 by omega), if_neg (show ¬ a1.toInt = 1 by omega), if_neg (show ¬ a1.toInt = 2 by omega)]
    by_cases g : 10 ≤ a1.toInt ∧ a1.toInt ≤ 17
    · rw [if_pos g, if_pos g]
      refine lookM_ok h hB hT (fun yy p1 p2 p3 => ?_)
      generalize yy.2 = M' at p1 p2 p3 ⊢
      have es : a1 - (10 : Int32) = nI (a1.toInt.toNat - 10) := zsub_i (c := 10) g.1
      refine ok_neg (fun z => by have := q0.mp z; omega) (ok_neg (fun z => by have := q1.mp z; omega) (ok_neg (fun z => by have := q2.mp z; omega) ?_))
      rw [es, awayInM_eq hB p1 p2 (by omega)]
      exact ok_ret ⟨rfl, p3⟩
    · rw [if_neg g, if_neg g]
      exact ok_ret ⟨rfl, zfx.rf⟩
/-! who bars a week -/
/-- the first other one without whom the plan holds, -1 none -/
def zbar (T : zT3) (v : zV) (p : Nat) (d : Nat → Nat) : Nat → Nat → Int32
  | _, 0 => -1
  | k, j + 1 => if k = p then zbar T v p d (k + 1) j else if d k = 0 then zbar T v p d (k + 1) j else if zhd T v (zdo d k 0) = true then nI k else zbar T v p d (k + 1) j
def zbars (T : zT3) (v : zV) (a1 a2 : Int32) : Int32 := if (0 ≤ a1.toInt ∧ a1.toInt < v.n) ∧ 0 ≤ a2.toInt ∧ a2.toInt < 8 then (if zhd T v (zdo v.bl a1.toInt.toNat (a2.toInt.toNat + 1)) = true then -1 else zbar T v a1.toInt.toNat (zdo v.bl a1.toInt.toNat (a2.toInt.toNat + 1)) 0 v.n) else -2
theorem zDg.up {r n : Nat} {d : Nat → Nat} {σ : Nat → Nat → Int32} (h : zDg r n d σ) {p k : Nat} (hk : k ≤ 8) : zDg r n (zdo d p k) (ak_up σ r p (nI k)) := by
  intro q hq
  unfold zdo
  by_cases e : q = p
  · rw [if_pos e, e]
    exact ⟨ak_up_same, hk⟩
  · rw [if_neg e, ak_up_oth e]
    exact h q hq
theorem zDg.fx {r n : Nat} {d : Nat → Nat} {σ σ' : Nat → Nat → Int32} (h : zDg r n d σ) {P : Nat → Nat → Prop} (hf : zfx P σ σ') (hp : ∀ c, ¬ P r c) : zDg r n d σ' := fun q hq => ⟨(hf _ _ (hp q)).trans (h q hq).1, (h q hq).2⟩
abbrev z61 : Nat → Nat → Prop := fun r _ => r = 61
theorem zPC.w61 {b : Nat} {M M' : mm_M} (h : zPC b v T M) (hf : zfx z61 M.1 M'.1) (h2 : M'.2.1 = M.2.1) : zPC b v T M' := h.fx hf h2 (fun r c a d z => by have z2 : r = 61 := z; have := h.2.1; omega) (fun r c a d z => by have z2 : r = 61 := z; omega)
theorem up_back {σ : Nat → Nat → Int32} {r p : Nat} {x y : Int32} (h : σ r p = y) : ak_up (ak_up σ r p x) r p y = σ := by rw [up_up, up_self h]
theorem barC_l {b p : Nat} (hB : zB v) (hp : p < v.n) {d : Nat → Nat} : ∀ j k m (M : mm_M), k + j = v.n → j < m → zPC b v T M → zDg 61 v.n d M.1 → Ok (pl_barring_l40 m (nI p) (nI k) M) (fun y => match y with
  | .inl r => r.1 = zbar T v p d k j ∧ zbar T v p d k j ≠ -1 ∧ r.2 = M
  | .inr r => zbar T v p d k j = -1 ∧ r.2 = M) := by
  have hn := hB.n
  intro j
  induction j with
  | zero =>
    intro k m M hk hm h hd
    obtain ⟨m, rfl, -⟩ := z_suc hm
    rw [pl_barring_l40]
    refine ok_pos h.is8 ?_
    rw [h.n]
    exact ok_neg (nI_nlt (by omega) (by omega)) (ok_ret ⟨rfl, rfl⟩)
  | succ j ih =>
    intro k m M hk hm h hd
    obtain ⟨m, rfl, hm2⟩ := z_suc hm
    have hk4 : k < v.n := by omega
    have g4 : ak_inb (nI k) 4 = true := zI_inb (by omega) (by omega)
    rw [pl_barring_l40, nI_1]
    refine ok_pos h.is8 ?_
    rw [h.n]
    refine ok_pos (nI_lt hk4 (by omega)) ?_
    have ez : zbar T v p d k (j + 1) = if k = p then zbar T v p d (k + 1) j else if d k = 0 then zbar T v p d (k + 1) j else if zhd T v (zdo d k 0) = true then nI k else zbar T v p d (k + 1) j := rfl
    rw [ez]
    by_cases e : k = p
    · rw [if_pos e]
      exact ok_pos (by rw [e]) (ih (k + 1) m M (by omega) (by omega) h hd)
    rw [if_neg e]
    refine ok_neg (fun z => e ((nI_eq (by omega) (by omega)).mp z)) (ok_pos g4 ?_)
    rw [zI_nat (by omega), (hd k hk4).1]
    have hd8 := (hd k hk4).2
    by_cases c : d k = 0
    · rw [if_pos c]
      exact ok_pos (by rw [c]; rfl) (ih (k + 1) m M (by omega) (by omega) h hd)
    rw [if_neg c]
    refine ok_neg (fun z => c ((z_eq0 (by omega)).mp z)) ?_
    unfold pl_holdsWithout
    refine ok_bind (ok_pos g4 (ok_pos g4 ?_))
    rw [zI_nat (by omega)]
    have hf : zfx z61 M.1 (ak_up M.1 61 k 0) := zfx.rf.up rfl
    have hd2 : zDg 61 v.n (zdo d k 0) (ak_up M.1 61 k 0) := hd.up (k := 0) (by decide)
    rw [holdsC_eq (M := (ak_up M.1 61 k 0, M.2)) hB (h.w61 (M' := (_, M.2)) hf rfl) hd2]
    simp only [Option.bind_some]
    refine ok_pos g4 (ok_pos (bI_01.mpr trivial) (ok_ret ?_))
    rw [up_back (show M.1 61 k = M.1 61 k from rfl), bI_if]
    by_cases g : zhd T v (zdo d k 0) = true
    · rw [if_pos g, if_pos g]
      have : ∀ k < 4, nI k ≠ (-1 : Int32) := by decide
      exact ok_ret ⟨rfl, this k (by omega), rfl⟩
    · rw [if_neg g, if_neg g]
      exact ih (k + 1) m M (by omega) (by omega) h hd
theorem barsC_ok {M : mm_M} (h : ShC 1 M.1 v) (hB : zB v) (hT : zTX (37 + 3 * v.ru) T M.1) (hG : zGT T) (a1 a2 : Int32) : Ok (nb_bars a1 a2 M) (fun y => y.1 = zbars T v a1 a2 ∧ zfx zLk M.1 y.2.1) := by
  have hn := hB.n
  unfold nb_bars zbars
  rw [isOneC_eq h hB]
  simp only [Option.bind_some, bI_if]
  by_cases o : 0 ≤ a1.toInt ∧ a1.toInt < v.n
  · rw [if_pos o, isWeekC_eq]
    simp only [Option.bind_some, bI_if]
    by_cases w : 0 ≤ a2.toInt ∧ a2.toInt < 8
    · rw [if_pos w, if_pos ⟨o, w⟩]
      obtain ⟨p, hp0, rfl, ep⟩ := zI_of (x := a1) o.1
      obtain ⟨u, hu0, rfl, eu⟩ := zI_of (x := a2) w.1
      have hp : p < v.n := by omega
      have hu : u < 8 := by omega
      have epn : (nI p).toInt.toNat = p := by omega
      have eun : (nI u).toInt.toNat = u := by omega
      rw [epn, eun]
      refine ok_then (lookC_ok (Or.inl rfl) h hB hT hG) (fun y3 h3 => ?_)
      obtain ⟨p1, p2, p3, p4⟩ := h3
      unfold pl_barring
      refine ok_bind (ok_pos p1.is8 ?_)
      rw [p1.1, isOneC_eq p1.2.2.1 hB, bI_t o]
      simp only [Option.bind_some]
      refine ok_neg (by decide) ?_
      rw [isWeekC_eq, bI_t w]
      simp only [Option.bind_some]
      refine ok_neg (by decide) (ok_pos (zI_inb (by omega) (by omega)) ?_)
      rw [zI_nat (by omega), nI_1]
      have hf : zfx z61 y3.2.1 (ak_up y3.2.1 61 p (nI (u + 1))) := zfx.rf.up rfl
      have hd2 : zDg 61 v.n (zdo v.bl p (u + 1)) (ak_up y3.2.1 61 p (nI (u + 1))) := p2.up (by omega)
      have hP2 : zPC 1 v T (ak_up y3.2.1 61 p (nI (u + 1)), y3.2.2) := p1.w61 (M' := (_, y3.2.2)) hf rfl
      have ff : zfx zLk M.1 (ak_up y3.2.1 61 p (nI (u + 1))) := p3.tr (hf.wk (fun r c z => by have z2 : r = 61 := z; omega))
      rw [holdsC_eq hB hP2 hd2]
      simp only [Option.bind_some, bI_if]
      by_cases g : zhd T v (zdo v.bl p (u + 1)) = true
      · rw [if_pos g, if_pos g]
        exact ok_ret (ok_ret ⟨rfl, ff⟩)
      · rw [if_neg g, if_neg g]
        refine ok_then (barC_l hB hp v.n 0 300 _ (by omega) (by omega) hP2 hd2) (fun y hy => ?_)
        match y, hy with
        | .inl r, hy => exact ok_ret (ok_ret ⟨hy.1, by rw [hy.2.2]; exact ff⟩)
        | .inr r, hy => exact ok_ret (ok_ret ⟨hy.1.symm, by rw [hy.2]; exact ff⟩)
    · rw [if_neg w, if_neg (fun z => w z.2)]
      exact ok_ret ⟨rfl, zfx.rf⟩
  · rw [if_neg o, if_neg (fun z => o z.1)]
    exact ok_ret ⟨rfl, zfx.rf⟩
theorem barM_l {p : Nat} (hB : zB v) (hp : p < v.n) {d : Nat → Nat} : ∀ j k m (M : mm_M), k + j = v.n → j < m → zPM v T M → zDg 84 v.n d M.1 → Ok (md_bars_l46 m (nI p) (nI k) M) (fun y => match y with
  | .inl r => r.1 = zbar T v p d k j ∧ zbar T v p d k j ≠ -1 ∧ r.2 = M
  | .inr r => zbar T v p d k j = -1 ∧ r.2 = M) := by
  have hn := hB.n
  intro j
  induction j with
  | zero =>
    intro k m M hk hm h hd
    obtain ⟨m, rfl, -⟩ := z_suc hm
    rw [md_bars_l46, h.1.n]
    exact ok_neg (nI_nlt (by omega) (by omega)) (ok_ret ⟨rfl, rfl⟩)
  | succ j ih =>
    intro k m M hk hm h hd
    obtain ⟨m, rfl, hm2⟩ := z_suc hm
    have hk4 : k < v.n := by omega
    have g4 : ak_inb (nI k) 4 = true := zI_inb (by omega) (by omega)
    rw [md_bars_l46, nI_1, h.1.n]
    refine ok_pos (nI_lt hk4 (by omega)) ?_
    have ez : zbar T v p d k (j + 1) = if k = p then zbar T v p d (k + 1) j else if d k = 0 then zbar T v p d (k + 1) j else if zhd T v (zdo d k 0) = true then nI k else zbar T v p d (k + 1) j := rfl
    rw [ez]
    by_cases e : k = p
    · rw [if_pos e]
      exact ok_pos (by rw [e]) (ih (k + 1) m M (by omega) (by omega) h hd)
    rw [if_neg e]
    refine ok_neg (fun z => e ((nI_eq (by omega) (by omega)).mp z)) (ok_pos g4 ?_)
    rw [zI_nat (by omega)]
    have hd1 := (hd k hk4).1
    have hd8 := (hd k hk4).2
    by_cases c : d k = 0
    · rw [if_pos c]
      exact ok_pos (by rw [hd1, c]; rfl) (ih (k + 1) m M (by omega) (by omega) h hd)
    rw [if_neg c]
    refine ok_neg (fun z => c ((z_eq0 (by omega)).mp (hd1.symm.trans z))) (ok_pos g4 (ok_pos g4 ?_))
    have hf : zfx (fun r _ => r = 84) M.1 (ak_up M.1 84 k 0) := zfx.rf.up rfl
    have hd2 : zDg 84 v.n (zdo d k 0) (ak_up M.1 84 k 0) := hd.up (k := 0) (by decide)
    rw [holdsM_eq (M := (ak_up M.1 84 k 0, M.2)) hB (h.w84 (M' := (_, M.2)) hf) hd2]
    simp only [Option.bind_some]
    refine ok_pos g4 ?_
    rw [up_back (show M.1 84 k = M.1 84 k from rfl), bI_if]
    by_cases g : zhd T v (zdo d k 0) = true
    · rw [if_pos g, if_pos g]
      have : ∀ k < 4, nI k ≠ (-1 : Int32) := by decide
      exact ok_ret ⟨rfl, this k (by omega), rfl⟩
    · rw [if_neg g, if_neg g]
      exact ih (k + 1) m M (by omega) (by omega) h hd
theorem barsM_ok {M : mm_M} (h : ShM M.1 v) (hB : zB v) (hT : zTMx v.ru T M.1) (a1 a2 : Int32) : Ok (md_bars a1 a2 M) (fun y => y.1 = zbars T v a1 a2 ∧ zfx zTb M.1 y.2.1) := by
  have hn := hB.n
  unfold md_bars zbars
  rw [isOneM_eq h hB]
  simp only [Option.bind_some, bI_if]
  by_cases o : 0 ≤ a1.toInt ∧ a1.toInt < v.n
  · rw [if_pos o, isWeekM_eq]
    simp only [Option.bind_some, bI_if]
    by_cases w : 0 ≤ a2.toInt ∧ a2.toInt < 8
    · rw [if_pos w, if_pos ⟨o, w⟩]
      obtain ⟨p, hp0, rfl, ep⟩ := zI_of (x := a1) o.1
      obtain ⟨u, hu0, rfl, eu⟩ := zI_of (x := a2) w.1
      have hp : p < v.n := by omega
      have hu : u < 8 := by omega
      have epn : (nI p).toInt.toNat = p := by omega
      have eun : (nI u).toInt.toNat = u := by omega
      rw [epn, eun]
      refine lookM_ok h hB hT (fun yy p1 p2 p3 => ?_)
      generalize yy.2 = M' at p1 p2 p3 ⊢
      refine ok_pos (zI_inb (by omega) (by omega)) ?_
      rw [zI_nat (by omega), nI_1]
      have hf : zfx (fun r _ => r = 84) M'.1 (ak_up M'.1 84 p (nI (u + 1))) := zfx.rf.up rfl
      have hd2 : zDg 84 v.n (zdo v.bl p (u + 1)) (ak_up M'.1 84 p (nI (u + 1))) := p2.up (by omega)
      have hP2 : zPM v T (ak_up M'.1 84 p (nI (u + 1)), M'.2) := p1.w84 (M' := (_, M'.2)) hf
      have ff : zfx zTb M.1 (ak_up M'.1 84 p (nI (u + 1))) := p3.tr (zTb_84 hf)
      rw [holdsM_eq hB hP2 hd2]
      simp only [Option.bind_some, bI_if]
      by_cases g : zhd T v (zdo v.bl p (u + 1)) = true
      · rw [if_pos g, if_pos g]
        exact ok_ret ⟨rfl, ff⟩
      · rw [if_neg g, if_neg g]
        refine ok_then (barM_l hB hp v.n 0 300 _ (by omega) (by omega) hP2 hd2) (fun y hy => ?_)
        match y, hy with
        | .inl r, hy => exact ok_ret ⟨hy.1, by rw [hy.2.2]; exact ff⟩
        | .inr r, hy => exact ok_ret ⟨hy.1.symm, by rw [hy.2]; exact ff⟩
    · rw [if_neg w, if_neg (fun z => w z.2)]
      exact ok_ret ⟨rfl, zfx.rf⟩
  · rw [if_neg o, if_neg (fun z => o z.1)]
    exact ok_ret ⟨rfl, zfx.rf⟩
end
