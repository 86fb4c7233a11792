/-! level 2: film, clerks -/
theorem StC.fx {σ σ' : Nat → Nat → Int32} {z : zT} (h : StC σ z) {P : Nat → Nat → Prop} (hf : zfx P σ σ') (hp : ∀ r c, 65 ≤ r → r ≤ 72 → ¬ P r c) : StC σ' z := by
  intro s hs
  obtain ⟨a1, a2, a3⟩ := h s hs
  exact ⟨(hf _ _ (hp _ _ (by omega) (by omega))).trans a1, a2, fun w => ⟨(hf _ _ (hp _ _ (by omega) (by omega))).trans (a3 w).1, (a3 w).2.1, fun i hi => (hf _ _ (hp _ _ (by omega) (by omega))).trans ((a3 w).2.2 i hi)⟩⟩
theorem StM.fx {σ σ' : Nat → Nat → Int32} {z : zT} (h : StM σ z) {P : Nat → Nat → Prop} (hf : zfx P σ σ') (hp : ∀ r c, 89 ≤ r → r ≤ 92 → ¬ P r c) : StM σ' z := by
  intro s hs
  obtain ⟨a1, a2, a3⟩ := h s hs
  exact ⟨(hf _ _ (hp _ _ (by omega) (by omega))).trans a1, a2, fun w => ⟨(hf _ _ (hp _ _ (by omega) (by omega))).trans (a3 w).1, (hf _ _ (hp _ _ (by omega) (by omega))).trans (a3 w).2.1, (a3 w).2.2.1, fun i hi => (hf _ _ (hp _ _ (by omega) (by omega))).trans ((a3 w).2.2.2 i hi)⟩⟩
theorem Fr.x {p : Nat → Bool} {a b : Nat → Nat → Int32} (h : Fr p a b) : zfx (fun r _ => p r = true) a b := by
  intro r c hr
  rw [h r (by
    cases e : p r
    · rfl
    · exact absurd e hr)]
section
variable {v : zV} {T : zT3}
theorem zkeep_g {x : Int32} (h1 : -300 ≤ x.toInt) (h2 : x.toInt ≤ 300) : zkeep 2 x = x := by
  have h : ∀ k < 601, (nI k - 300).toInt16.toInt32 = nI k - 300 := by decide +kernel
  have g : ∀ k < 601, (nI k - 300).toInt = (k : Int) - 300 := by decide +kernel
  have e : x = nI (x.toInt + 300).toNat - 300 := by
    rw [i_eq, g _ (by omega)]
    omega
  show x.toInt16.toInt32 = x
  rw [e]
  exact h _ (by omega)
/-- what a film lays -/
def zfm (T : zT3) (v : zV) (p s : Nat) (z : zT) : Nat → zT
  | 0 => z
  | k + 1 => zitem (zfm T v p s z k) s k (zgl T v p k)
theorem zfm_z (p s : Nat) (z : zT) : ∀ k, (zfm T v p s z k).1 = z.1 ∧ (zfm T v p s z k).2.1 = z.2.1 := by
  intro k
  induction k with
  | zero => exact ⟨rfl, rfl⟩
  | succ k ih => exact ih
def zfilm (T : zT3) (v : zV) (z : zT) (a1 a2 : Int32) : Int32 × zT := if (0 ≤ a1.toInt ∧ a1.toInt < 4) ∧ 0 ≤ a2.toInt ∧ a2.toInt < v.n then (8, zfm T v a2.toInt.toNat a1.toInt.toNat (zlay z a1.toInt.toNat 2 8) 8) else (-2, z)
abbrev zFi : Nat → Nat → Prop := fun r _ => r = 35 ∨ r = 36 ∨ (65 ≤ r ∧ r ≤ 72)
theorem z65x {σ σ' : Nat → Nat → Int32} (h : Fr z65 σ σ') : zfx zFi σ σ' := h.x.wk (fun r c w => by
  unfold z65 at w
  simp only [Bool.and_eq_true, decide_eq_true_eq] at w
  exact Or.inr (Or.inr w))
theorem filmC_l {p s : Nat} {z : zT} (hB : zB v) (hG : zGT T) (hp : p < v.n) (hs : s < 4) (hz : z.1 s = 2) (hn : z.2.1 s = 8) : ∀ j k m (M : mm_M), k + j = 8 → j < m → ShC 1 M.1 v → zTX (37 + 3 * v.ru) T M.1 → StC M.1 (zfm T v p s z k) → Ok (nb_film_l38 m (nI p) (65 + 2 * s) (nI k) M) (fun y => StC y.2.1 (zfm T v p s z 8) ∧ zfx zFi M.1 y.2.1 ∧ y.2.2 = M.2) := by
  have hru := hB.ru
  intro j
  induction j with
  | zero =>
    intro k m M hk hm h hT hS
    obtain ⟨m, rfl, -⟩ := z_suc hm
    obtain rfl : k = 8 := by omega
    rw [nb_film_l38]
    exact ok_neg (by decide) (ok_ret ⟨hS, zfx.rf, rfl⟩)
  | succ j ih =>
    intro k m M hk hm h hT hS
    obtain ⟨m, rfl, hm2⟩ := z_suc hm
    rw [nb_film_l38, nI_1]
    refine ok_pos (nI_lt (b := 8) (by omega) (by decide)) (ok_then (gladC_ok (Or.inl rfl) h hB hT hG hp (w := k) (by omega)) (fun y2 h2 => ?_))
    obtain ⟨a1, a2, a3⟩ := h2
    have hS2 : StC y2.2.1 (zfm T v p s z k) := hS.fx a2 (fun r c a b w => by have w2 : r = 35 ∨ r = 36 := w; omega)
    obtain ⟨e1, e2⟩ := zfm_z (T := T) (v := v) p s z k
    have hb := zgl_b (T := T) hB hp (w := k) (by omega)
    rw [a1, put_C hS2 hs (by rw [e1, hz]; decide) (by rw [e2, hn]; omega), e1, hz, zkeep_g hb.1 hb.2]
    simp only [Option.bind_some]
    have hf : zfx zFi M.1 (ak_up y2.2.1 (65 + 2 * s + 1) k (zgl T v p k)) := (a2.wk (fun r c w => by
      have w2 : r = 35 ∨ r = 36 := w
      show r = 35 ∨ r = 36 ∨ (65 ≤ r ∧ r ≤ 72)
      omega)).up (by
      show 65 + 2 * s + 1 = 35 ∨ 65 + 2 * s + 1 = 36 ∨ (65 ≤ 65 + 2 * s + 1 ∧ 65 + 2 * s + 1 ≤ 72)
      omega)
    have nF : ∀ r c : Nat, zFi r c → r = 35 ∨ r = 36 ∨ (65 ≤ r ∧ r ≤ 72) := fun r c w => w
    exact ok_mono (ih (k + 1) m (_, y2.2.2) (by omega) (by omega) (h.fx hf (fun r c a b w => by have := nF r c w; omega)) (hT.fx hf (fun r c a b w => by have := nF r c w; omega)) (StC_item hS2 hs)) (fun y hy => ⟨hy.1, hf.tr hy.2.1, hy.2.2.trans a3⟩)
theorem filmC_ok {M : mm_M} {z : zT} (h : ShC 1 M.1 v) (hB : zB v) (hT : zTX (37 + 3 * v.ru) T M.1) (hG : zGT T) (hS : StC M.1 z) (a1 a2 : Int32) : Ok (nb_film a1 a2 M) (fun y => y.1 = (zfilm T v z a1 a2).1 ∧ StC y.2.1 (zfilm T v z a1 a2).2 ∧ zfx zFi M.1 y.2.1 ∧ y.2.2 = M.2) := by
  have hn := hB.n
  have hru := hB.ru
  unfold nb_film zfilm
  rw [isSheetC_eq]
  simp only [Option.bind_some, bI_if]
  have bad : ∀ (c : ¬ ((0 ≤ a1.toInt ∧ a1.toInt < 4) ∧ 0 ≤ a2.toInt ∧ a2.toInt < v.n)), Ok (some ((-2 : Int32), M)) (fun y => y.1 = (if (0 ≤ a1.toInt ∧ a1.toInt < 4) ∧ 0 ≤ a2.toInt ∧ a2.toInt < v.n then ((8 : Int32), zfm T v a2.toInt.toNat a1.toInt.toNat (zlay z a1.toInt.toNat 2 8) 8) else (-2, z)).1 ∧ StC y.2.1 (if (0 ≤ a1.toInt ∧ a1.toInt < 4) ∧ 0 ≤ a2.toInt ∧ a2.toInt < v.n then ((8 : Int32), zfm T v a2.toInt.toNat a1.toInt.toNat (zlay z a1.toInt.toNat 2 8) 8) else (-2, z)).2 ∧ zfx zFi M.1 y.2.1 ∧ y.2.2 = M.2) := by
    intro c
    rw [if_neg c]
    exact ok_ret ⟨rfl, hS, zfx.rf, rfl⟩
  by_cases g : 0 ≤ a1.toInt ∧ a1.toInt < 4
  · rw [if_pos g, isOneC_eq h hB]
    simp only [Option.bind_some, bI_if]
    by_cases o : 0 ≤ a2.toInt ∧ a2.toInt < v.n
    · rw [if_pos o, if_pos (show (0 ≤ a1.toInt ∧ a1.toInt < 4) ∧ 0 ≤ a2.toInt ∧ a2.toInt < v.n from ⟨g, o⟩)]
      obtain ⟨s, hs0, rfl, es⟩ := zI_of (x := a1) g.1
      obtain ⟨p, hp0, rfl, ep⟩ := zI_of (x := a2) o.1
      have esn : (nI s).toInt.toNat = s := by omega
      have epn : (nI p).toInt.toNat = p := by omega
      have hs : s < 4 := by omega
      have hp : p < v.n := by omega
      rw [esn, epn]
      refine ok_pos (zI_inb (by omega) hs) ?_
      rw [zI_nat (by omega)]
      obtain ⟨M', e1, e2, e3, e4⟩ := lay_C hS (s := s) (so := 2) (n := 8) hs (by decide) (by decide)
      have e1' : st_lay (65 + 2 * s) (1 : Int32) (8 : Int32) M = some ((), M') := e1
      rw [e1']
      simp only [Option.bind_some]
      have fx := z65x e3
      have nF : ∀ r c : Nat, zFi r c → r = 35 ∨ r = 36 ∨ (65 ≤ r ∧ r ≤ 72) := fun r c w => w
      refine ok_then (filmC_l (z := zlay z s 2 8) hB hG hp hs (by show (if s = s then 2 else _) = 2; rw [if_pos rfl]) (by show (if s = s then 8 else _) = 8; rw [if_pos rfl]) 8 0 300 M' (by decide) (by decide) (h.fx fx (fun r c a b w => by have := nF r c w; omega)) (hT.fx fx (fun r c a b w => by have := nF r c w; omega)) e2) (fun y hy => ok_ret ⟨rfl, hy.1, fx.tr hy.2.1, hy.2.2.trans e4⟩)
    · rw [if_neg o]
      exact bad (fun w => o w.2)
  · rw [if_neg g]
    exact bad (fun w => g w.1)
abbrev zFm : Nat → Nat → Prop := fun r c => (89 ≤ r ∧ r ≤ 92) ∨ (r = 73 ∧ 12 ≤ c ∧ c ≤ 26)
theorem filmM_l {p s : Nat} {z : zT} (hB : zB v) (hp : p < v.n) (hs : s < 4) : ∀ j k m (M : mm_M), k + j = 8 → j < m → ShM M.1 v → zTMx v.ru T M.1 → StM M.1 (zfm T v p s z k) → Ok (md_film_l29 m (nI s) (nI p) (nI k) M) (fun y => StM y.2.1 (zfm T v p s z 8) ∧ zfx zFm M.1 y.2.1) := by
  have hru := hB.ru
  intro j
  induction j with
  | zero =>
    intro k m M hk hm h hT hS
    obtain ⟨m, rfl, -⟩ := z_suc hm
    obtain rfl : k = 8 := by omega
    rw [md_film_l29]
    exact ok_neg (by decide) (ok_ret ⟨hS, zfx.rf⟩)
  | succ j ih =>
    intro k m M hk hm h hT hS
    obtain ⟨m, rfl, hm2⟩ := z_suc hm
    rw [md_film_l29, nI_1, z40]
    refine ok_pos (nI_lt (b := 8) (by omega) (by decide)) (ok_then (gladM_ok h hB hT hp (w := k) (by omega)) (fun y2 h2 => ?_))
    obtain ⟨a1, a2, a3⟩ := h2
    refine ok_pos (zI_inb (by omega) (by omega)) ?_
    rw [zI_nat (by omega), a1]
    have hS2 : StM y2.2.1 (zfm T v p s z k) := hS.fx a2 (fun r c a b w => by have w2 : r = 73 ∧ 12 ≤ c ∧ c ≤ 26 := w; omega)
    have hf : zfx zFm M.1 (ak_up y2.2.1 92 (40 * s + k) (zgl T v p k)) := (a2.wk (fun r c w => Or.inr w)).up (Or.inl (by decide))
    have nF : ∀ r c : Nat, zFm r c → (89 ≤ r ∧ r ≤ 92) ∨ (r = 73 ∧ 12 ≤ c ∧ c ≤ 26) := fun r c w => w
    exact ok_mono (ih (k + 1) m (_, y2.2.2) (by omega) (by omega) (h.fx hf (fun w => by have := nF _ _ w; omega) (fun w => by have := nF _ _ w; omega) (fun r c a b w => by have := nF r c w; omega)) (hT.fx hf (fun r c a b w => by have := nF r c w; omega)) (StM_item hS2 hs (by omega))) (fun y hy => ⟨hy.1, hf.tr hy.2⟩)
theorem filmM_ok {M : mm_M} {z : zT} (h : ShM M.1 v) (hB : zB v) (hT : zTMx v.ru T M.1) (hS : StM M.1 z) (a1 a2 : Int32) : Ok (md_film a1 a2 M) (fun y => y.1 = (zfilm T v z a1 a2).1 ∧ StM y.2.1 (zfilm T v z a1 a2).2 ∧ zfx zFm M.1 y.2.1) := by
  have hn := hB.n
  have hru := hB.ru
  unfold md_film zfilm
  rw [isSheetM_eq]
  simp only [Option.bind_some, bI_if]
  by_cases g : 0 ≤ a1.toInt ∧ a1.toInt < 4
  · rw [if_pos g, isOneM_eq h hB]
    simp only [Option.bind_some, bI_if]
    by_cases o : 0 ≤ a2.toInt ∧ a2.toInt < v.n
    · rw [if_pos o, if_pos (show (0 ≤ a1.toInt ∧ a1.toInt < 4) ∧ 0 ≤ a2.toInt ∧ a2.toInt < v.n from ⟨g, o⟩)]
      obtain ⟨s, hs0, rfl, es⟩ := zI_of (x := a1) g.1
      obtain ⟨p, hp0, rfl, ep⟩ := zI_of (x := a2) o.1
      have esn : (nI s).toInt.toNat = s := by omega
      have epn : (nI p).toInt.toNat = p := by omega
      have hs : s < 4 := by omega
      have hp : p < v.n := by omega
      rw [esn, epn]
      have k2 : zshk (nI s) 1 8 = 2 := by
        unfold zshk
        rw [if_neg (fun w => w g), if_neg (by decide), if_neg (by decide), if_neg (by decide), if_neg (by decide)]
      refine ok_then (sheet_M hS (nI s) 1 8) (fun y5 h5 => ?_)
      obtain ⟨-, -, h5, f5, m5⟩ := h5
      obtain ⟨-, hS2⟩ := h5 k2
      have el : zshl z (nI s) 1 8 = zlay z s 2 8 := by
        unfold zshl
        rw [if_neg (by decide), esn]
        rfl
      rw [el] at hS2
      have fx : zfx zFm M.1 y5.2.1 := f5.x.wk (fun r c w => by
        unfold z89 at w
        simp only [Bool.and_eq_true, decide_eq_true_eq] at w
        exact Or.inl w)
      have nF : ∀ r c : Nat, zFm r c → (89 ≤ r ∧ r ≤ 92) ∨ (r = 73 ∧ 12 ≤ c ∧ c ≤ 26) := fun r c w => w
      exact ok_then (filmM_l (z := zlay z s 2 8) hB hp hs 8 0 300 y5.2 (by decide) (by decide) (h.fx fx (fun w => by have := nF _ _ w; omega) (fun w => by have := nF _ _ w; omega) (fun r c a b w => by have := nF r c w; omega)) (hT.fx fx (fun r c a b w => by have := nF r c w; omega)) hS2) (fun y hy => ok_ret ⟨rfl, hy.1, fx.tr hy.2⟩)
    · rw [if_neg o, if_neg (fun w => o w.2)]
      exact ok_ret ⟨rfl, hS, zfx.rf⟩
  · rw [if_neg g, if_neg (fun w => g w.1)]
    exact ok_ret ⟨rfl, hS, zfx.rf⟩
/-! clerks -/
def zck1 (v : zV) (a b c : Int32) : Bool × zV := if (0 ≤ a.toInt ∧ a.toInt ≤ 5) ∧ (0 ≤ b.toInt ∧ b.toInt ≤ 9) ∧ 1 ≤ c.toInt ∧ c.toInt ≤ 4 then (decide (v.n < 4), (zclerk v a b c).2) else (false, v)
def zcks (z : zT) (s : Nat) (x : Int32) : Nat → Nat → Nat → zV → Int32 × zV
  | 0, _, c, v => (nI c, v)
  | j + 1, k, c, v => if 0 ≤ x.toInt ∧ x.toInt + 3 * k + 3 ≤ z.2.1 s then zcks z s x j (k + 1) (if (zck1 v (z.2.2 s (x.toInt.toNat + 3 * k)) (z.2.2 s (x.toInt.toNat + 3 * k + 1)) (z.2.2 s (x.toInt.toNat + 3 * k + 2))).1 = true then c + 1 else c) (zck1 v (z.2.2 s (x.toInt.toNat + 3 * k)) (z.2.2 s (x.toInt.toNat + 3 * k + 1)) (z.2.2 s (x.toInt.toNat + 3 * k + 2))).2 else (-12, v)
def zclks (v : zV) (z : zT) (a1 a2 a3 a4 : Int32) : Int32 × zV := if (0 ≤ a1.toInt ∧ a1.toInt < 4) ∧ (0 ≤ a2.toInt ∧ a2.toInt ≤ 2) ∧ 0 ≤ a4.toInt ∧ a4.toInt ≤ 4 then (if z.1 a1.toInt.toNat = 0 then (-11, v) else if z.1 a1.toInt.toNat = a2.toInt.toNat + 1 then zcks z a1.toInt.toNat a3 a4.toInt.toNat 0 0 v else (-13, v)) else (-2, v)
theorem zck1_B (hB : zB v) (a b c : Int32) : zB (zck1 v a b c).2 := by
  unfold zck1
  split
  · rename_i h
    unfold zclerk
    split
    · exact zjoin_B hB (by assumption) (by omega) (by omega) (by omega)
    · exact hB
  · exact hB
theorem zcks_B {z : zT} {s : Nat} {x : Int32} : ∀ j k c (v : zV), zB v → zB (zcks z s x j k c v).2 := by
  intro j
  induction j with
  | zero => intro k c v h; exact h
  | succ j ih =>
    intro k c v h
    rw [zcks]
    split
    · exact ih _ _ _ (zck1_B h _ _ _)
    · exact h
theorem zclks_B (hB : zB v) (z : zT) (a1 a2 a3 a4 : Int32) : zB (zclks v z a1 a2 a3 a4).2 := by
  unfold zclks
  split
  · split
    · exact hB
    · split
      · exact zcks_B _ _ _ _ hB
      · exact hB
  · exact hB
theorem ck1_ans {y1 : Int32} {a b c : Int32} (h1 : zcok a b c → y1 = (zclerk v a b c).1) (h2 : ¬ zcok a b c → y1 = -2) (hB : zB v) : y1 < 0 ↔ (zck1 v a b c).1 = false := by
  have hn := hB.n
  unfold zck1
  by_cases o : (0 ≤ a.toInt ∧ a.toInt ≤ 5) ∧ (0 ≤ b.toInt ∧ b.toInt ≤ 9) ∧ 1 ≤ c.toInt ∧ c.toInt ≤ 4
  · rw [if_pos o, h1 o]
    unfold zclerk
    by_cases g : v.n < 4
    · rw [if_pos g]
      have : ¬ nI v.n < 0 := nI_pos (by omega)
      simp [g, this]
    · rw [if_neg g]
      simp [g]
  · rw [if_neg o, h2 o]
    simp
theorem ck1_C {M : mm_M} (h : ShC 1 M.1 v) (hB : zB v) (a b c : Int32) : Ok (nb_clerk a b c M) (fun y => (y.1 < 0 ↔ (zck1 v a b c).1 = false) ∧ ShC 1 y.2.1 (zck1 v a b c).2 ∧ zfx (fun r _ => 1 ≤ r ∧ r ≤ 8) M.1 y.2.1 ∧ y.2.2 = M.2) := by
  refine ok_mono (clerk_C h hB a b c) (fun y hy => ?_)
  obtain ⟨⟨y1, y2⟩, y3, y4⟩ := hy
  refine ⟨ck1_ans (fun o => (y1 o).1) (fun o => (y2 o).1) hB, ?_, y3.x.wk (fun r c w => by
    unfold z18 at w
    simp only [Bool.and_eq_true, decide_eq_true_eq] at w
    exact w), y4⟩
  unfold zck1
  by_cases o : (0 ≤ a.toInt ∧ a.toInt ≤ 5) ∧ (0 ≤ b.toInt ∧ b.toInt ≤ 9) ∧ 1 ≤ c.toInt ∧ c.toInt ≤ 4
  · rw [if_pos o]; exact (y1 o).2
  · rw [if_neg o, (y2 o).2]; exact h
theorem ck1_M {M : mm_M} (h : ShM M.1 v) (hB : zB v) (a b c : Int32) : Ok (md_clerk a b c M) (fun y => (y.1 < 0 ↔ (zck1 v a b c).1 = false) ∧ ShM y.2.1 (zck1 v a b c).2 ∧ zfx (fun r c => r = 78 ∨ r = 79 ∨ (r = 73 ∧ c = 11)) M.1 y.2.1 ∧ y.2.2 = M.2) := by
  refine ok_mono (clerk_M h hB a b c) (fun y hy => ?_)
  obtain ⟨⟨y1, y2⟩, y3, y3', y4⟩ := hy
  refine ⟨ck1_ans (fun o => (y1 o).1) (fun o => (y2 o).1) hB, ?_, fun r c w => ?_, y4⟩
  · unfold zck1
    by_cases o : (0 ≤ a.toInt ∧ a.toInt ≤ 5) ∧ (0 ≤ b.toInt ∧ b.toInt ≤ 9) ∧ 1 ≤ c.toInt ∧ c.toInt ≤ 4
    · rw [if_pos o]; exact (y1 o).2
    · rw [if_neg o, (y2 o).2]; exact h
  · by_cases e : r = 73
    · rw [e]
      exact y3' c (by omega)
    · rw [y3 r (by omega) (by omega) e]
theorem clksC_l {z : zT} {s : Nat} (hs : s < 4) (hz : z.1 s ≠ 0) (x : Int32) {N : Nat} (hN : N ≤ 4) : ∀ j k m c (v : zV) (M : mm_M), k + j = N → j < m → c ≤ k → (0 < k → 0 ≤ x.toInt ∧ x.toInt ≤ 40) → zB v → ShC 1 M.1 v → StC M.1 z → Ok (nb_clerks_l73 m x (nI N) (65 + 2 * s) (nI c) (nI k) M) (fun y => ∃ M' : mm_M, (y = .inl ((zcks z s x j k c v).1, M') ∨ y = .inr ((zcks z s x j k c v).1, M')) ∧ ShC 1 M'.1 (zcks z s x j k c v).2 ∧ zfx (fun r _ => 1 ≤ r ∧ r ≤ 8) M.1 M'.1 ∧ M'.2 = M.2) := by
  intro j
  induction j with
  | zero =>
    intro k m c v M hk hm hc hx hB h hS
    obtain ⟨m, rfl, -⟩ := z_suc hm
    rw [nb_clerks_l73]
    exact ok_neg (nI_nlt (by omega) (by omega)) (ok_ret ⟨M, Or.inr rfl, h, zfx.rf, rfl⟩)
  | succ j ih =>
    intro k m c v M hk hm hc hx hB h hS
    obtain ⟨m, rfl, hm2⟩ := z_suc hm
    obtain ⟨t1, t2, t3⟩ := hS s hs
    obtain ⟨t4, t5, t6⟩ := t3 hz
    rw [nb_clerks_l73, nI_1 k, reaches_eq t4 t5]
    refine ok_pos (nI_lt (by omega) (by omega)) ?_
    simp only [Option.bind_some, bI_if]
    have ex : ∀ hk0 : 0 < k, x + (3 : Int32) * nI k = nI (x.toInt.toNat + 3 * k) := by
      intro hk0
      obtain ⟨x1, x2⟩ := hx hk0
      obtain ⟨i, hi, rfl, ei⟩ := zI_of (x := x) x1
      rw [show (3 : Int32) = nI 3 from rfl, zI_mul, nI_add]
      congr 1
      omega
    have ep : (x + (3 : Int32) * nI k).toInt = x.toInt + 3 * k := by
      by_cases hk0 : 0 < k
      · have := hx hk0
        rw [ex hk0, zI_int (by omega)]
        omega
      · have e0 : k = 0 := by omega
        rw [e0]
        show (x + (3 : Int32) * 0).toInt = _
        rw [Int32.mul_zero, Int32.add_zero]
        omega
    rw [ep, show (3 : Int32).toInt = 3 from rfl]
    have ez : zcks z s x (j + 1) k c v = if 0 ≤ x.toInt ∧ x.toInt + 3 * k + 3 ≤ z.2.1 s then zcks z s x j (k + 1) (if (zck1 v (z.2.2 s (x.toInt.toNat + 3 * k)) (z.2.2 s (x.toInt.toNat + 3 * k + 1)) (z.2.2 s (x.toInt.toNat + 3 * k + 2))).1 = true then c + 1 else c) (zck1 v (z.2.2 s (x.toInt.toNat + 3 * k)) (z.2.2 s (x.toInt.toNat + 3 * k + 1)) (z.2.2 s (x.toInt.toNat + 3 * k + 2))).2 else (-12, v) := rfl
    have hx0 : 0 ≤ x.toInt + 3 * (k : Int) ↔ 0 ≤ x.toInt := by
      by_cases hk0 : 0 < k
      · have := hx hk0; omega
      · omega
    by_cases g : 0 ≤ x.toInt ∧ x.toInt + 3 * k + 3 ≤ z.2.1 s
    · rw [if_pos (by omega), ez, if_pos g]
      have hx1 : 0 ≤ x.toInt := g.1
      have en : x + (3 : Int32) * nI k = nI (x.toInt.toNat + 3 * k) := by
        by_cases hk0 : 0 < k
        · exact ex hk0
        · have e0 : k = 0 := by omega
          rw [i_eq, ep, zI_int (by omega)]
          omega
      rw [en, show (1 : Int32) = nI 1 from rfl, show (2 : Int32) = nI 2 from rfl, nI_add, nI_add]
      refine ok_pos (zI_inb (by omega) (by omega)) (ok_pos (zI_inb (by omega) (by omega)) (ok_pos (zI_inb (by omega) (by omega)) ?_))
      rw [zI_nat (show x.toInt.toNat + 3 * k < 2147483648 by omega), zI_nat (show x.toInt.toNat + 3 * k + 1 < 2147483648 by omega), zI_nat (show x.toInt.toNat + 3 * k + 2 < 2147483648 by omega), t6 _ (by omega), t6 _ (by omega), t6 _ (by omega)]
      generalize z.2.2 s (x.toInt.toNat + 3 * k) = a
      generalize z.2.2 s (x.toInt.toNat + 3 * k + 1) = b
      generalize z.2.2 s (x.toInt.toNat + 3 * k + 2) = e
      refine ok_then (ck1_C h hB a b e) (fun y7 h7 => ?_)
      obtain ⟨a1, a2, a3, a4⟩ := h7
      have hS2 : StC y7.2.1 z := hS.fx a3 (fun r c q w u => by have u2 : 1 ≤ r ∧ r ≤ 8 := u; omega)
      have nx := fun c2 hc2 => ih (k + 1) m c2 (zck1 v a b e).2 y7.2 (by omega) (by omega) hc2 (fun _ => ⟨hx1, by omega⟩) (zck1_B hB a b e) a2 hS2
      refine ok_ite (fun q => ?_) (fun q => ?_)
      · have q2 := a1.mp q
        rw [q2, if_neg (by decide)]
        refine ok_mono (nx c (by omega)) (fun y hy => ?_)
        obtain ⟨M', b1, b2, b3, b4⟩ := hy
        exact ⟨M', b1, b2, a3.tr b3, b4.trans a4⟩
      · have q2 : (zck1 v a b e).1 = true := by
          cases e2 : (zck1 v a b e).1
          · exact absurd (a1.mpr e2) q
          · rfl
        rw [q2, if_pos rfl, nI_add]
        refine ok_mono (nx (c + 1) (by omega)) (fun y hy => ?_)
        obtain ⟨M', b1, b2, b3, b4⟩ := hy
        exact ⟨M', b1, b2, a3.tr b3, b4.trans a4⟩
    · rw [if_neg (by omega), ez, if_neg g]
      exact ok_ret ⟨M, Or.inl rfl, h, zfx.rf, rfl⟩
theorem clksC_ok {M : mm_M} {z : zT} (h : ShC 1 M.1 v) (hB : zB v) (hS : StC M.1 z) (a1 a2 a3 a4 : Int32) : Ok (nb_clerks a1 a2 a3 a4 M) (fun y => y.1 = (zclks v z a1 a2 a3 a4).1 ∧ ShC 1 y.2.1 (zclks v z a1 a2 a3 a4).2 ∧ zfx (fun r _ => 1 ≤ r ∧ r ≤ 8) M.1 y.2.1 ∧ y.2.2 = M.2) := by
  unfold nb_clerks
  have bad : ¬ ((0 ≤ a1.toInt ∧ a1.toInt < 4) ∧ (0 ≤ a2.toInt ∧ a2.toInt ≤ 2) ∧ 0 ≤ a4.toInt ∧ a4.toInt ≤ 4) → Ok (some ((-2 : Int32), M)) (fun y => y.1 = (zclks v z a1 a2 a3 a4).1 ∧ ShC 1 y.2.1 (zclks v z a1 a2 a3 a4).2 ∧ zfx (fun r _ => 1 ≤ r ∧ r ≤ 8) M.1 y.2.1 ∧ y.2.2 = M.2) := by
    intro c
    unfold zclks
    rw [if_neg c]
    exact ok_ret ⟨rfl, h, zfx.rf, rfl⟩
  have l0 : a4 < (0 : Int32) ↔ a4.toInt < 0 := by rw [i_lt, zi0]
  have l4 : (4 : Int32) < a4 ↔ 4 < a4.toInt := by rw [i_lt, show (4 : Int32).toInt = 4 from rfl]
  rw [isSheetC_eq]
  simp only [Option.bind_some, bI_if]
  by_cases g : 0 ≤ a1.toInt ∧ a1.toInt < 4
  · rw [if_pos g, isSort_eq]
    simp only [Option.bind_some, bI_if]
    by_cases o : 0 ≤ a2.toInt ∧ a2.toInt ≤ 2
    · rw [if_pos o]
      refine ok_ite (fun c => bad (fun w => by have := l0.mp c; omega)) (fun c1 => ok_ite (fun c => bad (fun w => by have := l4.mp c; omega)) (fun c2 => ?_))
      have n1 : ¬ a4.toInt < 0 := fun w => c1 (l0.mpr w)
      have n2 : ¬ 4 < a4.toInt := fun w => c2 (l4.mpr w)
      unfold zclks
      rw [if_pos (show (0 ≤ a1.toInt ∧ a1.toInt < 4) ∧ (0 ≤ a2.toInt ∧ a2.toInt ≤ 2) ∧ 0 ≤ a4.toInt ∧ a4.toInt ≤ 4 from ⟨g, o, by omega, by omega⟩)]
      obtain ⟨s, hs0, rfl, es⟩ := zI_of (x := a1) g.1
      obtain ⟨q, hq0, rfl, eq⟩ := zI_of (x := a2) o.1
      obtain ⟨N, hN0, rfl, eN⟩ := zI_of (x := a4) (by omega)
      have esn : (nI s).toInt.toNat = s := by omega
      have eqn : (nI q).toInt.toNat = q := by omega
      have eNn : (nI N).toInt.toNat = N := by omega
      have hs : s < 4 := by omega
      rw [esn, eqn, eNn]
      refine ok_pos (zI_inb (by omega) hs) ?_
      rw [zI_nat (by omega), missing_eq hS hs]
      simp only [Option.bind_some, bI_if]
      obtain ⟨t1, t2, t3⟩ := hS s hs
      by_cases c0 : z.1 s = 0
      · rw [if_pos c0, if_pos c0, missing_eq hS hs]
        simp only [Option.bind_some, bI_if]
        rw [if_pos c0]
        exact ok_ret ⟨rfl, h, zfx.rf, rfl⟩
      · rw [if_neg c0, if_neg c0, t1]
        have em : nI (z.1 s) - 1 = nI q ↔ z.1 s = q + 1 := by
          have : ∀ a ≤ 3, ∀ q ≤ 2, (nI a - 1 = nI q ↔ a = q + 1) := by decide
          exact this _ t2 q (by omega)
        by_cases c3 : z.1 s = q + 1
        · rw [if_pos c3, missing_eq hS hs]
          refine ok_pos (em.mpr c3) ?_
          simp only [Option.bind_some, bI_if]
          rw [if_neg c0]
          refine ok_then (clksC_l hs c0 a3 (N := N) (by omega) N 0 300 0 v M (by omega) (by omega) (by omega) (fun w => by omega) hB h hS) (fun y hy => ?_)
          obtain ⟨M', b1, b2, b3, b4⟩ := hy
          rcases b1 with rfl | rfl
          · exact ok_ret ⟨rfl, b2, b3, b4⟩
          · exact ok_ret ⟨rfl, b2, b3, b4⟩
        · rw [if_neg c3]
          exact ok_neg (fun w => c3 (em.mp w)) (ok_ret ⟨rfl, h, zfx.rf, rfl⟩)
    · rw [if_neg o]
      exact bad (fun w => o w.2.1)
  · rw [if_neg g]
    exact bad (fun w => g w.1)
theorem clksM_l {z : zT} {s : Nat} (hs : s < 4) (hz : z.1 s ≠ 0) (x : Int32) {N : Nat} (hN : N ≤ 4) : ∀ j k m c (v : zV) (M : mm_M), k + j = N → j < m → c ≤ k → zB v → ShM M.1 v → StM M.1 z → Ok (md_clerks_l75 m (nI s) x (nI N) (nI c) (nI k) M) (fun y => ∃ M' : mm_M, (y = .inl ((zcks z s x j k c v).1, M') ∨ y = .inr ((zcks z s x j k c v).1, M')) ∧ ShM M'.1 (zcks z s x j k c v).2 ∧ zfx (fun r c => r = 78 ∨ r = 79 ∨ (r = 73 ∧ c = 11)) M.1 M'.1 ∧ M'.2 = M.2) := by
  intro j
  induction j with
  | zero =>
    intro k m c v M hk hm hc hB h hS
    obtain ⟨m, rfl, -⟩ := z_suc hm
    rw [md_clerks_l75]
    exact ok_neg (nI_nlt (by omega) (by omega)) (ok_ret ⟨M, Or.inr rfl, h, zfx.rf, rfl⟩)
  | succ j ih =>
    intro k m c v M hk hm hc hB h hS
    obtain ⟨m, rfl, hm2⟩ := z_suc hm
    obtain ⟨t1, t2, t3⟩ := hS s hs
    obtain ⟨t3', t4, t5, t6⟩ := t3 hz
    have ez : zcks z s x (j + 1) k c v = if 0 ≤ x.toInt ∧ x.toInt + 3 * k + 3 ≤ z.2.1 s then zcks z s x j (k + 1) (if (zck1 v (z.2.2 s (x.toInt.toNat + 3 * k)) (z.2.2 s (x.toInt.toNat + 3 * k + 1)) (z.2.2 s (x.toInt.toNat + 3 * k + 2))).1 = true then c + 1 else c) (zck1 v (z.2.2 s (x.toInt.toNat + 3 * k)) (z.2.2 s (x.toInt.toNat + 3 * k + 1)) (z.2.2 s (x.toInt.toNat + 3 * k + 2))).2 else (-12, v) := rfl
    have l0 : x < (0 : Int32) ↔ x.toInt < 0 := by rw [i_lt, zi0]
    rw [md_clerks_l75, nI_1 k]
    refine ok_pos (nI_lt (by omega) (by omega)) ?_
    by_cases x0 : x.toInt < 0
    · rw [ez, if_neg (show ¬ (0 ≤ x.toInt ∧ x.toInt + 3 * k + 3 ≤ z.2.1 s) by omega)]
      exact ok_pos (l0.mpr x0) (ok_ret ⟨M, Or.inl rfl, h, zfx.rf, rfl⟩)
    refine ok_neg (fun w => x0 (l0.mp w)) (ok_pos (zI_inb (by omega) hs) ?_)
    rw [zI_nat (by omega), t4]
    have esz : ((nI (z.2.1 s) - ((3 : Int32) * nI k)) - (3 : Int32)).toInt = (z.2.1 s : Int) - 3 * k - 3 := by
      have e1 : (nI (z.2.1 s)).toInt = z.2.1 s := zI_int (by omega)
      have e2 : ((3 : Int32) * nI k).toInt = 3 * k := by
        rw [show (3 : Int32) = nI 3 from rfl, zI_mul, zI_int (by omega)]
        omega
      have e3 := i_sb (a := nI (z.2.1 s)) (b := (3 : Int32) * nI k) (by omega) (by omega)
      have e4 : (3 : Int32).toInt = 3 := rfl
      rw [i_sb (by omega) (by omega)]
      omega
    have lc : ((nI (z.2.1 s) - ((3 : Int32) * nI k)) - (3 : Int32)) < x ↔ ¬ (x.toInt + 3 * k + 3 ≤ z.2.1 s) := by
      rw [i_lt, esz]
      omega
    by_cases g : x.toInt + 3 * k + 3 ≤ z.2.1 s
    · refine ok_neg (fun w => lc.mp w g) ?_
      rw [ez, if_pos (show 0 ≤ x.toInt ∧ x.toInt + 3 * k + 3 ≤ z.2.1 s from ⟨by omega, g⟩)]
      obtain ⟨i, hi, rfl, ei⟩ := zI_of (x := x) (by omega)
      have ein : (nI i).toInt.toNat = i := by omega
      rw [ein, z40, show (3 : Int32) = nI 3 from rfl, zI_mul, nI_add, show (1 : Int32) = nI 1 from rfl, show (2 : Int32) = nI 2 from rfl, nI_add, nI_add]
      refine ok_pos (zI_inb (by omega) (by omega)) (ok_pos (zI_inb (by omega) (by omega)) (ok_pos (zI_inb (by omega) (by omega)) ?_))
      have u1 := t6 (i + 3 * k) (by omega)
      have u2 := t6 (i + 3 * k + 1) (by omega)
      have u3 := t6 (i + 3 * k + 2) (by omega)
      rw [zI_nat (show 40 * s + i + 3 * k < 2147483648 by omega), zI_nat (show 40 * s + i + 3 * k + 1 < 2147483648 by omega), zI_nat (show 40 * s + i + 3 * k + 2 < 2147483648 by omega), show 40 * s + i + 3 * k + 1 = 40 * s + (i + 3 * k + 1) by omega, show 40 * s + i + 3 * k + 2 = 40 * s + (i + 3 * k + 2) by omega, show 40 * s + i + 3 * k = 40 * s + (i + 3 * k) by omega, u1, u2, u3]
      generalize z.2.2 s (i + 3 * k) = a
      generalize z.2.2 s (i + 3 * k + 1) = b
      generalize z.2.2 s (i + 3 * k + 2) = e
      refine ok_then (ck1_M h hB a b e) (fun y7 h7 => ?_)
      obtain ⟨a1, a2, a3, a4⟩ := h7
      have hS2 : StM y7.2.1 z := hS.fx a3 (fun r c q w u => by have u2 : r = 78 ∨ r = 79 ∨ (r = 73 ∧ c = 11) := u; omega)
      have nx := fun c2 hc2 => ih (k + 1) m c2 (zck1 v a b e).2 y7.2 (by omega) (by omega) hc2 (zck1_B hB a b e) a2 hS2
      refine ok_ite (fun q => ?_) (fun q => ?_)
      · have q2 := a1.mp q
        rw [q2, if_neg (by decide), show nI c + 0 = nI c from Int32.add_zero _]
        refine ok_mono (nx c (by omega)) (fun y hy => ?_)
        obtain ⟨M', b1, b2, b3, b4⟩ := hy
        exact ⟨M', b1, b2, a3.tr b3, b4.trans a4⟩
      · have q2 : (zck1 v a b e).1 = true := by
          cases e2 : (zck1 v a b e).1
          · exact absurd (a1.mpr e2) q
          · rfl
        rw [q2, if_pos rfl, nI_add]
        refine ok_mono (nx (c + 1) (by omega)) (fun y hy => ?_)
        obtain ⟨M', b1, b2, b3, b4⟩ := hy
        exact ⟨M', b1, b2, a3.tr b3, b4.trans a4⟩
    · rw [ez, if_neg (show ¬ (0 ≤ x.toInt ∧ x.toInt + 3 * k + 3 ≤ z.2.1 s) from fun w => g w.2)]
      exact ok_pos (lc.mpr g) (ok_ret ⟨M, Or.inl rfl, h, zfx.rf, rfl⟩)
theorem clksM_ok {M : mm_M} {z : zT} (h : ShM M.1 v) (hB : zB v) (hS : StM M.1 z) (a1 a2 a3 a4 : Int32) : Ok (md_clerks a1 a2 a3 a4 M) (fun y => y.1 = (zclks v z a1 a2 a3 a4).1 ∧ ShM y.2.1 (zclks v z a1 a2 a3 a4).2 ∧ zfx (fun r c => r = 78 ∨ r = 79 ∨ (r = 73 ∧ c = 11)) M.1 y.2.1 ∧ y.2.2 = M.2) := by
  unfold md_clerks zclks
  rw [isSheetM_eq]
  simp only [in_eq, Option.bind_some, bI_if, Int32.toInt_toInt64, show (0 : Int64).toInt = 0 from rfl, show (2 : Int64).toInt = 2 from rfl, show (4 : Int64).toInt = 4 from rfl]
  by_cases g : 0 ≤ a1.toInt ∧ a1.toInt < 4
  · rw [if_pos g]
    by_cases o : 0 ≤ a2.toInt ∧ a2.toInt ≤ 2
    · rw [if_pos o]
      by_cases u : 0 ≤ a4.toInt ∧ a4.toInt ≤ 4
      · rw [if_pos u, if_pos (show (0 ≤ a1.toInt ∧ a1.toInt < 4) ∧ (0 ≤ a2.toInt ∧ a2.toInt ≤ 2) ∧ 0 ≤ a4.toInt ∧ a4.toInt ≤ 4 from ⟨g, o, u⟩)]
        obtain ⟨s, hs0, rfl, es⟩ := zI_of (x := a1) g.1
        obtain ⟨q, hq0, rfl, eq⟩ := zI_of (x := a2) o.1
        obtain ⟨N, hN0, rfl, eN⟩ := zI_of (x := a4) u.1
        have esn : (nI s).toInt.toNat = s := by omega
        have eqn : (nI q).toInt.toNat = q := by omega
        have eNn : (nI N).toInt.toNat = N := by omega
        have hs : s < 4 := by omega
        have gs : ak_inb (nI s) 4 = true := zI_inb (by omega) hs
        rw [esn, eqn, eNn]
        obtain ⟨t1, t2, t3⟩ := hS s hs
        refine ok_pos gs ?_
        rw [zI_nat (by omega), t1, bI_if]
        by_cases c0 : z.1 s = 0
        · rw [if_neg (fun w => w c0), if_pos c0]
          refine ok_pos gs ?_
          rw [bI_if, if_neg (fun w => w c0)]
          exact ok_ret ⟨rfl, h, zfx.rf, rfl⟩
        · rw [if_pos c0, if_neg c0, (t3 c0).1]
          have em : nI (z.1 s) - 1 = nI q ↔ z.1 s = q + 1 := by
            have : ∀ a ≤ 3, ∀ q ≤ 2, (nI a - 1 = nI q ↔ a = q + 1) := by decide
            exact this _ t2 q (by omega)
          refine ok_pos gs ?_
          by_cases c3 : z.1 s = q + 1
          · rw [if_pos c3]
            refine ok_pos (em.mpr c3) (ok_pos gs ?_)
            rw [bI_if, if_pos c0]
            refine ok_then (clksM_l hs c0 a3 (N := N) (by omega) N 0 300 0 v M (by omega) (by omega) (by omega) hB h hS) (fun y hy => ?_)
            obtain ⟨M', b1, b2, b3, b4⟩ := hy
            rcases b1 with rfl | rfl
            · exact ok_ret ⟨rfl, b2, b3, b4⟩
            · exact ok_ret ⟨rfl, b2, b3, b4⟩
          · rw [if_neg c3]
            exact ok_neg (fun w => c3 (em.mp w)) (ok_ret ⟨rfl, h, zfx.rf, rfl⟩)
      · rw [if_neg u, if_neg (fun w => u w.2.2)]
        exact ok_ret ⟨rfl, h, zfx.rf, rfl⟩
    · rw [if_neg o, if_neg (fun w => o w.2.1)]
      exact ok_ret ⟨rfl, h, zfx.rf, rfl⟩
  · rw [if_neg g, if_neg (fun w => g w.1)]
    exact ok_ret ⟨rfl, h, zfx.rf, rfl⟩
end
