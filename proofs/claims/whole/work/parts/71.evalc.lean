/-! level 2: what the texts and the kinds say: spec, and the class -/
/-- what a text is asked with: week w of p (w < 8), or p alone (8) -/
def zen (v : zV) (p w : Nat) (i : Nat) : Int32 := if i = 0 then (if w < 8 then nI w else 0) else if i = 1 then (if w < 8 then bI ((v.wi p).testBit w = true) else 0) else if i = 2 then nI (v.nu p) else if i = 3 then nI (v.le p) else if i = 4 then nI (v.po p) else (if w < 8 then nI (zow v p w) else 0)
/-- a good text: each part has one value -/
def zGT (T : zT3) : Prop := ∀ (env : Nat → Int32) a, a < 3 → ∃ x, zrn env (zprt T a) [] = [x]
def zvl (env : Nat → Int32) (c : List Int32) : Int32 := (zrn env c []).headD 0
theorem zGT.vl {T : zT3} (h : zGT T) (env : Nat → Int32) {a : Nat} (ha : a < 3) : zrn env (zprt T a) [] = [zvl env (zprt T a)] := by
  obtain ⟨x, hx⟩ := h env a ha
  unfold zvl
  rw [hx]
  rfl
theorem zGT_of {n : Nat} {B : Nat → Nat} {T : zT3} (hn : n ≤ 160) (hB : ∀ i, i < n → B i < 256) (h : zrdT B n = some (.inr T)) : zGT T := by
  intro env a ha
  obtain ⟨y, -, -, -, -, h4⟩ := readM_ok (n := n) (B := B) (env := env) (a := 0) (w := a) (by decide) (M := ((fun r c => if r = 75 then nI n else if r = 74 then nI (B c) else env (c - 12)), 0, 0)) hn rfl (fun i hi => ⟨by show nI (B (160 * 0 + i)) = nI (B i); congr 2; omega, hB i hi⟩) (fun i hi => by show env (12 + i - 12) = env i; congr 1; omega) ha
  exact ⟨y.1, (h4 T h).2⟩
def zcp (lo hi x : Int32) : Int32 := if x < lo then lo else if hi < x then hi else x
theorem zcp_C {lo hi x : Int32} (h : lo.toInt ≤ hi.toInt) : i_max lo (i_min hi x) = zcp lo hi x := by
  unfold i_max i_min zcp
  simp only [i_lt]
  repeat' split
  all_goals first | rfl | (rw [i_eq]; omega) | omega
/-- how glad a week makes one -/
def zjy (T : zT3) (v : zV) (p w : Nat) : Int32 := zcp (-99) 99 (zvl (zen v p w) T.1)
def zbs (T : zT3) (v : zV) (p w : Nat) : Int32 := if (v.wi p).testBit w = true then zjy T v p w else zjy T v p w / 2
def zgl (T : zT3) (v : zV) (p w : Nat) : Int32 :=
  if v.kd p = 5 then (if (v.wi p).testBit w = true then 5 else 0)
  else if v.kd p = 3 ∧ w = v.nu p % 8 then 30
  else if v.kd p = 1 ∨ v.kd p = 3 then (if 3 ≤ w ∧ w ≤ 5 then 2 * zbs T v p w else zbs T v p w)
  else if v.kd p = 2 then zbs T v p w + nI (v.nu p)
  else if v.kd p = 4 then zbs T v p w + nI (v.nu p) - nI w
  else zbs T v p w
/-- whether one may have a week -/
def zmy (T : zT3) (v : zV) (p w : Nat) : Int32 := zvl (zen v p w) T.2.2
def zwn (T : zT3) (v : zV) (p w : Nat) : Bool :=
  if v.kd p = 4 then true
  else if v.kd p = 2 then !(decide (zmy T v p w = 0)) && !(decide (3 ≤ w ∧ w ≤ 5))
  else if v.kd p = 3 then !(decide (zmy T v p w = 0)) || decide (w = v.nu p % 8)
  else if v.kd p = 5 then !(decide (zmy T v p w = 0)) && decide (w % 2 = 0)
  else !(decide (zmy T v p w = 0))
def zsI (f : Nat → Int32) : Nat → Int32
  | 0 => 0
  | k + 1 => zsI f k + f k
/-- of a block, from week k - 1 on -/
def zgs (T : zT3) (v : zV) (p k : Nat) : Int32 := zsI (fun w => if (zwk (v.le p) k).testBit w = true then zgl T v p w else 0) 8
def zcb (T : zT3) (v : zV) (p k : Nat) : Bool := zaf (fun w => !((zwk (v.le p) k).testBit w) || zwn T v p w) 0 8
/-- what a year earns one -/
def zer (T : zT3) (v : zV) (p : Nat) : Int32 :=
  if v.kd p = 4 then 0
  else if v.kd p = 2 then zcp 0 99 (zvl (zen v p 8) T.2.1) + 2
  else if v.kd p = 5 then zcp 0 99 (zvl (zen v p 8) T.2.1) / 2
  else if v.kd p = 0 then zcp 0 99 (zvl (zen v p 8) T.2.1)
  else if zgs T v p (v.bl p) < 30 then zcp 0 99 (zvl (zen v p 8) T.2.1) else 0
theorem ShC.fx {b : Nat} {σ σ' : Nat → Nat → Int32} {v : zV} (h : ShC b σ v) {P : Nat → Nat → Prop} (hf : zfx P σ σ') (hp : ∀ r c, b ≤ r → r ≤ b + 7 → ¬ P r c) : ShC b σ' v := by
  have e : ∀ r c, b ≤ r → r ≤ b + 7 → σ' r c = σ r c := fun r c h1 h2 => hf r c (hp r c h1 h2)
  obtain ⟨h1, h2, h3, h4, h5, h6, h7, h8, h9, h10, h11, h12⟩ := h
  exact ⟨(e _ _ (by omega) (by omega)).trans h1, (e _ _ (by omega) (by omega)).trans h2, (e _ _ (by omega) (by omega)).trans h3, (e _ _ (by omega) (by omega)).trans h4, (e _ _ (by omega) (by omega)).trans h5, fun p hp => (e _ _ (by omega) (by omega)).trans (h6 p hp), fun p hp => (e _ _ (by omega) (by omega)).trans (h7 p hp), fun p hp => (e _ _ (by omega) (by omega)).trans (h8 p hp), fun p hp => (e _ _ (by omega) (by omega)).trans (h9 p hp), fun p hp => (e _ _ (by omega) (by omega)).trans (h10 p hp), fun p hp => (e _ _ (by omega) (by omega)).trans (h11 p hp), fun p hp => (e _ _ (by omega) (by omega)).trans (h12 p hp)⟩
theorem zTX.fx {t : Nat} {T : zT3} {σ σ' : Nat → Nat → Int32} (h : zTX t T σ) {P : Nat → Nat → Prop} (hf : zfx P σ σ') (hp : ∀ r c, t ≤ r → r ≤ t + 2 → ¬ P r c) : zTX t T σ' := by
  obtain ⟨h1, h2, h3, h4, h5⟩ := h
  exact ⟨(hf _ _ (hp _ _ (by omega) (by omega))).trans h1, (hf _ _ (hp _ _ (by omega) (by omega))).trans h2, (hf _ _ (hp _ _ (by omega) (by omega))).trans h3, (hf _ _ (hp _ _ (by omega) (by omega))).trans h4, h5.fx hf (hp _ _ (by omega) (by omega)) (fun c => hp _ _ (by omega) (by omega))⟩
theorem zow_lt {v : zV} (hB : zB v) (p w : Nat) : zow v p w ≤ 4 := Nat.le_trans (zcnt_le _ _) hB.n
section
variable {b : Nat} {v : zV} {T : zT3} {p : Nat}
abbrev z35 : Nat → Nat → Prop := fun r _ => r = 35
abbrev z356 : Nat → Nat → Prop := fun r _ => r = 35 ∨ r = 36
theorem nameOne_ok (hb : b = 1 ∨ b = 17) {M : mm_M} (h : ShC b M.1 v) (hB : zB v) (hp : p < v.n) : Ok (ru_nameOne b (nI p) M) (fun y => (∀ i, i < 6 → y.2.1 35 i = zen v p 8 i) ∧ zfx z35 M.1 y.2.1 ∧ y.2.2 = M.2) := by
  have hn := hB.n
  have hi : ak_inb (nI p) 4 = true := zI_inb (by omega) (by omega)
  unfold ru_nameOne
  rw [zI_nat (by omega)]
  have h2 := h.nu p hp
  have h3 := h.le p hp
  have h5 := h.po p hp
  refine ok_pos (by decide) (ok_pos (by decide) (ok_pos hi (ok_pos (by decide) (ok_pos hi (ok_pos (by decide) (ok_pos hi (ok_pos (by decide) (ok_pos (by decide) ?_))))))))
  have n35 : ∀ k ≤ 7, b + k ≠ 35 := by omega
  simp only [ak_up_ne (n35 2 (by decide)), ak_up_ne (n35 3 (by decide)), ak_up_ne (n35 5 (by decide)), h2, h3, h5]
  refine ok_ret ⟨fun i hi => ?_, ((((((zfx.rf (P := z35)).up rfl).up rfl).up rfl).up rfl).up rfl).up rfl, rfl⟩
  have hi2 : i = 0 ∨ i = 1 ∨ i = 2 ∨ i = 3 ∨ i = 4 ∨ i = 5 := by omega
  rcases hi2 with rfl | rfl | rfl | rfl | rfl | rfl <;> rfl
theorem nameWeek_ok (hb : b = 1 ∨ b = 17) {M : mm_M} (h : ShC b M.1 v) (hB : zB v) (hp : p < v.n) {w : Nat} (hw : w < 8) : Ok (ru_nameWeek b (nI p) (nI w) M) (fun y => (∀ i, i < 6 → y.2.1 35 i = zen v p w i) ∧ zfx z35 M.1 y.2.1 ∧ y.2.2 = M.2) := by
  have hn := hB.n
  unfold ru_nameWeek
  refine ok_then (nameOne_ok hb h hB hp) (fun y1 h1 => ?_)
  obtain ⟨a1, a2, a3⟩ := h1
  refine ok_pos (by decide) ?_
  have nb : ∀ r c, b ≤ r → r ≤ b + 7 → ¬ z35 r c := fun r c _ _ z => by have z2 : r = 35 := z; omega
  have f2 : zfx z35 M.1 (ak_up y1.2.1 35 ((0 : Int32).toNatClampNeg) (nI w)) := a2.up rfl
  rw [wishesFor_eq (M := (ak_up y1.2.1 35 ((0 : Int32).toNatClampNeg) (nI w), y1.2.2)) (h.fx f2 nb) hB hp hw]
  simp only [Option.bind_some]
  have fin : ∀ q : Int32, q = bI ((v.wi p).testBit w = true) → Ok (if ak_inb (1 : Int32) 6 = true then (sh_othersWishing b (nI p) (nI w) (ak_up (ak_up y1.2.1 35 ((0 : Int32).toNatClampNeg) (nI w)) 35 ((1 : Int32).toNatClampNeg) q, y1.2.2)).bind fun y6 => if ak_inb (5 : Int32) 6 = true then some ((), (ak_up y6.2.1 35 ((5 : Int32).toNatClampNeg) y6.1, y6.2.2)) else none else none) (fun y => (∀ i, i < 6 → y.2.1 35 i = zen v p w i) ∧ zfx z35 M.1 y.2.1 ∧ y.2.2 = M.2) := by
    intro q hq
    refine ok_pos (by decide) ?_
    have f3 : zfx z35 M.1 (ak_up (ak_up y1.2.1 35 ((0 : Int32).toNatClampNeg) (nI w)) 35 ((1 : Int32).toNatClampNeg) q) := f2.up rfl
    rw [othersWishing_eq (M := (ak_up (ak_up y1.2.1 35 ((0 : Int32).toNatClampNeg) (nI w)) 35 ((1 : Int32).toNatClampNeg) q, y1.2.2)) (h.fx f3 nb) hB (by omega) hw]
    simp only [Option.bind_some]
    refine ok_pos (by decide) (ok_ret ⟨fun i hi => ?_, f3.up rfl, a3⟩)
    have hi2 : i = 0 ∨ i = 1 ∨ i = 2 ∨ i = 3 ∨ i = 4 ∨ i = 5 := by omega
    show ak_up (ak_up (ak_up y1.2.1 35 0 (nI w)) 35 1 q) 35 5 (nI (zow v p w)) 35 i = zen v p w i
    rcases hi2 with rfl | rfl | rfl | rfl | rfl | rfl
    · rw [ak_up_oth (by decide), ak_up_oth (by decide), ak_up_same]
      exact (if_pos hw).symm
    · rw [ak_up_oth (by decide), ak_up_same, hq]
      exact (if_pos hw).symm
    · rw [ak_up_oth (by decide), ak_up_oth (by decide), ak_up_oth (by decide), a1 2 (by decide)]
      rfl
    · rw [ak_up_oth (by decide), ak_up_oth (by decide), ak_up_oth (by decide), a1 3 (by decide)]
      rfl
    · rw [ak_up_oth (by decide), ak_up_oth (by decide), ak_up_oth (by decide), a1 4 (by decide)]
      rfl
    · rw [ak_up_same]
      exact (if_pos hw).symm
  by_cases c : (v.wi p).testBit w = true
  · rw [bI_t c]
    exact ok_neg (by decide) (fin 1 (bI_t c).symm)
  · rw [bI_f c]
    exact ok_pos rfl (fin 0 (bI_f c).symm)
theorem kindAt_eq {k : Nat} (hk : k ≤ 5) (M : mm_M) : ru_kindAt (nI k) M = some (29 + 1 * k, M) := by
  unfold ru_kindAt
  rw [if_neg (nI_pos (by omega)), if_pos (show nI k < (6 : Int32) from nI_lt (b := 6) (by omega) (by decide)), if_pos (zI_inb (by omega) (by omega)), zI_nat (by omega)]
theorem is10_eq {c : Nat} (hc : c < 6) : mm_is10 (37 + 3 * c) = true := by
  have := mm_ei_tx (i := nI c) (zI_inb (by omega) hc)
  rw [zI_nat (by omega)] at this
  exact this
/-- small numbers, halves and eighths -/
theorem z_mod8 {a : Nat} (ha : a ≤ 9) : nI a - nI a / (8 : Int32) * (8 : Int32) = nI (a % 8) := by
  have h : ∀ a ≤ 9, nI a - nI a / (8 : Int32) * (8 : Int32) = nI (a % 8) := by decide
  exact h a ha
theorem z_mod2 {a : Nat} (ha : a < 8) : nI a - nI a / (2 : Int32) * (2 : Int32) = nI (a % 2) := by
  have h : ∀ a < 8, nI a - nI a / (2 : Int32) * (2 : Int32) = nI (a % 2) := by decide
  exact h a ha
theorem isSummer_eq {w : Nat} (hw : w < 8) (M : mm_M) : kC_isSummer (nI w) M = some (bI (3 ≤ w ∧ w ≤ 5), M) := by
  have h : ∀ w < 8, (kC_isSummer (nI w) zM0).map Prod.fst = some (bI (3 ≤ w ∧ w ≤ 5)) := by decide
  have e : kC_isSummer (nI w) M = ((kC_isSummer (nI w) zM0).map Prod.fst).map (fun r => (r, M)) := by
    unfold kC_isSummer
    repeat' split
    all_goals rfl
  rw [e, h w hw]
  rfl
theorem kdk {k : Nat} (hk : k ≤ 5) : mm_kc (29 + 1 * k) = some (if k = 0 then 3 else if k = 1 then 4 else if k = 2 then 9 else if k = 3 then 2 else if k = 4 then 1 else 0) := by
  have h : ∀ k ≤ 5, mm_kc (29 + 1 * k) = some (if k = 0 then 3 else if k = 1 then 4 else if k = 2 then 9 else if k = 3 then 2 else if k = 4 then 1 else 0) := by decide
  exact h k hk
theorem kcg_eq (w : Int32) (j : Int32) (c : Prop) [Decidable c] (nu : Int32) (M : mm_M) : kC_glad w j (bI c) nu M = some (if c then j else j / 2, M) := by
  unfold kC_glad
  by_cases h : c
  · rw [bI_t h, if_neg (by decide), if_pos h]
  · rw [bI_f h, if_pos rfl, if_neg h]
theorem kpg_eq {w : Nat} (hw : w < 8) (j : Int32) (c : Prop) [Decidable c] (nu : Int32) (M : mm_M) : kP_glad (nI w) j (bI c) nu M = some (if 3 ≤ w ∧ w ≤ 5 then 2 * (if c then j else j / 2) else (if c then j else j / 2), M) := by
  unfold kP_glad
  rw [kcg_eq]
  simp only [Option.bind_some]
  rw [isSummer_eq hw]
  simp only [Option.bind_some, bI_if]
  by_cases h : 3 ≤ w ∧ w ≤ 5
  · rw [if_pos h, if_pos h]
  · rw [if_neg h, if_neg h]
theorem kdg_eq {w : Nat} (hB : zB v) (hp : p < v.n) (hw : w < 8) (M : mm_M) : ((mm_kc (29 + 1 * v.kd p)).bind fun c10 => kd_glad c10 (nI w) (zjy T v p w) (bI ((v.wi p).testBit w = true)) (nI (v.nu p)) M) = some (zgl T v p w, M) := by
  have hk := hB.kd p hp
  have hnu := hB.nu p hp
  rw [kdk hk]
  simp only [Option.bind_some]
  unfold zgl zbs
  have h6 : v.kd p = 0 ∨ v.kd p = 1 ∨ v.kd p = 2 ∨ v.kd p = 3 ∨ v.kd p = 4 ∨ v.kd p = 5 := by omega
  rcases h6 with e | e | e | e | e | e
  · rw [e]
    exact kcg_eq (nI w) (zjy T v p w) _ (nI (v.nu p)) M
  · rw [e]
    exact kpg_eq hw (zjy T v p w) _ (nI (v.nu p)) M
  · rw [e]
    show kS_glad (nI w) (zjy T v p w) (bI ((v.wi p).testBit w = true)) (nI (v.nu p)) M = _
    unfold kS_glad
    rw [kcg_eq]
    rfl
  · rw [e]
    show kB_glad (nI w) (zjy T v p w) (bI ((v.wi p).testBit w = true)) (nI (v.nu p)) M = _
    unfold kB_glad
    rw [z_mod8 hnu]
    by_cases c : w = v.nu p % 8
    · rw [if_pos (by rw [← c])]
      simp [c]
    · rw [if_neg (fun z => c ((nI_eq (by omega) (by omega)).mp z)), kpg_eq hw]
      simp [c]
  · rw [e]
    show kO_glad (nI w) (zjy T v p w) (bI ((v.wi p).testBit w = true)) (nI (v.nu p)) M = _
    unfold kO_glad kS_glad
    rw [kcg_eq]
    rfl
  · rw [e]
    show kA_glad (nI w) (zjy T v p w) (bI ((v.wi p).testBit w = true)) (nI (v.nu p)) M = _
    unfold kA_glad
    by_cases c : (v.wi p).testBit w = true
    · rw [bI_t c, if_neg (by decide)]
      simp [c]
    · rw [bI_f c, if_pos rfl]
      simp [c]
theorem gladC_ok (hb : b = 1 ∨ b = 17) {M : mm_M} (h : ShC b M.1 v) (hB : zB v) (hT : zTX (37 + 3 * v.ru) T M.1) (hG : zGT T) (hp : p < v.n) {w : Nat} (hw : w < 8) : Ok (ru_glad b (nI p) (nI w) M) (fun y => y.1 = zgl T v p w ∧ zfx z356 M.1 y.2.1 ∧ y.2.2 = M.2) := by
  have hn := hB.n
  have hru := hB.ru
  unfold ru_glad
  refine ok_then (nameWeek_ok hb h hB hp hw) (fun y1 h1 => ?_)
  obtain ⟨a1, a2, a3⟩ := h1
  have nb : ∀ r c, b ≤ r → r ≤ b + 7 → ¬ z35 r c := fun r c _ _ z => by have z2 : r = 35 := z; omega
  have nb6 : ∀ r c, b ≤ r → r ≤ b + 7 → ¬ z356 r c := fun r c _ _ z => by have z2 : r = 35 ∨ r = 36 := z; omega
  have s1 := h.fx a2 nb
  rw [s1.ru, textAt_eq hru]
  simp only [Option.bind_some]
  refine ok_pos (is10_eq hru) ?_
  refine ok_then (valueC_ok (t := 37 + 3 * v.ru) (env := zen v p w) (T := T) (a := 0) (by omega) (by decide) (hT.fx a2 (fun r c _ _ z => by have z2 : r = 35 := z; omega)) a1 (hG.vl _ (by decide))) (fun y4 h4 => ?_)
  obtain ⟨d1, d2, d3⟩ := h4
  have f4 : zfx z356 M.1 y4.2.1 := (a2.wk (fun r c z => Or.inl z)).tr (d2.wk (fun r c z => Or.inr z))
  have s4 := h.fx f4 nb6
  refine ok_pos (zI_inb (by omega) (by omega)) ?_
  rw [zI_nat (by omega), s4.kd p hp, kindAt_eq (hB.kd p hp)]
  simp only [Option.bind_some]
  rw [wishesFor_eq s4 hB hp hw]
  simp only [Option.bind_some]
  refine ok_pos (zI_inb (by omega) (by omega)) ?_
  rw [s4.nu p hp, d1, zcp_C (by decide)]
  have := kdg_eq (T := T) (w := w) hB hp hw y4.2
  unfold zjy at this
  rw [show zprt T 0 = T.1 from rfl]
  rw [this]
  exact ok_ret ⟨rfl, f4, d3.trans a3⟩
theorem kdw_eq {w : Nat} (hB : zB v) (hp : p < v.n) (hw : w < 8) (M : mm_M) : ((mm_kc (29 + 1 * v.kd p)).bind fun c10 => kd_wants c10 (nI w) (bI (zmy T v p w ≠ 0)) (nI (v.nu p)) M) = some (bI (zwn T v p w = true), M) := by
  have hk := hB.kd p hp
  have hnu := hB.nu p hp
  rw [kdk hk]
  simp only [Option.bind_some]
  have kc : ∀ c : Prop, [Decidable c] → kC_wants (nI w) (bI c) (nI (v.nu p)) M = some (bI c, M) := by
    intro c _
    unfold kC_wants
    rw [if_pos (bI_01.mpr trivial)]
  have h6 : v.kd p = 0 ∨ v.kd p = 1 ∨ v.kd p = 2 ∨ v.kd p = 3 ∨ v.kd p = 4 ∨ v.kd p = 5 := by omega
  rcases h6 with e | e | e | e | e | e
  · rw [e]
    refine (kc _).trans (some_bI ?_ M)
    unfold zwn
    simp [e]
  · rw [e]
    refine (kc _).trans (some_bI ?_ M)
    unfold zwn
    simp [e]
  · rw [e]
    show kS_wants (nI w) (bI (zmy T v p w ≠ 0)) (nI (v.nu p)) M = _
    unfold kS_wants
    rw [isSummer_eq hw]
    simp only [Option.bind_some, bI_if]
    by_cases c : 3 ≤ w ∧ w ≤ 5
    · rw [if_pos c, bI_f]
      unfold zwn
      simp [e, c]
    · rw [if_neg c]
      by_cases d : zmy T v p w = 0
      · rw [if_neg (fun z => z d), bI_f]
        unfold zwn
        simp [e, d]
      · rw [if_pos d, bI_t]
        unfold zwn
        simp [e, d]
        omega
  · rw [e]
    show kB_wants (nI w) (bI (zmy T v p w ≠ 0)) (nI (v.nu p)) M = _
    unfold kB_wants
    rw [kc]
    simp only [Option.bind_some, bI_if]
    by_cases d : zmy T v p w = 0
    · rw [if_neg (fun z => z d), z_mod8 hnu]
      by_cases c : w = v.nu p % 8
      · rw [if_pos (by rw [← c]), bI_t]
        unfold zwn
        simp [e, ← c]
      · rw [if_neg (fun z => c ((nI_eq (by omega) (by omega)).mp z)), bI_f]
        unfold zwn
        simp [e, d, c]
    · rw [if_pos d, bI_t]
      unfold zwn
      simp [e, d]
  · rw [e]
    show kO_wants (nI w) (bI (zmy T v p w ≠ 0)) (nI (v.nu p)) M = _
    unfold kO_wants
    rw [bI_t]
    unfold zwn
    simp [e]
  · rw [e]
    show kA_wants (nI w) (bI (zmy T v p w ≠ 0)) (nI (v.nu p)) M = _
    unfold kA_wants
    simp only [bI_if]
    by_cases d : zmy T v p w = 0
    · rw [if_neg (fun z => z d), bI_f]
      unfold zwn
      simp [e, d]
    · rw [if_pos d, z_mod2 hw]
      by_cases c : w % 2 = 0
      · rw [if_pos (by rw [c]; rfl), bI_t]
        unfold zwn
        simp [e, d, c]
      · rw [if_neg (fun z => c ((z_eq0 (by omega)).mp z)), bI_f]
        unfold zwn
        simp [e, c]
theorem wantsC_ok (hb : b = 1 ∨ b = 17) {M : mm_M} (h : ShC b M.1 v) (hB : zB v) (hT : zTX (37 + 3 * v.ru) T M.1) (hG : zGT T) (hp : p < v.n) {w : Nat} (hw : w < 8) : Ok (ru_wants b (nI p) (nI w) M) (fun y => y.1 = bI (zwn T v p w = true) ∧ zfx z356 M.1 y.2.1 ∧ y.2.2 = M.2) := by
  have hn := hB.n
  have hru := hB.ru
  unfold ru_wants
  refine ok_then (nameWeek_ok hb h hB hp hw) (fun y1 h1 => ?_)
  obtain ⟨a1, a2, a3⟩ := h1
  have nb : ∀ r c, b ≤ r → r ≤ b + 7 → ¬ z35 r c := fun r c _ _ z => by have z2 : r = 35 := z; omega
  have nb6 : ∀ r c, b ≤ r → r ≤ b + 7 → ¬ z356 r c := fun r c _ _ z => by have z2 : r = 35 ∨ r = 36 := z; omega
  have s1 := h.fx a2 nb
  rw [s1.ru, textAt_eq hru]
  simp only [Option.bind_some]
  refine ok_pos (is10_eq hru) ?_
  refine ok_then (valueC_ok (t := 37 + 3 * v.ru) (env := zen v p w) (T := T) (a := 2) (by omega) (by decide) (hT.fx a2 (fun r c _ _ z => by have z2 : r = 35 := z; omega)) a1 (hG.vl _ (by decide))) (fun y4 h4 => ?_)
  obtain ⟨d1, d2, d3⟩ := h4
  have f4 : zfx z356 M.1 y4.2.1 := (a2.wk (fun r c z => Or.inl z)).tr (d2.wk (fun r c z => Or.inr z))
  have s4 := h.fx f4 nb6
  have fin : ∀ q : Int32, q = bI (zmy T v p w ≠ 0) → Ok (if ak_inb (nI p) 4 = true then (ru_kindAt (y4.2.1 (b + 1) (nI p).toNatClampNeg) y4.2).bind fun y7 => if ak_inb (nI p) 4 = true then ((mm_kc y7.1).bind fun c10 => kd_wants c10 (nI w) q (y7.2.1 (b + 2) (nI p).toNatClampNeg) y7.2).bind fun y9 => if y9.1 = 0 ∨ y9.1 = 1 then some (y9.1, y9.2) else none else none else none) (fun y => y.1 = bI (zwn T v p w = true) ∧ zfx z356 M.1 y.2.1 ∧ y.2.2 = M.2) := by
    intro q hq
    refine ok_pos (zI_inb (by omega) (by omega)) ?_
    rw [zI_nat (by omega), s4.kd p hp, kindAt_eq (hB.kd p hp)]
    simp only [Option.bind_some]
    refine ok_pos (zI_inb (by omega) (by omega)) ?_
    rw [s4.nu p hp, hq, kdw_eq hB hp hw]
    simp only [Option.bind_some]
    exact ok_pos (bI_01.mpr trivial) (ok_ret ⟨rfl, f4, d3.trans a3⟩)
  refine ok_ite (fun z => fin 0 ?_) (fun z => fin 1 ?_)
  · rw [d1] at z
    exact (bI_f (fun w => w z)).symm
  · rw [d1] at z
    exact (bI_t z).symm
end
