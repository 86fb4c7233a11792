/-! level 2: texts: a text read by the class, and its value -/
theorem zrdT_T (B : Nat → Nat) {n : Nat} (hn : n ≤ 160) : zrdT B n ≠ none := by
  unfold zrdT
  have g0 := (zlx_G B (n := n) (i := 0) (by omega)).2
  have n0 := zpt_T B (w := 0) hn g0
  rcases zR_cases n0 with ⟨p, e0⟩ | ⟨c0, S0, e0⟩
  · rw [e0]
    exact fun e => by cases e
  · rw [e0]
    have g1 := (zpt_P B (by decide) g0 _ _ e0).1
    have n1 := zpt_T B (w := 1) hn g1
    rcases zR_cases n1 with ⟨p, e1⟩ | ⟨c1, S1, e1⟩
    · simp only [e1]
      exact fun e => by cases e
    · simp only [e1]
      have g2 := (zpt_P B (by decide) g1 _ _ e1).1
      have n2 := zpt_T B (w := 2) hn g2
      rcases zR_cases n2 with ⟨p, e2⟩ | ⟨c2, S2, e2⟩
      · simp only [e2]
        exact fun e => by cases e
      · simp only [e2]
        split <;> exact fun e => by cases e
abbrev zT3 : Type := List Int32 × List Int32 × List Int32
/-- a text that the class holds -/
def zTX (t : Nat) (T : zT3) (σ : Nat → Nat → Int32) : Prop := σ t 3 = nI 3 ∧ σ (t + 2) 0 = nI T.1.length ∧ σ (t + 2) 1 = nI (T.1 ++ T.2.1).length ∧ σ (t + 2) 2 = nI (T.1 ++ T.2.1 ++ T.2.2).length ∧ zCD t (T.1 ++ T.2.1 ++ T.2.2) σ
abbrev zXw (t : Nat) : Nat → Nat → Prop := fun r _ => r = t ∨ r = t + 1 ∨ r = t + 2
section
variable {t n : Nat} {B : Nat → Nat}
theorem zPw_X {w : Nat} : ∀ r c, zPw t w r c → zXw t r c := by
  rintro r c ((h | h) | (h | h))
  · exact Or.inr (Or.inl h)
  · exact Or.inl h.1
  · exact Or.inl h.1
  · exact Or.inr (Or.inr h.1)
theorem l48_step {w m : Nat} (hw : w < 3) {M : mm_M} : tx_read_l48 (m + 1) t (nI w) M = ((tx_take t ((256 : Int32) + nI w) M).bind fun y2 => (tx_readEither t y2.2).bind fun y3 => (tx_take t (59 : Int32) y3.2).bind fun y4 => (tx_endPart t y4.2).bind fun y5 => tx_read_l48 m t (nI (w + 1)) y5.2) := by
  rw [tx_read_l48, if_pos (show nI w < (3 : Int32) from nI_lt (b := 3) hw (by decide)), nI_1]
theorem l48_end {m : Nat} {M : mm_M} : tx_read_l48 (m + 1) t (nI 3) M = some ((), M) := by
  rw [tx_read_l48, if_neg (show ¬ nI 3 < (3 : Int32) from by decide)]
theorem l48_bad {p : Nat} : ∀ j w m M, w + j = 3 → j < m → zCB t p M.1 → M.1 t 3 = nI w → Ok (tx_read_l48 m t (nI w) M) (fun y => zCB t p y.2.1 ∧ zfx (zXw t) M.1 y.2.1 ∧ y.2.2 = M.2) := by
  intro j
  induction j with
  | zero =>
    intro w m M hw hm h h3
    obtain ⟨m, rfl, -⟩ := z_suc hm
    obtain rfl : w = 3 := by omega
    rw [l48_end]
    exact ok_ret ⟨h, zfx.rf, rfl⟩
  | succ j ih =>
    intro w m M hw hm h h3
    obtain ⟨m, rfl, hm2⟩ := z_suc hm
    rw [l48_step (by omega)]
    refine partC_bad (by omega) h h3 (fun M' a1 a2 a3 a4 => ?_)
    refine ok_mono (ih (w + 1) m M' (by omega) (by omega) a1 a4) (fun y hy => ?_)
    exact ⟨hy.1, (a2.wk zPw_X).tr hy.2.1, hy.2.2.trans a3⟩
/-- the end of tx_read -/
def zfin (t : Nat) (y2 : Unit × mm_M) : Option (Int32 × mm_M) := if (y2.2.1 t 8) = (264 : Int32) then some (y2.2.1 t 11, y2.2) else (tx_fail t y2.2).bind fun y4 => some (y4.2.1 t 11, y4.2)
theorem zfin_bad {p : Nat} {y2 : Unit × mm_M} (h : zCB t p y2.2.1) : Ok (zfin t y2) (fun y => y.1 = nI p ∧ p ≤ 160 ∧ zfx (zXw t) y2.2.1 y.2.1 ∧ y.2.2 = y2.2.2) := by
  unfold zfin
  rw [h.1]
  refine ok_neg (by decide) (ok_then h.fail (fun y hy => ok_ret ⟨hy.1.2.2.1, hy.1.2.2.2.1, hy.2.1.wk (fun r c z => zPw_X (w := 0) r c (Or.inl z)), hy.2.2⟩))
theorem readC_ok (ht : 37 ≤ t) (hn : n ≤ 160) {M : mm_M} (hT : ∀ i, i < n → M.1 25 i = nI (B i) ∧ B i < 256) : Ok (tx_read t (nI n) M) (fun y => zfx (zXw t) M.1 y.2.1 ∧ y.2.2 = M.2 ∧ (∀ p, zrdT B n = some (.inl p) → p ≤ 160 ∧ y.1 = nI p) ∧ (∀ T, zrdT B n = some (.inr T) → y.1 = -1 ∧ zTX t T y.2.1)) := by
  unfold tx_read
  have e5 : i_max (0 : Int32) (i_min (nI n) (160 : Int32)) = nI n := by
    unfold i_max i_min
    rw [if_neg (show ¬ (160 : Int32) < nI n from nI_nlt (b := n) (a := 160) (by omega) (by decide))]
    by_cases c : n = 0
    · rw [c]; rfl
    · rw [if_pos (show (0 : Int32) < nI n from nI_lt (a := 0) (by omega) (by omega))]
  rw [e5]
  have hf0 : zfx (fun r c => r = t ∧ c ≠ 0) M.1 (ak_up (ak_up (ak_up (ak_up (ak_up (ak_up M.1 t 5 (nI n)) t 2 (0 : Int32)) t 3 (0 : Int32)) t 6 (0 : Int32)) t 10 (0 : Int32)) t 11 (-1 : Int32)) := (((((zfx.rf.up ⟨rfl, by decide⟩).up ⟨rfl, by decide⟩).up ⟨rfl, by decide⟩).up ⟨rfl, by decide⟩).up ⟨rfl, by decide⟩).up ⟨rfl, by decide⟩
  have g5 : ak_up (ak_up (ak_up (ak_up (ak_up (ak_up M.1 t 5 (nI n)) t 2 (0 : Int32)) t 3 (0 : Int32)) t 6 (0 : Int32)) t 10 (0 : Int32)) t 11 (-1 : Int32) t 5 = nI n := by simp [up_ap]
  have g2 : ak_up (ak_up (ak_up (ak_up (ak_up (ak_up M.1 t 5 (nI n)) t 2 (0 : Int32)) t 3 (0 : Int32)) t 6 (0 : Int32)) t 10 (0 : Int32)) t 11 (-1 : Int32) t 2 = nI 0 := by simp [up_ap]; rfl
  have g3 : ak_up (ak_up (ak_up (ak_up (ak_up (ak_up M.1 t 5 (nI n)) t 2 (0 : Int32)) t 3 (0 : Int32)) t 6 (0 : Int32)) t 10 (0 : Int32)) t 11 (-1 : Int32) t 3 = nI 0 := by simp [up_ap]; rfl
  have g6 : ak_up (ak_up (ak_up (ak_up (ak_up (ak_up M.1 t 5 (nI n)) t 2 (0 : Int32)) t 3 (0 : Int32)) t 6 (0 : Int32)) t 10 (0 : Int32)) t 11 (-1 : Int32) t 6 = nI 0 := by simp [up_ap]; rfl
  have g10 : ak_up (ak_up (ak_up (ak_up (ak_up (ak_up M.1 t 5 (nI n)) t 2 (0 : Int32)) t 3 (0 : Int32)) t 6 (0 : Int32)) t 10 (0 : Int32)) t 11 (-1 : Int32) t 10 = nI 0 := by simp [up_ap]; rfl
  have g11 : ak_up (ak_up (ak_up (ak_up (ak_up (ak_up M.1 t 5 (nI n)) t 2 (0 : Int32)) t 3 (0 : Int32)) t 6 (0 : Int32)) t 10 (0 : Int32)) t 11 (-1 : Int32) t 11 = -1 := by simp [up_ap]
  generalize ak_up (ak_up (ak_up (ak_up (ak_up (ak_up M.1 t 5 (nI n)) t 2 (0 : Int32)) t 3 (0 : Int32)) t 6 (0 : Int32)) t 10 (0 : Int32)) t 11 (-1 : Int32) = σ at hf0 g5 g2 g3 g6 g10 g11 ⊢
  have hf1 : zfx (zXw t) M.1 σ := hf0.wk (fun r c z => Or.inl z.1)
  have hTB : zTB t n B σ := ⟨hn, g5, fun i hi => by rw [hf0 25 i (fun z => by omega)]; exact hT i hi⟩
  refine ok_then (advC_ok (M := (σ, M.2)) ht hTB (i := 0) (by omega) g6 g11) (fun y1 h1 => ?_)
  obtain ⟨a1, a2, a3⟩ := h1
  have G0 := (zlx_G B (n := n) (i := 0) (by omega)).2
  have hS0 : zSt t n B 0 [] (zlx B n 0) y1.2.1 := ⟨hTB.fx ht a2 zLx_5 (zLx_25 ht), a1, (a2 _ _ (fun z => by omega)).trans g10, ⟨by simp, (a2 _ _ (fun z => by omega)).trans g2, fun i hi => by simp at hi⟩, G0⟩
  have y13 : y1.2.1 t 3 = nI 0 := (a2 _ _ (fun z => by omega)).trans g3
  have hf2 : zfx (zXw t) M.1 y1.2.1 := hf1.tr (a2.wk (fun r c z => Or.inl z.1))
  refine ok_bind ?_
  show Ok (tx_read_l48 300 t (nI 0) y1.2) (fun y2 => Ok (zfin t y2) _)
  rw [l48_step (by decide)]
  refine partC ht (by decide) hS0 (by simp) y13 (fun M1 b => ?_)
  obtain ⟨b1, b2, b3, b4, b5⟩ := b
  have hf3 := hf2.tr (b1.wk zPw_X)
  have m1 : M1.2 = M.2 := b2.trans a3
  have n0 := zpt_T B (w := 0) hn G0
  have bad : ∀ {p j w m : Nat} {M' : mm_M}, w + j = 3 → j < m → zCB t p M'.1 → M'.1 t 3 = nI w → zfx (zXw t) M.1 M'.1 → M'.2 = M.2 → zrdT B n = some (.inl p) → Ok (tx_read_l48 m t (nI w) M') (fun y2 => Ok (zfin t y2) (fun y => zfx (zXw t) M.1 y.2.1 ∧ y.2.2 = M.2 ∧ (∀ p, zrdT B n = some (.inl p) → p ≤ 160 ∧ y.1 = nI p) ∧ (∀ T, zrdT B n = some (.inr T) → y.1 = -1 ∧ zTX t T y.2.1))) := by
    intro p j w m M' q1 q2 q3 q4 q5 q6 q7
    refine ok_mono (l48_bad j w m M' q1 q2 q3 q4) (fun y2 h2 => ?_)
    refine ok_mono (zfin_bad h2.1) (fun y hy => ⟨(q5.tr h2.2.1).tr hy.2.2.1, hy.2.2.2.trans (h2.2.2.trans q6), fun p2 e => ?_, fun T e => ?_⟩)
    · rw [q7] at e
      cases e
      exact ⟨hy.2.1, hy.1⟩
    · rw [q7] at e
      cases e
  rcases zR_cases n0 with ⟨p, e0⟩ | ⟨c0, S0, e0⟩
  · exact bad (j := 2) (by decide) (by decide) (b4 p e0) b3 hf3 m1 (by unfold zrdT; rw [e0])
  obtain ⟨u1, u2⟩ := b5 _ _ e0
  have P0 := zpt_P B (by decide) G0 _ _ e0
  rw [List.nil_append] at u1 u2
  rw [l48_step (by decide)]
  refine partC ht (by decide) u1 (by omega) b3 (fun M2 d => ?_)
  obtain ⟨d1, d2, d3, d4, d5⟩ := d
  have hf4 := hf3.tr (d1.wk zPw_X)
  have m2 : M2.2 = M.2 := d2.trans m1
  have n1 := zpt_T B (w := 1) hn P0.1
  rcases zR_cases n1 with ⟨p, e1⟩ | ⟨c1, S1, e1⟩
  · exact bad (j := 1) (by decide) (by decide) (d4 p e1) d3 hf4 m2 (by unfold zrdT; rw [e0]; simp only [e1])
  obtain ⟨v1, v2⟩ := d5 _ _ e1
  have P1 := zpt_P B (by decide) P0.1 _ _ e1
  rw [l48_step (by decide)]
  refine partC ht (by decide) v1 (by rw [List.length_append]; omega) d3 (fun M3 g => ?_)
  obtain ⟨k1, k2, k3, k4, k5⟩ := g
  have hf5 := hf4.tr (k1.wk zPw_X)
  have m3 : M3.2 = M.2 := k2.trans m2
  have n2 := zpt_T B (w := 2) hn P1.1
  rcases zR_cases n2 with ⟨p, e2⟩ | ⟨c2, S2, e2⟩
  · exact bad (j := 0) (by decide) (by decide) (k4 p e2) k3 hf5 m3 (by unfold zrdT; rw [e0]; simp only [e1, e2])
  obtain ⟨w1, w2⟩ := k5 _ _ e2
  rw [l48_end]
  refine ok_ret ?_
  unfold zfin
  have e264 := zk_eq (k := 264) w1.2.1 (by decide)
  by_cases k264 : S2.k = 264
  · have er : zrdT B n = some (.inr (c0, c1, c2)) := by unfold zrdT; rw [e0]; simp only [e1, e2]; exact if_pos k264
    refine ok_pos (e264.mpr k264) (ok_ret ⟨hf5, m3, fun p e => ?_, fun T e => ?_⟩)
    · rw [er] at e
      cases e
    · rw [er] at e
      cases e
      have h11 := w1.2.1.2.2.2.2.2
      rw [if_neg (by omega)] at h11
      refine ⟨h11, k3, ?_, ?_, w2, w1.2.2.2.1⟩
      · show M3.1 (t + 2) 0 = nI c0.length
        rw [k1 _ _ (by rintro ((z | z) | (z | z)) <;> omega), d1 _ _ (by rintro ((z | z) | (z | z)) <;> omega)]
        exact u2
      · show M3.1 (t + 2) 1 = nI (c0 ++ c1).length
        rw [k1 _ _ (by rintro ((z | z) | (z | z)) <;> omega)]
        exact v2
  · have er : zrdT B n = some (.inl S2.p) := by unfold zrdT; rw [e0]; simp only [e1, e2]; exact if_neg k264
    refine ok_neg (fun z => k264 (e264.mp z)) (ok_then (failS_ok w1) (fun y hy => ok_ret ⟨hf5.tr (hy.2.1.wk (fun r c z => zPw_X (w := 0) r c (Or.inl z))), hy.2.2.trans m3, fun p e => ?_, fun T e => ?_⟩))
    · rw [er] at e
      cases e
      exact ⟨hy.1.2.2.2.1, hy.1.2.2.1⟩
    · rw [er] at e
      cases e
end
theorem textAt_eq {c : Nat} (hc : c < 6) (M : mm_M) : ru_textAt (nI c) M = some (37 + 3 * c, M) := by
  unfold ru_textAt
  rw [if_neg (nI_pos (by omega)), if_pos (show nI c < (6 : Int32) from nI_lt (b := 6) hc (by decide)), if_pos (zI_inb (by omega) hc), zI_nat (by omega)]
theorem textC_ok {M : mm_M} {f : Nat} {ty : Nat → Nat} (h : TpC M.1 f ty) {c : Nat} (hc : M.1 26 0 = nI c) (h6 : c ≤ 6) : Ok (nb_text M) (fun y => (c = 6 → y.1 = -4 ∧ y.2 = M) ∧ (c < 6 → y.2.1 0 5 = 0 ∧ (∀ p, zrdT ty f = some (.inl p) → p ≤ 160 ∧ y.1 = -100 - nI p ∧ y.2.1 26 0 = nI c) ∧ (∀ T, zrdT ty f = some (.inr T) → y.1 = nI c ∧ y.2.1 26 0 = nI (c + 1) ∧ zTX (37 + 3 * c) T y.2.1)) ∧ zfx (fun r k => (r = 0 ∧ k = 5) ∨ (r = 26 ∧ k = 0) ∨ (c < 6 ∧ zXw (37 + 3 * c) r k)) M.1 y.2.1 ∧ y.2.2 = M.2) := by
  obtain ⟨h1, h2, h3⟩ := h
  unfold nb_text
  rw [hc]
  refine ok_ite (fun z => ?_) (fun z => ?_)
  · have c6 : c < 6 := (nI_ltI (b := 6) (by omega) (by decide)).mp z
    rw [textAt_eq c6]
    simp only [Option.bind_some]
    have is10 : mm_is10 (37 + 3 * c) = true := by
      have := mm_ei_tx (i := nI c) (zI_inb (by omega) c6)
      rw [zI_nat (by omega)] at this
      exact this
    refine ok_pos is10 ?_
    rw [h1]
    refine ok_then (readC_ok (t := 37 + 3 * c) (by omega) h2 h3) (fun y4 hy => ?_)
    obtain ⟨a1, a2, a3, a4⟩ := hy
    have e26 : y4.2.1 26 0 = nI c := (a1 _ _ (by rintro (z | z | z) <;> omega)).trans hc
    have hm1 : ∀ p ≤ 160, nI p ≠ (-1 : Int32) := by decide +kernel
    rcases e : zrdT ty f with _ | p | T
    · exact absurd e (zrdT_T ty h2)
    · obtain ⟨p1, p2⟩ := a3 p e
      refine ok_neg (by rw [p2]; exact hm1 p p1) (ok_ret ⟨fun z => by omega, fun _ => ⟨?_, fun q eq => ?_, fun T eq => (by cases eq)⟩, (a1.wk (fun r c z => Or.inr (Or.inr ⟨c6, z⟩))).up (Or.inl ⟨rfl, rfl⟩), a2⟩)
      · show ak_up y4.2.1 0 5 0 0 5 = 0
        exact ak_up_same
      cases eq
      refine ⟨p1, by rw [p2], ?_⟩
      show ak_up y4.2.1 0 5 0 26 0 = nI c
      rw [ak_up_ne (by decide)]
      exact e26
    · obtain ⟨p1, p2⟩ := a4 T e
      rw [ak_up_same, ak_up_ne (show (26 : Nat) ≠ 0 by decide), e26, nI_1, nI_pred]
      have hfx : zfx (fun r k => (r = 0 ∧ k = 5) ∨ (r = 26 ∧ k = 0)) y4.2.1 (ak_up (ak_up y4.2.1 0 5 0) 26 0 (nI (c + 1))) := (zfx.rf.up (Or.inl ⟨rfl, rfl⟩)).up (Or.inr ⟨rfl, rfl⟩)
      refine ok_pos p1 (ok_ret ⟨fun z => by omega, fun _ => ⟨?_, fun p eq => (by cases eq), fun T2 eq => ?_⟩, (a1.wk (fun r c z => Or.inr (Or.inr ⟨c6, z⟩))).tr (hfx.wk (fun r c z => z.elim Or.inl (fun z => Or.inr (Or.inl z)))), a2⟩)
      · show ak_up (ak_up y4.2.1 0 5 0) 26 0 (nI (c + 1)) 0 5 = 0
        rw [ak_up_ne (by decide), ak_up_same]
      · cases eq
        obtain ⟨q1, q2, q3, q4, q5⟩ := p2
        exact ⟨rfl, (show ak_up (ak_up y4.2.1 0 5 0) 26 0 (nI (c + 1)) 26 0 = nI (c + 1) from ak_up_same), (hfx _ _ (by omega)).trans q1, (hfx _ _ (by omega)).trans q2, (hfx _ _ (by omega)).trans q3, (hfx _ _ (by omega)).trans q4, q5.fx hfx (by omega) (by omega)⟩
  · have c6 : c = 6 := by
      have : ¬ c < 6 := fun w => z (nI_lt (b := 6) w (by decide))
      omega
    exact ok_ret ⟨fun _ => ⟨rfl, rfl⟩, fun w => by omega, zfx.rf, rfl⟩
/-- one item of a code, on a stack -/
def zsp1 (c v : Int32) : Int32 := if c = -7 then -v else if v = 0 then 1 else 0
def zsp2 (c a b : Int32) : Int32 := if c = -14 then (if a = 0 then 0 else if b = 0 then 0 else 1) else if c = -13 then (if a = b then 1 else 0) else if c = -12 then (if a < b then 1 else 0) else if c = -11 then a * b else if c = -10 then a - b else if c = -9 then a + b else if a = 0 then (if b = 0 then 0 else 1) else 1
def zst2 (c : Int32) : List Int32 → List Int32
  | b :: a :: r => zsp2 c a b :: r
  | s => s
def zst1 (c : Int32) : List Int32 → List Int32
  | v :: r => zsp1 c v :: r
  | [] => []
def zstp (env : Nat → Int32) (c : Int32) (st : List Int32) : List Int32 := if -7 < c then (if c < 0 then env (-1 - c).toNatClampNeg else c) :: st else if c < -8 then zst2 c st else zst1 c st
def zrn (env : Nat → Int32) : List Int32 → List Int32 → List Int32
  | [], st => st
  | c :: l, st => zrn env l (zstp env c st)
theorem zrn_app (env : Nat → Int32) : ∀ a b st, zrn env (a ++ b) st = zrn env b (zrn env a st) := by
  intro a
  induction a with
  | nil => intro b st; rfl
  | cons c l ih => intro b st; exact ih b _
theorem turned_eq (c v : Int32) (M : mm_M) : tx_turned c v M = some (zsp1 c v, M) := by
  unfold tx_turned zsp1
  repeat' split
  all_goals rfl
theorem joined_eq (c a b : Int32) (M : mm_M) : tx_joined c a b M = some (zsp2 c a b, M) := by
  unfold tx_joined zsp2
  repeat' split
  all_goals rfl
/-- the stack's cells -/
def zSK : List Int32 → (Nat → Nat → Int32) → Prop
  | [], _ => True
  | v :: r, σ => σ 36 r.length = v ∧ zSK r σ
theorem zSK.up {σ : Nat → Nat → Int32} {j : Nat} {v : Int32} : ∀ st : List Int32, st.length ≤ j → zSK st σ → zSK st (ak_up σ 36 j v) := by
  intro st
  induction st with
  | nil => intro _ _; trivial
  | cons a r ih =>
    intro h1 h2
    have h3 : r.length + 1 ≤ j := h1
    refine ⟨?_, ih (by omega) h2.2⟩
    rw [ak_up_oth (by omega)]
    exact h2.1
theorem zenv_i {c : Int32} (h1 : -7 < c) (h2 : c < 0) : ak_inb (-1 - c) 6 = true ∧ (-1 - c) < (Int32.ofNat 6) ∧ (-1 - c).toNatClampNeg < 6 := by
  obtain ⟨k, hk, rfl⟩ : ∃ k : Nat, k < 6 ∧ c = -1 - nI k := by
    have a1 := i_lt.mp h1
    have a2 := i_lt.mp h2
    rw [show (-7 : Int32).toInt = -7 from rfl] at a1
    rw [zi0] at a2
    refine ⟨(-1 - c.toInt).toNat, by omega, ?_⟩
    have : ∀ k < 6, (-1 - nI k).toInt = -1 - (k : Int) := by decide
    rw [i_eq, this _ (by omega)]
    omega
  have : ∀ k < 6, ak_inb (-1 - (-1 - nI k)) 6 = true ∧ (-1 - (-1 - nI k)) < (Int32.ofNat 6) ∧ (-1 - (-1 - nI k)).toNatClampNeg < 6 := by decide
  exact this k hk
theorem operand_eq {env : Nat → Int32} {M : mm_M} (he : ∀ i, i < 6 → M.1 35 i = env i) {c : Int32} (h1 : -7 < c) : tx_operand c 35 M = some (if c < 0 then env (-1 - c).toNatClampNeg else c, M) := by
  unfold tx_operand
  by_cases h2 : c < 0
  · obtain ⟨e1, e2, e3⟩ := zenv_i h1 h2
    rw [if_pos h2, if_pos h2, show mm_ia 35 = some 6 from rfl, Option.bind_some, if_pos e2, Option.bind_some, if_pos e1, he _ e3]
  · rw [if_neg h2, if_neg h2]
theorem valueC_l {t : Nat} (ht : 37 ≤ t) {env : Nat → Int32} : ∀ (l : List Int32) k m (st : List Int32) (M : mm_M), l.length < m → (∀ i, i < l.length → M.1 (t + 1) (k + i) = l.getD i 0) → k + l.length ≤ 160 → st.length ≤ k → (∀ i, i < 6 → M.1 35 i = env i) → zSK st M.1 → Ok (tx_value_l51 m t 35 36 (nI st.length) (nI (k + l.length)) (nI k) M) (fun y => y.1 = nI (zrn env l st).length ∧ zSK (zrn env l st) y.2.1 ∧ zfx (fun r _ => r = 36) M.1 y.2.1 ∧ y.2.2 = M.2) := by
  intro l
  induction l with
  | nil =>
    intro k m st M hm hc hk hs he h
    obtain ⟨m, rfl, -⟩ := z_suc hm
    rw [tx_value_l51, if_neg (nI_nlt (by simp) (by simp only [List.length_nil] at hk; omega))]
    exact ok_ret ⟨rfl, h, zfx.rf, rfl⟩
  | cons c l ih =>
    intro k m st M hm hc hk hs he h
    obtain ⟨m, rfl, hm2⟩ := z_suc hm
    have hk2 : k + (l.length + 1) ≤ 160 := hk
    have hc0 : M.1 (t + 1) k = c := by
      have := hc 0 (by simp)
      simpa using this
    have hc2 : ∀ i, i < l.length → M.1 (t + 1) (k + 1 + i) = l.getD i 0 := by
      intro i hi
      have := hc (i + 1) (by simp; omega)
      rw [show k + (i + 1) = k + 1 + i by omega] at this
      simpa using this
    have hml : l.length < m := by
      have : l.length + 1 ≤ m := hm2
      omega
    have hlen : k + (c :: l).length = k + 1 + l.length := by simp only [List.length_cons]; omega
    rw [tx_value_l51, hlen]
    refine ok_pos (nI_lt (by omega) (by omega)) (ok_pos (zI_inb (by omega) (by omega)) ?_)
    rw [zI_nat (by omega), hc0, nI_1 k]
    have go : ∀ (st2 : List Int32) (M2 : mm_M), st2.length ≤ k + 1 → zfx (fun r _ => r = 36) M.1 M2.1 → M2.2 = M.2 → zSK st2 M2.1 → zstp env c st = st2 → Ok (tx_value_l51 m t 35 36 (nI st2.length) (nI (k + 1 + l.length)) (nI (k + 1)) M2) (fun y => y.1 = nI (zrn env (c :: l) st).length ∧ zSK (zrn env (c :: l) st) y.2.1 ∧ zfx (fun r _ => r = 36) M.1 y.2.1 ∧ y.2.2 = M.2) := by
      intro st2 M2 q1 q2 q3 q4 q5
      refine ok_mono (ih (k + 1) m st2 M2 hml (fun i hi => (q2 _ _ (show ¬ t + 1 = 36 by omega)).trans (hc2 i hi)) (by omega) q1 (fun i hi => (q2 _ _ (show ¬ 35 = 36 by decide)).trans (he i hi)) q4) (fun y hy => ?_)
      obtain ⟨y1, y2, y3, y4⟩ := hy
      rw [show zrn env (c :: l) st = zrn env l st2 by rw [← q5]; rfl]
      exact ⟨y1, y2, q2.tr y3, y4.trans q3⟩
    by_cases c7 : -7 < c
    · have ez : zstp env c st = (if c < 0 then env (-1 - c).toNatClampNeg else c) :: st := if_pos c7
      refine ok_pos c7 ?_
      simp only [show mm_ia 36 = some 160 from rfl, Option.bind_some]
      refine ok_pos (nI_lt (b := 160) (by omega) (by decide)) ?_
      rw [operand_eq he c7]
      simp only [Option.bind_some]
      refine ok_pos (zI_inb (by omega) (by omega)) ?_
      rw [zI_nat (by omega), nI_1]
      exact go (_ :: st) _ (by simp only [List.length_cons]; omega) (zfx.rf.up rfl) rfl ⟨ak_up_same, h.up st (Nat.le_refl _)⟩ ez
    · refine ok_neg c7 ?_
      by_cases c8 : c < -8
      · refine ok_pos c8 ?_
        have ez : zstp env c st = zst2 c st := (if_neg c7).trans (if_pos c8)
        match st, hs, h, ez, go with
        | [], hs, h, ez, go => exact ok_pos (by decide) (go [] M (by simp) zfx.rf rfl h ez)
        | [v], hs, h, ez, go => exact ok_pos (show nI 1 < (2 : Int32) from by decide) (go [v] M (by simp) zfx.rf rfl h ez)
        | b :: a :: r, hs, h, ez, go =>
          have hr : r.length + 2 ≤ k := hs
          have e1 : nI (b :: a :: r).length + (-1 : Int32) = nI (r.length + 1) := by
            show nI (r.length + 1 + 1) + (-1 : Int32) = _
            rw [← Int32.sub_eq_add_neg]
            exact nI_pred _
          rw [e1, nI_pred]
          refine ok_neg (nI_nlt (b := 2) (by simp) (by simp only [List.length_cons]; omega)) ?_
          simp only [show mm_ia 36 = some 160 from rfl, Option.bind_some]
          refine ok_pos (zI_inb (by omega) (by omega)) (ok_pos (zI_inb (by omega) (by omega)) ?_)
          rw [joined_eq]
          simp only [Option.bind_some]
          refine ok_pos (zI_inb (by omega) (by omega)) ?_
          rw [zI_nat (by omega), zI_nat (by omega)]
          have hb : M.1 36 (r.length + 1) = b := h.1
          have ha : M.1 36 r.length = a := h.2.1
          rw [hb, ha]
          exact go (zsp2 c a b :: r) (ak_up M.1 36 r.length (zsp2 c a b), M.2) (by simp only [List.length_cons]; omega) (zfx.rf.up rfl) rfl ⟨ak_up_same, h.2.2.up r (Nat.le_refl _)⟩ ez
      · refine ok_neg c8 ?_
        have ez : zstp env c st = zst1 c st := (if_neg c7).trans (if_neg c8)
        match st, hs, h, ez, go with
        | [], hs, h, ez, go => exact ok_pos (by decide) (go [] M (by simp) zfx.rf rfl h ez)
        | v :: r, hs, h, ez, go =>
          have hr : r.length + 1 ≤ k := hs
          have e1 : nI (v :: r).length - 1 = nI r.length := nI_pred _
          rw [e1]
          refine ok_neg (nI_nlt (b := 1) (by simp) (by simp only [List.length_cons]; omega)) ?_
          simp only [show mm_ia 36 = some 160 from rfl, Option.bind_some]
          refine ok_pos (zI_inb (by omega) (by omega)) ?_
          rw [turned_eq]
          simp only [Option.bind_some]
          refine ok_pos (zI_inb (by omega) (by omega)) ?_
          rw [zI_nat (by omega)]
          have hv : M.1 36 r.length = v := h.1
          rw [hv]
          exact go (zsp1 c v :: r) (ak_up M.1 36 r.length (zsp1 c v), M.2) (by simp only [List.length_cons]; omega) (zfx.rf.up rfl) rfl ⟨ak_up_same, h.2.up r (Nat.le_refl _)⟩ ez
/-- the code of a part -/
def zprt (T : zT3) (a : Nat) : List Int32 := if a = 0 then T.1 else if a = 1 then T.2.1 else T.2.2
theorem valueC_ok {t : Nat} (ht : 37 ≤ t) {env : Nat → Int32} {T : zT3} {a : Nat} (ha : a < 3) {M : mm_M} (hT : zTX t T M.1) (he : ∀ i, i < 6 → M.1 35 i = env i) {x : Int32} (hx : zrn env (zprt T a) [] = [x]) : Ok (tx_value t (nI a) 35 36 M) (fun y => y.1 = x ∧ zfx (fun r _ => r = 36) M.1 y.2.1 ∧ y.2.2 = M.2) := by
  obtain ⟨h1, h2, h3, h4, h5, h6, h7⟩ := hT
  simp only [List.length_append] at h3 h4 h5
  have mn : ∀ k ≤ 160, i_min (nI k) (160 : Int32) = nI k := fun k hk => if_neg (show ¬ (160 : Int32) < nI k from nI_nlt (b := k) (a := 160) hk (by decide))
  have fin : ∀ (k : Nat) (c : List Int32), zrn env c [] = [x] → k + c.length ≤ 160 → (∀ i, i < c.length → M.1 (t + 1) (k + i) = c.getD i 0) → Ok ((tx_value_l51 300 t 35 36 (0 : Int32) (nI (k + c.length)) (nI k) M).bind fun y6 => if (0 : Int32) < y6.1 then (mm_ia 36).bind fun n8 => if ak_inb (0 : Int32) n8 = true then some (y6.2.1 36 (0 : Int32).toNatClampNeg, y6.2) else none else some ((0 : Int32), y6.2)) (fun y => y.1 = x ∧ zfx (fun r _ => r = 36) M.1 y.2.1 ∧ y.2.2 = M.2) := by
    intro k c q1 q2 q3
    refine ok_then (valueC_l ht c k 300 [] M (by omega) q3 q2 (by simp) he trivial) (fun y hy => ?_)
    obtain ⟨y1, y2, y3, y4⟩ := hy
    rw [q1] at y1 y2
    rw [y1]
    refine ok_pos (show (0 : Int32) < nI 1 from by decide) ?_
    simp only [show mm_ia 36 = some 160 from rfl, Option.bind_some]
    exact ok_pos (by decide) (ok_ret ⟨y2.1, y3, y4⟩)
  unfold tx_value
  refine ok_neg (nI_pos (by omega)) ?_
  rw [h1]
  refine ok_pos (nI_lt ha (by decide)) (ok_pos (zI_inb (by omega) ha) ?_)
  have a3 : a = 0 ∨ a = 1 ∨ a = 2 := by omega
  rcases a3 with rfl | rfl | rfl
  · refine ok_neg (by decide) ?_
    rw [zI_nat (by omega), h2, mn _ (by omega)]
    have := fin 0 T.1 hx (by omega) (fun i hi => by rw [Nat.zero_add, h7 i (by simp; omega)]; simp [List.getD, List.getElem?_append_left, hi])
    rw [Nat.zero_add] at this
    exact this
  · refine ok_pos (by decide) (ok_pos (by decide) ?_)
    rw [zI_nat (by omega), h3, mn _ (by omega), show (nI 1 - (1 : Int32)).toNatClampNeg = 0 from rfl, h2]
    exact fin T.1.length T.2.1 hx (by omega) (fun i hi => by
      rw [h7 _ (by simp; omega)]
      simp [List.getD, List.getElem?_append_left, List.getElem?_append_right, hi])
  · refine ok_pos (by decide) (ok_pos (by decide) ?_)
    rw [zI_nat (by omega), h4, mn _ (by omega), show (nI 2 - (1 : Int32)).toNatClampNeg = 1 from rfl, h3]
    exact fin (T.1.length + T.2.1.length) T.2.2 hx (by omega) (fun i hi => by
      rw [h7 _ (by simp; omega)]
      rw [← List.length_append]
      simp only [List.getD]
      rw [List.getElem?_append_right (by omega)]
      simp)
