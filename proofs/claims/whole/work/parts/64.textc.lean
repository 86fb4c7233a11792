/-! level 2: texts: a text read by the class -/
def zpt (B : Nat → Nat) (n w : Nat) (S : zTk) : zR := if S.k = 256 + w then zbd (zrd B n 60 0 0 (zlx B n S.e)) fun c S1 => if S1.k = 59 then some (.inr (c, zlx B n S1.e)) else some (.inl S1.p) else some (.inl S.p)
/-- the codes of a text's three parts, or the place of its fault -/
def zrdT (B : Nat → Nat) (n : Nat) : Option (Nat ⊕ (List Int32 × List Int32 × List Int32)) := match zpt B n 0 (zlx B n 0) with
  | none => none
  | some (.inl p) => some (.inl p)
  | some (.inr y0) => match zpt B n 1 y0.2 with
    | none => none
    | some (.inl p) => some (.inl p)
    | some (.inr y1) => match zpt B n 2 y1.2 with
      | none => none
      | some (.inl p) => some (.inl p)
      | some (.inr y2) => if y2.2.k = 264 then some (.inr (y0.1, y1.1, y2.1)) else some (.inl y2.2.p)
theorem zpt_P (B : Nat → Nat) {n w : Nat} (hw : w < 3) {S : zTk} (hS : zG n S) : zP n S (zpt B n w S) := by
  intro c S1 e
  unfold zpt at e
  split at e
  · rename_i hk
    have hlt := zG_lt hS (by omega) (by omega)
    have hg := zlx_G B (n := n) (i := S.e) hS.2.1
    have hg1 := hg.1
    obtain ⟨c1, S2, e1, e2⟩ := zbd_inr e
    obtain ⟨q1, q2, q3, q4⟩ := zrd_P B n _ _ _ _ hg.2 _ _ e1
    split at e2
    · cases e2
      have hg2 := zlx_G B (n := n) (i := S2.e) q1.2.1
      have := hg2.1
      have := q1.1
      exact ⟨hg2.2, hlt, by omega, by omega⟩
    · cases e2
  · cases e
theorem zpt_T (B : Nat → Nat) {n w : Nat} (hn : n ≤ 160) {S : zTk} (hS : zG n S) : zpt B n w S ≠ none := by
  unfold zpt
  split
  · have hg := zlx_G B (n := n) (i := S.e) hS.2.1
    refine zbd_none (zrd_T B hn 60 0 0 _ hg.2 (by omega) (by omega) (by omega)) (fun c S1 _ => ?_)
    split
    · exact fun e => by cases e
    · exact fun e => by cases e
  · exact fun e => by cases e
section
variable {t n : Nat} {B : Nat → Nat}
theorem zCB.fx {p : Nat} {σ σ' : Nat → Nat → Int32} (h : zCB t p σ) {P : Nat → Nat → Prop} (hf : zfx P σ σ') (hp : ∀ c, c = 2 ∨ c = 7 ∨ c = 8 ∨ c = 11 → ¬ P t c) : zCB t p σ' := by
  obtain ⟨h1, h2, h3, h4, z, hz, h5⟩ := h
  exact ⟨(hf _ _ (hp 8 (by decide))).trans h1, (hf _ _ (hp 7 (by decide))).trans h2, (hf _ _ (hp 11 (by decide))).trans h3, h4, z, hz, (hf _ _ (hp 2 (by decide))).trans h5⟩
theorem zCB.fail {p : Nat} {M : mm_M} (h : zCB t p M.1) : Ok (tx_fail t M) (fun y => zCB t p y.2.1 ∧ zfx (zRw t) M.1 y.2.1 ∧ y.2.2 = M.2) := by
  obtain ⟨h1, h2, h3, h4, z, hz, h5⟩ := h
  refine ok_mono (failC_ok (p := p) h2 (Or.inr h3) (by omega)) (fun y hy => ?_)
  obtain ⟨y1, y2, y3, y4⟩ := hy
  exact ⟨⟨y1, (y3 _ _ (fun z => by omega)).trans h2, y2, h4, z, hz, (y3 _ _ (fun z => by omega)).trans h5⟩, y3.wk (fun r c z => Or.inr ⟨z.1, by omega⟩), y4⟩
theorem zcl_bad {p : Nat} {M : mm_M} (h : zCB t p M.1) {tst : Int32 → Int32} (h0 : tst (nI 265) = 0) (sel : Nat) (rc : Nat → mm_M → Option (Unit × mm_M)) : zcl tst sel rc t 300 (0 : Int32) M = some ((), M) := by
  unfold zcl
  rw [if_pos (by decide), if_pos (by rw [h.1]; exact h0)]
theorem rdC_bad {p : Nat} : ∀ k s M, s ≤ 6 → 7 ≤ k + s → zCB t p M.1 → Ok (tx_rd k t s M) (fun y => zCB t p y.2.1 ∧ zfx (zRw t) M.1 y.2.1 ∧ y.2.2 = M.2) := by
  intro k
  induction k with
  | zero => intro s M hs hk h; omega
  | succ k ih =>
    intro s M hs hk h
    unfold tx_rd
    have h8 := h.1
    have hs2 : s = 0 ∨ s = 1 ∨ s = 2 ∨ s = 3 ∨ s = 4 ∨ s = 5 ∨ s = 6 := by omega
    rcases hs2 with rfl | rfl | rfl | rfl | rfl | rfl | rfl
    · simp only [if_true, tx_readEither_b, zcl_0]
      refine ok_then (ih 1 M (by decide) (by omega) h) (fun y hy => ?_)
      rw [zcl_bad hy.1 (by decide)]
      exact ok_ret hy
    · simp only [show ¬ (1 = 0) by decide, if_false, if_true, tx_readBoth_b, zcl_1]
      refine ok_then (ih 2 M (by decide) (by omega) h) (fun y hy => ?_)
      rw [zcl_bad hy.1 (by decide)]
      exact ok_ret hy
    · simp only [show ¬ (2 = 0) by decide, show ¬ (2 = 1) by decide, if_false, if_true, tx_readNot_b]
      rw [h8]
      refine ok_neg (by decide) (ok_then (ih 3 M (by decide) (by omega) h) (fun y hy => ok_ret hy))
    · simp only [show ¬ (3 = 0) by decide, show ¬ (3 = 1) by decide, show ¬ (3 = 2) by decide, if_false, if_true, tx_readComparison_b]
      refine ok_then (ih 4 M (by decide) (by omega) h) (fun y hy => ?_)
      rw [hy.1.1]
      exact ok_neg (by decide) (ok_neg (by decide) (ok_ret hy))
    · simp only [show ¬ (4 = 0) by decide, show ¬ (4 = 1) by decide, show ¬ (4 = 2) by decide, show ¬ (4 = 3) by decide, if_false, if_true, tx_readSum_b, zcl_4]
      refine ok_then (ih 5 M (by decide) (by omega) h) (fun y hy => ?_)
      rw [zcl_bad hy.1 (by decide)]
      exact ok_ret hy
    · simp only [show ¬ (5 = 0) by decide, show ¬ (5 = 1) by decide, show ¬ (5 = 2) by decide, show ¬ (5 = 3) by decide, show ¬ (5 = 4) by decide, if_false, if_true, tx_readTerm_b, zcl_5]
      refine ok_then (ih 6 M (by decide) (by omega) h) (fun y hy => ?_)
      rw [zcl_bad hy.1 (by decide)]
      exact ok_ret hy
    · simp only [show ¬ (6 = 0) by decide, show ¬ (6 = 1) by decide, show ¬ (6 = 2) by decide, show ¬ (6 = 3) by decide, show ¬ (6 = 4) by decide, show ¬ (6 = 5) by decide, if_false, if_true, tx_readOne_b]
      rw [h8]
      exact ok_neg (by decide) (ok_neg (by decide) (ok_neg (by decide) (ok_neg (by decide) (ok_then h.fail (fun y hy => ok_ret hy)))))
theorem zCB.take {p : Nat} {M : mm_M} (h : zCB t p M.1) {a : Int32} (ha : nI 265 ≠ a) : Ok (tx_take t a M) (fun y => zCB t p y.2.1 ∧ zfx (zRw t) M.1 y.2.1 ∧ y.2.2 = M.2) := by
  unfold tx_take
  rw [h.1]
  exact ok_neg ha (ok_then h.fail (fun y hy => ok_ret hy))
theorem takeS_ok (ht : 37 ≤ t) {o k : Nat} {S : zTk} {L : List Int32} {M : mm_M} (hS : zSt t n B o L S M.1) (hk : k < 264) : Ok (tx_take t (nI k) M) (fun y => zfx (zRw t) M.1 y.2.1 ∧ y.2.2 = M.2 ∧ (S.k = k → zSt t n B o L (zlx B n S.e) y.2.1) ∧ (S.k ≠ k → zCB t S.p y.2.1)) := by
  have e := zk_eq (k := k) hS.2.1 (by omega)
  unfold tx_take
  refine ok_ite (fun c => ?_) (fun c => ?_)
  · have c1 := e.mp c
    refine ok_then (advS_ok ht hS (by omega)) (fun y hy => ok_ret ⟨hy.2.1, hy.2.2, fun _ => hy.1, fun z => absurd c1 z⟩)
  · refine ok_then (failS_ok hS) (fun y hy => ok_ret ⟨hy.2.1, hy.2.2, fun z => absurd (e.mpr z) c, fun _ => hy.1⟩)
abbrev zEw (t w : Nat) : Nat → Nat → Prop := fun r c => (r = t ∧ c = 3) ∨ (r = t + 2 ∧ c = w)
theorem endPart_ok {w : Nat} (hw : w < 3) {M : mm_M} (h3 : M.1 t 3 = nI w) : Ok (tx_endPart t M) (fun y => y.2.1 t 3 = nI (w + 1) ∧ y.2.1 (t + 2) w = M.1 t 2 ∧ zfx (zEw t w) M.1 y.2.1 ∧ y.2.2 = M.2) := by
  unfold tx_endPart
  rw [h3]
  refine ok_pos (nI_lt (b := 3) hw (by decide)) (ok_pos (zI_inb (by omega) hw) ?_)
  rw [zI_nat (by omega), ak_up_ne (show t ≠ t + 2 by omega), h3, nI_1]
  refine ok_ret ⟨ak_up_same, ?_, (zfx.rf.up (Or.inr ⟨rfl, rfl⟩)).up (Or.inl ⟨rfl, rfl⟩), rfl⟩
  show ak_up (ak_up M.1 (t + 2) w (M.1 t 2)) t 3 _ (t + 2) w = _
  rw [ak_up_ne (by omega), ak_up_same]
abbrev zPw (t w : Nat) : Nat → Nat → Prop := fun r c => zRw t r c ∨ zEw t w r c
/-- after a part -/
def zPp (t n : Nat) (B : Nat → Nat) (w : Nat) (L : List Int32) (r : zR) (M M' : mm_M) : Prop := zfx (zPw t w) M.1 M'.1 ∧ M'.2 = M.2 ∧ M'.1 t 3 = nI (w + 1) ∧ (∀ p, r = some (.inl p) → zCB t p M'.1) ∧ (∀ c S1, r = some (.inr (c, S1)) → zSt t n B 0 (L ++ c) S1 M'.1 ∧ M'.1 (t + 2) w = nI (L ++ c).length)
theorem zEw_S {w : Nat} {o : Nat} {L : List Int32} {S : zTk} {σ σ' : Nat → Nat → Int32} (ht : 37 ≤ t) (h : zSt t n B o L S σ) (hf : zfx (zEw t w) σ σ') : zSt t n B o L S σ' := by
  obtain ⟨h1, h2, h3, h4, h5⟩ := h
  exact ⟨h1.fx ht hf (by rintro (z | z) <;> omega) (by rintro c (z | z) <;> omega), h2.fx hf (by rintro c hc (z | z) <;> omega), (hf _ _ (by rintro (z | z) <;> omega)).trans h3, h4.fx hf (by rintro (z | z) <;> omega) (by rintro c (z | z) <;> omega), h5⟩
theorem partC_bad {β : Type} {p w : Nat} (hw : w < 3) {M : mm_M} (h : zCB t p M.1) (h3 : M.1 t 3 = nI w) {g : mm_M → Option β} {P : β → Prop} (k : ∀ M' : mm_M, zCB t p M'.1 → zfx (zPw t w) M.1 M'.1 → M'.2 = M.2 → M'.1 t 3 = nI (w + 1) → Ok (g M') P) : Ok ((tx_take t ((256 : Int32) + nI w) M).bind fun y2 => (tx_readEither t y2.2).bind fun y3 => (tx_take t (59 : Int32) y3.2).bind fun y4 => (tx_endPart t y4.2).bind fun y5 => g y5.2) P := by
  have ha : ∀ w < 3, nI 265 ≠ (256 : Int32) + nI w := by decide
  refine ok_then (h.take (ha w hw)) (fun y2 h2 => ?_)
  refine ok_then (rdC_bad 60 0 y2.2 (by decide) (by decide) h2.1) (fun y3 h4 => ?_)
  refine ok_then (h4.1.take (by decide)) (fun y4 h5 => ?_)
  have f1 : zfx (zRw t) M.1 y4.2.1 := (h2.2.1.tr h4.2.1).tr h5.2.1
  refine ok_then (endPart_ok hw ((f1 _ _ (by rintro (z | z) <;> omega)).trans h3)) (fun y5 h6 => ?_)
  exact k y5.2 (h5.1.fx h6.2.2.1 (by rintro c hc (z | z) <;> omega)) ((f1.wk (fun r c z => Or.inl z)).tr (h6.2.2.1.wk (fun r c z => Or.inr z))) (h6.2.2.2.trans (h5.2.2.trans (h4.2.2.trans h2.2.2))) h6.1
theorem partC {β : Type} (ht : 37 ≤ t) {w : Nat} (hw : w < 3) {S : zTk} {L : List Int32} {M : mm_M} (hS : zSt t n B 0 L S M.1) (hl : L.length ≤ S.p) (h3 : M.1 t 3 = nI w) {g : mm_M → Option β} {P : β → Prop} (k : ∀ M' : mm_M, zPp t n B w L (zpt B n w S) M M' → Ok (g M') P) : Ok ((tx_take t ((256 : Int32) + nI w) M).bind fun y2 => (tx_readEither t y2.2).bind fun y3 => (tx_take t (59 : Int32) y3.2).bind fun y4 => (tx_endPart t y4.2).bind fun y5 => g y5.2) P := by
  have hn := hS.1.1
  have hG := hS.2.2.2.2
  have hG1 := hG.2.1
  have hg := zlx_G B (n := n) (i := S.e) hG.2.1
  have hg1 := hg.1
  have e256 : (256 : Int32) + nI w = nI (256 + w) := nI_add 256 w
  rw [e256]
  refine ok_then (takeS_ok ht hS (by omega)) (fun y2 h2 => ?_)
  obtain ⟨a1, a2, a3, a4⟩ := h2
  by_cases c : S.k = 256 + w
  · have hS1 := a3 c
    have hlt := zG_lt hG (by omega) (by omega)
    have hne := zrd_T B hn 60 0 0 _ hg.2 (by omega) (by omega) (by omega)
    refine ok_then ((rdC ht 60).1 0 0 _ L y2.2 (by decide) (by decide) hne hS1 (by omega)) (fun y3 h4 => ?_)
    obtain ⟨b1, b2, b3, b4⟩ := h4
    have ez : zpt B n w S = zbd (zrd B n 60 0 0 (zlx B n S.e)) fun c S1 => if S1.k = 59 then some (.inr (c, zlx B n S1.e)) else some (.inl S1.p) := if_pos c
    rcases zR_cases hne with ⟨p, er⟩ | ⟨c1, S1, er⟩
    · refine ok_then ((b3 p er).take (by decide)) (fun y4 h5 => ?_)
      have f1 : zfx (zRw t) M.1 y4.2.1 := (a1.tr b1).tr h5.2.1
      refine ok_then (endPart_ok hw ((f1 _ _ (by rintro (z | z) <;> omega)).trans h3)) (fun y5 h6 => ?_)
      refine k y5.2 ⟨(f1.wk (fun r c z => Or.inl z)).tr (h6.2.2.1.wk (fun r c z => Or.inr z)), h6.2.2.2.trans (h5.2.2.trans (b2.trans a2)), h6.1, fun q e => ?_, fun c2 S2 e => ?_⟩
      · rw [ez, er] at e
        cases e
        exact h5.1.fx h6.2.2.1 (by rintro c hc (z | z) <;> omega)
      · rw [ez, er] at e
        cases e
    · have hS2 := b4 _ _ er
      have ez2 : zpt B n w S = if S1.k = 59 then some (.inr (c1, zlx B n S1.e)) else some (.inl S1.p) := by rw [ez, er]; rfl
      refine ok_then (takeS_ok (k := 59) ht hS2 (by decide)) (fun y4 h5 => ?_)
      obtain ⟨d1, d2, d3, d4⟩ := h5
      have f1 : zfx (zRw t) M.1 y4.2.1 := (a1.tr b1).tr d1
      refine ok_then (endPart_ok hw ((f1 _ _ (by rintro (z | z) <;> omega)).trans h3)) (fun y5 h6 => ?_)
      have ff := (f1.wk (Q := zPw t w) (fun r c z => Or.inl z)).tr (h6.2.2.1.wk (fun r c z => Or.inr z))
      have fm := h6.2.2.2.trans (d2.trans (b2.trans a2))
      by_cases k59 : S1.k = 59
      · rw [if_pos k59] at ez2
        refine k y5.2 ⟨ff, fm, h6.1, fun q e => ?_, fun c2 S2 e => ?_⟩
        · rw [ez2] at e
          cases e
        · rw [ez2] at e
          cases e
          have hS3 := d3 k59
          exact ⟨zEw_S ht hS3 h6.2.2.1, h6.2.1.trans hS3.2.2.2.1.2.1⟩
      · rw [if_neg k59] at ez2
        refine k y5.2 ⟨ff, fm, h6.1, fun q e => ?_, fun c2 S2 e => ?_⟩
        · rw [ez2] at e
          cases e
          exact (d4 k59).fx h6.2.2.1 (by rintro c hc (z | z) <;> omega)
        · rw [ez2] at e
          cases e
  · have hb := a4 c
    have ez : zpt B n w S = some (.inl S.p) := if_neg c
    refine ok_then (rdC_bad 60 0 y2.2 (by decide) (by decide) hb) (fun y3 h4 => ?_)
    refine ok_then (h4.1.take (by decide)) (fun y4 h5 => ?_)
    have f1 : zfx (zRw t) M.1 y4.2.1 := (a1.tr h4.2.1).tr h5.2.1
    refine ok_then (endPart_ok hw ((f1 _ _ (by rintro (z | z) <;> omega)).trans h3)) (fun y5 h6 => ?_)
    refine k y5.2 ⟨(f1.wk (fun r c z => Or.inl z)).tr (h6.2.2.1.wk (fun r c z => Or.inr z)), h6.2.2.2.trans (h5.2.2.trans (h4.2.2.trans a2)), h6.1, fun q e => ?_, fun c2 S2 e => ?_⟩
    · rw [ez] at e
      cases e
      exact h5.1.fx h6.2.2.1 (by rintro c hc (z | z) <;> omega)
    · rw [ez] at e
      cases e
end
