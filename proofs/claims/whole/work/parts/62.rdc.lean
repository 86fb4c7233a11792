/-! level 2: texts: the class's reader -/
/-- the code that a text holds -/
def zCD (t : Nat) (L : List Int32) (σ : Nat → Nat → Int32) : Prop := L.length ≤ 160 ∧ σ t 2 = nI L.length ∧ ∀ i, i < L.length → σ (t + 1) i = L.getD i 0
/-- a fault at p -/
def zCB (t p : Nat) (σ : Nat → Nat → Int32) : Prop := σ t 8 = nI 265 ∧ σ t 7 = nI p ∧ σ t 11 = nI p ∧ p ≤ 160 ∧ ∃ z, z ≤ 160 ∧ σ t 2 = nI z
abbrev zRw (t : Nat) : Nat → Nat → Prop := fun r c => r = t + 1 ∨ (r = t ∧ (c = 2 ∨ (6 ≤ c ∧ c ≤ 11)))
abbrev zAw (t : Nat) : Nat → Nat → Prop := fun r c => r = t + 1 ∨ (r = t ∧ c = 2)
theorem zAw_Rw {t : Nat} : ∀ r c, zAw t r c → zRw t r c := fun r c h => h.elim Or.inl (fun z => Or.inr ⟨z.1, Or.inl z.2⟩)
theorem zLx_Rw {t : Nat} : ∀ r c, zLx t r c → zRw t r c := fun r c h => Or.inr ⟨h.1, by have := h.2; omega⟩
theorem zRw_5 {t : Nat} : ¬ zRw t t 5 := by
  rintro (z | z)
  · omega
  · have := z.2; omega
theorem zRw_25 {t : Nat} (ht : 37 ≤ t) : ∀ c, ¬ zRw t 25 c := by
  rintro c (z | z)
  · omega
  · have := z.1; omega
theorem zTS.fx {t : Nat} {S : zTk} {σ σ' : Nat → Nat → Int32} (h : zTS t S σ) {P : Nat → Nat → Prop} (hf : zfx P σ σ') (hp : ∀ c, c = 6 ∨ c = 7 ∨ c = 8 ∨ c = 9 ∨ c = 11 → ¬ P t c) : zTS t S σ' := by
  obtain ⟨h1, h2, h3, h4, h5, h6⟩ := h
  exact ⟨h1, (hf _ _ (hp 6 (by decide))).trans h2, (hf _ _ (hp 7 (by decide))).trans h3, (hf _ _ (hp 8 (by decide))).trans h4, fun z => (hf _ _ (hp 9 (by decide))).trans (h5 z), (hf _ _ (hp 11 (by decide))).trans h6⟩
theorem zCD.fx {t : Nat} {L : List Int32} {σ σ' : Nat → Nat → Int32} (h : zCD t L σ) {P : Nat → Nat → Prop} (hf : zfx P σ σ') (h1 : ¬ P t 2) (h2 : ∀ c, ¬ P (t + 1) c) : zCD t L σ' :=
  ⟨h.1, (hf _ _ h1).trans h.2.1, fun i hi => (hf _ _ (h2 i)).trans (h.2.2 i hi)⟩
theorem addC_ok {t : Nat} {L : List Int32} {M : mm_M} (h : zCD t L M.1) (hl : L.length < 160) (a : Int32) : Ok (tx_add t a M) (fun y => zCD t (L ++ [a]) y.2.1 ∧ zfx (zAw t) M.1 y.2.1 ∧ y.2.2 = M.2) := by
  obtain ⟨h1, h2, h3⟩ := h
  unfold tx_add
  rw [h2]
  refine ok_pos (nI_lt (b := 160) hl (by decide)) (ok_pos (zI_inb (by omega) hl) ?_)
  rw [zI_nat (by omega), ak_up_ne (show t ≠ t + 1 by omega), h2, nI_1]
  refine ok_ret ⟨⟨?_, ?_, ?_⟩, (zfx.rf.up (Or.inl rfl)).up (Or.inr ⟨rfl, rfl⟩), rfl⟩
  · simp only [List.length_append, List.length_cons, List.length_nil]
    omega
  · show ak_up _ t 2 _ t 2 = _
    rw [ak_up_same]
    simp
  · intro i hi
    simp only [List.length_append, List.length_cons, List.length_nil] at hi
    show ak_up (ak_up M.1 (t + 1) L.length a) t 2 _ (t + 1) i = _
    rw [ak_up_ne (by omega)]
    by_cases e : i = L.length
    · rw [e, ak_up_same]
      simp [List.getD]
    · rw [ak_up_oth e, h3 i (by omega)]
      simp [List.getD, List.getElem?_append_left (show i < L.length by omega)]
theorem zCB.add {t p : Nat} {M : mm_M} (h : zCB t p M.1) (a : Int32) : Ok (tx_add t a M) (fun y => zCB t p y.2.1 ∧ zfx (zAw t) M.1 y.2.1 ∧ y.2.2 = M.2) := by
  obtain ⟨h1, h2, h3, h4, z, hz, h5⟩ := h
  have f : ∀ {σ' : Nat → Nat → Int32}, zfx (zAw t) M.1 σ' → (∃ z, z ≤ 160 ∧ σ' t 2 = nI z) → zCB t p σ' := fun {σ'} hf he => ⟨(hf _ _ (by rintro (z | z) <;> omega)).trans h1, (hf _ _ (by rintro (z | z) <;> omega)).trans h2, (hf _ _ (by rintro (z | z) <;> omega)).trans h3, h4, he⟩
  unfold tx_add
  rw [h5]
  refine ok_ite (fun c => ?_) (fun c => ok_ret ⟨f zfx.rf ⟨z, hz, h5⟩, zfx.rf, rfl⟩)
  have hz2 : z < 160 := (nI_ltI (b := 160) (by omega) (by decide)).mp c
  refine ok_pos (zI_inb (by omega) hz2) ?_
  rw [zI_nat (by omega), ak_up_ne (show t ≠ t + 1 by omega), h5, nI_1]
  have hf : zfx (zAw t) M.1 (ak_up (ak_up M.1 (t + 1) z a) t 2 (nI (z + 1))) := (zfx.rf.up (Or.inl rfl)).up (Or.inr ⟨rfl, rfl⟩)
  exact ok_ret ⟨f hf ⟨z + 1, by omega, ak_up_same⟩, hf, rfl⟩
/-- where a text stands while it reads -/
def zSt (t n : Nat) (B : Nat → Nat) (o : Nat) (L : List Int32) (S : zTk) (σ : Nat → Nat → Int32) : Prop := zTB t n B σ ∧ zTS t S σ ∧ σ t 10 = nI o ∧ zCD t L σ ∧ zG n S
/-- where it stands after a reader -/
def zQ (t n : Nat) (B : Nat → Nat) (o : Nat) (L : List Int32) (r : zR) (M M' : mm_M) : Prop := zfx (zRw t) M.1 M'.1 ∧ M'.2 = M.2 ∧ (∀ p, r = some (.inl p) → zCB t p M'.1) ∧ (∀ c S1, r = some (.inr (c, S1)) → zSt t n B o (L ++ c) S1 M'.1)
theorem zQ.bad {t n : Nat} {B : Nat → Nat} {o : Nat} {L : List Int32} {p : Nat} {M M' : mm_M} (h1 : zfx (zRw t) M.1 M'.1) (h2 : M'.2 = M.2) (h3 : zCB t p M'.1) : zQ t n B o L (some (.inl p)) M M' := by
  refine ⟨h1, h2, fun q e => ?_, fun c S1 e => by cases e⟩
  cases e
  exact h3
theorem zQ.good {t n : Nat} {B : Nat → Nat} {o : Nat} {L c : List Int32} {S1 : zTk} {M M' : mm_M} (h1 : zfx (zRw t) M.1 M'.1) (h2 : M'.2 = M.2) (h3 : zSt t n B o (L ++ c) S1 M'.1) : zQ t n B o L (some (.inr (c, S1))) M M' := by
  refine ⟨h1, h2, fun q e => (by cases e), fun c2 S2 e => ?_⟩
  cases e
  exact h3
theorem zbd_l {r : zR} {f : List Int32 → zTk → zR} (h : zbd r f ≠ none) : r ≠ none := fun e => h (by rw [e]; rfl)
theorem zR_cases {r : zR} (h : r ≠ none) : (∃ p, r = some (.inl p)) ∨ (∃ c S, r = some (.inr (c, S))) := by
  match r, h with
  | some (.inl p), _ => exact Or.inl ⟨p, rfl⟩
  | some (.inr (c, S)), _ => exact Or.inr ⟨c, S, rfl⟩
theorem advS_ok {t n : Nat} {B : Nat → Nat} {o : Nat} {L : List Int32} {S : zTk} {M : mm_M} (ht : 37 ≤ t) (h : zSt t n B o L S M.1) (hk : S.k ≠ 265) : Ok (tx_advance t M) (fun y => zSt t n B o L (zlx B n S.e) y.2.1 ∧ zfx (zRw t) M.1 y.2.1 ∧ y.2.2 = M.2) := by
  obtain ⟨h1, h2, h3, h4, h5⟩ := h
  have h11 := h2.2.2.2.2.2
  rw [if_neg hk] at h11
  refine ok_mono (advC_ok ht h1 h5.2.1 h2.2.1 h11) (fun y hy => ?_)
  obtain ⟨y1, y2, y3⟩ := hy
  refine ⟨⟨h1.fx ht y2 zLx_5 (zLx_25 ht), y1, (y2 _ _ (fun z => by have := z.2; omega)).trans h3, h4.fx y2 (fun z => by have := z.2; omega) (fun c z => by have := z.1; omega), (zlx_G B h5.2.1).2⟩, y2.wk zLx_Rw, y3⟩
theorem failS_ok {t n : Nat} {B : Nat → Nat} {o : Nat} {L : List Int32} {S : zTk} {M : mm_M} (h : zSt t n B o L S M.1) : Ok (tx_fail t M) (fun y => zCB t S.p y.2.1 ∧ zfx (zRw t) M.1 y.2.1 ∧ y.2.2 = M.2) := by
  obtain ⟨h1, h2, h3, h4, h5⟩ := h
  have hn := h1.1
  have hp : S.p ≤ 160 := by have := h5.1; have := h5.2.1; omega
  have h11 := h2.2.2.2.2.2
  refine ok_mono (failC_ok (p := S.p) h2.2.2.1 (by rw [h11]; split <;> simp) (by omega)) (fun y hy => ?_)
  obtain ⟨y1, y2, y3, y4⟩ := hy
  exact ⟨⟨y1, (y3 _ _ (fun z => by have := z.2; omega)).trans h2.2.2.1, y2, hp, L.length, h4.1, (y3 _ _ (fun z => by have := z.2; omega)).trans h4.2.1⟩, y3.wk (fun r c z => Or.inr ⟨z.1, by have := z.2; omega⟩), y4⟩
theorem addS_ok {t n : Nat} {B : Nat → Nat} {o : Nat} {L : List Int32} {S : zTk} {M : mm_M} (ht : 37 ≤ t) (h : zSt t n B o L S M.1) (hl : L.length < 160) (a : Int32) : Ok (tx_add t a M) (fun y => zSt t n B o (L ++ [a]) S y.2.1 ∧ zfx (zRw t) M.1 y.2.1 ∧ y.2.2 = M.2) := by
  obtain ⟨h1, h2, h3, h4, h5⟩ := h
  refine ok_mono (addC_ok h4 hl a) (fun y hy => ?_)
  obtain ⟨y1, y2, y3⟩ := hy
  refine ⟨⟨h1.fx ht y2 (by rintro (z | z) <;> omega) (by rintro c (z | z) <;> omega), h2.fx y2 (by rintro c hc (z | z) <;> omega), (y2 _ _ (by rintro (z | z) <;> omega)).trans h3, y1, h5⟩, y2.wk zAw_Rw, y3⟩
/-- the loops of the class's reader, alike -/
def zcl (tst : Int32 → Int32) (sel : Nat) (rc : Nat → mm_M → Option (Unit × mm_M)) (t : Nat) : Nat → Int32 → mm_M → Option (Unit × mm_M)
  | 0, _, _ => none
  | n + 1, x, M => if x < (160 : Int32) then if tst (M.1 t 8) = 0 then some ((), M) else (tx_advance t M).bind fun y3 => (rc sel y3.2).bind fun y4 => (tx_add t (tst (M.1 t 8)) y4.2).bind fun y5 => zcl tst sel rc t n (x + 1) y5.2 else some ((), M)
def zt0 (k : Int32) : Int32 := if k = 259 then -15 else 0
def zt1 (k : Int32) : Int32 := if k = 260 then -14 else 0
def zt4 (k : Int32) : Int32 := if k = 43 then -9 else if k = 45 then -10 else 0
def zt5 (k : Int32) : Int32 := if k = 42 then -11 else 0
theorem zcl_0 (rc : Nat → mm_M → Option (Unit × mm_M)) (t : Nat) : ∀ n x M, tx_readEither_l6 rc t n x M = zcl zt0 1 rc t n x M := by
  intro n
  induction n with
  | zero => intro x M; rfl
  | succ n ih =>
    intro x M
    unfold tx_readEither_l6 zcl
    generalize M.1 t 8 = v
    by_cases c0 : v = 259
    · subst c0
      simp [ih, show zt0 259 = -15 from rfl]
    · have e : zt0 v = 0 := if_neg c0
      simp [c0, e]
theorem zcl_1 (rc : Nat → mm_M → Option (Unit × mm_M)) (t : Nat) : ∀ n x M, tx_readBoth_l6 rc t n x M = zcl zt1 2 rc t n x M := by
  intro n
  induction n with
  | zero => intro x M; rfl
  | succ n ih =>
    intro x M
    unfold tx_readBoth_l6 zcl
    generalize M.1 t 8 = v
    by_cases c0 : v = 260
    · subst c0
      simp [ih, show zt1 260 = -14 from rfl]
    · have e : zt1 v = 0 := if_neg c0
      simp [c0, e]
theorem zcl_4 (rc : Nat → mm_M → Option (Unit × mm_M)) (t : Nat) : ∀ n x M, tx_readSum_l6 rc t n x M = zcl zt4 5 rc t n x M := by
  intro n
  induction n with
  | zero => intro x M; rfl
  | succ n ih =>
    intro x M
    unfold tx_readSum_l6 zcl
    generalize M.1 t 8 = v
    by_cases c0 : v = 43
    · subst c0
      simp [ih, show zt4 43 = -9 from rfl]
    · skip
      by_cases c1 : v = 45
      · subst c1
        simp [ih, show zt4 45 = -10 from rfl]
      · have e : zt4 v = 0 := (if_neg c0).trans (if_neg c1)
        simp [c0, c1, e]
theorem zcl_5 (rc : Nat → mm_M → Option (Unit × mm_M)) (t : Nat) : ∀ n x M, tx_readTerm_l6 rc t n x M = zcl zt5 6 rc t n x M := by
  intro n
  induction n with
  | zero => intro x M; rfl
  | succ n ih =>
    intro x M
    unfold tx_readTerm_l6 zcl
    generalize M.1 t 8 = v
    by_cases c0 : v = 42
    · subst c0
      simp [ih, show zt5 42 = -11 from rfl]
    · have e : zt5 v = 0 := if_neg c0
      simp [c0, e]
theorem zt0_n : ∀ k ≤ 265, zt0 (nI k) = zo0 k := by decide +kernel
theorem zt1_n : ∀ k ≤ 265, zt1 (nI k) = zo1 k := by decide +kernel
theorem zt4_n : ∀ k ≤ 265, zt4 (nI k) = zo4 k := by decide +kernel
theorem zt5_n : ∀ k ≤ 265, zt5 (nI k) = zo5 k := by decide +kernel
section
variable {t n : Nat} {B : Nat → Nat}
theorem clC_ok (ht : 37 ≤ t) {o : Nat} {tst : Int32 → Int32} {op : Nat → Int32} {sel : Nat} {rc : Nat → mm_M → Option (Unit × mm_M)} {rcp : zTk → zR} (htst : ∀ k ≤ 265, tst (nI k) = op k) (hop : ∀ k, op k ≠ 0 → k ≠ 264 ∧ k ≠ 265) (hrc : ∀ S L M, rcp S ≠ none → zSt t n B o L S M.1 → L.length ≤ S.p → Ok (rc sel M) (fun y => zQ t n B o L (rcp S) M y.2)) (hP : ∀ S, zG n S → zP n S (rcp S)) : ∀ f k S L M, f + k = 300 → k ≤ S.p → zlp B n rcp op f S ≠ none → zSt t n B o L S M.1 → L.length ≤ S.p → Ok (zcl tst sel rc t f (nI k) M) (fun y => zQ t n B o L (zlp B n rcp op f S) M y.2) := by
  intro f
  induction f with
  | zero => intro k S L M hf hk hne hS hl; exact absurd rfl hne
  | succ f ih =>
    intro k S L M hf hk hne hS hl
    have hn := hS.1.1
    have hG := hS.2.2.2.2
    have e8 := hS.2.1.2.2.2.1
    unfold zcl
    rw [e8, htst _ hS.2.1.1]
    by_cases c : op S.k = 0
    · rw [show zlp B n rcp op (f + 1) S = some (.inr ([], S)) from if_pos c]
      have hq : zQ t n B o L (some (.inr ([], S))) M M := zQ.good zfx.rf rfl (by rw [List.append_nil]; exact hS)
      refine ok_ite (fun _ => ok_pos c (ok_ret hq)) (fun _ => ok_ret hq)
    · have ez : zlp B n rcp op (f + 1) S = zbd (rcp (zlx B n S.e)) fun c S1 => zbd (zlp B n rcp op f S1) fun c2 S2 => some (.inr (c ++ op S.k :: c2, S2)) := if_neg c
      rw [ez] at hne ⊢
      have hk2 := hop _ c
      have hlt := zG_lt hG hk2.1 hk2.2
      have hGe := hG.2.1
      refine ok_pos (nI_lt (b := 160) (by omega) (by decide)) (ok_neg c ?_)
      refine ok_then (advS_ok ht hS hk2.2) (fun y3 h3 => ?_)
      obtain ⟨a1, a2, a3⟩ := h3
      have hg := zlx_G B (n := n) (i := S.e) hGe
      have hg1 := hg.1
      have hr := zbd_l hne
      refine ok_then (hrc _ L y3.2 hr a1 (by omega)) (fun y4 h4 => ?_)
      obtain ⟨b1, b2, b3, b4⟩ := h4
      rcases zR_cases hr with ⟨p, er⟩ | ⟨c1, S1, er⟩
      · rw [er]
        refine ok_then ((b3 p er).add _) (fun y5 h5 => ?_)
        obtain ⟨d1, d2, d3⟩ := h5
        obtain ⟨m, rfl⟩ : ∃ m, f = m + 1 := ⟨f - 1, by omega⟩
        have e0 : tst (y5.2.1 t 8) = 0 := by
          rw [d1.1, htst 265 (by decide)]
          exact Decidable.byContradiction (fun z => (hop _ z).2 rfl)
        have hq : zQ t n B o L (some (.inl p)) M y5.2 := zQ.bad ((a2.tr b1).tr (d2.wk zAw_Rw)) (d3.trans (b2.trans a3)) d1
        unfold zcl
        exact ok_ite (fun _ => ok_pos e0 (ok_ret hq)) (fun _ => ok_ret hq)
      · rw [er] at hne ⊢
        obtain ⟨q1, q2, q3, q4⟩ := hP _ hg.2 _ _ er
        have q5 := q1.2.1
        have q6 := q1.1
        refine ok_then (addS_ok ht (b4 _ _ er) (by rw [List.length_append]; omega) _) (fun y5 h5 => ?_)
        obtain ⟨d1, d2, d3⟩ := h5
        have hne2 : zbd (zlp B n rcp op f S1) (fun c2 S2 => some (.inr (c1 ++ op S.k :: c2, S2))) ≠ none := hne
        have hr2 := zbd_l hne2
        rw [nI_1]
        have hlen : (L ++ c1 ++ [op S.k]).length ≤ S1.p := by
          simp only [List.length_append, List.length_cons, List.length_nil]
          omega
        refine ok_mono (ih (k + 1) S1 _ y5.2 (by omega) (by omega) hr2 d1 hlen) (fun y h6 => ?_)
        obtain ⟨g1, g2, g3, g4⟩ := h6
        show zQ t n B o L (zbd (zlp B n rcp op f S1) (fun c2 S2 => some (.inr (c1 ++ op S.k :: c2, S2)))) M y.2
        rcases zR_cases hr2 with ⟨p, er2⟩ | ⟨c2, S2, er2⟩
        · rw [er2]
          exact zQ.bad ((a2.tr b1).tr (d2.tr g1)) (g2.trans (d3.trans (b2.trans a3))) (g3 p er2)
        · rw [er2]
          have := g4 _ _ er2
          rw [List.append_assoc, List.append_assoc] at this
          exact zQ.good ((a2.tr b1).tr (d2.tr g1)) (g2.trans (d3.trans (b2.trans a3))) this
theorem lvC_ok (ht : 37 ≤ t) {o : Nat} {tst : Int32 → Int32} {op : Nat → Int32} {sel : Nat} {rc : Nat → mm_M → Option (Unit × mm_M)} {rcp : zTk → zR} (htst : ∀ k ≤ 265, tst (nI k) = op k) (hop : ∀ k, op k ≠ 0 → k ≠ 264 ∧ k ≠ 265) (hrc : ∀ S L M, rcp S ≠ none → zSt t n B o L S M.1 → L.length ≤ S.p → Ok (rc sel M) (fun y => zQ t n B o L (rcp S) M y.2)) (hP : ∀ S, zG n S → zP n S (rcp S)) {S : zTk} {L : List Int32} {M : mm_M} (hne : zlv B n rcp op S ≠ none) (hS : zSt t n B o L S M.1) (hl : L.length ≤ S.p) : Ok ((rc sel M).bind fun y1 => (zcl tst sel rc t 300 (0 : Int32) y1.2).bind fun y2 => some ((), y2.2)) (fun y => zQ t n B o L (zlv B n rcp op S) M y.2) := by
  unfold zlv at hne ⊢
  have hr := zbd_l hne
  have hG := hS.2.2.2.2
  refine ok_then (hrc _ L M hr hS hl) (fun y1 h1 => ?_)
  obtain ⟨b1, b2, b3, b4⟩ := h1
  rcases zR_cases hr with ⟨p, er⟩ | ⟨c1, S1, er⟩
  · rw [er]
    have e0 : tst (y1.2.1 t 8) = 0 := by
      rw [(b3 p er).1, htst 265 (by decide)]
      exact Decidable.byContradiction (fun z => (hop _ z).2 rfl)
    have e1 : zcl tst sel rc t 300 (0 : Int32) y1.2 = some ((), y1.2) := by
      unfold zcl
      rw [if_pos (by decide), if_pos e0]
    rw [e1]
    exact ok_ret (zQ.bad b1 b2 (b3 p er))
  · rw [er] at hne ⊢
    obtain ⟨q1, q2, q3, q4⟩ := hP _ hG _ _ er
    have hne2 : zbd (zlp B n rcp op 300 S1) (fun c2 S2 => some (.inr (c1 ++ c2, S2))) ≠ none := hne
    have hr2 := zbd_l hne2
    refine ok_then (clC_ok ht htst hop hrc hP 300 0 S1 _ y1.2 (by omega) (by omega) hr2 (b4 _ _ er) (by rw [List.length_append]; omega)) (fun y h6 => ok_ret ?_)
    obtain ⟨g1, g2, g3, g4⟩ := h6
    show zQ t n B o L (zbd (zlp B n rcp op 300 S1) (fun c2 S2 => some (.inr (c1 ++ c2, S2)))) M y.2
    rcases zR_cases hr2 with ⟨p, er2⟩ | ⟨c2, S2, er2⟩
    · rw [er2]
      exact zQ.bad (b1.tr g1) (g2.trans b2) (g3 p er2)
    · rw [er2]
      have := g4 _ _ er2
      rw [List.append_assoc] at this
      exact zQ.good (b1.tr g1) (g2.trans b2) this
/-- one more is opened, if five aren't -/
theorem openC_ok (ht : 37 ≤ t) {o : Nat} {S : zTk} {L : List Int32} {M : mm_M} (hS : zSt t n B o L S M.1) (ho : o ≤ 5) (hk : S.k ≠ 265) : Ok (tx_openOne t M) (fun y => zfx (zRw t) M.1 y.2.1 ∧ y.2.2 = M.2 ∧ (o < 5 → y.1 = 1 ∧ zSt t n B (o + 1) L (zlx B n S.e) y.2.1) ∧ (¬ o < 5 → y.1 = 0 ∧ zCB t S.p y.2.1)) := by
  unfold tx_openOne
  have h10 := hS.2.2.1
  rw [h10, nI_1]
  refine ok_ite (fun c => ?_) (fun c => ?_)
  · have c1 : o < 5 := (nI_ltI (b := 5) (by omega) (by decide)).mp c
    have hf : zfx (fun r c => r = t ∧ c = 10) M.1 (ak_up M.1 t 10 (nI (o + 1))) := zfx.rf.up ⟨rfl, rfl⟩
    have hS2 : zSt t n B (o + 1) L S (ak_up M.1 t 10 (nI (o + 1))) := by
      obtain ⟨h1, h2, h3, h4, h5⟩ := hS
      exact ⟨h1.fx ht hf (fun z => by omega) (fun c z => by omega), h2.fx hf (fun c hc z => by omega), ak_up_same, h4.fx hf (fun z => by omega) (fun c z => by omega), h5⟩
    refine ok_then (advS_ok (M := (ak_up M.1 t 10 (nI (o + 1)), M.2)) ht hS2 hk) (fun y hy => ok_ret ?_)
    obtain ⟨y1, y2, y3⟩ := hy
    exact ⟨(hf.wk (fun r c z => Or.inr ⟨z.1, by omega⟩)).tr y2, y3, fun _ => ⟨rfl, y1⟩, fun z => absurd c1 z⟩
  · have c1 : ¬ o < 5 := fun z => c ((nI_ltI (b := 5) (by omega) (by decide)).mpr z)
    refine ok_then (failS_ok hS) (fun y hy => ok_ret ?_)
    obtain ⟨y1, y2, y3⟩ := hy
    exact ⟨y2, y3, fun z => absurd z c1, fun _ => ⟨rfl, y1⟩⟩
theorem zk_eq {S : zTk} {σ : Nat → Nat → Int32} (h : zTS t S σ) {k : Nat} (hk : k < 2147483648) : σ t 8 = nI k ↔ S.k = k := by
  rw [h.2.2.2.1]
  exact nI_eq (by have := h.1; omega) hk
/-- what closes: open is one less again -/
theorem zSt.cl (ht : 37 ≤ t) {o : Nat} {S : zTk} {L : List Int32} {σ : Nat → Nat → Int32} (h : zSt t n B (o + 1) L S σ) : zSt t n B o L S (ak_up σ t 10 (σ t 10 - 1)) := by
  obtain ⟨h1, h2, h3, h4, h5⟩ := h
  have hf : zfx (fun r c => r = t ∧ c = 10) σ (ak_up σ t 10 (σ t 10 - 1)) := zfx.rf.up ⟨rfl, rfl⟩
  refine ⟨h1.fx ht hf (fun z => by omega) (fun c z => by omega), h2.fx hf (fun c hc z => by omega), ?_, h4.fx hf (fun z => by omega) (fun c z => by omega), h5⟩
  rw [ak_up_same, h3, nI_pred]
theorem zCB.cl {p : Nat} {σ : Nat → Nat → Int32} (h : zCB t p σ) (v : Int32) : zCB t p (ak_up σ t 10 v) := by
  obtain ⟨h1, h2, h3, h4, z, hz, h5⟩ := h
  have hf : zfx (fun r c => r = t ∧ c = 10) σ (ak_up σ t 10 v) := zfx.rf.up ⟨rfl, rfl⟩
  exact ⟨(hf _ _ (fun z => by omega)).trans h1, (hf _ _ (fun z => by omega)).trans h2, (hf _ _ (fun z => by omega)).trans h3, h4, z, hz, (hf _ _ (fun z => by omega)).trans h5⟩
theorem zRw_10 {σ : Nat → Nat → Int32} (v : Int32) : zfx (zRw t) σ (ak_up σ t 10 v) := zfx.rf.up (Or.inr ⟨rfl, by omega⟩)
end
