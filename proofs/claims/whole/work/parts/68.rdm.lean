/-! level 2: texts: the model's reader -/
section
variable {fr n : Nat} {B : Nat → Nat} {env : Nat → Int32}
theorem isWordM_bad {M : mm_M} (h : M.1 73 25 = 1) (a b c d e f g i : Int32) : md_isWord a b c d e f g i M = some (0, M) := by
  unfold md_isWord
  rw [h, if_neg (by decide)]
theorem isSignM_bad {M : mm_M} (h : M.1 73 25 = 1) (a : Int32) : md_isSign a M = some (0, M) := by
  unfold md_isSign
  rw [h, if_neg (by decide)]
theorem failM_bad {M : mm_M} (h : M.1 73 25 = 1) : md_fail M = some ((), M) := by
  unfold md_fail
  rw [h, if_neg (by decide)]
def zMe (env : Nat → Int32) (σ : Nat → Nat → Int32) : Prop := ∀ i, i < 6 → σ 73 (12 + i) = env i
theorem zMe.fx {σ σ' : Nat → Nat → Int32} (h : zMe env σ) (hf : zfx zMw σ σ') : zMe env σ' := fun i hi => (hf _ _ (by omega)).trans (h i hi)
/-- after a reader of the model -/
def zQM (fr n : Nat) (B : Nat → Nat) (o : Nat) (env : Nat → Int32) (r : zR) (M : mm_M) (y : Int32 × mm_M) : Prop := zfx zMw M.1 y.2.1 ∧ y.2.2.1 = M.2.1 ∧ (∀ p, r = some (.inl p) → zMF p y.2.1) ∧ (∀ c S1, r = some (.inr (c, S1)) → zMt fr n B o S1 y.2 ∧ ∀ st, zrn env c st = y.1 :: st)
theorem zQM.bad {o p : Nat} {M : mm_M} {y : Int32 × mm_M} (h1 : zfx zMw M.1 y.2.1) (h2 : y.2.2.1 = M.2.1) (h3 : zMF p y.2.1) : zQM fr n B o env (some (.inl p)) M y := by
  refine ⟨h1, h2, fun q e => ?_, fun c S1 e => by cases e⟩
  cases e
  exact h3
theorem zQM.good {o : Nat} {c : List Int32} {S1 : zTk} {M : mm_M} {y : Int32 × mm_M} (h1 : zfx zMw M.1 y.2.1) (h2 : y.2.2.1 = M.2.1) (h3 : zMt fr n B o S1 y.2) (h4 : ∀ st, zrn env c st = y.1 :: st) : zQM fr n B o env (some (.inr (c, S1))) M y := by
  refine ⟨h1, h2, fun q e => (by cases e), fun c2 S2 e => ?_⟩
  cases e
  exact ⟨h3, h4⟩
theorem zstp_2 {c a b : Int32} {st : List Int32} (h : c < -8) : zstp env c (b :: a :: st) = zsp2 c a b :: st := by
  have h7 : ¬ (-7 : Int32) < c := by
    have h1 := i_lt.mp h
    rw [show (-8 : Int32).toInt = -8 from rfl] at h1
    intro h2
    have h3 := i_lt.mp h2
    rw [show (-7 : Int32).toInt = -7 from rfl] at h3
    omega
  exact (if_neg h7).trans (if_pos h)
theorem mlM {o : Nat} {f : Nat → Int32 → mm_M → Option (Int32 × mm_M)} {rc : Nat → mm_M → Option (Int32 × mm_M)} {sel : Nat} {rcp : zTk → zR} {op : Nat → Int32} (H0 : ∀ m x S M, zMt fr n B o S M → op S.k = 0 → f (m + 1) x M = some (x, M)) (H1 : ∀ m x S M, zMt fr n B o S M → op S.k ≠ 0 → f (m + 1) x M = (md_next M).bind fun y3 => (rc sel y3.2).bind fun y4 => f m (zsp2 (op S.k) x y4.1) y4.2) (H2 : ∀ m x M, M.1 73 25 = 1 → f (m + 1) x M = some (x, M)) (hop : ∀ k, op k ≠ 0 → k ≠ 264 ∧ k ≠ 265) (hop1 : ∀ k, op k ≠ 0 → op k < -8) (hP : ∀ S, zG n S → zP n S (rcp S)) (hrc : ∀ S M, rcp S ≠ none → zMt fr n B o S M → zMe env M.1 → Ok (rc sel M) (zQM fr n B o env (rcp S) M)) : ∀ m S x M, n < m + S.p → zlp B n rcp op m S ≠ none → zMt fr n B o S M → zMe env M.1 → Ok (f m x M) (fun y => zfx zMw M.1 y.2.1 ∧ y.2.2.1 = M.2.1 ∧ (∀ p, zlp B n rcp op m S = some (.inl p) → zMF p y.2.1) ∧ (∀ c S1, zlp B n rcp op m S = some (.inr (c, S1)) → zMt fr n B o S1 y.2 ∧ ∀ st, zrn env c (x :: st) = y.1 :: st)) := by
  intro m
  induction m with
  | zero => intro S x M hm hne; exact absurd rfl hne
  | succ m ih =>
    intro S x M hm hne hS he
    have hG := hS.2.2.2.2
    by_cases c : op S.k = 0
    · have ez : zlp B n rcp op (m + 1) S = some (.inr ([], S)) := if_pos c
      rw [H0 m x S M hS c]
      refine ok_ret ⟨zfx.rf, rfl, fun p e => ?_, fun c1 S1 e => ?_⟩
      · rw [ez] at e; cases e
      · rw [ez] at e
        cases e
        exact ⟨hS, fun st => rfl⟩
    · have ez : zlp B n rcp op (m + 1) S = zbd (rcp (zlx B n S.e)) fun c S1 => zbd (zlp B n rcp op m S1) fun c2 S2 => some (.inr (c ++ op S.k :: c2, S2)) := if_neg c
      rw [ez] at hne ⊢
      rw [H1 m x S M hS c]
      have hk2 := hop _ c
      have hlt := zG_lt hG hk2.1 hk2.2
      have hGe := hG.2.1
      have hg := zlx_G B (n := n) (i := S.e) hGe
      have hg1 := hg.1
      refine ok_then (advM_ok hS) (fun y3 h3 => ?_)
      obtain ⟨a1, a2, a3⟩ := h3
      have hr := zbd_l hne
      refine ok_then (hrc _ y3.2 hr a1 (he.fx a2)) (fun y4 h4 => ?_)
      obtain ⟨b1, b2, b3, b4⟩ := h4
      rcases zR_cases hr with ⟨p, er⟩ | ⟨c1, S1, er⟩
      · have hb := b3 p er
        obtain ⟨m, rfl⟩ : ∃ j, m = j + 1 := ⟨m - 1, by omega⟩
        rw [H2 _ _ _ hb.1]
        refine ok_ret ⟨a2.tr b1, b2.trans a3, fun q e => ?_, fun c2 S2 e => ?_⟩
        · rw [er] at e
          cases e
          exact hb
        · rw [er] at e
          cases e
      · rw [er] at hne ⊢
        obtain ⟨q1, q2, q3, q4⟩ := hP _ hg.2 _ _ er
        obtain ⟨b5, b6⟩ := b4 _ _ er
        have hne2 : zbd (zlp B n rcp op m S1) (fun c2 S2 => some (.inr (c1 ++ op S.k :: c2, S2))) ≠ none := hne
        have hr2 := zbd_l hne2
        refine ok_mono (ih S1 _ y4.2 (by omega) hr2 b5 (he.fx (a2.tr b1))) (fun y h6 => ?_)
        obtain ⟨g1, g2, g3, g4⟩ := h6
        refine ⟨(a2.tr b1).tr g1, g2.trans (b2.trans a3), fun p e => ?_, fun c2 S2 e => ?_⟩
        · have e2 : zbd (zlp B n rcp op m S1) (fun c2 S2 => some (.inr (c1 ++ op S.k :: c2, S2))) = some (.inl p) := e
          rcases zR_cases hr2 with ⟨p2, er2⟩ | ⟨c2, S2, er2⟩
          · rw [er2] at e2
            cases e2
            exact g3 _ er2
          · rw [er2] at e2
            cases e2
        · have e2 : zbd (zlp B n rcp op m S1) (fun c2 S2 => some (.inr (c1 ++ op S.k :: c2, S2))) = some (.inr (c2, S2)) := e
          rcases zR_cases hr2 with ⟨p2, er2⟩ | ⟨c3, S3, er2⟩
          · rw [er2] at e2
            cases e2
          · rw [er2] at e2
            cases e2
            obtain ⟨w1, w2⟩ := g4 _ _ er2
            refine ⟨w1, fun st => ?_⟩
            rw [zrn_app, b6]
            show zrn env c3 (zstp env (op S.k) (y4.1 :: x :: st)) = _
            rw [zstp_2 (hop1 _ c)]
            exact w2 st
theorem lvM {o : Nat} {f : Nat → Int32 → mm_M → Option (Int32 × mm_M)} {rc : Nat → mm_M → Option (Int32 × mm_M)} {sel : Nat} {rcp : zTk → zR} {op : Nat → Int32} (hn : n ≤ 160) (H0 : ∀ m x S M, zMt fr n B o S M → op S.k = 0 → f (m + 1) x M = some (x, M)) (H1 : ∀ m x S M, zMt fr n B o S M → op S.k ≠ 0 → f (m + 1) x M = (md_next M).bind fun y3 => (rc sel y3.2).bind fun y4 => f m (zsp2 (op S.k) x y4.1) y4.2) (H2 : ∀ m x M, M.1 73 25 = 1 → f (m + 1) x M = some (x, M)) (hop : ∀ k, op k ≠ 0 → k ≠ 264 ∧ k ≠ 265) (hop1 : ∀ k, op k ≠ 0 → op k < -8) (hP : ∀ S, zG n S → zP n S (rcp S)) (hrc : ∀ S M, rcp S ≠ none → zMt fr n B o S M → zMe env M.1 → Ok (rc sel M) (zQM fr n B o env (rcp S) M)) {S : zTk} {M : mm_M} (hne : zlv B n rcp op S ≠ none) (hS : zMt fr n B o S M) (he : zMe env M.1) : Ok ((rc sel M).bind fun y1 => (f 300 y1.1 y1.2).bind fun y2 => some (y2.1, y2.2)) (zQM fr n B o env (zlv B n rcp op S) M) := by
  unfold zlv at hne ⊢
  have hr := zbd_l hne
  refine ok_then (hrc S M hr hS he) (fun y1 h1 => ?_)
  obtain ⟨b1, b2, b3, b4⟩ := h1
  rcases zR_cases hr with ⟨p, er⟩ | ⟨c1, S1, er⟩
  · rw [er, H2 _ _ _ (b3 p er).1]
    exact ok_ret (zQM.bad b1 b2 (b3 p er))
  · rw [er] at hne ⊢
    obtain ⟨q1, q2, q3, q4⟩ := hP _ hS.2.2.2.2 _ _ er
    obtain ⟨b5, b6⟩ := b4 _ _ er
    have hne2 : zbd (zlp B n rcp op 300 S1) (fun c2 S2 => some (.inr (c1 ++ c2, S2))) ≠ none := hne
    have hr2 := zbd_l hne2
    refine ok_then (mlM H0 H1 H2 hop hop1 hP hrc 300 S1 y1.1 y1.2 (by omega) hr2 b5 (he.fx b1)) (fun y h6 => ok_ret ?_)
    obtain ⟨g1, g2, g3, g4⟩ := h6
    show zQM fr n B o env (zbd (zlp B n rcp op 300 S1) (fun c2 S2 => some (.inr (c1 ++ c2, S2)))) M (y.1, y.2)
    rcases zR_cases hr2 with ⟨p2, er2⟩ | ⟨c2, S2, er2⟩
    · rw [er2]
      exact zQM.bad (b1.tr g1) (g2.trans b2) (g3 _ er2)
    · rw [er2]
      obtain ⟨w1, w2⟩ := g4 _ _ er2
      exact zQM.good (b1.tr g1) (g2.trans b2) w1 (fun st => by rw [zrn_app, b6]; exact w2 st)
theorem zMt.tw {o : Nat} {S : zTk} {M : mm_M} (h : zMt fr n B o S M) (hk : S.k < 64) : M.2.2 = (nI S.k).toInt64 := by
  rcases h.2.1.2.2 with z | z | z | z | z
  · omega
  · have : 256 ≤ S.k := by
      rw [z.2.2.2.1]
      unfold zwd
      have := zkey_le B S.p S.e
      split
      · split
        · exact (by decide : 256 ≤ 265)
        · exact (by decide : 256 ≤ 262)
      · exact this.1
    omega
  · omega
  · exact z.2.2
  · omega
/-- the loops of the model, one after the other -/
theorem l0_H0 {o : Nat} (rc : Nat → mm_M → Option (Int32 × mm_M)) : ∀ m x S M, zMt fr n B o S M → zo0 S.k = 0 → md_either_l5 rc (m + 1) x M = some (x, M) := by
  intro m x S M h c
  have c2 : S.k ≠ 259 := fun e => by rw [e] at c; exact absurd c (by decide)
  unfold md_either_l5
  rw [h.orW]
  simp only [Option.bind_some, bI_if]
  rw [if_neg c2]
theorem l0_H1 {o : Nat} (rc : Nat → mm_M → Option (Int32 × mm_M)) : ∀ m x S M, zMt fr n B o S M → zo0 S.k ≠ 0 → md_either_l5 rc (m + 1) x M = (md_next M).bind fun y3 => (rc 1 y3.2).bind fun y4 => md_either_l5 rc m (zsp2 (zo0 S.k) x y4.1) y4.2 := by
  intro m x S M h c
  have c2 : S.k = 259 := by
    unfold zo0 at c
    split at c
    · assumption
    · exact absurd rfl c
  rw [md_either_l5, h.orW]
  simp only [Option.bind_some, bI_if]
  rw [if_pos c2, c2]
  congr 1
  funext y3
  congr 1
  funext y4
  by_cases d : x = 0
  · by_cases e : y4.1 = 0
    · rw [if_pos d, if_pos e, d, e]; rfl
    · rw [if_pos d, if_neg e, d]
      have : zsp2 (zo0 259) 0 y4.1 = 1 := by unfold zsp2 zo0; simp [e]
      rw [this]
  · rw [if_neg d]
    have : zsp2 (zo0 259) x y4.1 = 1 := by unfold zsp2 zo0; simp [d]
    rw [this]
theorem l0_H2 (rc : Nat → mm_M → Option (Int32 × mm_M)) : ∀ m x M, M.1 73 25 = 1 → md_either_l5 rc (m + 1) x M = some (x, M) := by
  intro m x M h
  rw [md_either_l5, isWordM_bad h]
  rfl
theorem l1_H0 {o : Nat} (rc : Nat → mm_M → Option (Int32 × mm_M)) : ∀ m x S M, zMt fr n B o S M → zo1 S.k = 0 → md_both_l5 rc (m + 1) x M = some (x, M) := by
  intro m x S M h c
  have c2 : S.k ≠ 260 := fun e => by rw [e] at c; exact absurd c (by decide)
  unfold md_both_l5
  rw [h.andW]
  simp only [Option.bind_some, bI_if]
  rw [if_neg c2]
theorem l1_H1 {o : Nat} (rc : Nat → mm_M → Option (Int32 × mm_M)) : ∀ m x S M, zMt fr n B o S M → zo1 S.k ≠ 0 → md_both_l5 rc (m + 1) x M = (md_next M).bind fun y3 => (rc 2 y3.2).bind fun y4 => md_both_l5 rc m (zsp2 (zo1 S.k) x y4.1) y4.2 := by
  intro m x S M h c
  have c2 : S.k = 260 := by
    unfold zo1 at c
    split at c
    · assumption
    · exact absurd rfl c
  rw [md_both_l5, h.andW]
  simp only [Option.bind_some, bI_if]
  rw [if_pos c2, c2]
  congr 1
  funext y3
  congr 1
  funext y4
  by_cases d : x = 0
  · rw [if_pos d]
    have : zsp2 (zo1 260) x y4.1 = 0 := by unfold zsp2 zo1; simp [d]
    rw [this]
  · by_cases e : y4.1 = 0
    · rw [if_neg d, if_pos e]
      have : zsp2 (zo1 260) x y4.1 = 0 := by unfold zsp2 zo1; simp [e]
      rw [this]
    · rw [if_neg d, if_neg e]
      have : zsp2 (zo1 260) x y4.1 = 1 := by unfold zsp2 zo1; simp [d, e]
      rw [this]
theorem l1_H2 (rc : Nat → mm_M → Option (Int32 × mm_M)) : ∀ m x M, M.1 73 25 = 1 → md_both_l5 rc (m + 1) x M = some (x, M) := by
  intro m x M h
  rw [md_both_l5, isWordM_bad h]
  rfl
theorem signL {o : Nat} {S : zTk} {M : mm_M} (h : zMt fr n B o S M) : md_isSign 43 M = some (bI (S.k = 43), M) ∧ md_isSign 45 M = some (bI (S.k = 45), M) ∧ md_isSign 42 M = some (bI (S.k = 42), M) ∧ md_isSign 60 M = some (bI (S.k = 60), M) ∧ md_isSign 61 M = some (bI (S.k = 61), M) ∧ md_isSign 40 M = some (bI (S.k = 40), M) ∧ md_isSign 41 M = some (bI (S.k = 41), M) ∧ md_isSign 59 M = some (bI (S.k = 59), M) :=
  ⟨h.sign (c := 43) (by decide), h.sign (c := 45) (by decide), h.sign (c := 42) (by decide), h.sign (c := 60) (by decide), h.sign (c := 61) (by decide), h.sign (c := 40) (by decide), h.sign (c := 41) (by decide), h.sign (c := 59) (by decide)⟩
theorem l4_H0 {o : Nat} (rc : Nat → mm_M → Option (Int32 × mm_M)) : ∀ m x S M, zMt fr n B o S M → zo4 S.k = 0 → md_added_l5 rc (m + 1) x M = some (x, M) := by
  intro m x S M h c
  have c2 : S.k ≠ 43 := fun e => by rw [e] at c; exact absurd c (by decide)
  have c3 : S.k ≠ 45 := fun e => by rw [e] at c; exact absurd c (by decide)
  obtain ⟨s43, s45, -⟩ := signL h
  unfold md_added_l5
  rw [s43]
  simp only [Option.bind_some, bI_if]
  rw [if_neg c2, s45]
  simp only [Option.bind_some, bI_if]
  rw [if_neg c3]
theorem l4_H1 {o : Nat} (rc : Nat → mm_M → Option (Int32 × mm_M)) : ∀ m x S M, zMt fr n B o S M → zo4 S.k ≠ 0 → md_added_l5 rc (m + 1) x M = (md_next M).bind fun y3 => (rc 4 y3.2).bind fun y4 => md_added_l5 rc m (zsp2 (zo4 S.k) x y4.1) y4.2 := by
  intro m x S M h c
  obtain ⟨s43, s45, -⟩ := signL h
  rw [md_added_l5, s43]
  simp only [Option.bind_some, bI_if]
  by_cases c2 : S.k = 43
  · have tw := h.tw (by omega)
    rw [if_pos c2, if_pos ((lg_cmp_eq _ _).mpr (by rw [tw, c2]; rfl)), c2]
    rfl
  · have c3 : S.k = 45 := by
      unfold zo4 at c
      rw [if_neg c2] at c
      split at c
      · assumption
      · exact absurd rfl c
    have tw := h.tw (by omega)
    rw [if_neg c2, s45]
    simp only [Option.bind_some, bI_if]
    rw [if_pos c3, if_neg (fun z => absurd ((lg_cmp_eq _ _).mp z) (by rw [tw, c3]; decide)), c3]
    rfl
theorem l4_H2 (rc : Nat → mm_M → Option (Int32 × mm_M)) : ∀ m x M, M.1 73 25 = 1 → md_added_l5 rc (m + 1) x M = some (x, M) := by
  intro m x M h
  rw [md_added_l5, isSignM_bad h]
  simp only [Option.bind_some]
  rw [if_pos True.intro, isSignM_bad h]
  rfl
theorem l5_H0 {o : Nat} (rc : Nat → mm_M → Option (Int32 × mm_M)) : ∀ m x S M, zMt fr n B o S M → zo5 S.k = 0 → md_term_l5 rc (m + 1) x M = some (x, M) := by
  intro m x S M h c
  have c2 : S.k ≠ 42 := fun e => by rw [e] at c; exact absurd c (by decide)
  obtain ⟨-, -, s42, -⟩ := signL h
  unfold md_term_l5
  rw [s42]
  simp only [Option.bind_some, bI_if]
  rw [if_neg c2]
theorem l5_H1 {o : Nat} (rc : Nat → mm_M → Option (Int32 × mm_M)) : ∀ m x S M, zMt fr n B o S M → zo5 S.k ≠ 0 → md_term_l5 rc (m + 1) x M = (md_next M).bind fun y3 => (rc 5 y3.2).bind fun y4 => md_term_l5 rc m (zsp2 (zo5 S.k) x y4.1) y4.2 := by
  intro m x S M h c
  obtain ⟨-, -, s42, -⟩ := signL h
  have c2 : S.k = 42 := by
    unfold zo5 at c
    split at c
    · assumption
    · exact absurd rfl c
  rw [md_term_l5, s42]
  simp only [Option.bind_some, bI_if]
  rw [if_pos c2, c2]
  rfl
theorem l5_H2 (rc : Nat → mm_M → Option (Int32 × mm_M)) : ∀ m x M, M.1 73 25 = 1 → md_term_l5 rc (m + 1) x M = some (x, M) := by
  intro m x M h
  rw [md_term_l5, isSignM_bad h]
  rfl
theorem zo0_8 : ∀ k, zo0 k ≠ 0 → zo0 k < -8 := by
  intro k
  unfold zo0
  split
  · intro _; decide
  · intro h; exact absurd rfl h
theorem zo1_8 : ∀ k, zo1 k ≠ 0 → zo1 k < -8 := by
  intro k
  unfold zo1
  split
  · intro _; decide
  · intro h; exact absurd rfl h
theorem zo4_8 : ∀ k, zo4 k ≠ 0 → zo4 k < -8 := by
  intro k
  unfold zo4
  split
  · intro _; decide
  · split
    · intro _; decide
    · intro h; exact absurd rfl h
theorem zo5_8 : ∀ k, zo5 k ≠ 0 → zo5 k < -8 := by
  intro k
  unfold zo5
  split
  · intro _; decide
  · intro h; exact absurd rfl h
/-- one more is opened, if five aren't -/
theorem openM_ok {o : Nat} {S : zTk} {M : mm_M} (hS : zMt fr n B o S M) (ho : o ≤ 5) : Ok (md_opens M) (fun y => zfx zMw M.1 y.2.1 ∧ y.2.2.1 = M.2.1 ∧ (o < 5 → y.1 = 1 ∧ zMt fr n B (o + 1) (zlx B n S.e) y.2) ∧ (¬ o < 5 → y.1 = 0 ∧ zMF S.p y.2.1)) := by
  unfold md_opens
  have h24 := hS.2.2.1
  have e5 : nI o = 5 ↔ o = 5 := nI_eq (b := 5) (by omega) (by decide)
  rw [h24, nI_1]
  refine ok_ite (fun c => ?_) (fun c => ?_)
  · have c1 := e5.mp c
    refine ok_then (failM_ok hS) (fun y hy => ok_ret ⟨hy.2.1, hy.2.2, fun z => by omega, fun _ => ⟨rfl, hy.1⟩⟩)
  · have c1 : o < 5 := by
      have : o ≠ 5 := fun z => c (e5.mpr z)
      omega
    have hf : zfx (fun r c => r = 73 ∧ c = 24) M.1 (ak_up M.1 73 24 (nI (o + 1))) := zfx.rf.up ⟨rfl, rfl⟩
    have hS2 : zMt fr n B (o + 1) S (ak_up M.1 73 24 (nI (o + 1)), M.2) := by
      obtain ⟨h1, h2, h3, h4, h5⟩ := hS
      refine ⟨h1.fx hf (by omega) (by omega) (by omega), ⟨(hf _ _ (by omega)).trans h2.1, (hf _ _ (by omega)).trans h2.2.1, ?_⟩, (show ak_up M.1 73 24 (nI (o + 1)) 73 24 = nI (o + 1) from ak_up_same), (hf _ _ (by omega)).trans h4, h5⟩
      rw [show (ak_up M.1 73 24 (nI (o + 1)), M.2).1 73 21 = M.1 73 21 from hf 73 21 (by omega)]
      exact h2.2.2
    refine ok_then (advM_ok hS2) (fun y hy => ok_ret ⟨(hf.wk (fun r c z => ⟨z.1, by omega⟩)).tr hy.2.1, hy.2.2, fun _ => ⟨rfl, hy.1⟩, fun z => absurd c1 z⟩)
/-- what closes: open is one less again -/
theorem zMt.cl {o : Nat} {S : zTk} {M : mm_M} (h : zMt fr n B (o + 1) S M) : zMt fr n B o S (ak_up M.1 73 24 (M.1 73 24 - 1), M.2) := by
  obtain ⟨h1, h2, h3, h4, h5⟩ := h
  have hf : zfx (fun r c => r = 73 ∧ c = 24) M.1 (ak_up M.1 73 24 (M.1 73 24 - 1)) := zfx.rf.up ⟨rfl, rfl⟩
  refine ⟨h1.fx hf (by omega) (by omega) (by omega), ⟨(hf _ _ (by omega)).trans h2.1, (hf _ _ (by omega)).trans h2.2.1, ?_⟩, ?_, (hf _ _ (by omega)).trans h4, h5⟩
  · rw [show (ak_up M.1 73 24 (M.1 73 24 - 1), M.2).1 73 21 = M.1 73 21 from hf 73 21 (by omega)]
    exact h2.2.2
  · show ak_up M.1 73 24 (M.1 73 24 - 1) 73 24 = nI o
    rw [ak_up_same, h3, nI_pred]
theorem zMF.cl {p : Nat} {σ : Nat → Nat → Int32} (h : zMF p σ) (v : Int32) : zMF p (ak_up σ 73 24 v) := ⟨(ak_up_oth (by decide)).trans h.1, (ak_up_oth (by decide)).trans h.2⟩
theorem zMw_24 {σ : Nat → Nat → Int32} (v : Int32) : zfx zMw σ (ak_up σ 73 24 v) := zfx.rf.up ⟨rfl, by decide⟩
end
