/-! level 2: texts: the class's reader, as a whole -/
section
variable {t n : Nat} {B : Nat → Nat}
def zIH (t n : Nat) (B : Nat → Nat) (rc : Nat → mm_M → Option (Unit × mm_M)) (rcp : Nat → Nat → zTk → zR) : Prop := (∀ s o S L M, s ≤ 6 → o ≤ 5 → rcp s o S ≠ none → zSt t n B o L S M.1 → L.length ≤ S.p → Ok (rc s M) (fun y => zQ t n B o L (rcp s o S) M y.2)) ∧ (∀ s o S, zG n S → zP n S (rcp s o S))
theorem rd2C (ht : 37 ≤ t) {rc : Nat → mm_M → Option (Unit × mm_M)} {rcp : Nat → Nat → zTk → zR} (ih : zIH t n B rc rcp) {o : Nat} {S : zTk} {L : List Int32} {M : mm_M} (ho : o ≤ 5) (hne : zrd2 B n rcp o S ≠ none) (hS : zSt t n B o L S M.1) (hl : L.length ≤ S.p) : Ok (tx_readNot_b rc t M) (fun y => zQ t n B o L (zrd2 B n rcp o S) M y.2) := by
  unfold tx_readNot_b
  have hn := hS.1.1
  have hG := hS.2.2.2.2
  by_cases c : S.k = 261
  · refine ok_pos ((zk_eq (k := 261) hS.2.1 (by decide)).mpr c) ?_
    have hlt := zG_lt hG (by omega) (by omega)
    have hg := zlx_G B (n := n) (i := S.e) hG.2.1
    have hg1 := hg.1
    refine ok_then (openC_ok ht hS ho (by omega)) (fun y2 h2 => ?_)
    obtain ⟨a1, a2, a3, a4⟩ := h2
    by_cases d : o < 5
    · have ez : zrd2 B n rcp o S = zbd (rcp 2 (o + 1) (zlx B n S.e)) fun c S1 => some (.inr (c ++ [-8], S1)) := (if_pos c).trans (if_pos d)
      rw [ez] at hne ⊢
      obtain ⟨a5, a6⟩ := a3 d
      have hr := zbd_l hne
      refine ok_neg (by rw [a5]; decide) (ok_then (ih.1 2 (o + 1) _ L _ (by decide) (by omega) hr a6 (by omega)) (fun y4 h4 => ?_))
      obtain ⟨b1, b2, b3, b4⟩ := h4
      rcases zR_cases hr with ⟨p, er⟩ | ⟨c1, S1, er⟩
      · rw [er]
        refine ok_then (((b3 p er).cl _).add (M := (_, y4.2.2)) _) (fun y5 h5 => ok_ret ?_)
        obtain ⟨d1, d2, d3⟩ := h5
        exact zQ.bad (((a1.tr b1).tr (zRw_10 _)).tr (d2.wk zAw_Rw)) (d3.trans (b2.trans a2)) d1
      · rw [er]
        obtain ⟨q1, q2, q3, q4⟩ := ih.2 _ _ _ hg.2 _ _ er
        have q5 := q1.2.1
        have q6 := q1.1
        refine ok_then (addS_ok (M := (_, y4.2.2)) ht (zSt.cl ht (b4 _ _ er)) (by rw [List.length_append]; omega) _) (fun y5 h5 => ok_ret ?_)
        obtain ⟨d1, d2, d3⟩ := h5
        rw [List.append_assoc] at d1
        exact zQ.good (((a1.tr b1).tr (zRw_10 _)).tr d2) (d3.trans (b2.trans a2)) d1
    · have ez : zrd2 B n rcp o S = some (.inl S.p) := (if_pos c).trans (if_neg d)
      rw [ez]
      obtain ⟨a5, a6⟩ := a4 d
      exact ok_pos a5 (ok_ret (zQ.bad a1 a2 a6))
  · refine ok_neg (fun z => c ((zk_eq (k := 261) hS.2.1 (by decide)).mp z)) ?_
    have ez : zrd2 B n rcp o S = rcp 3 o S := if_neg c
    rw [ez] at hne ⊢
    exact ok_then (ih.1 3 o S L M (by decide) ho hne hS hl) (fun y h => ok_ret h)
theorem rd3C (ht : 37 ≤ t) {rc : Nat → mm_M → Option (Unit × mm_M)} {rcp : Nat → Nat → zTk → zR} (ih : zIH t n B rc rcp) {o : Nat} {S : zTk} {L : List Int32} {M : mm_M} (ho : o ≤ 5) (hne : zrd3 B n rcp o S ≠ none) (hS : zSt t n B o L S M.1) (hl : L.length ≤ S.p) : Ok (tx_readComparison_b rc t M) (fun y => zQ t n B o L (zrd3 B n rcp o S) M y.2) := by
  unfold tx_readComparison_b
  have hn := hS.1.1
  have hG := hS.2.2.2.2
  unfold zrd3 at hne ⊢
  have hr := zbd_l hne
  refine ok_then (ih.1 4 o S L M (by decide) ho hr hS hl) (fun y1 h1 => ?_)
  obtain ⟨a1, a2, a3, a4⟩ := h1
  rcases zR_cases hr with ⟨p, er⟩ | ⟨c1, S1, er⟩
  · rw [er]
    have e8 := (a3 p er).1
    rw [e8]
    exact ok_neg (by decide) (ok_neg (by decide) (ok_ret (zQ.bad a1 a2 (a3 p er))))
  · rw [er] at hne ⊢
    have hS1 := a4 _ _ er
    have hG1 := hS1.2.2.2.2
    obtain ⟨q1, q2, q3, q4⟩ := ih.2 _ _ _ hG _ _ er
    have q5 := q1.2.1
    have q6 := q1.1
    have hg := zlx_G B (n := n) (i := S1.e) hG1.2.1
    have hg1 := hg.1
    have e60 := zk_eq (k := 60) hS1.2.1 (by decide)
    have e61 := zk_eq (k := 61) hS1.2.1 (by decide)
    have go : ∀ v : Int32, S1.k ≠ 264 ∧ S1.k ≠ 265 → rcp 4 o (zlx B n S1.e) ≠ none → Ok ((tx_advance t y1.2).bind fun y4 => (rc 4 y4.2).bind fun y5 => (tx_add t v y5.2).bind fun y6 => some ((), y6.2)) (fun y => zQ t n B o L (zbd (rcp 4 o (zlx B n S1.e)) fun c2 S2 => some (.inr (c1 ++ c2 ++ [v], S2))) M y.2) := by
      intro v hk hr2
      have hlt := zG_lt hG1 hk.1 hk.2
      refine ok_then (advS_ok ht hS1 hk.2) (fun y4 h4 => ?_)
      obtain ⟨b1, b2, b3⟩ := h4
      refine ok_then (ih.1 4 o _ (L ++ c1) _ (by decide) ho hr2 b1 (by rw [List.length_append]; omega)) (fun y5 h5 => ?_)
      obtain ⟨d1, d2, d3, d4⟩ := h5
      rcases zR_cases hr2 with ⟨p, er2⟩ | ⟨c2, S2, er2⟩
      · rw [er2]
        refine ok_then ((d3 p er2).add _) (fun y6 h6 => ok_ret ?_)
        obtain ⟨g1, g2, g3⟩ := h6
        exact zQ.bad (((a1.tr b2).tr d1).tr (g2.wk zAw_Rw)) (g3.trans (d2.trans (b3.trans a2))) g1
      · rw [er2]
        obtain ⟨w1, w2, w3, w4⟩ := ih.2 _ _ _ hg.2 _ _ er2
        have w5 := w1.2.1
        have w6 := w1.1
        refine ok_then (addS_ok ht (d4 _ _ er2) (by rw [List.length_append, List.length_append]; omega) _) (fun y6 h6 => ok_ret ?_)
        obtain ⟨g1, g2, g3⟩ := h6
        rw [List.append_assoc, List.append_assoc, ← List.append_assoc c1] at g1
        exact zQ.good (((a1.tr b2).tr d1).tr g2) (g3.trans (d2.trans (b3.trans a2))) g1
    have hne2 : (if S1.k = 60 then zbd (rcp 4 o (zlx B n S1.e)) (fun c2 S2 => some (.inr (c1 ++ c2 ++ [-12], S2))) else if S1.k = 61 then zbd (rcp 4 o (zlx B n S1.e)) (fun c2 S2 => some (.inr (c1 ++ c2 ++ [-13], S2))) else some (.inr (c1, S1))) ≠ none := hne
    show Ok _ (fun y : Unit × mm_M => zQ t n B o L (if S1.k = 60 then zbd (rcp 4 o (zlx B n S1.e)) (fun c2 S2 => some (.inr (c1 ++ c2 ++ [-12], S2))) else if S1.k = 61 then zbd (rcp 4 o (zlx B n S1.e)) (fun c2 S2 => some (.inr (c1 ++ c2 ++ [-13], S2))) else some (.inr (c1, S1))) M y.2)
    by_cases k60 : S1.k = 60
    · rw [if_pos k60] at hne2 ⊢
      exact ok_pos (e60.mpr k60) (ok_pos (e60.mpr k60) (go (-12) (by omega) (zbd_l hne2)))
    · rw [if_neg k60] at hne2 ⊢
      refine ok_neg (fun z => k60 (e60.mp z)) ?_
      by_cases k61 : S1.k = 61
      · rw [if_pos k61] at hne2 ⊢
        exact ok_pos (e61.mpr k61) (ok_neg (fun z => k60 (e60.mp z)) (go (-13) (by omega) (zbd_l hne2)))
      · rw [if_neg k61]
        exact ok_neg (fun z => k61 (e61.mp z)) (ok_ret (zQ.good a1 a2 hS1))
theorem rd6C (ht : 37 ≤ t) {rc : Nat → mm_M → Option (Unit × mm_M)} {rcp : Nat → Nat → zTk → zR} (ih : zIH t n B rc rcp) {o : Nat} {S : zTk} {L : List Int32} {M : mm_M} (ho : o ≤ 5) (hne : zrd6 B n rcp o S ≠ none) (hS : zSt t n B o L S M.1) (hl : L.length ≤ S.p) : Ok (tx_readOne_b rc t M) (fun y => zQ t n B o L (zrd6 B n rcp o S) M y.2) := by
  unfold tx_readOne_b
  have hn := hS.1.1
  have hG := hS.2.2.2.2
  have hGe := hG.2.1
  have hg := zlx_G B (n := n) (i := S.e) hG.2.1
  have hg1 := hg.1
  have e263 := zk_eq (k := 263) hS.2.1 (by decide)
  have e262 := zk_eq (k := 262) hS.2.1 (by decide)
  have e45 := zk_eq (k := 45) hS.2.1 (by decide)
  have e40 := zk_eq (k := 40) hS.2.1 (by decide)
  have lit : ∀ v : Int32, S.k ≠ 264 ∧ S.k ≠ 265 → Ok ((tx_add t v M).bind fun y2 => (tx_advance t y2.2).bind fun y3 => some ((), y3.2)) (fun y => zQ t n B o L (some (.inr ([v], zlx B n S.e))) M y.2) := by
    intro v hk
    have hlt := zG_lt hG hk.1 hk.2
    refine ok_then (addS_ok ht hS (by omega) v) (fun y2 h2 => ?_)
    obtain ⟨a1, a2, a3⟩ := h2
    refine ok_then (advS_ok ht a1 hk.2) (fun y3 h3 => ok_ret ?_)
    obtain ⟨b1, b2, b3⟩ := h3
    exact zQ.good (a2.tr b2) (b3.trans a3) b1
  unfold zrd6 at hne ⊢
  by_cases k3 : S.k = 263
  · rw [if_pos k3]
    refine ok_pos (e263.mpr k3) ?_
    rw [hS.2.1.2.2.2.2.1 (Or.inr k3)]
    exact lit _ (by omega)
  rw [if_neg k3] at hne ⊢
  refine ok_neg (fun z => k3 (e263.mp z)) ?_
  by_cases k2 : S.k = 262
  · rw [if_pos k2]
    refine ok_pos (e262.mpr k2) ?_
    rw [hS.2.1.2.2.2.2.1 (Or.inl k2)]
    unfold tx_addName
    have := lit (-1 - nI S.v) (by omega)
    obtain ⟨y, ey, hy⟩ := this
    refine ⟨y, ?_, hy⟩
    rw [← ey]
    cases tx_add t (-1 - nI S.v) M <;> rfl
  rw [if_neg k2] at hne ⊢
  refine ok_neg (fun z => k2 (e262.mp z)) ?_
  by_cases k45 : S.k = 45
  · rw [if_pos k45] at hne ⊢
    refine ok_pos (e45.mpr k45) ?_
    have hlt := zG_lt hG (by omega) (by omega)
    refine ok_then (openC_ok ht hS ho (by omega)) (fun y2 h2 => ?_)
    obtain ⟨a1, a2, a3, a4⟩ := h2
    by_cases d : o < 5
    · rw [if_pos d] at hne ⊢
      obtain ⟨a5, a6⟩ := a3 d
      have hr := zbd_l hne
      refine ok_neg (by rw [a5]; decide) (ok_then (ih.1 6 (o + 1) _ L _ (by decide) (by omega) hr a6 (by omega)) (fun y4 h4 => ?_))
      obtain ⟨b1, b2, b3, b4⟩ := h4
      rcases zR_cases hr with ⟨p, er⟩ | ⟨c1, S1, er⟩
      · rw [er]
        refine ok_then (((b3 p er).cl _).add (M := (_, y4.2.2)) _) (fun y5 h5 => ok_ret ?_)
        obtain ⟨d1, d2, d3⟩ := h5
        exact zQ.bad (((a1.tr b1).tr (zRw_10 _)).tr (d2.wk zAw_Rw)) (d3.trans (b2.trans a2)) d1
      · rw [er]
        obtain ⟨q1, q2, q3, q4⟩ := ih.2 _ _ _ hg.2 _ _ er
        have q5 := q1.2.1
        have q6 := q1.1
        refine ok_then (addS_ok (M := (_, y4.2.2)) ht (zSt.cl ht (b4 _ _ er)) (by rw [List.length_append]; omega) _) (fun y5 h5 => ok_ret ?_)
        obtain ⟨d1, d2, d3⟩ := h5
        rw [List.append_assoc] at d1
        exact zQ.good (((a1.tr b1).tr (zRw_10 _)).tr d2) (d3.trans (b2.trans a2)) d1
    · rw [if_neg d]
      obtain ⟨a5, a6⟩ := a4 d
      exact ok_pos a5 (ok_ret (zQ.bad a1 a2 a6))
  rw [if_neg k45] at hne ⊢
  refine ok_neg (fun z => k45 (e45.mp z)) ?_
  by_cases k40 : S.k = 40
  · rw [if_pos k40] at hne ⊢
    refine ok_pos (e40.mpr k40) ?_
    have hlt := zG_lt hG (by omega) (by omega)
    refine ok_then (openC_ok ht hS ho (by omega)) (fun y2 h2 => ?_)
    obtain ⟨a1, a2, a3, a4⟩ := h2
    by_cases d : o < 5
    · rw [if_pos d] at hne ⊢
      obtain ⟨a5, a6⟩ := a3 d
      have hr := zbd_l hne
      refine ok_neg (by rw [a5]; decide) (ok_then (ih.1 0 (o + 1) _ L _ (by decide) (by omega) hr a6 (by omega)) (fun y4 h4 => ?_))
      obtain ⟨b1, b2, b3, b4⟩ := h4
      rcases zR_cases hr with ⟨p, er⟩ | ⟨c1, S1, er⟩
      · rw [er]
        have hb := b3 p er
        unfold tx_take
        rw [hb.1, if_neg (by decide)]
        refine ok_bind (ok_then (failC_ok (p := p) hb.2.1 (Or.inr hb.2.2.1) (by have := hb.2.2.2.1; omega)) (fun y6 h6 => ok_ret (ok_ret ?_)))
        obtain ⟨d1, d2, d3, d4⟩ := h6
        obtain ⟨z, hz, h2⟩ := hb.2.2.2.2
        have hb2 : zCB t p y6.2.1 := ⟨d1, (d3 _ _ (fun z => by omega)).trans hb.2.1, d2, hb.2.2.2.1, z, hz, (d3 _ _ (fun z => by omega)).trans h2⟩
        exact zQ.bad (((a1.tr b1).tr (d3.wk (fun r c z => Or.inr ⟨z.1, by have := z.2; omega⟩))).tr (zRw_10 _)) (d4.trans (b2.trans a2)) (hb2.cl _)
      · rw [er]
        have hS1 := b4 _ _ er
        have e41 := zk_eq (k := 41) hS1.2.1 (by decide)
        unfold tx_take
        show Ok _ (fun y : Unit × mm_M => zQ t n B o L (if S1.k = 41 then some (.inr (c1, zlx B n S1.e)) else some (.inl S1.p)) M y.2)
        by_cases k41 : S1.k = 41
        · rw [if_pos k41, if_pos (show y4.2.1 t 8 = 41 from e41.mpr k41)]
          refine ok_bind (ok_then (advS_ok ht hS1 (by omega)) (fun y6 h6 => ok_ret (ok_ret ?_)))
          obtain ⟨d1, d2, d3⟩ := h6
          exact zQ.good (((a1.tr b1).tr d2).tr (zRw_10 _)) (d3.trans (b2.trans a2)) (zSt.cl ht d1)
        · rw [if_neg k41, if_neg (show ¬ y4.2.1 t 8 = 41 from fun z => k41 (e41.mp z))]
          refine ok_bind (ok_then (failS_ok hS1) (fun y6 h6 => ok_ret (ok_ret ?_)))
          obtain ⟨d1, d2, d3⟩ := h6
          exact zQ.bad (((a1.tr b1).tr d2).tr (zRw_10 _)) (d3.trans (b2.trans a2)) (d1.cl _)
    · rw [if_neg d]
      obtain ⟨a5, a6⟩ := a4 d
      exact ok_pos a5 (ok_ret (zQ.bad a1 a2 a6))
  rw [if_neg k40]
  refine ok_neg (fun z => k40 (e40.mp z)) ?_
  refine ok_then (failS_ok hS) (fun y hy => ok_ret ?_)
  exact zQ.bad hy.2.1 hy.2.2 hy.1
theorem rdC (ht : 37 ≤ t) : ∀ k, zIH t n B (tx_rd k t) (zrd B n k) := by
  intro k
  induction k with
  | zero => exact ⟨fun s o S L M hs ho hne => absurd rfl hne, zrd_P B n 0⟩
  | succ k ih =>
    refine ⟨fun s o S L M hs ho hne hS hl => ?_, zrd_P B n (k + 1)⟩
    unfold tx_rd
    unfold zrd at hne ⊢
    have hs2 : s = 0 ∨ s = 1 ∨ s = 2 ∨ s = 3 ∨ s = 4 ∨ s = 5 ∨ s = 6 := by omega
    rcases hs2 with rfl | rfl | rfl | rfl | rfl | rfl | rfl
    · simp only [if_true, tx_readEither_b, zcl_0] at hne ⊢
      exact lvC_ok (rc := fun s m => tx_rd k t s m) ht zt0_n zo0_n (fun S L M a b c => ih.1 1 o S L M (by decide) ho a b c) (ih.2 1 o) hne hS hl
    · simp only [show ¬ (1 = 0) by decide, if_false, if_true, tx_readBoth_b, zcl_1] at hne ⊢
      exact lvC_ok (rc := fun s m => tx_rd k t s m) ht zt1_n zo1_n (fun S L M a b c => ih.1 2 o S L M (by decide) ho a b c) (ih.2 2 o) hne hS hl
    · simp only [show ¬ (2 = 0) by decide, show ¬ (2 = 1) by decide, if_false, if_true] at hne ⊢
      exact rd2C ht ih ho hne hS hl
    · simp only [show ¬ (3 = 0) by decide, show ¬ (3 = 1) by decide, show ¬ (3 = 2) by decide, if_false, if_true] at hne ⊢
      exact rd3C ht ih ho hne hS hl
    · simp only [show ¬ (4 = 0) by decide, show ¬ (4 = 1) by decide, show ¬ (4 = 2) by decide, show ¬ (4 = 3) by decide, if_false, if_true, tx_readSum_b, zcl_4] at hne ⊢
      exact lvC_ok (rc := fun s m => tx_rd k t s m) ht zt4_n zo4_n (fun S L M a b c => ih.1 5 o S L M (by decide) ho a b c) (ih.2 5 o) hne hS hl
    · simp only [show ¬ (5 = 0) by decide, show ¬ (5 = 1) by decide, show ¬ (5 = 2) by decide, show ¬ (5 = 3) by decide, show ¬ (5 = 4) by decide, if_false, if_true, tx_readTerm_b, zcl_5] at hne ⊢
      exact lvC_ok (rc := fun s m => tx_rd k t s m) ht zt5_n zo5_n (fun S L M a b c => ih.1 6 o S L M (by decide) ho a b c) (ih.2 6 o) hne hS hl
    · simp only [show ¬ (6 = 0) by decide, show ¬ (6 = 1) by decide, show ¬ (6 = 2) by decide, show ¬ (6 = 3) by decide, show ¬ (6 = 4) by decide, show ¬ (6 = 5) by decide, if_false, if_true] at hne ⊢
      exact rd6C ht ih ho hne hS hl
end
