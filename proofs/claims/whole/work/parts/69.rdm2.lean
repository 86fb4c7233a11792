/-! level 2: texts: the model's reader, as a whole -/
section
variable {fr n : Nat} {B : Nat → Nat} {env : Nat → Int32}
/-- the readers of both kinds that answer to each other -/
def zsel (s : Nat) : Nat := if s ≤ 2 then s else s - 1
def zIM (fr n : Nat) (B : Nat → Nat) (env : Nat → Int32) (rc : Nat → mm_M → Option (Int32 × mm_M)) (rcp : Nat → Nat → zTk → zR) : Prop := (∀ s o S M, s ≤ 6 → s ≠ 3 → o ≤ 5 → rcp s o S ≠ none → zMt fr n B o S M → zMe env M.1 → Ok (rc (zsel s) M) (zQM fr n B o env (rcp s o S) M)) ∧ (∀ s o S, zG n S → zP n S (rcp s o S))
theorem nameM_eq {o : Nat} {S : zTk} {M : mm_M} (h : zMt fr n B o S M) (he : zMe env M.1) (hk : M.1 73 21 = 1) : md_name M = if znam B S.p S.e = 6 then (md_fail M).bind fun y13 => some ((0 : Int32), y13.2) else some (env (znam B S.p S.e), M) := by
  unfold md_name znam
  rw [h.weekW]
  simp only [Option.bind_some, bI_if]
  by_cases c0 : zis B S.p S.e [119, 101, 101, 107] = true
  · rw [if_pos ⟨hk, c0⟩, if_pos c0, if_neg (by decide)]
    exact congrArg (fun v => some (v, M)) (he 0 (by decide))
  rw [if_neg (fun z => c0 z.2), if_neg c0]
  rw [h.wishedW]
  simp only [Option.bind_some, bI_if]
  by_cases c1 : zis B S.p S.e [119, 105, 115, 104, 101, 100] = true
  · rw [if_pos ⟨hk, c1⟩, if_pos c1, if_neg (by decide)]
    exact congrArg (fun v => some (v, M)) (he 1 (by decide))
  rw [if_neg (fun z => c1 z.2), if_neg c1]
  rw [h.numberW]
  simp only [Option.bind_some, bI_if]
  by_cases c2 : zis B S.p S.e [110, 117, 109, 98, 101, 114] = true
  · rw [if_pos ⟨hk, c2⟩, if_pos c2, if_neg (by decide)]
    exact congrArg (fun v => some (v, M)) (he 2 (by decide))
  rw [if_neg (fun z => c2 z.2), if_neg c2]
  rw [h.lengthW]
  simp only [Option.bind_some, bI_if]
  by_cases c3 : zis B S.p S.e [108, 101, 110, 103, 116, 104] = true
  · rw [if_pos ⟨hk, c3⟩, if_pos c3, if_neg (by decide)]
    exact congrArg (fun v => some (v, M)) (he 3 (by decide))
  rw [if_neg (fun z => c3 z.2), if_neg c3]
  rw [h.pointsW]
  simp only [Option.bind_some, bI_if]
  by_cases c4 : zis B S.p S.e [112, 111, 105, 110, 116, 115] = true
  · rw [if_pos ⟨hk, c4⟩, if_pos c4, if_neg (by decide)]
    exact congrArg (fun v => some (v, M)) (he 4 (by decide))
  rw [if_neg (fun z => c4 z.2), if_neg c4]
  rw [h.awayW]
  simp only [Option.bind_some, bI_if]
  by_cases c5 : zis B S.p S.e [97, 119, 97, 121] = true
  · rw [if_pos ⟨hk, c5⟩, if_pos c5, if_neg (by decide)]
    exact congrArg (fun v => some (v, M)) (he 5 (by decide))
  rw [if_neg (fun z => c5 z.2), if_neg c5]
  rw [if_pos rfl]
theorem zst_num {v : Nat} (hv : v ≤ 9999) (st : List Int32) : zstp env (Int32.ofNat v) st = nI v :: st := by
  have h1 : ¬ nI v < 0 := nI_pos (by omega)
  have h7 : (-7 : Int32) < nI v := by
    rw [i_lt, zI_int (by omega), show (-7 : Int32).toInt = -7 from rfl]
    omega
  have e : (if (nI v) < 0 then env (-1 - (nI v)).toNatClampNeg else (nI v)) = nI v := if_neg h1
  exact (if_pos h7).trans (by rw [show Int32.ofNat v = nI v from rfl, e])
theorem zst_nam {v : Nat} (hv : v ≤ 5) (st : List Int32) : zstp env (-1 - Int32.ofNat v) st = env v :: st := by
  have h : ∀ v ≤ 5, (-7 : Int32) < -1 - nI v ∧ -1 - nI v < 0 ∧ (-1 - (-1 - nI v)).toNatClampNeg = v := by decide
  obtain ⟨h1, h2, h3⟩ := h v hv
  have e : (if (-1 - nI v) < 0 then env (-1 - (-1 - nI v)).toNatClampNeg else (-1 - nI v)) = env v := (if_pos h2).trans (congrArg env h3)
  exact (if_pos h1).trans (by rw [show Int32.ofNat v = nI v from rfl, e])
theorem zst_not {v : Int32} (st : List Int32) : zstp env (-8) (v :: st) = (if v = 0 then 1 else 0) :: st := rfl
theorem zst_neg {v : Int32} (st : List Int32) : zstp env (-7) (v :: st) = -v :: st := rfl
theorem rd2M {rc : Nat → mm_M → Option (Int32 × mm_M)} {rcp rcq : Nat → Nat → zTk → zR} (ih : zIM fr n B env rc rcp) (ihq : zIM fr n B env rc rcq) (h3 : ∀ o S, rcp 3 o S = zrd3 B n rcq o S) {o : Nat} {S : zTk} {M : mm_M} (ho : o ≤ 5) (hne : zrd2 B n rcp o S ≠ none) (hS : zMt fr n B o S M) (he : zMe env M.1) : Ok (md_not_b rc M) (zQM fr n B o env (zrd2 B n rcp o S) M) := by
  unfold md_not_b
  have hG := hS.2.2.2.2
  rw [hS.notW]
  simp only [Option.bind_some, bI_if]
  by_cases c : S.k = 261
  · rw [if_pos c]
    have hg := zlx_G B (n := n) (i := S.e) hG.2.1
    refine ok_then (openM_ok hS ho) (fun y2 h2 => ?_)
    obtain ⟨a1, a2, a3, a4⟩ := h2
    by_cases d : o < 5
    · have ez : zrd2 B n rcp o S = zbd (rcp 2 (o + 1) (zlx B n S.e)) fun c S1 => some (.inr (c ++ [-8], S1)) := (if_pos c).trans (if_pos d)
      rw [ez] at hne ⊢
      obtain ⟨a5, a6⟩ := a3 d
      have hr := zbd_l hne
      refine ok_neg (by rw [a5]; decide) (ok_then (ih.1 2 (o + 1) _ y2.2 (by decide) (by decide) (by omega) hr a6 (he.fx a1)) (fun y4 h4 => ?_))
      obtain ⟨b1, b2, b3, b4⟩ := h4
      rcases zR_cases hr with ⟨p, er⟩ | ⟨c1, S1, er⟩
      · rw [er]
        have hb := (b3 p er).cl (y4.2.1 73 24 - 1)
        exact ok_ite (fun _ => ok_ret (zQM.bad ((a1.tr b1).tr (zMw_24 _)) (b2.trans a2) hb)) (fun _ => ok_ret (zQM.bad ((a1.tr b1).tr (zMw_24 _)) (b2.trans a2) hb))
      · rw [er]
        obtain ⟨b5, b6⟩ := b4 _ _ er
        have hcl := b5.cl
        refine ok_ite (fun z => ok_ret (zQM.good ((a1.tr b1).tr (zMw_24 _)) (b2.trans a2) hcl (fun st => ?_))) (fun z => ok_ret (zQM.good ((a1.tr b1).tr (zMw_24 _)) (b2.trans a2) hcl (fun st => ?_)))
        · rw [zrn_app, b6]
          show zstp env (-8) (y4.1 :: st) = 1 :: st
          rw [zst_not, if_pos z]
        · rw [zrn_app, b6]
          show zstp env (-8) (y4.1 :: st) = 0 :: st
          rw [zst_not, if_neg z]
    · have ez : zrd2 B n rcp o S = some (.inl S.p) := (if_pos c).trans (if_neg d)
      rw [ez]
      obtain ⟨a5, a6⟩ := a4 d
      exact ok_pos a5 (ok_ret (zQM.bad a1 a2 a6))
  · rw [if_neg c]
    have ez : zrd2 B n rcp o S = zrd3 B n rcq o S := (if_neg c).trans (h3 o S)
    rw [ez] at hne ⊢
    unfold zrd3 at hne ⊢
    have hr := zbd_l hne
    refine ok_then (ihq.1 4 o S M (by decide) (by decide) ho hr hS he) (fun y1 h1 => ?_)
    obtain ⟨a1, a2, a3, a4⟩ := h1
    rcases zR_cases hr with ⟨p, er⟩ | ⟨c1, S1, er⟩
    · rw [er]
      have hb := (a3 p er).1
      rw [isSignM_bad hb]
      simp only [Option.bind_some]
      refine ok_pos True.intro ?_
      rw [isSignM_bad hb]
      simp only [Option.bind_some]
      exact ok_pos True.intro (ok_ret (zQM.bad a1 a2 (a3 p er)))
    · rw [er] at hne ⊢
      obtain ⟨hS1, hv⟩ := a4 _ _ er
      have hG1 := hS1.2.2.2.2
      have hg := zlx_G B (n := n) (i := S1.e) hG1.2.1
      obtain ⟨-, -, -, s60, s61, -⟩ := signL hS1
      have hne2 : (if S1.k = 60 then zbd (rcq 4 o (zlx B n S1.e)) (fun c2 S2 => some (.inr (c1 ++ c2 ++ [-12], S2))) else if S1.k = 61 then zbd (rcq 4 o (zlx B n S1.e)) (fun c2 S2 => some (.inr (c1 ++ c2 ++ [-13], S2))) else some (.inr (c1, S1))) ≠ none := hne
      show Ok _ (zQM fr n B o env (if S1.k = 60 then zbd (rcq 4 o (zlx B n S1.e)) (fun c2 S2 => some (.inr (c1 ++ c2 ++ [-12], S2))) else if S1.k = 61 then zbd (rcq 4 o (zlx B n S1.e)) (fun c2 S2 => some (.inr (c1 ++ c2 ++ [-13], S2))) else some (.inr (c1, S1))) M)
      have go : ∀ (v : Int32) (g : Int32 × mm_M → Int32), v < -8 → (∀ y : Int32 × mm_M, zsp2 v y1.1 y.1 = g y) → rcq 4 o (zlx B n S1.e) ≠ none → Ok ((md_next y1.2).bind fun y9 => (rc 3 y9.2).bind fun y10 => some (g y10, y10.2)) (zQM fr n B o env (zbd (rcq 4 o (zlx B n S1.e)) fun c2 S2 => some (.inr (c1 ++ c2 ++ [v], S2))) M) := by
        intro v g hv8 hg2 hr2
        refine ok_then (advM_ok hS1) (fun y9 h9 => ?_)
        obtain ⟨b1, b2, b3⟩ := h9
        refine ok_then (ihq.1 4 o _ y9.2 (by decide) (by decide) ho hr2 b1 (he.fx (a1.tr b2))) (fun y10 h10 => ok_ret ?_)
        obtain ⟨d1, d2, d3, d4⟩ := h10
        rcases zR_cases hr2 with ⟨p, er2⟩ | ⟨c2, S2, er2⟩
        · rw [er2]
          exact zQM.bad ((a1.tr b2).tr d1) (d2.trans (b3.trans a2)) (d3 p er2)
        · rw [er2]
          obtain ⟨d5, d6⟩ := d4 _ _ er2
          refine zQM.good ((a1.tr b2).tr d1) (d2.trans (b3.trans a2)) d5 (fun st => ?_)
          rw [zrn_app, zrn_app, hv, d6]
          show zstp env v (y10.1 :: y1.1 :: st) = g y10 :: st
          rw [zstp_2 hv8, hg2]
      have lt : ∀ y : Int32 × mm_M, zsp2 (-12) y1.1 y.1 = if y1.1 < y.1 then 1 else 0 := fun y => rfl
      have eq : ∀ y : Int32 × mm_M, zsp2 (-13) y1.1 y.1 = if y1.1 = y.1 then 1 else 0 := fun y => rfl
      have glt := go (-12) (fun y => if y1.1 < y.1 then 1 else 0) (by decide) lt
      have geq := go (-13) (fun y => if y1.1 = y.1 then 1 else 0) (by decide) eq
      rw [s60]
      simp only [Option.bind_some, bI_if]
      by_cases k60 : S1.k = 60
      · rw [if_pos k60] at hne2 ⊢
        have tw := hS1.tw (by omega)
        rw [if_pos k60, if_pos ((lg_cmp_eq _ _).mpr (by rw [tw, k60]; rfl))]
        obtain ⟨y, ey, hy⟩ := glt (zbd_l hne2)
        refine ⟨y, ?_, hy⟩
        rw [← ey]
        congr 1
        funext y9
        congr 1
        funext y10
        split <;> rfl
      · rw [if_neg k60] at hne2 ⊢
        rw [if_neg k60, s61]
        simp only [Option.bind_some, bI_if]
        by_cases k61 : S1.k = 61
        · rw [if_pos k61] at hne2 ⊢
          have tw := hS1.tw (by omega)
          rw [if_pos k61, if_neg (fun z => absurd ((lg_cmp_eq _ _).mp z) (by rw [tw, k61]; decide))]
          obtain ⟨y, ey, hy⟩ := geq (zbd_l hne2)
          refine ⟨y, ?_, hy⟩
          rw [← ey]
          congr 1
          funext y9
          congr 1
          funext y10
          split <;> rfl
        · rw [if_neg k61, if_neg k61]
          exact ok_ret (zQM.good a1 a2 hS1 hv)
theorem zwd_263 {i e : Nat} : (zwd B i e).1 ≠ 263 := by
  unfold zwd
  have := zkey_le B i e
  split
  · split
    · exact (by decide : 265 ≠ 263)
    · exact (by decide : 262 ≠ 263)
  · show zkey B i e ≠ 263
    omega
theorem rd6M {rc : Nat → mm_M → Option (Int32 × mm_M)} {rcp : Nat → Nat → zTk → zR} (ih : zIM fr n B env rc rcp) {o : Nat} {S : zTk} {M : mm_M} (ho : o ≤ 5) (hne : zrd6 B n rcp o S ≠ none) (hS : zMt fr n B o S M) (he : zMe env M.1) : Ok (md_atom_b rc M) (zQM fr n B o env (zrd6 B n rcp o S) M) := by
  unfold md_atom_b
  have hG := hS.2.2.2.2
  have hg := zlx_G B (n := n) (i := S.e) hG.2.1
  have h25 := hS.2.2.2.1
  obtain ⟨-, s45, -, -, -, s40, s41, -⟩ := signL hS
  unfold zrd6 at hne ⊢
  rw [s45]
  simp only [Option.bind_some, bI_if]
  by_cases k45 : S.k = 45
  · rw [if_neg (show ¬ S.k = 263 by omega), if_neg (show ¬ S.k = 262 by omega), if_pos k45] at hne ⊢
    rw [if_pos k45]
    refine ok_then (openM_ok hS ho) (fun y2 h2 => ?_)
    obtain ⟨a1, a2, a3, a4⟩ := h2
    by_cases d : o < 5
    · rw [if_pos d] at hne ⊢
      obtain ⟨a5, a6⟩ := a3 d
      have hr := zbd_l hne
      refine ok_neg (by rw [a5]; decide) (ok_then (ih.1 6 (o + 1) _ y2.2 (by decide) (by decide) (by omega) hr a6 (he.fx a1)) (fun y4 h4 => ok_ret ?_))
      obtain ⟨b1, b2, b3, b4⟩ := h4
      rcases zR_cases hr with ⟨p, er⟩ | ⟨c1, S1, er⟩
      · rw [er]
        exact zQM.bad ((a1.tr b1).tr (zMw_24 _)) (b2.trans a2) ((b3 p er).cl _)
      · rw [er]
        obtain ⟨b5, b6⟩ := b4 _ _ er
        refine zQM.good ((a1.tr b1).tr (zMw_24 _)) (b2.trans a2) b5.cl (fun st => ?_)
        rw [zrn_app, b6]
        exact zst_neg (env := env) st
    · rw [if_neg d]
      obtain ⟨a5, a6⟩ := a4 d
      exact ok_pos a5 (ok_ret (zQM.bad a1 a2 a6))
  rw [if_neg k45, s40]
  simp only [Option.bind_some, bI_if]
  by_cases k40 : S.k = 40
  · rw [if_neg (show ¬ S.k = 263 by omega), if_neg (show ¬ S.k = 262 by omega), if_neg k45, if_pos k40] at hne ⊢
    rw [if_pos k40]
    refine ok_then (openM_ok hS ho) (fun y2 h2 => ?_)
    obtain ⟨a1, a2, a3, a4⟩ := h2
    by_cases d : o < 5
    · rw [if_pos d] at hne ⊢
      obtain ⟨a5, a6⟩ := a3 d
      have hr := zbd_l hne
      refine ok_neg (by rw [a5]; decide) (ok_then (ih.1 0 (o + 1) _ y2.2 (by decide) (by decide) (by omega) hr a6 (he.fx a1)) (fun y4 h4 => ?_))
      obtain ⟨b1, b2, b3, b4⟩ := h4
      rcases zR_cases hr with ⟨p, er⟩ | ⟨c1, S1, er⟩
      · rw [er]
        have hb := b3 p er
        rw [isSignM_bad hb.1]
        simp only [Option.bind_some]
        refine ok_pos True.intro ?_
        rw [failM_bad hb.1]
        simp only [Option.bind_some]
        refine ok_neg ?_ (ok_ret (zQM.bad ((a1.tr b1).tr (zMw_24 _)) (b2.trans a2) (hb.cl _)))
        rw [(hb.cl (y4.2.1 73 24 - 1)).1]
        decide
      · rw [er]
        obtain ⟨b5, b6⟩ := b4 _ _ er
        have hcl := b5.cl
        obtain ⟨-, -, -, -, -, -, t41, -⟩ := signL b5
        rw [t41]
        simp only [Option.bind_some, bI_if]
        show Ok _ (zQM fr n B o env (if S1.k = 41 then some (.inr (c1, zlx B n S1.e)) else some (.inl S1.p)) M)
        by_cases k41 : S1.k = 41
        · rw [if_pos k41, if_pos k41]
          refine ok_pos hcl.2.2.2.1 (ok_then (advM_ok hcl) (fun y5 h5 => ok_ret ?_))
          obtain ⟨d1, d2, d3⟩ := h5
          exact zQM.good (((a1.tr b1).tr (zMw_24 _)).tr d2) (d3.trans (b2.trans a2)) d1 b6
        · rw [if_neg k41, if_neg k41]
          refine ok_then (failM_ok b5) (fun y5 h5 => ?_)
          obtain ⟨d1, d2, d3⟩ := h5
          refine ok_neg ?_ (ok_ret (zQM.bad (((a1.tr b1).tr d2).tr (zMw_24 _)) (d3.trans (b2.trans a2)) (d1.cl _)))
          rw [(d1.cl (y5.2.1 73 24 - 1)).1]
          decide
    · rw [if_neg d]
      obtain ⟨a5, a6⟩ := a4 d
      exact ok_pos a5 (ok_ret (zQM.bad a1 a2 a6))
  rw [if_neg k40, if_pos h25]
  have flt : S.k ≠ 263 → S.k ≠ 262 → Ok ((md_fail M).bind fun y13 => some ((0 : Int32), y13.2)) (zQM fr n B o env (if S.k = 263 then some (.inr ([Int32.ofNat S.v], zlx B n S.e)) else if S.k = 262 then some (.inr ([-1 - Int32.ofNat S.v], zlx B n S.e)) else if S.k = 45 then (if o < 5 then zbd (rcp 6 (o + 1) (zlx B n S.e)) (fun c S1 => some (.inr (c ++ [-7], S1))) else some (.inl S.p)) else if S.k = 40 then (if o < 5 then zbd (rcp 0 (o + 1) (zlx B n S.e)) (fun c S1 => if S1.k = 41 then some (.inr (c, zlx B n S1.e)) else some (.inl S1.p)) else some (.inl S.p)) else some (.inl S.p)) M) := by
    intro q3 q2
    rw [if_neg q3, if_neg q2, if_neg k45, if_neg k40]
    exact ok_then (failM_ok hS) (fun y hy => ok_ret (zQM.bad hy.2.1 hy.2.2 hy.1))
  rcases hS.2.1.2.2 with z | z | z | z | z
  · rw [if_neg (by rw [z.1]; decide), if_pos h25, if_neg (by rw [z.1]; decide)]
    exact flt (by omega) (by omega)
  · rw [if_neg (by rw [z.1]; decide), if_pos h25, if_pos z.1, nameM_eq hS he z.1]
    obtain ⟨w1, w2⟩ := zwd_nam (B := B) (i := S.p) (e := S.e)
    by_cases d : znam B S.p S.e = 6
    · rw [if_pos d]
      have n262 : S.k ≠ 262 := by
        rw [z.2.2.2.1]
        exact fun x => w1.mp x d
      have n263 : S.k ≠ 263 := by
        rw [z.2.2.2.1]
        exact zwd_263
      refine ok_bind (ok_mono (flt n263 n262) (fun y hy => ?_))
      obtain ⟨d1, d2, d3, d4⟩ := hy
      rw [if_neg n263, if_neg n262, if_neg k45, if_neg k40] at d3 ⊢
      have hb := d3 _ rfl
      exact ok_neg (by rw [hb.1]; decide) (ok_ret (zQM.bad d1 d2 hb))
    · rw [if_neg d]
      have e262 : S.k = 262 := by
        rw [z.2.2.2.1]
        exact w1.mpr d
      rw [if_neg (show ¬ S.k = 263 by omega), if_pos e262]
      simp only [Option.bind_some]
      refine ok_pos h25 (ok_then (advM_ok hS) (fun y hy => ok_ret (zQM.good hy.2.1 hy.2.2 hy.1 (fun st => ?_))))
      have ev : S.v = znam B S.p S.e := by
        rw [z.2.2.2.2]
        exact w2 (by rw [← z.2.2.2.1]; exact e262)
      have hle := znam_le B S.p S.e
      show zstp env (-1 - Int32.ofNat S.v) st = _
      rw [ev, zst_nam (by omega)]
  · rw [if_pos z.1, if_pos z.2.1]
    refine ok_then (advM_ok hS) (fun y hy => ok_ret (zQM.good hy.2.1 hy.2.2 hy.1 (fun st => ?_)))
    show zstp env (Int32.ofNat S.v) st = _
    rw [zst_num z.2.2.1, z.2.2.2]
    show nI S.v :: st = ((nI S.v).toInt64).toInt32 :: st
    simp
  · rw [if_neg (by rw [z.1]; decide), if_pos h25, if_neg (by rw [z.1]; decide)]
    exact flt (by omega) (by omega)
  · rw [if_neg (by rw [z.1]; decide), if_pos h25, if_neg (by rw [z.1]; decide)]
    exact flt (by omega) (by omega)
theorem rdM (hn : n ≤ 160) : ∀ K k k', k ≤ K → k ≤ k' → zIM fr n B env (md_rd k') (zrd B n k) := by
  intro K
  induction K with
  | zero =>
    intro k k' h1 h2
    obtain rfl : k = 0 := by omega
    exact ⟨fun s o S M hs hs3 ho hne => absurd rfl hne, zrd_P B n 0⟩
  | succ K ih =>
    intro k k' h1 h2
    refine ⟨fun s o S M hs hs3 ho hne hS he => ?_, zrd_P B n k⟩
    obtain ⟨k, rfl⟩ : ∃ j, k = j + 1 := by
      cases k with
      | zero => exact absurd rfl hne
      | succ j => exact ⟨j, rfl⟩
    obtain ⟨k', rfl⟩ : ∃ j, k' = j + 1 := ⟨k' - 1, by omega⟩
    have ih1 := ih k k' (by omega) (by omega)
    have hs2 : s = 0 ∨ s = 1 ∨ s = 2 ∨ s = 4 ∨ s = 5 ∨ s = 6 := by omega
    rcases hs2 with rfl | rfl | rfl | rfl | rfl | rfl
    · have ez : zrd B n (k + 1) 0 o S = zlv B n (zrd B n k 1 o) zo0 S := rfl
      rw [ez] at hne ⊢
      exact lvM (rc := fun s m => md_rd k' s m) hn (l0_H0 _) (l0_H1 _) (l0_H2 _) zo0_n zo0_8 (ih1.2 1 o) (fun S M a b c => ih1.1 1 o S M (by decide) (by decide) ho a b c) hne hS he
    · have ez : zrd B n (k + 1) 1 o S = zlv B n (zrd B n k 2 o) zo1 S := rfl
      rw [ez] at hne ⊢
      exact lvM (rc := fun s m => md_rd k' s m) hn (l1_H0 _) (l1_H1 _) (l1_H2 _) zo1_n zo1_8 (ih1.2 2 o) (fun S M a b c => ih1.1 2 o S M (by decide) (by decide) ho a b c) hne hS he
    · have ez : zrd B n (k + 1) 2 o S = zrd2 B n (zrd B n k) o S := rfl
      rw [ez] at hne ⊢
      cases k with
      | zero =>
        have e : zrd2 B n (zrd B n 0) o S = none ∨ zrd2 B n (zrd B n 0) o S = some (.inl S.p) := by
          unfold zrd2
          by_cases c1 : S.k = 261
          · rw [if_pos c1]
            by_cases c2 : o < 5
            · rw [if_pos c2]; exact Or.inl rfl
            · rw [if_neg c2]; exact Or.inr rfl
          · rw [if_neg c1]; exact Or.inl rfl
        rcases e with e | e
        · exact absurd e hne
        · refine rd2M (rc := fun s m => md_rd k' s m) (rcq := fun s o S => zrd B n 0 s o S) (rcp := fun s o S => if s = 3 then zrd3 B n (fun s o S => zrd B n 0 s o S) o S else zrd B n 0 s o S) ⟨fun s o S M a b c d => ?_, fun s o S g c S1 q => ?_⟩ ih1 (fun o S => if_pos rfl) ho ?_ hS he
          · have d2 : (if s = 3 then zrd3 B n (fun s o S => zrd B n 0 s o S) o S else zrd B n 0 s o S) ≠ none := d
            rw [if_neg b] at d2
            exact absurd rfl d2
          · have q2 : (if s = 3 then zrd3 B n (fun s o S => zrd B n 0 s o S) o S else zrd B n 0 s o S) = some (.inr (c, S1)) := q
            by_cases s3 : s = 3
            · rw [if_pos s3] at q2; cases q2
            · rw [if_neg s3] at q2; cases q2
          · exact hne
      | succ j => exact rd2M (rc := fun s m => md_rd k' s m) (rcq := zrd B n j) ih1 (ih j k' (by omega) (by omega)) (fun o S => rfl) ho hne hS he
    · have ez : zrd B n (k + 1) 4 o S = zlv B n (zrd B n k 5 o) zo4 S := rfl
      rw [ez] at hne ⊢
      exact lvM (rc := fun s m => md_rd k' s m) hn (l4_H0 _) (l4_H1 _) (l4_H2 _) zo4_n zo4_8 (ih1.2 5 o) (fun S M a b c => ih1.1 5 o S M (by decide) (by decide) ho a b c) hne hS he
    · have ez : zrd B n (k + 1) 5 o S = zlv B n (zrd B n k 6 o) zo5 S := rfl
      rw [ez] at hne ⊢
      exact lvM (rc := fun s m => md_rd k' s m) hn (l5_H0 _) (l5_H1 _) (l5_H2 _) zo5_n zo5_8 (ih1.2 6 o) (fun S M a b c => ih1.1 6 o S M (by decide) (by decide) ho a b c) hne hS he
    · have ez : zrd B n (k + 1) 6 o S = zrd6 B n (zrd B n k) o S := rfl
      rw [ez] at hne ⊢
      exact rd6M (rc := fun s m => md_rd k' s m) ih1 ho hne hS he
end
