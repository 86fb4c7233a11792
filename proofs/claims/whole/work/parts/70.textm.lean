/-! level 2: texts: a text read by the model -/
section
variable {fr n : Nat} {B : Nat → Nat} {env : Nat → Int32}
theorem partM {w : Nat} (hn : n ≤ 160) {S : zTk} {M : mm_M} (hS : zMt fr n B 0 S M) (he : zMe env M.1) : Ok (md_part (bI (S.k = 256 + w)) M) (zQM fr n B 0 env (zpt B n w S) M) := by
  unfold md_part
  have h25 := hS.2.2.2.1
  have hG := hS.2.2.2.2
  by_cases c : S.k = 256 + w
  · rw [bI_t c]
    refine ok_neg (by decide) (ok_pos h25 ?_)
    have hg := zlx_G B (n := n) (i := S.e) hG.2.1
    have hne := zrd_T B hn 60 0 0 _ hg.2 (by omega) (by omega) (by omega)
    refine ok_then (advM_ok hS) (fun y1 h1 => ?_)
    obtain ⟨a1, a2, a3⟩ := h1
    refine ok_pos a1.2.2.2.1 ?_
    refine ok_then ((rdM hn 60 60 60 (Nat.le_refl _) (Nat.le_refl _)).1 0 0 _ y1.2 (by decide) (by decide) (by decide) hne a1 (he.fx a2)) (fun y2 h2 => ?_)
    obtain ⟨b1, b2, b3, b4⟩ := h2
    have ez : zpt B n w S = zbd (zrd B n 60 0 0 (zlx B n S.e)) fun c S1 => if S1.k = 59 then some (.inr (c, zlx B n S1.e)) else some (.inl S1.p) := if_pos c
    rcases zR_cases hne with ⟨p, er⟩ | ⟨c1, S1, er⟩
    · have hb := b3 p er
      rw [ez, er, isSignM_bad hb.1]
      simp only [Option.bind_some]
      refine ok_pos True.intro ?_
      rw [failM_bad hb.1]
      simp only [Option.bind_some]
      exact ok_neg (by rw [hb.1]; decide) (ok_ret (zQM.bad (a2.tr b1) (b2.trans a3) hb))
    · obtain ⟨b5, b6⟩ := b4 _ _ er
      have ez2 : zpt B n w S = if S1.k = 59 then some (.inr (c1, zlx B n S1.e)) else some (.inl S1.p) := by rw [ez, er]; rfl
      rw [ez2]
      obtain ⟨-, -, -, -, -, -, -, s59⟩ := signL b5
      rw [s59]
      simp only [Option.bind_some, bI_if]
      by_cases k59 : S1.k = 59
      · rw [if_pos k59, if_pos k59]
        refine ok_pos b5.2.2.2.1 (ok_then (advM_ok b5) (fun y3 h3 => ok_ret ?_))
        exact zQM.good ((a2.tr b1).tr h3.2.1) (h3.2.2.trans (b2.trans a3)) h3.1 b6
      · rw [if_neg k59, if_neg k59]
        refine ok_then (failM_ok b5) (fun y3 h3 => ?_)
        exact ok_neg (by rw [h3.1.1]; decide) (ok_ret (zQM.bad ((a2.tr b1).tr h3.2.1) (h3.2.2.trans (b2.trans a3)) h3.1))
  · rw [bI_f c]
    have ez : zpt B n w S = some (.inl S.p) := if_neg c
    rw [ez]
    refine ok_pos rfl (ok_then (failM_ok hS) (fun y2 h2 => ?_))
    have hb := h2.1
    refine ok_neg (by rw [hb.1]; decide) (ok_neg (by rw [hb.1]; decide) ?_)
    rw [isSignM_bad hb.1]
    simp only [Option.bind_some]
    refine ok_pos True.intro ?_
    rw [failM_bad hb.1]
    simp only [Option.bind_some]
    exact ok_neg (by rw [hb.1]; decide) (ok_ret (zQM.bad h2.2.1 h2.2.2 hb))
abbrev zRM : Nat → Nat → Prop := fun r c => r = 73 ∧ (c = 18 ∨ c = 19 ∨ c = 20 ∨ c = 21 ∨ c = 22 ∨ c = 24 ∨ c = 25 ∨ c = 26)
theorem readM_ok {a w : Nat} (ha : a < 6) {M : mm_M} (hn : n ≤ 160) (h75 : M.1 75 a = nI n) (h74 : ∀ i, i < n → M.1 74 (160 * a + i) = nI (B i) ∧ B i < 256) (he : zMe env M.1) (hw : w < 3) : Ok (md_read (nI a) (nI w) M) (fun y => zfx zRM M.1 y.2.1 ∧ y.2.2.1 = M.2.1 ∧ (∀ p, zrdT B n = some (.inl p) → zMF p y.2.1) ∧ (∀ T, zrdT B n = some (.inr T) → y.2.1 73 25 = 0 ∧ zrn env (zprt T w) [] = [y.1])) := by
  unfold md_read
  refine ok_pos (zI_inb (by omega) ha) ?_
  rw [show (160 : Int32) = nI 160 from rfl, zI_mul, zI_nat (by omega), ak_up_ne (show (75 : Nat) ≠ 73 by decide), h75]
  have hf0 : zfx (fun r c => r = 73 ∧ (c = 18 ∨ c = 19 ∨ c = 20 ∨ c = 24 ∨ c = 25)) M.1 (ak_up (ak_up (ak_up (ak_up (ak_up M.1 73 18 (nI (160 * a))) 73 19 (nI n)) 73 20 (0 : Int32)) 73 24 (0 : Int32)) 73 25 (0 : Int32)) := ((((zfx.rf.up ⟨rfl, by decide⟩).up ⟨rfl, by decide⟩).up ⟨rfl, by decide⟩).up ⟨rfl, by decide⟩).up ⟨rfl, by decide⟩
  have g18 : ak_up (ak_up (ak_up (ak_up (ak_up M.1 73 18 (nI (160 * a))) 73 19 (nI n)) 73 20 (0 : Int32)) 73 24 (0 : Int32)) 73 25 (0 : Int32) 73 18 = nI (160 * a) := by simp [up_ap]
  have g19 : ak_up (ak_up (ak_up (ak_up (ak_up M.1 73 18 (nI (160 * a))) 73 19 (nI n)) 73 20 (0 : Int32)) 73 24 (0 : Int32)) 73 25 (0 : Int32) 73 19 = nI n := by simp [up_ap]
  have g20 : ak_up (ak_up (ak_up (ak_up (ak_up M.1 73 18 (nI (160 * a))) 73 19 (nI n)) 73 20 (0 : Int32)) 73 24 (0 : Int32)) 73 25 (0 : Int32) 73 20 = nI 0 := by simp [up_ap]; rfl
  have g24 : ak_up (ak_up (ak_up (ak_up (ak_up M.1 73 18 (nI (160 * a))) 73 19 (nI n)) 73 20 (0 : Int32)) 73 24 (0 : Int32)) 73 25 (0 : Int32) 73 24 = nI 0 := by simp [up_ap]; rfl
  have g25 : ak_up (ak_up (ak_up (ak_up (ak_up M.1 73 18 (nI (160 * a))) 73 19 (nI n)) 73 20 (0 : Int32)) 73 24 (0 : Int32)) 73 25 (0 : Int32) 73 25 = 0 := by simp [up_ap]
  generalize ak_up (ak_up (ak_up (ak_up (ak_up M.1 73 18 (nI (160 * a))) 73 19 (nI n)) 73 20 (0 : Int32)) 73 24 (0 : Int32)) 73 25 (0 : Int32) = σ at hf0 g18 g19 g20 g24 g25 ⊢
  have hMB : zMB (160 * a) n B σ := ⟨hn, by omega, g18, g19, fun i hi => by rw [hf0 74 _ (by omega)]; exact h74 i hi⟩
  have hf1 : zfx zRM M.1 σ := hf0.wk (fun r c z => ⟨z.1, by omega⟩)
  have he1 : zMe env σ := fun i hi => (hf0 _ _ (by omega)).trans (he i hi)
  refine ok_then (nextM_ok (M := (σ, M.2)) hMB (i := 0) (by omega) g20) (fun y2 h2 => ?_)
  obtain ⟨a1, a2, a3⟩ := h2
  have G0 := (zlx_G B (n := n) (i := 0) (by omega)).2
  have hS0 : zMt (160 * a) n B 0 (zlx B n 0) y2.2 := ⟨hMB.fx a2 (by omega) (by omega) (by omega), a1, (a2 _ _ (by omega)).trans g24, (a2 _ _ (by omega)).trans g25, G0⟩
  have wk : ∀ r c, zMw r c → zRM r c := fun r c z => ⟨z.1, by omega⟩
  have hf2 : zfx zRM M.1 y2.2.1 := hf1.tr (a2.wk (fun r c z => ⟨z.1, by omega⟩))
  have he2 : zMe env y2.2.1 := fun i hi => (a2 _ _ (by omega)).trans (he1 i hi)
  have n0 := zpt_T B (w := 0) hn G0
  have a2w : nI w = 0 ↔ w = 0 := z_eq0 (by omega)
  have a2w1 : nI w = 1 ↔ w = 1 := nI_eq (b := 1) (by omega) (by decide)
  rw [hS0.joysW]
  simp only [Option.bind_some]
  refine ok_then (partM (w := 0) (env := env) hn hS0 he2) (fun y4 h4 => ?_)
  obtain ⟨b1, b2, b3, b4⟩ := h4
  have hf3 := hf2.tr (b1.wk wk)
  have m3 : y4.2.2.1 = M.2.1 := b2.trans a3
  rcases zR_cases n0 with ⟨p, e0⟩ | ⟨c0, S0, e0⟩
  · have er : zrdT B n = some (.inl p) := by unfold zrdT; rw [e0]
    have hb := b3 p e0
    have hb0 : ¬ y4.2.1 73 25 = 0 := by rw [hb.1]; decide
    have fin : ∀ v : Int32, Ok (some (v, y4.2) : Option (Int32 × mm_M)) (fun y => zfx zRM M.1 y.2.1 ∧ y.2.2.1 = M.2.1 ∧ (∀ p, zrdT B n = some (.inl p) → zMF p y.2.1) ∧ (∀ T, zrdT B n = some (.inr T) → y.2.1 73 25 = 0 ∧ zrn env (zprt T w) [] = [y.1])) := fun v => ok_ret ⟨hf3, m3, fun q e => by rw [er] at e; cases e; exact hb, fun T e => by rw [er] at e; cases e⟩
    refine ok_neg hb0 (ok_neg hb0 (ok_neg hb0 (ok_ite (fun _ => fin _) (fun _ => ok_ite (fun _ => fin _) (fun _ => fin _)))))
  obtain ⟨u1, u2⟩ := b4 _ _ e0
  have P0 := zpt_P B (by decide) G0 _ _ e0
  have n1 := zpt_T B (w := 1) hn P0.1
  refine ok_pos u1.2.2.2.1 ?_
  rw [u1.earnsW]
  simp only [Option.bind_some]
  refine ok_then (partM (w := 1) (env := env) hn u1 (he2.fx b1)) (fun y7 h7 => ?_)
  obtain ⟨d1, d2, d3, d4⟩ := h7
  have hf4 := hf3.tr (d1.wk wk)
  have m4 : y7.2.2.1 = M.2.1 := d2.trans m3
  rcases zR_cases n1 with ⟨p, e1⟩ | ⟨c1, S1, e1⟩
  · have er : zrdT B n = some (.inl p) := by unfold zrdT; rw [e0]; simp only [e1]
    have hb := d3 p e1
    have hb0 : ¬ y7.2.1 73 25 = 0 := by rw [hb.1]; decide
    have fin : ∀ v : Int32, Ok (some (v, y7.2) : Option (Int32 × mm_M)) (fun y => zfx zRM M.1 y.2.1 ∧ y.2.2.1 = M.2.1 ∧ (∀ p, zrdT B n = some (.inl p) → zMF p y.2.1) ∧ (∀ T, zrdT B n = some (.inr T) → y.2.1 73 25 = 0 ∧ zrn env (zprt T w) [] = [y.1])) := fun v => ok_ret ⟨hf4, m4, fun q e => by rw [er] at e; cases e; exact hb, fun T e => by rw [er] at e; cases e⟩
    refine ok_neg hb0 (ok_neg hb0 (ok_ite (fun _ => fin _) (fun _ => ok_ite (fun _ => fin _) (fun _ => fin _))))
  obtain ⟨v1, v2⟩ := d4 _ _ e1
  have P1 := zpt_P B (by decide) P0.1 _ _ e1
  have n2 := zpt_T B (w := 2) hn P1.1
  refine ok_pos v1.2.2.2.1 ?_
  rw [v1.mayW]
  simp only [Option.bind_some]
  refine ok_then (partM (w := 2) (env := env) hn v1 ((he2.fx b1).fx d1)) (fun y10 h10 => ?_)
  obtain ⟨g1, g2, g3, g4⟩ := h10
  have hf5 := hf4.tr (g1.wk wk)
  have m5 : y10.2.2.1 = M.2.1 := g2.trans m4
  rcases zR_cases n2 with ⟨p, e2⟩ | ⟨c2, S2, e2⟩
  · have er : zrdT B n = some (.inl p) := by unfold zrdT; rw [e0]; simp only [e1, e2]
    have hb := g3 p e2
    have hb0 : ¬ y10.2.1 73 25 = 0 := by rw [hb.1]; decide
    have fin : ∀ v : Int32, Ok (some (v, y10.2) : Option (Int32 × mm_M)) (fun y => zfx zRM M.1 y.2.1 ∧ y.2.2.1 = M.2.1 ∧ (∀ p, zrdT B n = some (.inl p) → zMF p y.2.1) ∧ (∀ T, zrdT B n = some (.inr T) → y.2.1 73 25 = 0 ∧ zrn env (zprt T w) [] = [y.1])) := fun v => ok_ret ⟨hf5, m5, fun q e => by rw [er] at e; cases e; exact hb, fun T e => by rw [er] at e; cases e⟩
    refine ok_neg hb0 (ok_ite (fun _ => fin _) (fun _ => ok_ite (fun _ => fin _) (fun _ => fin _)))
  obtain ⟨w1, w2⟩ := g4 _ _ e2
  refine ok_pos w1.2.2.2.1 ?_
  have k0 : y10.2.1 73 21 = 0 ↔ S2.k = 264 := by
    rcases w1.2.1.2.2 with z | z | z | z | z
    · exact ⟨fun _ => z.2, fun _ => z.1⟩
    · rw [z.1]
      refine ⟨fun q => absurd q (by decide), fun q => ?_⟩
      have q2 := z.2.2.2.1
      rw [q] at q2
      have : (zwd B S2.p S2.e).1 ≠ 264 := by
        unfold zwd
        have := zkey_le B S2.p S2.e
        split
        · split
          · exact (by decide : 265 ≠ 264)
          · exact (by decide : 262 ≠ 264)
        · show zkey B S2.p S2.e ≠ 264
          omega
      exact absurd q2.symm this
    · rw [z.1]; exact ⟨fun q => absurd q (by decide), fun q => by omega⟩
    · rw [z.1]; exact ⟨fun q => absurd q (by decide), fun q => by omega⟩
    · rw [z.1]; exact ⟨fun q => absurd q (by decide), fun q => by omega⟩
  by_cases k264 : S2.k = 264
  · have er : zrdT B n = some (.inr (c0, c1, c2)) := by unfold zrdT; rw [e0]; simp only [e1, e2]; exact if_pos k264
    have fin : ∀ v : Int32, zrn env (zprt (c0, c1, c2) w) [] = [v] → Ok (some (v, y10.2) : Option (Int32 × mm_M)) (fun y => zfx zRM M.1 y.2.1 ∧ y.2.2.1 = M.2.1 ∧ (∀ p, zrdT B n = some (.inl p) → zMF p y.2.1) ∧ (∀ T, zrdT B n = some (.inr T) → y.2.1 73 25 = 0 ∧ zrn env (zprt T w) [] = [y.1])) := fun v hv => ok_ret ⟨hf5, m5, fun q e => (by rw [er] at e; cases e), fun T e => (by rw [er] at e; cases e; exact ⟨w1.2.2.2.1, hv⟩)⟩
    refine ok_pos (k0.mpr k264) (ok_ite (fun z => fin _ ?_) (fun z => ok_ite (fun z2 => fin _ ?_) (fun z2 => fin _ ?_)))
    · rw [a2w.mp z]; exact u2 []
    · rw [a2w1.mp z2]; exact v2 []
    · have n0 : w ≠ 0 := fun q => z (a2w.mpr q)
      have n1 : w ≠ 1 := fun q => z2 (a2w1.mpr q)
      have : w = 2 := by omega
      rw [this]
      exact w2 []
  · have er : zrdT B n = some (.inl S2.p) := by unfold zrdT; rw [e0]; simp only [e1, e2]; exact if_neg k264
    refine ok_neg (fun z => k264 (k0.mp z)) (ok_then (failM_ok w1) (fun y h => ?_))
    have fin : ∀ v : Int32, Ok (some (v, y.2) : Option (Int32 × mm_M)) (fun y => zfx zRM M.1 y.2.1 ∧ y.2.2.1 = M.2.1 ∧ (∀ p, zrdT B n = some (.inl p) → zMF p y.2.1) ∧ (∀ T, zrdT B n = some (.inr T) → y.2.1 73 25 = 0 ∧ zrn env (zprt T w) [] = [y.1])) := fun v => ok_ret ⟨hf5.tr (h.2.1.wk wk), h.2.2.trans m5, fun q e => by rw [er] at e; cases e; exact h.1, fun T e => by rw [er] at e; cases e⟩
    exact ok_ite (fun _ => fin _) (fun _ => ok_ite (fun _ => fin _) (fun _ => fin _))
end
theorem textM_l {f c : Nat} {ty : Nat → Nat} (hc : c < 6) : ∀ j k m (M : mm_M), TpM M.1 f ty → M.1 73 3 = nI c → (∀ i, i < k → M.1 74 (160 * c + i) = nI (ty i)) → k + j = f → j < m → Ok (md_text_l14 m (nI k) M) (fun y => (∀ i, i < f → y.2.1 74 (160 * c + i) = nI (ty i)) ∧ zfx (fun r i => r = 74 ∧ 160 * c ≤ i ∧ i < 160 * c + 160) M.1 y.2.1 ∧ y.2.2 = M.2) := by
  intro j
  induction j with
  | zero =>
    intro k m M h h3 hk hj hm
    have hf := h.2.1
    obtain ⟨m, rfl, -⟩ := z_suc hm
    rw [md_text_l14, h.1]
    refine ok_neg (nI_nlt (by omega) (by omega)) (ok_ret ⟨fun i hi => hk i (by omega), zfx.rf, rfl⟩)
  | succ j ih =>
    intro k m M h h3 hk hj hm
    have hf := h.2.1
    obtain ⟨m, rfl, hm2⟩ := z_suc hm
    rw [md_text_l14, h.1]
    refine ok_pos (nI_lt (by omega) (by omega)) (ok_pos (zI_inb (by omega) (by omega)) ?_)
    rw [h3, show (160 : Int32) = nI 160 from rfl, zI_mul, nI_add, nI_1]
    refine ok_pos (zI_inb (by omega) (by omega)) ?_
    rw [zI_nat (by omega), zI_nat (by omega), (h.2.2 k (by omega)).1]
    have hf0 : zfx (fun r i => r = 74 ∧ 160 * c ≤ i ∧ i < 160 * c + 160) M.1 (ak_up M.1 74 (160 * c + k) (nI (ty k))) := zfx.rf.up ⟨rfl, by omega, by omega⟩
    refine ok_mono (ih (k + 1) m _ ⟨(hf0 _ _ (by omega)).trans h.1, hf, fun i hi => by rw [show (ak_up M.1 74 (160 * c + k) (nI (ty k)), M.2).1 76 i = M.1 76 i from hf0 76 i (by omega)]; exact h.2.2 i hi⟩ ((hf0 _ _ (by omega)).trans h3) (fun i hi => ?_) (by omega) (by omega)) (fun y hy => ⟨hy.1, hf0.tr hy.2.1, hy.2.2⟩)
    show ak_up M.1 74 (160 * c + k) (nI (ty k)) 74 (160 * c + i) = nI (ty i)
    by_cases e : i = k
    · rw [e, ak_up_same]
    · rw [ak_up_oth (by omega)]
      exact hk i (by omega)
/-- a text of the model -/
def zTM (c : Nat) (n : Nat) (B : Nat → Nat) (σ : Nat → Nat → Int32) : Prop := n ≤ 160 ∧ σ 75 c = nI n ∧ ∀ i, i < n → σ 74 (160 * c + i) = nI (B i) ∧ B i < 256
theorem textM_ok {M : mm_M} {f : Nat} {ty : Nat → Nat} (h : TpM M.1 f ty) {c : Nat} (hc : M.1 73 3 = nI c) (h6 : c ≤ 6) : Ok (md_text M) (fun y => (c = 6 → y.1 = -4 ∧ y.2 = M) ∧ (c < 6 → y.2.1 73 6 = 0 ∧ zTM c f ty y.2.1 ∧ (∀ p, zrdT ty f = some (.inl p) → y.1 = -100 - nI p ∧ y.2.1 73 3 = nI c) ∧ (∀ T, zrdT ty f = some (.inr T) → y.1 = nI c ∧ y.2.1 73 3 = nI (c + 1))) ∧ zfx (fun r k => (r = 73 ∧ (k = 3 ∨ k = 6 ∨ zRM 73 k)) ∨ (c < 6 ∧ ((r = 74 ∧ 160 * c ≤ k ∧ k < 160 * c + 160) ∨ (r = 75 ∧ k = c)))) M.1 y.2.1 ∧ y.2.2.1 = M.2.1) := by
  have hf := h.2.1
  unfold md_text
  rw [hc]
  have e6 : nI c = 6 ↔ c = 6 := nI_eq (b := 6) (by omega) (by decide)
  refine ok_ite (fun z => ok_ret ⟨fun _ => ⟨rfl, rfl⟩, fun w => by have := e6.mp z; omega, zfx.rf, rfl⟩) (fun z => ?_)
  have c6 : c < 6 := by
    have : c ≠ 6 := fun q => z (e6.mpr q)
    omega
  refine ok_then (textM_l c6 f 0 300 M h hc (fun i hi => by omega) (by omega) (by omega)) (fun y2 h2 => ?_)
  obtain ⟨a1, a2, a3⟩ := h2
  have b3 : y2.2.1 73 3 = nI c := (a2 _ _ (by omega)).trans hc
  have b6 : y2.2.1 73 6 = nI f := (a2 _ _ (by omega)).trans h.1
  rw [b3]
  refine ok_pos (zI_inb (by omega) c6) ?_
  rw [zI_nat (by omega), b6, ak_up_oth (show (3 : Nat) ≠ 6 by decide), ak_up_ne (show (73 : Nat) ≠ 75 by decide), b3]
  have hf1 : zfx (fun r k => (r = 73 ∧ k = 6) ∨ (r = 75 ∧ k = c)) y2.2.1 (ak_up (ak_up y2.2.1 75 c (nI f)) 73 6 0) := (zfx.rf.up (Or.inr ⟨rfl, rfl⟩)).up (Or.inl ⟨rfl, rfl⟩)
  have t75 : ak_up (ak_up y2.2.1 75 c (nI f)) 73 6 0 75 c = nI f := by rw [ak_up_ne (by decide), ak_up_same]
  have t74 : ∀ i, i < f → ak_up (ak_up y2.2.1 75 c (nI f)) 73 6 0 74 (160 * c + i) = nI (ty i) ∧ ty i < 256 := fun i hi => ⟨(hf1 _ _ (by omega)).trans (a1 i hi), (h.2.2 i hi).2⟩
  refine ok_then (readM_ok (M := (ak_up (ak_up y2.2.1 75 c (nI f)) 73 6 0, y2.2.2)) (env := fun i => y2.2.1 73 (12 + i)) (w := 0) c6 hf t75 t74 (fun i hi => hf1 _ _ (by omega)) (by decide)) (fun y4 h4 => ?_)
  obtain ⟨d1, d2, d3, d4⟩ := h4
  have ff : zfx (fun r k => (r = 73 ∧ (k = 3 ∨ k = 6 ∨ zRM 73 k)) ∨ (c < 6 ∧ ((r = 74 ∧ 160 * c ≤ k ∧ k < 160 * c + 160) ∨ (r = 75 ∧ k = c)))) M.1 y4.2.1 := ((a2.wk (fun r k z => Or.inr ⟨c6, Or.inl z⟩)).tr (hf1.wk (fun r k z => z.elim (fun w => Or.inl ⟨w.1, Or.inr (Or.inl w.2)⟩) (fun w => Or.inr ⟨c6, Or.inr w⟩)))).tr (d1.wk (fun r k z => Or.inl ⟨z.1, Or.inr (Or.inr ⟨rfl, z.2⟩)⟩))
  have mm : y4.2.2.1 = M.2.1 := d2.trans (congrArg Prod.fst a3)
  have q3 : y4.2.1 73 3 = nI c := (d1 _ _ (by omega)).trans ((hf1 _ _ (by omega)).trans b3)
  have q6 : y4.2.1 73 6 = 0 := (d1 _ _ (by omega)).trans (show ak_up (ak_up y2.2.1 75 c (nI f)) 73 6 0 73 6 = 0 from ak_up_same)
  have qT : zTM c f ty y4.2.1 := ⟨hf, (d1 _ _ (by omega)).trans t75, fun i hi => by rw [d1 _ _ (by omega)]; exact t74 i hi⟩
  rcases e : zrdT ty f with _ | p | T
  · exact absurd e (zrdT_T ty hf)
  · have hb := d3 p e
    refine ok_neg (by rw [hb.1]; decide) (ok_ret ⟨fun w => by omega, fun _ => ⟨q6, qT, fun q eq => ?_, fun T eq => (by cases eq)⟩, ff, mm⟩)
    cases eq
    exact ⟨by rw [hb.2], q3⟩
  · have hg := (d4 T e).1
    rw [q3, nI_1, ak_up_same, nI_pred]
    have hf3 : zfx (fun r k => r = 73 ∧ k = 3) y4.2.1 (ak_up y4.2.1 73 3 (nI (c + 1))) := zfx.rf.up ⟨rfl, rfl⟩
    refine ok_pos hg (ok_ret ⟨fun w => by omega, fun _ => ⟨(hf3 _ _ (by omega)).trans q6, ⟨hf, (hf3 _ _ (by omega)).trans qT.2.1, fun i hi => by rw [show (nI c, ak_up y4.2.1 73 3 (nI (c + 1)), y4.2.2).2.1 74 (160 * c + i) = y4.2.1 74 (160 * c + i) from hf3 74 (160 * c + i) (by omega)]; exact qT.2.2 i hi⟩, fun p eq => (by cases eq), fun T2 eq => ⟨rfl, (show ak_up y4.2.1 73 3 (nI (c + 1)) 73 3 = nI (c + 1) from ak_up_same)⟩⟩, ff.tr (hf3.wk (fun r k z => Or.inl ⟨z.1, Or.inl z.2⟩)), mm⟩)
