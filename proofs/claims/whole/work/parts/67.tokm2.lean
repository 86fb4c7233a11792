/-! level 2: texts: the model's tokens, what they are -/
theorem z_getD_lt {l : List Nat} {i : Nat} (h : i < l.length) : l.getD i 0 = l[i] := by simp [List.getD, h]
theorem z_getD_ge {l : List Nat} {i : Nat} (h : l.length ≤ i) : l.getD i 0 = 0 := by simp [List.getD, List.getElem?_eq_none h]
def zMK (B : Nat → Nat) (S : zTk) (κ : Int32) (tw : Int64) : Prop := (κ = 0 ∧ S.k = 264) ∨ (κ = 1 ∧ S.p < S.e ∧ (∀ k, S.p ≤ k → k < S.e → zlet (B k) = true) ∧ S.k = (zwd B S.p S.e).1 ∧ S.v = (zwd B S.p S.e).2) ∨ (κ = 2 ∧ S.k = 263 ∧ S.v ≤ 9999 ∧ tw = (nI S.v).toInt64) ∨ (κ = 3 ∧ S.k < 64 ∧ tw = (nI S.k).toInt64) ∨ (κ = 4 ∧ S.k = 265)
/-- the token that the model holds -/
def zMS (B : Nat → Nat) (S : zTk) (M : mm_M) : Prop := M.1 73 20 = nI S.e ∧ M.1 73 22 = nI S.p ∧ zMK B S (M.1 73 21) M.2.2
section
variable {fr n : Nat} {B : Nat → Nat}
theorem nextM_ok {M : mm_M} (h : zMB fr n B M.1) {i : Nat} (hi : i ≤ n) (h6 : M.1 73 20 = nI i) : Ok (md_next M) (fun y => zMS B (zlx B n i) y.2 ∧ zfx zMx M.1 y.2.1 ∧ y.2.2.1 = M.2.1) := by
  have hn := h.1
  unfold md_next
  rw [nextM_l0 (n - i) i 300 M h h6 (by omega) (by omega)]
  simp only [Option.bind_some]
  rw [show zrun (fun k => zbla (B k)) (n - i) i = zskp B n i from rfl]
  unfold zlx
  have hs : i ≤ zskp B n i ∧ zskp B n i ≤ n := by
    have := zrun_ge (fun k => zbla (B k)) (n - i) i
    unfold zskp
    omega
  generalize zskp B n i = s at hs
  rw [ak_up_same]
  have f1 : zfx zMx M.1 (ak_up (ak_up M.1 73 20 (nI s)) 73 22 (nI s)) := (zfx.rf.up ⟨rfl, Or.inl rfl⟩).up ⟨rfl, Or.inr (Or.inr rfl)⟩
  have g6 : ak_up (ak_up M.1 73 20 (nI s)) 73 22 (nI s) 73 20 = nI s := by rw [ak_up_oth (by decide), ak_up_same]
  have g7 : ak_up (ak_up M.1 73 20 (nI s)) 73 22 (nI s) 73 22 = nI s := ak_up_same
  have h1 := h.fx f1 (by omega) (by omega) (by omega)
  generalize ak_up (ak_up M.1 73 20 (nI s)) 73 22 (nI s) = σ at f1 g6 g7 h1 ⊢
  rw [g6, byteAt_eq (M := (σ, M.2)) h1 (by omega)]
  simp only [Option.bind_some]
  unfold zlx1
  by_cases c : s < n
  · rw [if_pos c, if_pos c]
    have hb := (h1.2.2.2.2 s c).2
    refine ok_neg (nI_pos (by omega)) ?_
    have f2 : zfx zMx M.1 (ak_up σ 73 21 4) := f1.up ⟨rfl, Or.inr (Or.inl rfl)⟩
    have h2 := h.fx f2 (by omega) (by omega) (by omega)
    have k6 : ak_up σ 73 21 4 73 20 = nI s := (ak_up_oth (by decide)).trans g6
    have k7 : ak_up σ 73 21 4 73 22 = nI s := (ak_up_oth (by decide)).trans g7
    have k21 : ak_up σ 73 21 4 73 21 = 4 := ak_up_same
    rw [show (97 : Int64) = (nI 97).toInt64 from rfl, show (122 : Int64) = (nI 122).toInt64 from rfl, inM_eq hb _ _ (by decide) (by decide)]
    simp only [Option.bind_some, bI_if]
    generalize ak_up σ 73 21 4 = σ2 at f2 h2 k6 k7 k21 ⊢
    by_cases d : 97 ≤ B s ∧ B s ≤ 122
    · have zb : zlet (B s) = true := by unfold zlet; simp [d]
      rw [if_pos d, if_pos zb]
      have f3 : zfx zMx M.1 (ak_up σ2 73 21 1) := f2.up ⟨rfl, Or.inr (Or.inl rfl)⟩
      have h3 := h.fx f3 (by omega) (by omega) (by omega)
      rw [nextM_l100 (n - s) s 300 (ak_up σ2 73 21 1, M.2) h3 (show ak_up σ2 73 21 1 73 20 = nI s from (ak_up_oth (by decide)).trans k6) (by omega) (by omega)]
      simp only [Option.bind_some]
      rw [show zrun (fun k => zlet (B k)) (n - s) s = zwe B n s from rfl]
      have hgt : s < zwe B n s := zrun_gt (p := fun k => zlet (B k)) (j := n - s) (i := s) (by omega) zb
      have hall : ∀ k, s ≤ k → k < zwe B n s → zlet (B k) = true := fun k a b => zrun_all (p := fun k => zlet (B k)) _ _ k a b
      refine ok_ret ⟨⟨(show ak_up (ak_up σ2 73 21 1) 73 20 (nI (zwe B n s)) 73 20 = nI (zwe B n s) from ak_up_same), ?_, Or.inr (Or.inl ⟨?_, hgt, hall, rfl, rfl⟩)⟩, f3.up ⟨rfl, Or.inl rfl⟩, rfl⟩
      · show ak_up (ak_up σ2 73 21 1) 73 20 (nI (zwe B n s)) 73 22 = nI s
        rw [ak_up_oth (by decide), ak_up_oth (by decide)]
        exact k7
      · show ak_up (ak_up σ2 73 21 1) 73 20 (nI (zwe B n s)) 73 21 = 1
        rw [ak_up_oth (by decide), ak_up_same]
    · have zb : ¬ zlet (B s) = true := by unfold zlet; simp only [decide_eq_true_eq]; exact d
      rw [if_neg d, if_neg zb, show (48 : Int64) = (nI 48).toInt64 from rfl, show (57 : Int64) = (nI 57).toInt64 from rfl, inM_eq hb _ _ (by decide) (by decide)]
      simp only [Option.bind_some, bI_if]
      by_cases d2 : 48 ≤ B s ∧ B s ≤ 57
      · have zb2 : zdgt (B s) = true := by unfold zdgt; simp [d2]
        rw [if_pos d2, if_pos zb2]
        have f3 : zfx zMx M.1 (ak_up σ2 73 21 2) := f2.up ⟨rfl, Or.inr (Or.inl rfl)⟩
        have h3 := h.fx f3 (by omega) (by omega) (by omega)
        have l160 := nextM_l160 (s := s) (n - s) s 300 (ak_up σ2 73 21 2, M.2.1, 0) h3 (show ak_up σ2 73 21 2 73 20 = nI s from (ak_up_oth (by decide)).trans k6) (Nat.le_refl s) (fun k a b => by omega) (by rw [Nat.sub_self]; rfl) (by omega) (by omega)
        rw [Nat.sub_self] at l160
        refine ok_then l160 (fun y hy => ?_)
        obtain ⟨y1, y2, y3, y4, y5⟩ := hy
        rw [show zrun (fun k => zdgt (B k)) (n - s) s = zne B n s from rfl] at y1 y2 y3
        have he : s ≤ zne B n s ∧ zne B n s ≤ n := by
          have := zrun_ge (fun k => zdgt (B k)) (n - s) s
          unfold zne
          omega
        have hall : ∀ k, s ≤ k → k < zne B n s → zdgt (B k) = true := fun k a b => zrun_all (p := fun k => zdgt (B k)) _ _ k a b
        have yf : zfx zMx M.1 y.2.1 := f3.tr (y4.wk (fun r c z => ⟨z.1, Or.inl z.2⟩))
        have y22 : y.2.1 73 22 = nI s := (y4 _ _ (by omega)).trans (show ak_up σ2 73 21 2 73 22 = nI s from (ak_up_oth (by decide)).trans k7)
        generalize zne B n s = e at y1 y2 y3 he hall ⊢
        rw [y1]
        refine ok_ite (fun z => ok_ret ?_) (fun z => ok_ret ?_)
        · have z2 : 4 < e - s := (nI_ltI (a := 4) (by decide) (by omega)).mp z
          rw [if_pos z2]
          refine ⟨⟨?_, ?_, Or.inr (Or.inr (Or.inr (Or.inr ⟨(show ak_up y.2.1 73 21 4 73 21 = 4 from ak_up_same), rfl⟩)))⟩, yf.up ⟨rfl, Or.inr (Or.inl rfl)⟩, y5⟩
          · exact (show ak_up y.2.1 73 21 4 73 20 = nI e from (ak_up_oth (by decide)).trans y2)
          · exact (show ak_up y.2.1 73 21 4 73 22 = nI s from (ak_up_oth (by decide)).trans y22)
        · have z2 : ¬ 4 < e - s := fun w => z (nI_lt (a := 4) w (by omega))
          rw [if_neg z2]
          have hz : zdig B s (e - s) < 10 ^ (e - s) := zdig_lt _ (fun k hk => hall (s + k) (by omega) (by omega))
          have hp : 10 ^ (e - s) ≤ 10 ^ 4 := Nat.pow_le_pow_right (by decide) (by omega)
          rw [Nat.min_eq_left (by omega)] at y3
          refine ⟨⟨?_, ?_, Or.inr (Or.inr (Or.inl ⟨(show ak_up y.2.1 73 21 2 73 21 = 2 from ak_up_same), rfl, ?_, y3⟩))⟩, yf.up ⟨rfl, Or.inr (Or.inl rfl)⟩, y5⟩
          · exact (show ak_up y.2.1 73 21 2 73 20 = nI e from (ak_up_oth (by decide)).trans y2)
          · exact (show ak_up y.2.1 73 21 2 73 22 = nI s from (ak_up_oth (by decide)).trans y22)
          · show zdig B s (e - s) ≤ 9999
            omega
      · have zb2 : ¬ zdgt (B s) = true := by unfold zdgt; simp only [decide_eq_true_eq]; exact d2
        rw [if_neg d2, if_neg zb2]
        have sg : ∀ c, c < 64 → B s = c → Ok (some ((), (ak_up (ak_up σ2 73 21 (3 : Int32)) 73 20 (((ak_up σ2 73 21 (3 : Int32)) 73 20) + (1 : Int32)), M.2.1, (nI (B s)).toInt64)) : Option (Unit × mm_M)) (fun y => zMS B (s, s + 1, B s, 0) y.2 ∧ zfx zMx M.1 y.2.1 ∧ y.2.2.1 = M.2.1) := by
          intro c hc e
          have q6 : ak_up σ2 73 21 3 73 20 = nI s := (ak_up_oth (by decide)).trans k6
          rw [q6, nI_1]
          refine ok_ret ⟨⟨(show ak_up (ak_up σ2 73 21 3) 73 20 (nI (s + 1)) 73 20 = nI (s + 1) from ak_up_same), ?_, Or.inr (Or.inr (Or.inr (Or.inl ⟨?_, ?_, rfl⟩)))⟩, (f2.up ⟨rfl, Or.inr (Or.inl rfl)⟩).up ⟨rfl, Or.inl rfl⟩, rfl⟩
          · show ak_up (ak_up σ2 73 21 3) 73 20 (nI (s + 1)) 73 22 = nI s
            rw [ak_up_oth (by decide), ak_up_oth (by decide)]
            exact k7
          · show ak_up (ak_up σ2 73 21 3) 73 20 (nI (s + 1)) 73 21 = 3
            rw [ak_up_oth (by decide), ak_up_same]
          · show B s < 64
            omega
        have eqs : ∀ c < 64, (nI (B s) = nI c ↔ B s = c) := fun c hc => nI_eq (by omega) (by omega)
        refine ok_ite (fun z => ?_) (fun z40 => ?_)
        · have e := (eqs 40 (by decide)).mp z
          rw [if_pos (show zsig (B s) = true by unfold zsig; simp [e])]
          exact sg 40 (by decide) e
        refine ok_ite (fun z => ?_) (fun z41 => ?_)
        · have e := (eqs 41 (by decide)).mp z
          rw [if_pos (show zsig (B s) = true by unfold zsig; simp [e])]
          exact sg 41 (by decide) e
        refine ok_ite (fun z => ?_) (fun z59 => ?_)
        · have e := (eqs 59 (by decide)).mp z
          rw [if_pos (show zsig (B s) = true by unfold zsig; simp [e])]
          exact sg 59 (by decide) e
        refine ok_ite (fun z => ?_) (fun z43 => ?_)
        · have e := (eqs 43 (by decide)).mp z
          rw [if_pos (show zsig (B s) = true by unfold zsig; simp [e])]
          exact sg 43 (by decide) e
        refine ok_ite (fun z => ?_) (fun z45 => ?_)
        · have e := (eqs 45 (by decide)).mp z
          rw [if_pos (show zsig (B s) = true by unfold zsig; simp [e])]
          exact sg 45 (by decide) e
        refine ok_ite (fun z => ?_) (fun z42 => ?_)
        · have e := (eqs 42 (by decide)).mp z
          rw [if_pos (show zsig (B s) = true by unfold zsig; simp [e])]
          exact sg 42 (by decide) e
        refine ok_ite (fun z => ?_) (fun z60 => ?_)
        · have e := (eqs 60 (by decide)).mp z
          rw [if_pos (show zsig (B s) = true by unfold zsig; simp [e])]
          exact sg 60 (by decide) e
        refine ok_ite (fun z => ?_) (fun z61 => ?_)
        · have e := (eqs 61 (by decide)).mp z
          rw [if_pos (show zsig (B s) = true by unfold zsig; simp [e])]
          exact sg 61 (by decide) e
        have nz : ¬ zsig (B s) = true := by
          unfold zsig
          rw [decide_eq_true_eq]
          rintro (w | w | w | w | w | w | w | w)
          · exact z40 ((eqs 40 (by decide)).mpr w)
          · exact z41 ((eqs 41 (by decide)).mpr w)
          · exact z59 ((eqs 59 (by decide)).mpr w)
          · exact z43 ((eqs 43 (by decide)).mpr w)
          · exact z45 ((eqs 45 (by decide)).mpr w)
          · exact z42 ((eqs 42 (by decide)).mpr w)
          · exact z60 ((eqs 60 (by decide)).mpr w)
          · exact z61 ((eqs 61 (by decide)).mpr w)
        rw [if_neg nz]
        exact ok_ret ⟨⟨k6, k7, Or.inr (Or.inr (Or.inr (Or.inr ⟨k21, rfl⟩)))⟩, f2, rfl⟩
  · rw [if_neg c, if_neg c]
    refine ok_pos (by decide) ?_
    have e : s = n := by omega
    refine ok_ret ⟨⟨?_, ?_, Or.inl ⟨?_, rfl⟩⟩, ((f1.up ⟨rfl, Or.inr (Or.inl rfl)⟩).up ⟨rfl, Or.inr (Or.inl rfl)⟩).up ⟨rfl, Or.inr (Or.inr rfl)⟩, rfl⟩
    · show ak_up (ak_up (ak_up σ 73 21 4) 73 21 0) 73 22 (ak_up (ak_up σ 73 21 4) 73 21 0 73 19) 73 20 = nI s
      rw [ak_up_oth (by decide), ak_up_oth (by decide), ak_up_oth (by decide)]
      exact g6
    · show ak_up (ak_up (ak_up σ 73 21 4) 73 21 0) 73 22 (ak_up (ak_up σ 73 21 4) 73 21 0 73 19) 73 22 = nI s
      rw [ak_up_same, ak_up_oth (by decide), ak_up_oth (by decide), e]
      exact h1.2.2.2.1
    · show ak_up (ak_up (ak_up σ 73 21 4) 73 21 0) 73 22 (ak_up (ak_up σ 73 21 4) 73 21 0 73 19) 73 21 = 0
      rw [ak_up_oth (by decide), ak_up_same]
theorem isLetterM_eq {M : mm_M} (h : zMB fr n B M.1) {p e : Nat} (h20 : M.1 73 20 = nI e) (h22 : M.1 73 22 = nI p) (he : e ≤ n) (hp : p ≤ e) {i x : Nat} (hi : i < 8) (hx : x < 256) : md_isLetter (nI i) (nI x) M = some (bI (if p + i < e then B (p + i) = x else x = 0), M) := by
  have hn := h.1
  unfold md_isLetter
  rw [h20, h22, nI_add]
  by_cases c : p + i < e
  · have hb := (h.2.2.2.2 (p + i) (by omega)).2
    rw [if_pos (nI_lt c (by omega)), byteAt_eq h (by omega), if_pos (show p + i < n by omega)]
    simp only [Option.bind_some]
    by_cases d : B (p + i) = x
    · rw [if_pos (by rw [d]), bI_t (by rw [if_pos c]; exact d)]
    · rw [if_neg (fun z => d ((nI_eq (by omega) (by omega)).mp z)), bI_f (by rw [if_pos c]; exact d)]
  · rw [if_neg (nI_nlt (by omega) (by omega))]
    by_cases d : x = 0
    · rw [if_pos (by rw [d]; rfl), bI_t (by rw [if_neg c]; exact d)]
    · rw [if_neg (fun z => d ((z_eq0 (by omega)).mp z)), bI_f (by rw [if_neg c]; exact d)]
theorem isWordM_eq {M : mm_M} (h : zMB fr n B M.1) {p e : Nat} (h20 : M.1 73 20 = nI e) (h22 : M.1 73 22 = nI p) (h25 : M.1 73 25 = 0) (he : e ≤ n) (hp : p ≤ e) (hk : M.1 73 21 = 1 → ∀ k, p ≤ k → k < e → zlet (B k) = true) (l : List Nat) (hl : l.length ≤ 8) (hz : ∀ i, i < l.length → 0 < l.getD i 0) (hx : ∀ i, l.getD i 0 < 256) : md_isWord (nI (l.getD 0 0)) (nI (l.getD 1 0)) (nI (l.getD 2 0)) (nI (l.getD 3 0)) (nI (l.getD 4 0)) (nI (l.getD 5 0)) (nI (l.getD 6 0)) (nI (l.getD 7 0)) M = some (bI (M.1 73 21 = 1 ∧ zis B p e l = true), M) := by
  have hn := h.1
  unfold md_isWord
  rw [if_pos h25]
  by_cases c : M.1 73 21 = 1
  · rw [if_pos c, h22, h20, show (8 : Int32) = nI 8 from rfl, nI_add]
    by_cases d : p + 8 < e
    · rw [if_pos (nI_lt d (by omega)), bI_f (fun z => by have := (zis_iff.mp z.2).1; omega)]
    · rw [if_neg (nI_nlt (by omega) (by omega))]
      have q : ∀ i, i < 8 → md_isLetter (nI i) (nI (l.getD i 0)) M = some (bI (if p + i < e then B (p + i) = l.getD i 0 else l.getD i 0 = 0), M) := fun i hi => isLetterM_eq h h20 h22 he hp hi (hx i)
      have key : (M.1 73 21 = 1 ∧ zis B p e l = true) ↔ ∀ i, i < 8 → (if p + i < e then B (p + i) = l.getD i 0 else l.getD i 0 = 0) := by
        rw [zis_iff]
        constructor
        · rintro ⟨-, e1, e2⟩ i hi
          by_cases z : p + i < e
          · rw [if_pos z]
            exact e2 i (by omega)
          · rw [if_neg z]
            exact z_getD_ge (l := l) (by omega)
        · intro w
          have up : e ≤ p + l.length := by
            by_cases z : l.length < 8
            · have w2 := w l.length z
              by_cases z2 : p + l.length < e
              · rw [if_pos z2, z_getD_ge (l := l) (Nat.le_refl _)] at w2
                have := of_decide_eq_true (hk c (p + l.length) (by omega) z2)
                omega
              · omega
            · omega
          have lo : ∀ i, i < l.length → p + i < e := by
            intro i hi
            have w2 := w i (by omega)
            by_cases z2 : p + i < e
            · exact z2
            · rw [if_neg z2] at w2
              have := hz i hi
              omega
          have lo2 : p + l.length ≤ e := by
            by_cases z : l.length = 0
            · omega
            · have := lo (l.length - 1) (by omega)
              omega
          refine ⟨c, by omega, fun i hi => ?_⟩
          have w2 := w i (by omega)
          rw [if_pos (lo i hi)] at w2
          exact w2
      rw [bI_eq key]
      simp only [show (0 : Int32) = nI 0 from rfl, show (1 : Int32) = nI 1 from rfl, show (2 : Int32) = nI 2 from rfl, show (3 : Int32) = nI 3 from rfl, show (4 : Int32) = nI 4 from rfl, show (5 : Int32) = nI 5 from rfl, show (6 : Int32) = nI 6 from rfl, show (7 : Int32) = nI 7 from rfl]
      rw [q 0 (by decide)]
      simp only [Option.bind_some]
      rw [q 1 (by decide)]
      simp only [Option.bind_some]
      rw [q 2 (by decide)]
      simp only [Option.bind_some]
      rw [q 3 (by decide)]
      simp only [Option.bind_some]
      rw [q 4 (by decide)]
      simp only [Option.bind_some]
      rw [q 5 (by decide)]
      simp only [Option.bind_some]
      rw [q 6 (by decide)]
      simp only [Option.bind_some]
      rw [q 7 (by decide)]
      simp only [Option.bind_some]
      simp only [show nI 0 = (0 : Int32) from rfl, show nI 1 = (1 : Int32) from rfl, bI_if]
      by_cases c0 : ¬ (if p + 0 < e then B (p + 0) = l.getD 0 0 else l.getD 0 0 = 0)
      · rw [if_neg c0, bI_f (fun w => c0 (w 0 (by decide)))]
      replace c0 := Decidable.not_not.mp c0
      by_cases c1 : ¬ (if p + 1 < e then B (p + 1) = l.getD 1 0 else l.getD 1 0 = 0)
      · rw [if_pos c0, if_neg c1, bI_f (fun w => c1 (w 1 (by decide)))]
      replace c1 := Decidable.not_not.mp c1
      by_cases c2 : ¬ (if p + 2 < e then B (p + 2) = l.getD 2 0 else l.getD 2 0 = 0)
      · rw [if_pos c0, if_pos c1, if_neg c2, bI_f (fun w => c2 (w 2 (by decide)))]
      replace c2 := Decidable.not_not.mp c2
      by_cases c3 : ¬ (if p + 3 < e then B (p + 3) = l.getD 3 0 else l.getD 3 0 = 0)
      · rw [if_pos c0, if_pos c1, if_pos c2, if_neg c3, bI_f (fun w => c3 (w 3 (by decide)))]
      replace c3 := Decidable.not_not.mp c3
      by_cases c4 : ¬ (if p + 4 < e then B (p + 4) = l.getD 4 0 else l.getD 4 0 = 0)
      · rw [if_pos c0, if_pos c1, if_pos c2, if_pos c3, if_neg c4, bI_f (fun w => c4 (w 4 (by decide)))]
      replace c4 := Decidable.not_not.mp c4
      by_cases c5 : ¬ (if p + 5 < e then B (p + 5) = l.getD 5 0 else l.getD 5 0 = 0)
      · rw [if_pos c0, if_pos c1, if_pos c2, if_pos c3, if_pos c4, if_neg c5, bI_f (fun w => c5 (w 5 (by decide)))]
      replace c5 := Decidable.not_not.mp c5
      by_cases c6 : ¬ (if p + 6 < e then B (p + 6) = l.getD 6 0 else l.getD 6 0 = 0)
      · rw [if_pos c0, if_pos c1, if_pos c2, if_pos c3, if_pos c4, if_pos c5, if_neg c6, bI_f (fun w => c6 (w 6 (by decide)))]
      replace c6 := Decidable.not_not.mp c6
      by_cases c7 : ¬ (if p + 7 < e then B (p + 7) = l.getD 7 0 else l.getD 7 0 = 0)
      · rw [if_pos c0, if_pos c1, if_pos c2, if_pos c3, if_pos c4, if_pos c5, if_pos c6, if_neg c7, bI_f (fun w => c7 (w 7 (by decide)))]
      replace c7 := Decidable.not_not.mp c7
      rw [if_pos c0, if_pos c1, if_pos c2, if_pos c3, if_pos c4, if_pos c5, if_pos c6, if_pos c7, bI_t]
      intro i hi
      have hi2 : i = 0 ∨ i = 1 ∨ i = 2 ∨ i = 3 ∨ i = 4 ∨ i = 5 ∨ i = 6 ∨ i = 7 := by omega
      rcases hi2 with rfl | rfl | rfl | rfl | rfl | rfl | rfl | rfl
      · exact c0
      · exact c1
      · exact c2
      · exact c3
      · exact c4
      · exact c5
      · exact c6
      · exact c7
  · rw [if_neg c, bI_f (fun z => c z.1)]
/-- where the model stands while it reads -/
def zMt (fr n : Nat) (B : Nat → Nat) (o : Nat) (S : zTk) (M : mm_M) : Prop := zMB fr n B M.1 ∧ zMS B S M ∧ M.1 73 24 = nI o ∧ M.1 73 25 = 0 ∧ zG n S
theorem zMt.hk {o : Nat} {S : zTk} {M : mm_M} (h : zMt fr n B o S M) : M.1 73 21 = 1 → ∀ k, S.p ≤ k → k < S.e → zlet (B k) = true := by
  intro e
  rcases h.2.1.2.2 with z | z | z | z | z
  · rw [e] at z; exact absurd z.1 (by decide)
  · exact z.2.2.1
  · rw [e] at z; exact absurd z.1 (by decide)
  · rw [e] at z; exact absurd z.1 (by decide)
  · rw [e] at z; exact absurd z.1 (by decide)
theorem zMt.word {o : Nat} {S : zTk} {M : mm_M} (h : zMt fr n B o S M) (l : List Nat) (hl : l.length ≤ 8) (hz : ∀ i, i < l.length → 0 < l.getD i 0) (hx : ∀ i, l.getD i 0 < 256) : md_isWord (nI (l.getD 0 0)) (nI (l.getD 1 0)) (nI (l.getD 2 0)) (nI (l.getD 3 0)) (nI (l.getD 4 0)) (nI (l.getD 5 0)) (nI (l.getD 6 0)) (nI (l.getD 7 0)) M = some (bI (M.1 73 21 = 1 ∧ zis B S.p S.e l = true), M) := isWordM_eq h.1 h.2.1.1 h.2.1.2.1 h.2.2.2.1 h.2.2.2.2.2.1 h.2.2.2.2.1 h.hk l hl hz hx
theorem zMt.key {o : Nat} {S : zTk} {M : mm_M} (h : zMt fr n B o S M) {k : Nat} (hk : 256 ≤ k ∧ k < 262) {l : List Nat} (e : zkey B S.p S.e = k ↔ zis B S.p S.e l = true) : (M.1 73 21 = 1 ∧ zis B S.p S.e l = true) ↔ S.k = k := by
  rcases h.2.1.2.2 with z | z | z | z | z
  · rw [z.1, z.2]; exact ⟨fun w => absurd w.1 (by decide), fun w => by omega⟩
  · rw [z.1, z.2.2.2.1, zwd_key hk.2]; exact ⟨fun w => e.mpr w.2, fun w => ⟨rfl, e.mp w⟩⟩
  · rw [z.1, z.2.1]; exact ⟨fun w => absurd w.1 (by decide), fun w => by omega⟩
  · rw [z.1]; exact ⟨fun w => absurd w.1 (by decide), fun w => by have := z.2.1; omega⟩
  · rw [z.1, z.2]; exact ⟨fun w => absurd w.1 (by decide), fun w => by omega⟩
theorem getD_lt {l : List Nat} (h : ∀ x ∈ l, x < 256) (i : Nat) : l.getD i 0 < 256 := by
  by_cases hi : i < l.length
  · rw [z_getD_lt hi]
    exact h _ (List.getElem_mem hi)
  · rw [z_getD_ge (l := l) (by omega)]
    decide
theorem getD_pos {l : List Nat} (h : ∀ x ∈ l, 0 < x) (i : Nat) (hi : i < l.length) : 0 < l.getD i 0 := by
  rw [z_getD_lt hi]
  exact h _ (List.getElem_mem hi)
theorem zMt.joysW {o : Nat} {S : zTk} {M : mm_M} (h : zMt fr n B o S M) : md_isWord (106 : Int32) (111 : Int32) (121 : Int32) (115 : Int32) (0 : Int32) (0 : Int32) (0 : Int32) (0 : Int32) M = some (bI (S.k = 256), M) := (h.word [106, 111, 121, 115] (by decide) (getD_pos (by decide)) (getD_lt (by decide))).trans (some_bI (h.key (by decide) zkey_joys) M)
theorem zMt.earnsW {o : Nat} {S : zTk} {M : mm_M} (h : zMt fr n B o S M) : md_isWord (101 : Int32) (97 : Int32) (114 : Int32) (110 : Int32) (115 : Int32) (0 : Int32) (0 : Int32) (0 : Int32) M = some (bI (S.k = 257), M) := (h.word [101, 97, 114, 110, 115] (by decide) (getD_pos (by decide)) (getD_lt (by decide))).trans (some_bI (h.key (by decide) zkey_earns) M)
theorem zMt.mayW {o : Nat} {S : zTk} {M : mm_M} (h : zMt fr n B o S M) : md_isWord (109 : Int32) (97 : Int32) (121 : Int32) (0 : Int32) (0 : Int32) (0 : Int32) (0 : Int32) (0 : Int32) M = some (bI (S.k = 258), M) := (h.word [109, 97, 121] (by decide) (getD_pos (by decide)) (getD_lt (by decide))).trans (some_bI (h.key (by decide) zkey_may) M)
theorem zMt.orW {o : Nat} {S : zTk} {M : mm_M} (h : zMt fr n B o S M) : md_isWord (111 : Int32) (114 : Int32) (0 : Int32) (0 : Int32) (0 : Int32) (0 : Int32) (0 : Int32) (0 : Int32) M = some (bI (S.k = 259), M) := (h.word [111, 114] (by decide) (getD_pos (by decide)) (getD_lt (by decide))).trans (some_bI (h.key (by decide) zkey_or) M)
theorem zMt.andW {o : Nat} {S : zTk} {M : mm_M} (h : zMt fr n B o S M) : md_isWord (97 : Int32) (110 : Int32) (100 : Int32) (0 : Int32) (0 : Int32) (0 : Int32) (0 : Int32) (0 : Int32) M = some (bI (S.k = 260), M) := (h.word [97, 110, 100] (by decide) (getD_pos (by decide)) (getD_lt (by decide))).trans (some_bI (h.key (by decide) zkey_and) M)
theorem zMt.notW {o : Nat} {S : zTk} {M : mm_M} (h : zMt fr n B o S M) : md_isWord (110 : Int32) (111 : Int32) (116 : Int32) (0 : Int32) (0 : Int32) (0 : Int32) (0 : Int32) (0 : Int32) M = some (bI (S.k = 261), M) := (h.word [110, 111, 116] (by decide) (getD_pos (by decide)) (getD_lt (by decide))).trans (some_bI (h.key (by decide) zkey_not) M)
theorem zMt.weekW {o : Nat} {S : zTk} {M : mm_M} (h : zMt fr n B o S M) : md_isWord (119 : Int32) (101 : Int32) (101 : Int32) (107 : Int32) (0 : Int32) (0 : Int32) (0 : Int32) (0 : Int32) M = some (bI (M.1 73 21 = 1 ∧ zis B S.p S.e [119, 101, 101, 107] = true), M) := h.word [119, 101, 101, 107] (by decide) (getD_pos (by decide)) (getD_lt (by decide))
theorem zMt.wishedW {o : Nat} {S : zTk} {M : mm_M} (h : zMt fr n B o S M) : md_isWord (119 : Int32) (105 : Int32) (115 : Int32) (104 : Int32) (101 : Int32) (100 : Int32) (0 : Int32) (0 : Int32) M = some (bI (M.1 73 21 = 1 ∧ zis B S.p S.e [119, 105, 115, 104, 101, 100] = true), M) := h.word [119, 105, 115, 104, 101, 100] (by decide) (getD_pos (by decide)) (getD_lt (by decide))
theorem zMt.numberW {o : Nat} {S : zTk} {M : mm_M} (h : zMt fr n B o S M) : md_isWord (110 : Int32) (117 : Int32) (109 : Int32) (98 : Int32) (101 : Int32) (114 : Int32) (0 : Int32) (0 : Int32) M = some (bI (M.1 73 21 = 1 ∧ zis B S.p S.e [110, 117, 109, 98, 101, 114] = true), M) := h.word [110, 117, 109, 98, 101, 114] (by decide) (getD_pos (by decide)) (getD_lt (by decide))
theorem zMt.lengthW {o : Nat} {S : zTk} {M : mm_M} (h : zMt fr n B o S M) : md_isWord (108 : Int32) (101 : Int32) (110 : Int32) (103 : Int32) (116 : Int32) (104 : Int32) (0 : Int32) (0 : Int32) M = some (bI (M.1 73 21 = 1 ∧ zis B S.p S.e [108, 101, 110, 103, 116, 104] = true), M) := h.word [108, 101, 110, 103, 116, 104] (by decide) (getD_pos (by decide)) (getD_lt (by decide))
theorem zMt.pointsW {o : Nat} {S : zTk} {M : mm_M} (h : zMt fr n B o S M) : md_isWord (112 : Int32) (111 : Int32) (105 : Int32) (110 : Int32) (116 : Int32) (115 : Int32) (0 : Int32) (0 : Int32) M = some (bI (M.1 73 21 = 1 ∧ zis B S.p S.e [112, 111, 105, 110, 116, 115] = true), M) := h.word [112, 111, 105, 110, 116, 115] (by decide) (getD_pos (by decide)) (getD_lt (by decide))
theorem zMt.awayW {o : Nat} {S : zTk} {M : mm_M} (h : zMt fr n B o S M) : md_isWord (97 : Int32) (119 : Int32) (97 : Int32) (121 : Int32) (0 : Int32) (0 : Int32) (0 : Int32) (0 : Int32) M = some (bI (M.1 73 21 = 1 ∧ zis B S.p S.e [97, 119, 97, 121] = true), M) := h.word [97, 119, 97, 121] (by decide) (getD_pos (by decide)) (getD_lt (by decide))
theorem i64_inj {a b : Int32} : a.toInt64 = b.toInt64 ↔ a = b := by
  constructor
  · intro h
    have := congrArg Int64.toInt32 h
    simpa using this
  · intro h; rw [h]
theorem zMt.sign {o : Nat} {S : zTk} {M : mm_M} (h : zMt fr n B o S M) {c : Nat} (hc : c < 64) : md_isSign (nI c) M = some (bI (S.k = c), M) := by
  unfold md_isSign
  rw [if_pos h.2.2.2.1]
  rcases h.2.1.2.2 with z | z | z | z | z
  · rw [if_neg (by rw [z.1]; decide), bI_f (by have := z.2; omega)]
  · have : 256 ≤ S.k := by
      rw [z.2.2.2.1]
      unfold zwd
      have := zkey_le B S.p S.e
      split
      · split
        · exact (by decide : 256 ≤ 265)
        · exact (by decide : 256 ≤ 262)
      · exact this.1
    rw [if_neg (by rw [z.1]; decide), bI_f (by omega)]
  · rw [if_neg (by rw [z.1]; decide), bI_f (by have := z.2.1; omega)]
  · rw [if_pos z.1, z.2.2]
    by_cases e : S.k = c
    · rw [if_pos ((lg_cmp_eq _ _).mpr (by rw [e])), bI_t e]
    · rw [if_neg (fun w => e ((nI_eq (by have := z.2.1; omega) (by omega)).mp (i64_inj.mp ((lg_cmp_eq _ _).mp w)))), bI_f e]
  · rw [if_neg (by rw [z.1]; decide), bI_f (by have := z.2; omega)]
/-- a fault at p -/
def zMF (p : Nat) (σ : Nat → Nat → Int32) : Prop := σ 73 25 = 1 ∧ σ 73 26 = nI p
theorem failM_ok {o : Nat} {S : zTk} {M : mm_M} (h : zMt fr n B o S M) : Ok (md_fail M) (fun y => zMF S.p y.2.1 ∧ zfx zMw M.1 y.2.1 ∧ y.2.2.1 = M.2.1) := by
  unfold md_fail
  refine ok_pos h.2.2.2.1 (ok_ret ⟨⟨?_, ?_⟩, (zfx.rf.up ⟨rfl, by decide⟩).up ⟨rfl, by decide⟩, rfl⟩)
  · show ak_up (ak_up M.1 73 25 1) 73 26 (ak_up M.1 73 25 1 73 22) 73 25 = 1
    rw [ak_up_oth (by decide), ak_up_same]
  · show ak_up (ak_up M.1 73 25 1) 73 26 (ak_up M.1 73 25 1 73 22) 73 26 = _
    rw [ak_up_same, ak_up_oth (by decide)]
    exact h.2.1.2.1
theorem advM_ok {o : Nat} {S : zTk} {M : mm_M} (h : zMt fr n B o S M) : Ok (md_next M) (fun y => zMt fr n B o (zlx B n S.e) y.2 ∧ zfx zMw M.1 y.2.1 ∧ y.2.2.1 = M.2.1) := by
  obtain ⟨h1, h2, h3, h4, h5⟩ := h
  refine ok_mono (nextM_ok h1 h5.2.1 h2.1) (fun y hy => ?_)
  obtain ⟨y1, y2, y3⟩ := hy
  exact ⟨⟨h1.fx y2 (by omega) (by omega) (by omega), y1, (y2 _ _ (by omega)).trans h3, (y2 _ _ (by omega)).trans h4, (zlx_G B h5.2.1).2⟩, y2.wk (fun r c z => ⟨z.1, by omega⟩), y3⟩
end
