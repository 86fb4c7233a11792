/-! level 2: text, image, back; the law's loop -/
section
variable {v v' : zV} {cnt cnt' : Nat} {Ts Ts' : Nat → zT3} {f f' : Nat} {t t' : Nat → Nat} {z z' : zT} {k k' : Option zV} {σ σ' : Nat → Nat → Int32}
theorem zStC.tx (h : zStC v cnt Ts f t z k σ) {P : Nat → Nat → Prop} (hf : zfx P σ σ') (hp : ∀ r c, P r c → (r = 0 ∧ c = 5) ∨ (r = 26 ∧ c = 0) ∨ (37 + 3 * cnt ≤ r ∧ r ≤ 39 + 3 * cnt ∧ cnt < 6)) (h5 : σ' 0 5 = 0) (h26 : σ' 26 0 = nI cnt') (hT : zTC Ts' cnt' σ') : zStC v cnt' Ts' 0 t z k σ' := by
  have n : ∀ r c, ¬ ((r = 0 ∧ c = 5) ∨ (r = 26 ∧ c = 0) ∨ (37 + 3 * cnt ≤ r ∧ r ≤ 39 + 3 * cnt ∧ cnt < 6)) → ¬ P r c := fun r c a u => a (hp r c u)
  obtain ⟨h1, -, h4, h5', h6⟩ := h
  exact ⟨h1.fx hf (fun r c a b => n r c (by omega)), ⟨h26, hT⟩, ⟨h5, by omega, fun i hi => absurd hi (by omega)⟩, h5'.fx hf (fun r c a b => n r c (by omega)), h6.fx hf (n _ _ (by omega)) (fun r c a b => n r c (by omega))⟩
theorem zTC.old (h : zTC Ts cnt σ) {P : Nat → Nat → Prop} (hf : zfx P σ σ') (hp : ∀ r c, P r c → (r = 0 ∧ c = 5) ∨ (r = 26 ∧ c = 0) ∨ (37 + 3 * cnt ≤ r ∧ r ≤ 39 + 3 * cnt ∧ cnt < 6)) : zTC Ts cnt σ' := fun c hc => ⟨(h c hc).1.fx hf (fun r q a b u => by have := hp r q u; omega), (h c hc).2⟩
theorem zTC.add (h : zTC Ts cnt σ) {T : zT3} (h1 : zTX (37 + 3 * cnt) T σ) (h2 : zGT T) : zTC (fun c => if c = cnt then T else Ts c) (cnt + 1) σ := by
  intro c hc
  by_cases e : c = cnt
  · subst e
    simp only [if_true]
    exact ⟨h1, h2⟩
  · have e2 : (if c = cnt then T else Ts c) = Ts c := if_neg e
    show zTX _ (if c = cnt then T else Ts c) σ ∧ zGT (if c = cnt then T else Ts c)
    rw [e2]
    exact h c (by omega)
def zMt6 (cnt r c : Nat) : Prop := (r = 73 ∧ (c = 3 ∨ c = 6 ∨ (12 ≤ c ∧ c ≤ 33))) ∨ (r = 74 ∧ 160 * cnt ≤ c ∧ c < 160 * cnt + 160) ∨ (r = 75 ∧ c = cnt)
theorem zStM.tx (h : zStM v cnt Ts f t z k σ) {P : Nat → Nat → Prop} (hf : zfx P σ σ') (hp : ∀ r c, P r c → zMt6 cnt r c) (h5 : σ' 73 6 = 0) (h26 : σ' 73 3 = nI cnt') (hT : zTD Ts' cnt' σ') : zStM v cnt' Ts' 0 t z k σ' := by
  have n : ∀ r c, ¬ zMt6 cnt r c → ¬ P r c := fun r c a u => a (hp r c u)
  unfold zMt6 at n
  obtain ⟨h1, -, h4, h5', h6⟩ := h
  exact ⟨h1.fx hf (n _ _ (by omega)) (n _ _ (by omega)) (fun r c a b => n r c (by omega)), ⟨h26, hT⟩, ⟨h5, by omega, fun i hi => absurd hi (by omega)⟩, h5'.fx hf (fun r c a b => n r c (by omega)), h6.fx hf (fun r c a => n r c (by omega))⟩
theorem zTD.old (h : zTD Ts cnt σ) {P : Nat → Nat → Prop} (hf : zfx P σ σ') (hp : ∀ r c, P r c → zMt6 cnt r c) : zTD Ts cnt σ' := by
  intro c hc
  obtain ⟨n, B, ⟨h1, h2, h3⟩, h4⟩ := h c hc
  refine ⟨n, B, ⟨h1, (hf _ _ (fun u => ?_)).trans h2, fun i hi => ⟨(hf _ _ (fun u => ?_)).trans (h3 i hi).1, (h3 i hi).2⟩⟩, h4⟩
  · have := hp _ _ u
    unfold zMt6 at this
    omega
  · have := hp _ _ u
    unfold zMt6 at this
    omega
theorem zTD.add (h : zTD Ts cnt σ) {T : zT3} (h1 : zTMx cnt T σ) : zTD (fun c => if c = cnt then T else Ts c) (cnt + 1) σ := by
  intro c hc
  by_cases e : c = cnt
  · subst e
    simp only [if_true]
    exact h1
  · show zTMx c (if c = cnt then T else Ts c) σ
    rw [if_neg e]
    exact h c (by omega)
theorem zStC.im (h : zStC v cnt Ts f t z k σ) (hc : cnt ≤ 6) {P : Nat → Nat → Prop} (hf : zfx P σ σ') (hp : ∀ r c, P r c → (1 ≤ r ∧ r ≤ 16) ∨ (r = 0 ∧ c = 3)) (hS : ShC 1 σ' v') (hK : zKC k' σ') : zStC v' cnt Ts f t z k' σ' := by
  have n : ∀ r c, ¬ ((1 ≤ r ∧ r ≤ 16) ∨ (r = 0 ∧ c = 3)) → ¬ P r c := fun r c a u => a (hp r c u)
  obtain ⟨h1, ⟨h2, h3⟩, h4, h5, h6⟩ := h
  exact ⟨hS, ⟨(hf _ _ (n _ _ (by omega))).trans h2, h3.fx hc hf (fun r c a b => n r c (by omega))⟩, h4.fx hf (n _ _ (by omega)) (fun c => n _ _ (by omega)), h5.fx hf (fun r c a b => n r c (by omega)), hK⟩
theorem zStM.im (h : zStM v cnt Ts f t z k σ) {P : Nat → Nat → Prop} (hf : zfx P σ σ') (hp : ∀ r c, P r c → (77 ≤ r ∧ r ≤ 80) ∨ (86 ≤ r ∧ r ≤ 88) ∨ (r = 73 ∧ (c = 4 ∨ c = 11 ∨ c = 38 ∨ c = 39))) (hS : ShM σ' v') (hK : zKD k' σ') : zStM v' cnt Ts f t z k' σ' := by
  have n : ∀ r c, ¬ ((77 ≤ r ∧ r ≤ 80) ∨ (86 ≤ r ∧ r ≤ 88) ∨ (r = 73 ∧ (c = 4 ∨ c = 11 ∨ c = 38 ∨ c = 39))) → ¬ P r c := fun r c a u => a (hp r c u)
  obtain ⟨h1, ⟨h2, h3⟩, h4, h5, h6⟩ := h
  exact ⟨hS, ⟨(hf _ _ (n _ _ (by omega))).trans h2, h3.fx hf (fun r c a b => n r c (by omega))⟩, h4.fx hf (n _ _ (by omega)) (fun c => n _ _ (by omega)), h5.fx hf (fun r c a b => n r c (by omega)), hK⟩
end
theorem zMt6_of {cnt r c : Nat} (u : (r = 73 ∧ (c = 3 ∨ c = 6 ∨ zRM 73 c)) ∨ (cnt < 6 ∧ ((r = 74 ∧ 160 * cnt ≤ c ∧ c < 160 * cnt + 160) ∨ (r = 75 ∧ c = cnt)))) : zMt6 cnt r c := by
  have e : zRM 73 c → (73 = 73 ∧ (c = 18 ∨ c = 19 ∨ c = 20 ∨ c = 21 ∨ c = 22 ∨ c = 24 ∨ c = 25 ∨ c = 26)) := fun w => w
  unfold zMt6
  rcases u with ⟨h1, h2 | h2 | h2⟩ | h1
  · omega
  · omega
  · have := e h2
    omega
  · omega
theorem zXw_of {cnt r c : Nat} (u : (r = 0 ∧ c = 5) ∨ (r = 26 ∧ c = 0) ∨ (cnt < 6 ∧ zXw (37 + 3 * cnt) r c)) : (r = 0 ∧ c = 5) ∨ (r = 26 ∧ c = 0) ∨ (37 + 3 * cnt ≤ r ∧ r ≤ 39 + 3 * cnt ∧ cnt < 6) := by
  have e : zXw (37 + 3 * cnt) r c → r = 37 + 3 * cnt ∨ r = 37 + 3 * cnt + 1 ∨ r = 37 + 3 * cnt + 2 := fun w => w
  rcases u with h1 | h1 | ⟨h1, h2⟩
  · omega
  · omega
  · have := e h2
    omega
theorem sm_text : zSame nb_text md_text := by
  intro M h
  obtain ⟨v, cnt, Ts, f, t, z, k, hg, hC, hM⟩ := h
  by_cases c6 : cnt = 6
  · exact sm_mk (ans := (-4 : Int32)) hM hg (ok_mono (textC_ok hC.2.2.1 hC.2.1.1 hg.2.2.1) (fun y hy => ⟨(hy.1 c6).1, by rw [(hy.1 c6).2]; exact hC, by rw [(hy.1 c6).2]; exact zfx.rf⟩)) (fun M2 h2 => ok_mono (textM_ok h2.2.2.1 h2.2.1.1 hg.2.2.1) (fun y hy => ⟨(hy.1 c6).1, by rw [(hy.1 c6).2]; exact h2, by rw [(hy.1 c6).2]; exact zfx.rf⟩))
  · have l6 : cnt < 6 := by have := hg.2.2.1; omega
    have hf160 := hC.2.2.1.2.1
    have loC : ∀ {σ σ' : Nat → Nat → Int32}, zfx (fun r k => (r = 0 ∧ k = 5) ∨ (r = 26 ∧ k = 0) ∨ (cnt < 6 ∧ zXw (37 + 3 * cnt) r k)) σ σ' → zfx zLo σ σ' := fun h => h.wk (fun r c u => by have := zXw_of u; show r < 73; omega)
    have hiM : ∀ {σ σ' : Nat → Nat → Int32}, zfx (fun r k => (r = 73 ∧ (k = 3 ∨ k = 6 ∨ zRM 73 k)) ∨ (cnt < 6 ∧ ((r = 74 ∧ 160 * cnt ≤ k ∧ k < 160 * cnt + 160) ∨ (r = 75 ∧ k = cnt)))) σ σ' → zfx zHi σ σ' := fun h => h.wk (fun r c u => by have := zMt6_of u; unfold zMt6 at this; show 73 ≤ r; omega)
    rcases e : zrdT t f with _ | p | T
    · exact absurd e (zrdT_T t hf160)
    · refine sm_mk (ans := -100 - nI p) (v' := v) (cnt' := cnt) (Ts' := Ts) (f' := 0) (t' := t) (z' := z) (k' := k) hM hg (ok_mono (textC_ok hC.2.2.1 hC.2.1.1 hg.2.2.1) (fun y hy => ?_)) (fun M2 h2 => ok_mono (textM_ok h2.2.2.1 h2.2.1.1 hg.2.2.1) (fun y hy => ?_))
      · obtain ⟨b1, b2, b3⟩ := hy.2.1 l6
        obtain ⟨d1, d2, d3⟩ := b2 p e
        exact ⟨d2, hC.tx hy.2.2.1 (fun r c u => zXw_of u) b1 d3 (hC.2.1.2.old hy.2.2.1 (fun r c u => zXw_of u)), loC hy.2.2.1⟩
      · obtain ⟨b1, b2, b3, b4⟩ := hy.2.1 l6
        obtain ⟨d2, d3⟩ := b3 p e
        exact ⟨d2, h2.tx hy.2.2.1 (fun r c u => zMt6_of u) b1 d3 (h2.2.1.2.old hy.2.2.1 (fun r c u => zMt6_of u)), hiM hy.2.2.1⟩
    · have hg2 : zRG v (cnt + 1) k := ⟨hg.1, by omega, by omega, by have := hg.2.2.2.1; omega, fun kv e => by
        obtain ⟨a1, a2, a3⟩ := hg.2.2.2.2 kv e
        exact ⟨a1, by omega, a3⟩⟩
      have hGT : zGT T := zGT_of hf160 (fun i hi => (hC.2.2.1.2.2 i hi).2) e
      refine sm_mk (ans := nI cnt) (v' := v) (cnt' := cnt + 1) (Ts' := fun c => if c = cnt then T else Ts c) (f' := 0) (t' := t) (z' := z) (k' := k) hM hg2 (ok_mono (textC_ok hC.2.2.1 hC.2.1.1 hg.2.2.1) (fun y hy => ?_)) (fun M2 h2 => ok_mono (textM_ok h2.2.2.1 h2.2.1.1 hg.2.2.1) (fun y hy => ?_))
      · obtain ⟨b1, b2, b3⟩ := hy.2.1 l6
        obtain ⟨d1, d2, d3⟩ := b3 T e
        exact ⟨d1, hC.tx hy.2.2.1 (fun r c u => zXw_of u) b1 d2 ((hC.2.1.2.old hy.2.2.1 (fun r c u => zXw_of u)).add d3 hGT), loC hy.2.2.1⟩
      · obtain ⟨b1, b2, b3, b4⟩ := hy.2.1 l6
        obtain ⟨d2, d3⟩ := b4 T e
        exact ⟨d2, h2.tx hy.2.2.1 (fun r c u => zMt6_of u) b1 d3 ((h2.2.1.2.old hy.2.2.1 (fun r c u => zMt6_of u)).add ⟨f, t, b2, e⟩), hiM hy.2.2.1⟩
theorem sm_image : zSame nb_image md_image := by
  intro M h
  obtain ⟨v, cnt, Ts, f, t, z, k, hg, hC, hM⟩ := h
  have hg2 : zRG v cnt (some v) := ⟨hg.1, hg.2.1, hg.2.2.1, hg.2.2.2.1, fun kv e => by cases e; exact ⟨hg.1, hg.2.2.2.1, zle.rf⟩⟩
  refine sm_mk (ans := nI v.n) (v' := v) (cnt' := cnt) (Ts' := Ts) (f' := f) (t' := t) (z' := z) (k' := some v) hM hg2 (ok_mono (image_C hC.1 hg.1) (fun y hy => ?_)) (fun M2 h2 => ok_mono (image_M h2.1 hg.1) (fun y hy => ?_))
  · obtain ⟨a1, a2, a3, a4, a5, a6, a7⟩ := hy
    have fx : zfx (fun r c => (9 ≤ r ∧ r ≤ 16) ∨ (r = 0 ∧ c = 3)) M.1 y.2.1 := fun r c w => by
      by_cases e : r = 0
      · rw [e]; exact a6 c (by omega)
      · rw [a5 r (by omega) e]
    exact ⟨a1, hC.im hg.2.2.1 fx (fun r c u => by have u2 : (9 ≤ r ∧ r ≤ 16) ∨ (r = 0 ∧ c = 3) := u; omega) a2 ⟨(fun e => by cases e), fun kv e => by cases e; exact ⟨a4, a3⟩⟩, fx.wk (fun r c u => by have u2 : (9 ≤ r ∧ r ≤ 16) ∨ (r = 0 ∧ c = 3) := u; show r < 73; omega)⟩
  · obtain ⟨a1, a2, a3, a5, a6, a7⟩ := hy
    have fx : zfx (fun r c => (86 ≤ r ∧ r ≤ 88) ∨ (r = 73 ∧ (c = 38 ∨ c = 39))) M2.1 y.2.1 := fun r c w => by
      by_cases e : r = 73
      · rw [e]; exact a6 c (by omega) (by omega)
      · rw [a5 r e (by omega)]
    exact ⟨a1, h2.im fx (fun r c u => by have u2 : (86 ≤ r ∧ r ≤ 88) ∨ (r = 73 ∧ (c = 38 ∨ c = 39)) := u; omega) a2 ⟨(fun e => by cases e), fun kv e => by cases e; exact ⟨y.2.1, a3, fun _ _ _ => rfl⟩⟩, fx.wk (fun r c u => by have u2 : (86 ≤ r ∧ r ≤ 88) ∨ (r = 73 ∧ (c = 38 ∨ c = 39)) := u; show 73 ≤ r; omega)⟩
theorem sm_back : zSame nb_back md_back := by
  intro M h
  obtain ⟨v, cnt, Ts, f, t, z, k, hg, hC, hM⟩ := h
  cases k with
  | none => exact sm_mk (ans := (-3 : Int32)) hM hg (by rw [back_C0 (hC.2.2.2.2.1 rfl)]; exact ok_ret ⟨rfl, hC, zfx.rf⟩) (fun M2 h2 => by rw [back_M0 (h2.2.2.2.2.1 rfl)]; exact ok_ret ⟨rfl, h2, zfx.rf⟩)
  | some kv =>
    obtain ⟨g1, g2, g3⟩ := hg.2.2.2.2 kv rfl
    have hg2 : zRG kv cnt (some kv) := ⟨g1, hg.2.1, hg.2.2.1, g2, fun kw e => by cases e; exact ⟨g1, g2, zle.rf⟩⟩
    obtain ⟨c1, c2⟩ := hC.2.2.2.2.2 kv rfl
    refine sm_mk (ans := nI kv.n) (v' := kv) (cnt' := cnt) (Ts' := Ts) (f' := f) (t' := t) (z' := z) (k' := some kv) hM hg2 (ok_mono (back_C c2 g1 c1) (fun y hy => ?_)) (fun M2 h2 => ok_mono (back_M ((h2.2.2.2.2.2 kv rfl).sh h2.1 g3.1 g3.2) g1) (fun y hy => ?_))
    · obtain ⟨a1, a2, a3, a4, a5⟩ := hy
      have fx := a4.x
      exact ⟨a1, hC.im hg.2.2.1 fx (fun r c u => by have := f18 (c := c) u; omega) a2 ⟨(fun e => by cases e), fun kw e => by cases e; exact ⟨(fx _ _ (fun u => by have := f18 (c := 3) u; omega)).trans c1, a3⟩⟩, fx.wk (fun r c u => by have := f18 (c := c) u; show r < 73; omega)⟩
    · obtain ⟨a1, a2, a3, a5, a6, a7⟩ := hy
      have fx : zfx (fun r c => r = 77 ∨ r = 79 ∨ r = 80 ∨ (r = 73 ∧ (c = 11 ∨ c = 4))) M2.1 y.2.1 := fun r c w => by
        by_cases e : r = 73
        · rw [e]; exact a6 c (by omega) (by omega)
        · rw [a5 r e (by omega) (by omega) (by omega)]
      exact ⟨a1, h2.im fx (fun r c u => by have u2 : r = 77 ∨ r = 79 ∨ r = 80 ∨ (r = 73 ∧ (c = 11 ∨ c = 4)) := u; omega) a2 ⟨(fun e => by cases e), fun kw e => by cases e; exact ⟨y.2.1, a3, fun _ _ _ => rfl⟩⟩, fx.wk (fun r c u => by have u2 : r = 77 ∨ r = 79 ∨ r = 80 ∨ (r = 73 ∧ (c = 11 ∨ c = 4)) := u; show 73 ≤ r; omega)⟩
theorem lg_same (a : Int64) : lg_cmp a a = (0 : Int32) := by
  unfold lg_cmp
  simp
set_option maxHeartbeats 1000000 in
theorem law_l {Z : ak_Z} (hZ : Z.1 ≤ 3072) : ∀ n i (M : mm_M), 6 * i ≤ Z.1 → Z.1 < 6 * (i + n) → zRel M → Ok (law_law_l18 Z n (nI (6 * i)) M) (fun y => ∃ M' : mm_M, y = .inr ((), M')) := by
  intro n
  induction n with
  | zero => intro i M h1 h2; omega
  | succ n ih =>
    intro i M h1 h2 hR
    have e0 : (Int32.ofNat Z.1).toInt = Z.1 := zI_int (by omega)
    have e1 : (nI (6 * i)).toInt = 6 * i := by rw [zI_int (by omega)]; omega
    have e6 : (6 : Int32).toInt = 6 := rfl
    have lc : ((Int32.ofNat Z.1) - (6 : Int32)) < nI (6 * i) ↔ (Z.1 : Int) - 6 < 6 * i := by
      rw [i_lt, i_sb (by omega) (by omega), e0, e1, e6]
    rw [law_law_l18]
    refine ok_ite (fun _ => ok_ret ⟨M, rfl⟩) (fun c => ?_)
    have hl : ¬ ((Z.1 : Int) - 6 < 6 * i) := fun w => c (lc.mpr w)
    have g0 : ak_inb (nI (6 * i)) Z.1 = true := zI_inb (by omega) (by omega)
    have gg : ∀ d : Nat, d ≤ 5 → ak_inb (nI (6 * i) + nI d) Z.1 = true := fun d hd => by rw [nI_add]; exact zI_inb (by omega) (by omega)
    have g1 : ak_inb (nI (6 * i) + (1 : Int32)) Z.1 = true := gg 1 (by decide)
    have g2 : ak_inb (nI (6 * i) + (2 : Int32)) Z.1 = true := gg 2 (by decide)
    have g3 : ak_inb (nI (6 * i) + (3 : Int32)) Z.1 = true := gg 3 (by decide)
    have g4 : ak_inb (nI (6 * i) + (4 : Int32)) Z.1 = true := gg 4 (by decide)
    have g5 : ak_inb (nI (6 * i) + (5 : Int32)) Z.1 = true := gg 5 (by decide)
    have nx : ∀ M' : mm_M, zRel M' → Ok (law_law_l18 Z n (nI (6 * i) + (6 : Int32)) M') (fun y => ∃ M' : mm_M, y = .inr ((), M')) := by
      intro M' hR'
      have e : nI (6 * i) + (6 : Int32) = nI (6 * (i + 1)) := by
        rw [show (6 : Int32) = nI 6 from rfl, nI_add]
        congr 1
      rw [e]
      exact ih (i + 1) M' (by omega) (by omega) hR'
    refine ok_pos g0 ?_
    generalize hcode : (Z.2 (nI (6 * i)).toNatClampNeg) &&& (31 : Int32) = code
    refine ok_ite (fun _ => ok_pos g1 (ok_pos g2 (ok_pos g3 (ok_then (sm_set _ _ _ M hR) (fun y hy => ok_pos g1 (ok_pos g2 (ok_pos g3 (ok_then hy (fun y2 h2 => ok_pos h2.1 (nx _ h2.2)))))))))) (fun _ => ?_)
    refine ok_ite (fun _ => ok_pos g1 (ok_pos g2 (ok_pos g3 (ok_then (sm_clerk _ _ _ M hR) (fun y hy => ok_pos g1 (ok_pos g2 (ok_pos g3 (ok_then hy (fun y2 h2 => ok_pos h2.1 (nx _ h2.2)))))))))) (fun _ => ?_)
    refine ok_ite (fun _ => ok_pos g1 (ok_pos g2 (ok_pos g3 (ok_then (sm_apart _ _ _ M hR) (fun y hy => ok_pos g1 (ok_pos g2 (ok_pos g3 (ok_then hy (fun y2 h2 => ok_pos h2.1 (nx _ h2.2)))))))))) (fun _ => ?_)
    refine ok_ite (fun _ => ok_pos g1 (ok_pos g2 (ok_then (sm_book _ _ M hR) (fun y hy => ok_pos g1 (ok_pos g2 (ok_then hy (fun y2 h2 => ok_pos h2.1 (nx _ h2.2)))))))) (fun _ => ?_)
    refine ok_ite (fun _ => ok_pos g1 (ok_pos g2 (ok_then (sm_told _ _ M hR) (fun y hy => ok_pos g1 (ok_pos g2 (ok_then hy (fun y2 h2 => ok_pos h2.1 (nx _ h2.2)))))))) (fun _ => ?_)
    refine ok_ite (fun _ => ok_pos g1 (ok_then (sm_feed _ M hR) (fun y hy => ok_pos g1 (ok_then hy (fun y2 h2 => ok_pos h2.1 (nx _ h2.2)))))) (fun _ => ?_)
    refine ok_ite (fun _ => ok_then (sm_text M hR) (fun y hy => ok_then hy (fun y2 h2 => ok_pos h2.1 (nx _ h2.2)))) (fun _ => ?_)
    refine ok_ite (fun _ => ok_pos g1 (ok_then (sm_force _ M hR) (fun y hy => ok_pos g1 (ok_then hy (fun y2 h2 => ok_pos h2.1 (nx _ h2.2)))))) (fun _ => ?_)
    refine ok_ite (fun _ => ok_pos g1 (ok_then (sm_plan _ M hR) (fun y hy => ok_pos g1 (ok_then hy (fun y2 h2 => ok_pos h2.1 (nx _ h2.2)))))) (fun _ => ?_)
    refine ok_ite (fun _ => ok_then (sm_year M hR) (fun y hy => ok_then hy (fun y2 h2 => ok_pos h2.1 (nx _ h2.2)))) (fun _ => ?_)
    refine ok_ite (fun _ => ok_pos g1 (ok_then (sm_best _ M hR) (fun y hy => ok_pos g1 (ok_then hy (fun y2 h2 => ok_pos h2.1 (nx _ h2.2)))))) (fun _ => ?_)
    refine ok_ite (fun _ => ok_pos g1 (ok_then (sm_inTurn _ M hR) (fun y hy => ok_pos g1 (ok_then hy (fun y2 h2 => ok_pos h2.1 (nx _ h2.2)))))) (fun _ => ?_)
    refine ok_ite (fun _ => ok_pos g1 (ok_then (sm_change _ M hR) (fun y hy => ok_pos g1 (ok_then hy (fun y2 h2 => ok_pos h2.1 (nx _ h2.2)))))) (fun _ => ?_)
    refine ok_ite (fun _ => ok_pos g1 (ok_pos g2 (ok_then (sm_bars _ _ M hR) (fun y hy => ok_pos g1 (ok_pos g2 (ok_then hy (fun y2 h2 => ok_pos h2.1 (nx _ h2.2)))))))) (fun _ => ?_)
    refine ok_ite (fun _ => ok_then (sm_settle M hR) (fun y hy => ok_then hy (fun y2 h2 => ok_pos h2.1 (nx _ h2.2)))) (fun _ => ?_)
    refine ok_ite (fun _ => ok_pos g1 (ok_pos g2 (ok_pos g3 (ok_then (sm_tells _ _ _ M hR) (fun y hy => ok_pos g1 (ok_pos g2 (ok_pos g3 (ok_then hy (fun y2 h2 => ok_pos h2.1 (nx _ h2.2)))))))))) (fun _ => ?_)
    refine ok_ite (fun _ => ok_pos g1 (ok_pos g2 (ok_then (sm_film _ _ M hR) (fun y hy => ok_pos g1 (ok_pos g2 (ok_then hy (fun y2 h2 => ok_pos h2.1 (nx _ h2.2)))))))) (fun _ => ?_)
    refine ok_ite (fun _ => ok_pos g1 (ok_then (sm_drawn _ M hR) (fun y hy => ok_pos g1 (ok_then hy (fun y2 h2 => ok_pos h2.1 (nx _ h2.2)))))) (fun _ => ?_)
    refine ok_ite (fun _ => ok_pos g1 (ok_pos g2 (ok_pos g3 (ok_then (sm_chance _ _ _ M hR) (fun y hy => ok_pos g1 (ok_pos g2 (ok_pos g3 (ok_then hy (fun y2 h2 => by rw [h2.1, lg_same]; exact ok_pos rfl (nx _ h2.2)))))))))) (fun _ => ?_)
    refine ok_ite (fun _ => ok_then (sm_image M hR) (fun y hy => ok_then hy (fun y2 h2 => ok_pos h2.1 (nx _ h2.2)))) (fun _ => ?_)
    refine ok_ite (fun _ => ok_then (sm_back M hR) (fun y hy => ok_then hy (fun y2 h2 => ok_pos h2.1 (nx _ h2.2)))) (fun _ => ?_)
    refine ok_ite (fun _ => ok_pos g1 (ok_then (sm_count _ M hR) (fun y hy => ok_pos g1 (ok_then hy (fun y2 h2 => ok_pos h2.1 (nx _ h2.2)))))) (fun _ => ?_)
    refine ok_ite (fun _ => ok_pos g1 (ok_pos g2 (ok_pos g3 (ok_then (sm_sheet _ _ _ M hR) (fun y hy => ok_pos g1 (ok_pos g2 (ok_pos g3 (ok_then hy (fun y2 h2 => ok_pos h2.1 (nx _ h2.2)))))))))) (fun _ => ?_)
    refine ok_ite (fun _ => ok_pos g1 (ok_pos g2 (ok_pos g3 (ok_then (sm_cell _ _ _ M hR) (fun y hy => ok_pos g1 (ok_pos g2 (ok_pos g3 (ok_then hy (fun y2 h2 => ok_pos h2.1 (nx _ h2.2)))))))))) (fun _ => ?_)
    refine ok_ite (fun _ => ok_pos g1 (ok_pos g2 (ok_pos g3 (ok_pos g4 (ok_pos g5 (ok_then (sm_copy _ _ _ _ _ M hR) (fun y hy => ok_pos g1 (ok_pos g2 (ok_pos g3 (ok_pos g4 (ok_pos g5 (ok_then hy (fun y2 h2 => ok_pos h2.1 (nx _ h2.2)))))))))))))) (fun _ => ?_)
    refine ok_ite (fun _ => ok_pos g1 (ok_pos g2 (ok_pos g3 (ok_pos g4 (ok_then (sm_clerks _ _ _ _ M hR) (fun y hy => ok_pos g1 (ok_pos g2 (ok_pos g3 (ok_pos g4 (ok_then hy (fun y2 h2 => ok_pos h2.1 (nx _ h2.2)))))))))))) (fun _ => ?_)
    refine ok_ite (fun _ => ok_pos g1 (ok_pos g2 (ok_then (sm_taken _ _ M hR) (fun y hy => ok_pos g1 (ok_pos g2 (ok_then hy (fun y2 h2 => ok_pos h2.1 (nx _ h2.2)))))))) (fun _ => ?_)
    exact nx M hR
theorem law_ok {Z : ak_Z} (hZ : Z.1 ≤ 3072) {M : mm_M} (hR : zRel M) : Ok (law_law Z M) (fun y => y.1 = 1) := by
  unfold law_law
  refine ok_then (law_l hZ 600 0 M (by omega) (by omega) hR) (fun y hy => ?_)
  obtain ⟨M', rfl⟩ := hy
  exact ok_ret rfl
