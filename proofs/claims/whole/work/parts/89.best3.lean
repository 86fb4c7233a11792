/-! level 2: best: both programs -/
section
variable {b : Nat} {v : zV} {T : zT3}
theorem hopesC_l34 {M : mm_M} (hB : zB v) (h : zPC b v T M) {p : Nat} (hp : p < v.n) : ∀ j k m x, k + j = 9 → j < m → pl_takeHopes_l34 m (nI p) x (nI (9 * p + k)) M = some (zhm T v p k j x, M) := by
  have hn := hB.n
  intro j
  induction j with
  | zero =>
    intro k m x hk hm
    obtain ⟨m, rfl, -⟩ := z_suc hm
    rw [pl_takeHopes_l34, nI_1, show nI (p + 1) * (9 : Int32) = nI (9 * (p + 1)) from by rw [show (9 : Int32) = nI 9 from rfl, zI_mul, Nat.mul_comm], if_neg (nI_nlt (by omega) (by omega))]
    rfl
  | succ j ih =>
    intro k m x hk hm
    obtain ⟨m, rfl, hm2⟩ := z_suc hm
    have gi : ak_inb (nI (9 * p + k)) 36 = true := zI_inb (by omega) (by omega)
    obtain ⟨r1, r2, r3⟩ := h.2.2.2.2 p k hp (by omega)
    have e := fun x => ih (k + 1) m x (by omega) (by omega)
    rw [pl_takeHopes_l34, nI_1 p, show nI (p + 1) * (9 : Int32) = nI (9 * (p + 1)) from by rw [show (9 : Int32) = nI 9 from rfl, zI_mul, Nat.mul_comm], if_pos (nI_lt (by omega) (by omega)), if_pos gi, zI_nat (by omega), r3, bI_if, r2, nI_1, zhm]
    by_cases c : zcb T v p k = true
    · rw [if_pos c, if_pos c, if_pos gi]
      exact e _
    · rw [if_neg c, if_neg c]
      exact e _
theorem hopesC_l23 (hB : zB v) : ∀ j m (M : mm_M), j ≤ v.n → j < m → zPC b v T M → (∀ q, j ≤ q → q ≤ v.n → M.1 63 q = zhp T v (v.n - q)) → Ok (pl_takeHopes_l23 m (nI j - 1) M) (fun y => (∀ q, q ≤ v.n → y.2.1 63 q = zhp T v (v.n - q)) ∧ zfx (fun r _ => r = 63) M.1 y.2.1 ∧ y.2.2 = M.2) := by
  have hn := hB.n
  intro j
  induction j with
  | zero =>
    intro m M hj hm h h63
    obtain ⟨m, rfl, -⟩ := z_suc hm
    rw [pl_takeHopes_l23]
    exact ok_pos (by decide) (ok_ret ⟨fun q hq => h63 q (by omega) hq, zfx.rf, rfl⟩)
  | succ j ih =>
    intro m M hj hm h h63
    obtain ⟨m, rfl, hm2⟩ := z_suc hm
    rw [pl_takeHopes_l23, nI_pred, show nI j + (-1 : Int32) = nI j - 1 from (Int32.sub_eq_add_neg _ _).symm, nI_1, show nI j * (9 : Int32) = nI (9 * j + 0) from by rw [show (9 : Int32) = nI 9 from rfl, zI_mul, Nat.mul_comm]; rfl]
    refine ok_neg (nI_pos (by omega)) ?_
    rw [hopesC_l34 hB h (p := j) (by omega) 9 0 300 0 (by decide) (by decide)]
    simp only [Option.bind_some]
    refine ok_pos (zI_inb (by omega) (by omega)) (ok_pos (zI_inb (by omega) (by omega)) ?_)
    rw [zI_nat (by omega), zI_nat (by omega), h63 (j + 1) (by omega) (by omega)]
    have hf : zfx (fun r _ => r = 63) M.1 (ak_up M.1 63 j (zhp T v (v.n - (j + 1)) + zhm T v j 0 9 0)) := zfx.rf.up rfl
    refine ok_mono (ih m (_, M.2) (by omega) (by omega) (h.fx (M' := (_, M.2)) hf rfl (fun r c a d z => by have z2 : r = 63 := z; have := h.2.1; omega) (fun r c a d z => by have z2 : r = 63 := z; omega)) (fun q h1 h2 => ?_)) (fun y hy => ⟨hy.1, hf.tr hy.2.1, hy.2.2⟩)
    show ak_up M.1 63 j _ 63 q = _
    by_cases e : q = j
    · rw [e, ak_up_same, show v.n - j = (v.n - (j + 1)) + 1 by omega]
      show _ = zhp T v (v.n - (j + 1)) + zhm T v (v.n - (v.n - (j + 1) + 1)) 0 9 0
      rw [show v.n - (v.n - (j + 1) + 1) = j by omega]
    · rw [ak_up_oth e]
      exact h63 q (by omega) h2
theorem hopesC_ok {M : mm_M} (hB : zB v) (h : zPC b v T M) : Ok (pl_takeHopes M) (fun y => zPC b v T y.2 ∧ (∀ q, q ≤ v.n → y.2.1 63 q = zhp T v (v.n - q)) ∧ zfx (fun r _ => r = 63) M.1 y.2.1 ∧ y.2.2 = M.2) := by
  have hn := hB.n
  unfold pl_takeHopes
  refine ok_pos h.is8 ?_
  rw [h.n]
  refine ok_pos (zI_inb (by omega) (by omega)) (ok_pos h.is8 ?_)
  rw [zI_nat (by omega)]
  have hf : zfx (fun r _ => r = 63) M.1 (ak_up M.1 63 v.n 0) := zfx.rf.up rfl
  have f63 : ∀ {M' : mm_M}, zfx (fun r _ => r = 63) M.1 M'.1 → M'.2 = M.2 → zPC b v T M' := fun {M'} g1 g2 => h.fx g1 (congrArg Prod.fst g2) (fun r c a d z => by have z2 : r = 63 := z; have := h.2.1; omega) (fun r c a d z => by have z2 : r = 63 := z; omega)
  have h2 : zPC b v T (ak_up M.1 63 v.n 0, M.2) := f63 hf rfl
  have e4 : ak_up M.1 63 v.n 0 M.2.1 4 = nI v.n := h2.n
  rw [e4]
  refine ok_then (hopesC_l23 hB v.n 300 (ak_up M.1 63 v.n 0, M.2) (Nat.le_refl _) (by omega) h2 (fun q h1 h3 => ?_)) (fun y hy => ok_ret ?_)
  · rw [show q = v.n by omega, Nat.sub_self]
    exact ups1
  · exact ⟨f63 (hf.tr hy.2.1) hy.2.2, hy.1, hf.tr hy.2.1, hy.2.2⟩
abbrev zBw : Nat → Nat → Prop := fun r c => r = 61 ∨ r = 62 ∨ (r = 55 ∧ c = 11)
/-- where the class's search stands -/
def zSC (b : Nat) (v : zV) (T : zT3) (fair : Bool) (d : Nat → Nat) (B : zBs) (M : mm_M) : Prop := zPC b v T M ∧ zDg 61 4 d M.1 ∧ (∀ q, q ≤ v.n → M.1 63 q = zhp T v (v.n - q)) ∧ M.1 55 10 = bI (fair = true) ∧ M.1 55 11 = B.1 ∧ zDg 62 4 B.2 M.1
theorem zPC.bw {M M' : mm_M} (h : zPC b v T M) (hf : zfx zBw M.1 M'.1) (h2 : M'.2.1 = M.2.1) : zPC b v T M' := h.fx hf h2 (fun r c a d z => by have z2 : r = 61 ∨ r = 62 ∨ (r = 55 ∧ c = 11) := z; have := h.2.1; omega) (fun r c a d z => by have z2 : r = 61 ∨ r = 62 ∨ (r = 55 ∧ c = 11) := z; omega)
theorem zSC.up {fair : Bool} {d : Nat → Nat} {B : zBs} {M : mm_M} (h : zSC b v T fair d B M) {p k : Nat} (hk : k ≤ 8) : zSC b v T fair (zdo d p k) B (ak_up M.1 61 p (nI k), M.2) := by
  obtain ⟨h1, h2, h3, h4, h5, h6⟩ := h
  have hf : zfx z61 M.1 (ak_up M.1 61 p (nI k)) := zfx.rf.up rfl
  exact ⟨h1.w61 (M' := (_, M.2)) hf rfl, h2.up hk, fun q hq => (hf 63 q (show ¬ 63 = 61 by decide)).trans (h3 q hq), (hf 55 10 (show ¬ 55 = 61 by decide)).trans h4, (hf 55 11 (show ¬ 55 = 61 by decide)).trans h5, h6.fx hf (fun c => show ¬ 62 = 61 by decide)⟩
theorem keepC_l : ∀ j k m (M : mm_M), k + j = 4 → j < m → (∀ q, q < k → M.1 62 q = M.1 61 q) → Ok (pl_keep_l7 m (nI k) M) (fun y => (∀ q, q < 4 → y.2.1 62 q = M.1 61 q) ∧ zfx (fun r _ => r = 62) M.1 y.2.1 ∧ y.2.2 = M.2) := by
  intro j
  induction j with
  | zero =>
    intro k m M hk hm h
    obtain ⟨m, rfl, -⟩ := z_suc hm
    obtain rfl : k = 4 := by omega
    rw [pl_keep_l7]
    exact ok_neg (by decide) (ok_ret ⟨h, zfx.rf, rfl⟩)
  | succ j ih =>
    intro k m M hk hm h
    obtain ⟨m, rfl, hm2⟩ := z_suc hm
    rw [pl_keep_l7, nI_1]
    refine ok_pos (nI_lt (b := 4) (by omega) (by decide)) (ok_pos (zI_inb (by omega) (by omega)) (ok_pos (zI_inb (by omega) (by omega)) ?_))
    rw [zI_nat (by omega)]
    have hf : zfx (fun r _ => r = 62) M.1 (ak_up M.1 62 k (M.1 61 k)) := zfx.rf.up rfl
    refine ok_mono (ih (k + 1) m (_, M.2) (by omega) (by omega) (fun q hq => ?_)) (fun y hy => ⟨fun q hq => (hy.1 q hq).trans (hf 61 q (by omega)), hf.tr hy.2.1, hy.2.2⟩)
    show ak_up M.1 62 k (M.1 61 k) 62 q = ak_up M.1 62 k (M.1 61 k) 61 q
    rw [ak_up_ne (show (61 : Nat) ≠ 62 by decide)]
    by_cases e : q = k
    · rw [e, ak_up_same]
    · rw [ak_up_oth e]; exact h q (by omega)
theorem keepC_ok {fair : Bool} {d : Nat → Nat} {B : zBs} {M : mm_M} (h : zSC b v T fair d B M) (x : Int32) : Ok (pl_keep x M) (fun y => zSC b v T fair d (x, d) y.2 ∧ zfx zBw M.1 y.2.1 ∧ y.2.2 = M.2) := by
  obtain ⟨h1, h2, h3, h4, h5, h6⟩ := h
  unfold pl_keep
  have hf0 : zfx zBw M.1 (ak_up M.1 55 11 x) := zfx.rf.up (Or.inr (Or.inr ⟨rfl, rfl⟩))
  refine ok_then (keepC_l 4 0 300 (ak_up M.1 55 11 x, M.2) (by decide) (by decide) (fun q hq => by omega)) (fun y hy => ok_ret ?_)
  obtain ⟨a1, a2, a3⟩ := hy
  have hf : zfx zBw M.1 y.2.1 := hf0.tr (a2.wk (fun r c z => Or.inr (Or.inl z)))
  have e61 : ∀ q, y.2.1 61 q = M.1 61 q := fun q => (a2 61 q (by omega)).trans (show ak_up M.1 55 11 x 61 q = M.1 61 q from by rw [ak_up_ne (show (61 : Nat) ≠ 55 by decide)])
  refine ⟨⟨h1.bw hf (congrArg Prod.fst a3), fun q hq => ⟨(e61 q).trans (h2 q hq).1, (h2 q hq).2⟩, fun q hq => (hf _ _ (by omega)).trans (h3 q hq), (hf _ _ (by omega)).trans h4, ?_, fun q hq => ⟨?_, (h2 q hq).2⟩⟩, hf, a3⟩
  · exact (a2 55 11 (by omega)).trans ups1
  · rw [a1 q hq]
    show ak_up M.1 55 11 x 61 q = _
    rw [ak_up_ne (show (61 : Nat) ≠ 55 by decide)]
    exact (h2 q hq).1
theorem zDg.le {r n m : Nat} {d : Nat → Nat} {σ : Nat → Nat → Int32} (h : zDg r n d σ) (hm : m ≤ n) : zDg r m d σ := fun q hq => h q (by omega)
theorem exC (hB : zB v) (fair : Bool) : ∀ j p kf a2 a3 d (B : zBs) (M : mm_M), p + j = v.n → j < kf → (∀ q, p ≤ q → d q = 0) → zSC b v T fair d B M → Ok (pl_ex kf (nI p) a2 a3 M) (fun y => zSC b v T fair d (zex T v fair j p a2 a3 d B) y.2 ∧ zfx zBw M.1 y.2.1 ∧ y.2.2 = M.2) := by
  have hn := hB.n
  intro j
  induction j with
  | zero =>
    intro p kf a2 a3 d B M hp hk h0 hS
    obtain ⟨kf, rfl, -⟩ := z_suc hk
    obtain ⟨h1, h2, h3, h4, h5, h6⟩ := hS
    have e63 : M.1 63 p = zhp T v (v.n - p) := h3 p (by omega)
    show Ok (pl_extend_b _ (nI p) a2 a3 M) _
    unfold pl_extend_b
    refine ok_neg (nI_nlt (a := 4) (by omega) (by decide)) ?_
    rw [h4, bI_if, h5, zI_nat (by omega), e63, h1.n]
    have ez : zex T v fair 0 p a2 a3 d B = if B.1 < zbn T v fair p a2 a3 then (zbn T v fair p a2 a3, d) else B := rfl
    rw [ez]
    unfold zbn
    cases fair with
    | true =>
      rw [if_pos rfl]
      show Ok _ (fun y : Unit × mm_M => zSC b v T true d (if B.1 < a3 then (a3, d) else B) y.2 ∧ _)
      by_cases g : B.1 < a3
      · rw [if_pos g, if_pos g]
        refine ok_pos h1.is8 (ok_neg (nI_nlt (by omega) (by omega)) (ok_then (keepC_ok ⟨h1, h2, h3, h4, h5, h6⟩ _) (fun y hy => ok_ret hy)))
      · rw [if_neg g, if_neg g]
        exact ok_ret ⟨⟨h1, h2, h3, h4, h5, h6⟩, zfx.rf, rfl⟩
    | false =>
      rw [if_neg (by decide)]
      show Ok _ (fun y : Unit × mm_M => zSC b v T false d (if B.1 < a2 + zhp T v (v.n - p) then (a2 + zhp T v (v.n - p), d) else B) y.2 ∧ _)
      refine ok_pos (zI_inb (by omega) (by omega)) ?_
      by_cases g : B.1 < a2 + zhp T v (v.n - p)
      · rw [if_pos g, if_pos g]
        refine ok_pos h1.is8 (ok_neg (nI_nlt (by omega) (by omega)) (ok_then (keepC_ok ⟨h1, h2, h3, h4, h5, h6⟩ _) (fun y hy => ok_ret hy)))
      · rw [if_neg g, if_neg g]
        exact ok_ret ⟨⟨h1, h2, h3, h4, h5, h6⟩, zfx.rf, rfl⟩
  | succ j ih =>
    intro p kf a2 a3 d B M hp hk h0 hS
    obtain ⟨kf, rfl, hk2⟩ := z_suc hk
    have hpn : p < v.n := by omega
    have hd0 := h0 p (Nat.le_refl p)
    have h63 : M.1 63 p = zhp T v (v.n - p) := hS.2.2.1 p (by omega)
    show Ok (pl_extend_b (fun a1 a2 a3 m => pl_ex kf a1 a2 a3 m) (nI p) a2 a3 M) _
    unfold pl_extend_b
    refine ok_neg (nI_nlt (a := 4) (by omega) (by decide)) ?_
    rw [hS.2.2.2.1, bI_if, hS.2.2.2.2.1, zI_nat (by omega), h63, hS.1.n]
    have ez : zex T v fair (j + 1) p a2 a3 d B = if B.1 < zbn T v fair p a2 a3 then zexk (fun k B => if zcan T v d p k = true then zex T v fair j (p + 1) (a2 + zgs T v p k) (i_min a3 (zgs T v p k)) (zdo d p k) B else B) 0 9 B else B := rfl
    have loop : ∀ m k fu (B : zBs) (M : mm_M), k + m = 9 → m < fu → (∃ x, x ≤ 8 ∧ zSC b v T fair (zdo d p x) B M) → Ok (pl_extend_l70 (fun a1 a2 a3 m => pl_ex kf a1 a2 a3 m) fu (nI p) a2 a3 (nI (zcls v d p)) (nI k) M) (fun y => (∃ x, x ≤ 8 ∧ zSC b v T fair (zdo d p x) (zexk (fun k B => if zcan T v d p k = true then zex T v fair j (p + 1) (a2 + zgs T v p k) (i_min a3 (zgs T v p k)) (zdo d p k) B else B) k m B) y.2) ∧ zfx zBw M.1 y.2.1 ∧ y.2.2 = M.2) := by
      intro m
      induction m with
      | zero =>
        intro k fu B M hk hf hx
        obtain ⟨fu, rfl, -⟩ := z_suc hf
        obtain rfl : k = 9 := by omega
        rw [pl_extend_l70]
        exact ok_neg (by decide) (ok_ret ⟨hx, zfx.rf, rfl⟩)
      | succ m ihm =>
        intro k fu B M hk hf hx
        obtain ⟨fu, rfl, hf2⟩ := z_suc hf
        obtain ⟨x, hx8, hx⟩ := hx
        have gi : ak_inb (nI (9 * p + k)) 36 = true := zI_inb (by omega) (by omega)
        rw [pl_extend_l70, z9a, nI_1 k]
        refine ok_pos (nI_lt (b := 9) (by omega) (by decide)) ?_
        rw [canAddC_eq (d := d) hB hx.1 hpn (show k ≤ 8 by omega)]
        simp only [Option.bind_some, bI_if]
        by_cases c : zcan T v d p k = true
        · rw [if_pos c]
          refine ok_pos (zI_inb (by omega) (by omega)) (ok_pos gi (ok_pos gi ?_))
          have hU := hx.up (p := p) (k := k) (by omega)
          rw [zdo_do] at hU
          have e57 : ak_up M.1 61 p (nI k) 57 (9 * p + k) = zgs T v p k := (hU.1.2.2.2.2 p k hpn (by omega)).2.1
          rw [zI_nat (show p < 2147483648 by omega), zI_nat (show 9 * p + k < 2147483648 by omega), e57, nI_1 p]
          have hf0 : zfx zBw M.1 (ak_up M.1 61 p (nI k)) := zfx.rf.up (Or.inl rfl)
          refine ok_then (ih (p + 1) kf _ _ (zdo d p k) B (ak_up M.1 61 p (nI k), M.2) (by omega) (by omega) (fun q hq => by
            unfold zdo
            rw [if_neg (by omega)]
            exact h0 q (by omega)) hU) (fun y7 h7 => ?_)
          obtain ⟨a1, a2', a3'⟩ := h7
          refine ok_mono (ihm (k + 1) fu _ y7.2 (by omega) (by omega) ⟨k, by omega, a1⟩) (fun y hy => ?_)
          obtain ⟨⟨x2, x8, hy1⟩, hy2, hy3⟩ := hy
          refine ⟨⟨x2, x8, ?_⟩, (hf0.tr a2').tr hy2, hy3.trans a3'⟩
          show zSC b v T fair (zdo d p x2) (zexk _ (k + 1) m (if zcan T v d p k = true then _ else B)) y.2
          rw [if_pos c]
          exact hy1
        · rw [if_neg c]
          refine ok_mono (ihm (k + 1) fu B M (by omega) (by omega) ⟨x, hx8, hx⟩) (fun y hy => ?_)
          obtain ⟨⟨x2, x8, hy1⟩, hy2, hy3⟩ := hy
          refine ⟨⟨x2, x8, ?_⟩, hy2, hy3⟩
          show zSC b v T fair (zdo d p x2) (zexk _ (k + 1) m (if zcan T v d p k = true then _ else B)) y.2
          rw [if_neg c]
          exact hy1
    have body : B.1 < zbn T v fair p a2 a3 → ∀ X Y : Option (Unit × mm_M), Ok (if mm_is8 M.2.1 = true then if nI p < nI v.n then if nI p < (4 : Int32) then (pl_weeksClosedTo (nI p) M).bind fun y8 => (pl_extend_l70 (fun a1 a2 a3 m => pl_ex kf a1 a2 a3 m) 300 (nI p) a2 a3 y8.1 (0 : Int32) y8.2).bind fun y9 => if ak_inb (nI p) 4 = true then some ((), (ak_up y9.2.1 61 p (0 : Int32), y9.2.2)) else none else X else Y else none) (fun y => zSC b v T fair d (zex T v fair (j + 1) p a2 a3 d B) y.2 ∧ zfx zBw M.1 y.2.1 ∧ y.2.2 = M.2) := by
      intro g X Y
      refine ok_pos hS.1.is8 (ok_pos (nI_lt hpn (by omega)) (ok_pos (nI_lt (b := 4) (by omega) (by decide)) ?_))
      rw [closedC_eq hB hS.1 (hS.2.1.le (by omega)) hpn]
      simp only [Option.bind_some]
      refine ok_then (loop 9 0 300 B M (by decide) (by decide) ⟨0, by decide, by rw [zdo_0 hd0]; exact hS⟩) (fun y9 h9 => ?_)
      obtain ⟨⟨x, x8, a1⟩, a2', a3'⟩ := h9
      refine ok_pos (zI_inb (by omega) (by omega)) (ok_ret ⟨?_, a2'.up (Or.inl rfl), a3'⟩)
      have hU := a1.up (p := p) (k := 0) (by decide)
      rw [zdo_do, zdo_0 hd0] at hU
      rw [ez, if_pos g]
      exact hU
    by_cases g : B.1 < zbn T v fair p a2 a3
    · have bd := body g
      unfold zbn at g
      cases fair with
      | true =>
        have g2 : B.1 < a3 := g
        rw [if_pos rfl, if_pos g2]
        exact bd _ _
      | false =>
        have g2 : B.1 < a2 + zhp T v (v.n - p) := g
        rw [if_neg (by decide), if_pos (zI_inb (by omega) (by omega)), if_pos g2]
        exact bd _ _
    · rw [ez, if_neg g]
      unfold zbn at g
      cases fair with
      | true =>
        have g2 : ¬ B.1 < a3 := g
        rw [if_pos rfl, if_neg g2]
        exact ok_ret ⟨hS, zfx.rf, rfl⟩
      | false =>
        have g2 : ¬ B.1 < a2 + zhp T v (v.n - p) := g
        rw [if_neg (by decide), if_pos (zI_inb (by omega) (by omega)), if_neg g2]
        exact ok_ret ⟨hS, zfx.rf, rfl⟩
end
