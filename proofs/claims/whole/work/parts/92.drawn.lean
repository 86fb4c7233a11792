/-! level 2: wishes that are drawn: drawn, chance -/
theorem zshr (x : Int32) : ∃ m, m < 8388608 ∧ (x.toUInt32 >>> ((9 : Int32).toUInt32 &&& Int32.toUInt32 31)).toInt32 = nI m := by
  refine ⟨(x.toUInt32 >>> 9).toNat, ?_, ?_⟩
  · rw [UInt32.toNat_shiftRight]
    show x.toUInt32.toNat >>> (9 % 32) < _
    rw [Nat.shiftRight_eq_div_pow, show (2 : Nat) ^ (9 % 32) = 512 from rfl]
    have := x.toUInt32.toNat_lt
    omega
  · rw [show ((9 : Int32).toUInt32 &&& Int32.toUInt32 31) = (9 : UInt32) from by decide]
    generalize x.toUInt32 >>> 9 = u
    apply Int32.toBitVec_inj.mp
    show u.toBitVec = (Int32.ofNat u.toNat).toBitVec
    simp [Int32.toBitVec_ofNat']
theorem nI_div {m c : Nat} (hm : m < 2147483648) (hc : 0 < c) (hc2 : c < 2147483648) : nI m / nI c = nI (m / c) := by
  rw [i_eq]
  have hd : m / c ≤ m := Nat.div_le_self m c
  rw [Int32.toInt_div, zI_int hm, zI_int hc2, zI_int (show m / c < 2147483648 by omega), Int.tdiv_eq_ediv_of_nonneg (by omega)]
  have : (m : Int) / (c : Int) = ((m / c : Nat) : Int) := by simp
  rw [this]
  generalize m / c = q at hd ⊢
  exact Int.bmod_eq_of_le (by omega) (by omega)
theorem nI_md {m c : Nat} (hm : m < 2147483648) (hc : 0 < c) (hc2 : c < 2147483648) : nI m - nI m / nI c * nI c = nI (m % c) := by
  have h1 : m / c * c ≤ m := Nat.div_mul_le_self m c
  rw [nI_div hm hc hc2, zI_mul, zI_sub h1]
  congr 1
  have := Nat.div_add_mod m c
  rw [Nat.mul_comm] at this
  omega
/-- the next seed, what is drawn with it -/
def zsx (x : Int32) : Int32 := (x * (1103515245 : Int32)) + (12345 : Int32)
def zdx (x : Int32) : Int32 := ((x.toUInt32 >>> ((9 : Int32).toUInt32 &&& Int32.toUInt32 31)).toInt32) - ((x.toUInt32 >>> ((9 : Int32).toUInt32 &&& Int32.toUInt32 31)).toInt32) / (256 : Int32) * (256 : Int32)
theorem zdx_n (x : Int32) : ∃ k, k ≤ 255 ∧ zdx x = nI k := by
  obtain ⟨m, hm, e⟩ := zshr x
  unfold zdx
  rw [e]
  exact ⟨m % 256, by omega, nI_md (c := 256) (by omega) (by decide) (by decide)⟩
def zdnn (x : Int32) : Nat := (zdx x).toInt.toNat
theorem zdnn_ok (x : Int32) : zdnn x ≤ 255 ∧ zdx x = nI (zdnn x) := by
  obtain ⟨k, hk, e⟩ := zdx_n x
  have e2 : zdnn x = k := by
    unfold zdnn
    rw [e, zI_int (by omega)]
    omega
  rw [e2]
  exact ⟨hk, e⟩
def zsq (x : Int32) : Nat → Int32
  | 0 => x
  | k + 1 => zsx (zsq x k)
section
variable {v : zV} {T : zT3}
/-- the first k wishes are drawn -/
def zdr (v : zV) (x : Int32) (k : Nat) : zV := (v.1, fun r q => if r = 3 then (if q < k then zdnn (zsq x (q + 1)) else v.2 3 q) else v.2 r q)
theorem zdr_0 (x : Int32) : zdr v x 0 = v := by
  unfold zdr
  refine Prod.ext rfl ?_
  funext r q
  simp only [Nat.not_lt_zero, if_false]
  by_cases e : r = 3
  · rw [if_pos e, e]
  · rw [if_neg e]
theorem zdr_s (x : Int32) (k : Nat) : zr (zdr v x k) 3 k (zdnn (zsq x (k + 1))) = zdr v x (k + 1) := by
  unfold zdr zr
  refine Prod.ext rfl ?_
  funext r q
  show (if r = 3 ∧ q = k then _ else (if r = 3 then _ else _)) = (if r = 3 then _ else _)
  by_cases e : r = 3
  · rw [if_pos e, if_pos e]
    by_cases g : q = k
    · rw [if_pos ⟨e, g⟩, if_pos (by omega), g]
    · rw [if_neg (fun z => g z.2)]
      by_cases f : q < k
      · rw [if_pos f, if_pos (by omega)]
      · rw [if_neg f, if_neg (by omega)]
  · rw [if_neg (fun z => e z.1), if_neg e, if_neg e]
theorem zdr_B (hB : zB v) (x : Int32) (k : Nat) : zB (zdr v x k) := by
  refine ⟨hB.n, hB.yr, hB.nd, hB.ky, hB.ru, fun q hq => hB.kd q hq, fun q hq => hB.nu q hq, fun q hq => hB.le q hq, fun q hq => ?_, fun q hq => hB.po q hq, fun q hq => hB.bl q hq, fun q hq => hB.ap q hq, fun q hq => hB.az q hq, fun q r hq hr => hB.as q r hq hr, fun q hq => hB.ai q hq⟩
  show (if q < k then zdnn (zsq x (q + 1)) else v.wi q) ≤ 255
  split
  · exact (zdnn_ok _).1
  · exact hB.wi q hq
def zdw (v : zV) (x : Int32) : zV := zdr v x v.n
theorem drawC_l (hB : zB v) (x : Int32) : ∀ j k m (M : mm_M), k + j = v.n → j < m → ShC 17 M.1 (zdr v x k) → Ok (nb_drawWishes_l15 m (zsq x k) (nI k) M) (fun y => ShC 17 y.2.1 (zdw v x) ∧ zfx (fun r _ => r = 21) M.1 y.2.1 ∧ y.2.2 = M.2) := by
  have hn := hB.n
  intro j
  induction j with
  | zero =>
    intro k m M hk hm h
    obtain ⟨m, rfl, -⟩ := z_suc hm
    rw [nb_drawWishes_l15, h.n]
    refine ok_neg (nI_nlt (by show v.n ≤ k; omega) (by omega)) (ok_ret ⟨?_, zfx.rf, rfl⟩)
    unfold zdw
    rw [show v.n = k by omega]
    exact h
  | succ j ih =>
    intro k m M hk hm h
    obtain ⟨m, rfl, hm2⟩ := z_suc hm
    have hp : k < v.n := by omega
    rw [nb_drawWishes_l15, h.n, nI_1]
    refine ok_pos (nI_lt (show k < v.n from hp) (by show v.n < 2 ^ 31; omega)) (ok_pos (zI_inb (by omega) (by omega)) ?_)
    rw [zI_nat (by omega)]
    show Ok (nb_drawWishes_l15 m (zsq x (k + 1)) (nI (k + 1)) (ak_up M.1 21 k (zdx (zsq x (k + 1))), M.2)) _
    rw [(zdnn_ok (zsq x (k + 1))).2]
    have hf : zfx (fun r _ => r = 21) M.1 (ak_up M.1 21 k (nI (zdnn (zsq x (k + 1))))) := zfx.rf.up rfl
    have h2 : ShC 17 (ak_up M.1 21 k (nI (zdnn (zsq x (k + 1))))) (zdr v x (k + 1)) := by
      have := ShC_r3 (p := k) (x := zdnn (zsq x (k + 1))) h
      rw [zdr_s] at this
      exact this
    exact ok_mono (ih (k + 1) m (_, M.2) (by omega) (by omega) h2) (fun y hy => ⟨hy.1, hf.tr hy.2.1, hy.2.2⟩)
abbrev zDr : Nat → Nat → Prop := fun r _ => (17 ≤ r ∧ r ≤ 24) ∨ r = 35 ∨ r = 36 ∨ (56 ≤ r ∧ r ≤ 61)
/-- wishes drawn, turns taken (class) -/
theorem drawsC_ok {M : mm_M} (h : ShC 1 M.1 v) (hB : zB v) (hT : zTX (37 + 3 * v.ru) T M.1) (hG : zGT T) (x : Int32) {β : Type} {f : Unit × mm_M → Option β} {P : β → Prop} (k : ∀ y : Unit × mm_M, zPC 17 (zdw v x) T y.2 → zDg 61 v.n (ztrn T (zdw v x)) y.2.1 → zfx zDr M.1 y.2.1 → Ok (f y) P) : Ok ((nb_drawWishes x M).bind fun y1 => (pl_look 17 y1.2).bind fun y2 => (pl_takeTurns y2.2).bind fun y3 => f y3) P := by
  have hB2 : zB (zdw v x) := zdr_B hB x v.n
  unfold nb_drawWishes
  obtain ⟨M', e1, e2, e3, e4, e5⟩ := become_ok (a := 17) (b := 1) (Or.inr (by decide)) h hB
  rw [e1]
  simp only [Option.bind_some]
  have f0 : zfx (fun r _ => 17 ≤ r ∧ r ≤ 24) M.1 M'.1 := fun r c hr => by rw [e3 r hr]
  refine ok_bind (ok_then (drawC_l hB x v.n 0 300 M' (by omega) (by have := hB.n; omega) (by rw [zdr_0]; exact e2)) (fun y2 h2 => ok_ret ?_))
  obtain ⟨a1, a2, a3⟩ := h2
  have f1 : zfx (fun r _ => 17 ≤ r ∧ r ≤ 24) M.1 y2.2.1 := f0.tr (a2.wk (fun r c w => by have w2 : r = 21 := w; omega))
  have hru : v.ru < 6 := hB.ru
  refine ok_then (lookC_ok (Or.inr rfl) (v := zdw v x) (T := T) a1 hB2 (hT.fx f1 (fun r c p q w => by omega)) hG) (fun y3 h3 => ?_)
  obtain ⟨b1, b2, b3, b4⟩ := h3
  refine ok_then (turnsC_ok hB2 b1) (fun y4 h4 => ?_)
  obtain ⟨c1, c2, c3, c4⟩ := h4
  exact k y4 c1 c2 (((f1.wk (fun r c w => Or.inl w)).tr (b3.wk (fun r c w => Or.inr w))).tr (c3.wk (fun r c w => by have w2 : r = 61 := w; omega)))
def zdrawn (T : zT3) (v : zV) (a1 : Int32) : Int32 := zsm T (zdw v a1) (ztrn T (zdw v a1))
theorem drawnC_ok {M : mm_M} (h : ShC 1 M.1 v) (hB : zB v) (hT : zTX (37 + 3 * v.ru) T M.1) (hG : zGT T) (a1 : Int32) : Ok (nb_drawn a1 M) (fun y => y.1 = zdrawn T v a1 ∧ zfx zDr M.1 y.2.1) := by
  unfold nb_drawn
  refine drawsC_ok h hB hT hG a1 (fun y p1 p2 p3 => ?_)
  rw [allC_eq (v := zdw v a1) (zdr_B hB a1 v.n) p1 p2]
  exact ok_ret ⟨rfl, p3⟩
/-! the model -/
theorem drawM_l4 (hB : zB v) (x : Int32) : ∀ j k m (M : mm_M), k + j = v.n → j < m → ShM M.1 (zdr v x k) → (∀ q, q < k → M.1 85 q = nI (v.wi q)) → Ok (md_draws_l4 m (zsq x k) (nI k) M) (fun y => ShM y.2.1 (zdw v x) ∧ (∀ q, q < v.n → y.2.1 85 q = nI (v.wi q)) ∧ zfx (fun r c => r = 85 ∨ r = 79) M.1 y.2.1 ∧ y.2.2 = M.2) := by
  have hn := hB.n
  intro j
  induction j with
  | zero =>
    intro k m M hk hm h h85
    obtain ⟨m, rfl, -⟩ := z_suc hm
    rw [md_draws_l4, h.n]
    refine ok_neg (nI_nlt (by show v.n ≤ k; omega) (by omega)) (ok_ret ⟨?_, fun q hq => h85 q (by omega), zfx.rf, rfl⟩)
    unfold zdw
    rw [show v.n = k by omega]
    exact h
  | succ j ih =>
    intro k m M hk hm h h85
    obtain ⟨m, rfl, hm2⟩ := z_suc hm
    have hp : k < v.n := by omega
    rw [md_draws_l4, h.n, nI_1, z5_2]
    refine ok_pos (nI_lt (show k < v.n from hp) (by show v.n < 2 ^ 31; omega)) (ok_pos (zI_inb (by omega) (by omega)) (ok_pos (zI_inb (by omega) (by omega)) (ok_pos (zI_inb (by omega) (by omega)) ?_)))
    rw [zI_nat (show 5 * k + 2 < 2147483648 by omega), zI_nat (show k < 2147483648 by omega)]
    show Ok (md_draws_l4 m (zsq x (k + 1)) (nI (k + 1)) (ak_up (ak_up M.1 85 k (M.1 79 (5 * k + 2))) 79 (5 * k + 2) (zdx (zsq x (k + 1))), M.2)) _
    have ewi : M.1 79 (5 * k + 2) = nI (v.wi k) := by
      have := h.wi k hp
      rw [this]
      show nI (if k < k then _ else v.2 3 k) = _
      rw [if_neg (by omega)]
      rfl
    rw [(zdnn_ok (zsq x (k + 1))).2, ewi]
    have hf0 : zfx (fun r c => r = 85 ∨ r = 79) M.1 (ak_up M.1 85 k (nI (v.wi k))) := zfx.rf.up (Or.inl rfl)
    have hf : zfx (fun r c => r = 85 ∨ r = 79) M.1 (ak_up (ak_up M.1 85 k (nI (v.wi k))) 79 (5 * k + 2) (nI (zdnn (zsq x (k + 1))))) := hf0.up (Or.inr rfl)
    have h85f : zfx (fun r _ => r = 85) M.1 (ak_up M.1 85 k (nI (v.wi k))) := zfx.rf.up rfl
    have h2 : ShM (ak_up (ak_up M.1 85 k (nI (v.wi k))) 79 (5 * k + 2) (nI (zdnn (zsq x (k + 1))))) (zdr v x (k + 1)) := by
      have := ShM_r3 (p := k) (x := zdnn (zsq x (k + 1))) (h.fx h85f (by omega) (by omega) (by omega))
      rw [zdr_s] at this
      exact this
    refine ok_mono (ih (k + 1) m (_, M.2) (by omega) (by omega) h2 (fun q hq => ?_)) (fun y hy => ⟨hy.1, hy.2.1, hf.tr hy.2.2.1, hy.2.2.2⟩)
    show ak_up (ak_up M.1 85 k (nI (v.wi k))) 79 (5 * k + 2) (nI (zdnn (zsq x (k + 1)))) 85 q = _
    rw [ak_up_ne (by decide)]
    by_cases e : q = k
    · rw [e, ak_up_same]
    · rw [ak_up_oth e]; exact h85 q (by omega)
/-- some wishes are back -/
def zbw (v : zV) (x : Int32) (k : Nat) : zV := (v.1, fun r q => if r = 3 then (if q < k then v.2 3 q else zdnn (zsq x (q + 1))) else v.2 r q)
theorem drawM_l68 (hB : zB v) : ∀ j k m (M : mm_M), k + j = v.n → j < m → M.1 73 11 = nI v.n → (∀ q, q < k → M.1 79 (5 * q + 2) = nI (v.wi q)) → (∀ q, q < v.n → M.1 85 q = nI (v.wi q)) → Ok (md_draws_l68 m (nI k) M) (fun y => (∀ q, q < v.n → y.2.1 79 (5 * q + 2) = nI (v.wi q)) ∧ zfx (fun r c => r = 79 ∧ ∃ q, c = 5 * q + 2) M.1 y.2.1 ∧ y.2.2 = M.2) := by
  have hn := hB.n
  intro j
  induction j with
  | zero =>
    intro k m M hk hm h h79 h85
    obtain ⟨m, rfl, -⟩ := z_suc hm
    rw [md_draws_l68, h]
    exact ok_neg (nI_nlt (by omega) (by omega)) (ok_ret ⟨fun q hq => h79 q (by omega), zfx.rf, rfl⟩)
  | succ j ih =>
    intro k m M hk hm h h79 h85
    obtain ⟨m, rfl, hm2⟩ := z_suc hm
    have hp : k < v.n := by omega
    rw [md_draws_l68, h, nI_1, z5_2]
    refine ok_pos (nI_lt (by omega) (by omega)) (ok_pos (zI_inb (by omega) (by omega)) (ok_pos (zI_inb (by omega) (by omega)) ?_))
    rw [zI_nat (show 5 * k + 2 < 2147483648 by omega), zI_nat (show k < 2147483648 by omega), h85 k hp]
    have hf : zfx (fun r c => r = 79 ∧ ∃ q, c = 5 * q + 2) M.1 (ak_up M.1 79 (5 * k + 2) (nI (v.wi k))) := zfx.rf.up ⟨rfl, k, rfl⟩
    refine ok_mono (ih (k + 1) m (_, M.2) (by omega) (by omega) ((hf _ _ (by omega)).trans h) (fun q hq => ?_) (fun q hq => (hf _ _ (by omega)).trans (h85 q hq))) (fun y hy => ⟨hy.1, hf.tr hy.2.1, hy.2.2⟩)
    show ak_up M.1 79 (5 * k + 2) (nI (v.wi k)) 79 (5 * q + 2) = _
    by_cases e : q = k
    · rw [e, ak_up_same]
    · rw [ak_up_oth (by omega)]; exact h79 q (by omega)
abbrev zDm : Nat → Nat → Prop := fun r c => r = 79 ∨ (81 ≤ r ∧ r ≤ 85) ∨ (r = 73 ∧ 12 ≤ c ∧ c ≤ 26)
theorem drawsM_ok {M : mm_M} (h : ShM M.1 v) (hB : zB v) (hT : zTMx v.ru T M.1) (x : Int32) : Ok (md_draws x M) (fun y => ShM y.2.1 v ∧ (∀ p k, p < v.n → k ≤ 8 → y.2.1 82 (9 * p + k) = zgs T (zdw v x) p k) ∧ zDg 84 v.n (ztrn T (zdw v x)) y.2.1 ∧ zfx zDm M.1 y.2.1) := by
  have hn := hB.n
  have hB2 : zB (zdw v x) := zdr_B hB x v.n
  unfold md_draws
  refine ok_then (drawM_l4 hB x v.n 0 300 M (by omega) (by omega) (by rw [zdr_0]; exact h) (fun q hq => by omega)) (fun y1 h1 => ?_)
  obtain ⟨a1, a2, a3, a4⟩ := h1
  refine ok_then (turnsM_ok (v := zdw v x) hB2 a1 (hT.fx a3 (fun r c p q w => by omega))) (fun y2 h2 => ?_)
  obtain ⟨b1, b2, b3⟩ := h2
  have nB : ∀ r c : Nat, zTb r c → (81 ≤ r ∧ r ≤ 84) ∨ (r = 73 ∧ 12 ≤ c ∧ c ≤ 26) := fun r c w => w
  refine ok_then (drawM_l68 hB v.n 0 300 y2.2 (by omega) (by omega) b1.1.n (fun q hq => by omega) (fun q hq => (b3 _ _ (fun w => by have := nB _ _ w; omega)).trans (a2 q hq))) (fun y3 h3 => ok_ret ?_)
  obtain ⟨c1, c2, c3⟩ := h3
  have hS := b1.1
  refine ⟨⟨?_, ?_, ?_, ?_, ?_, fun p hp => ?_, fun p hp => ?_, fun p hp => ?_, fun p hp => c1 p hp, fun p hp => ?_, fun p hp => ?_, fun p hp => ?_⟩, fun p k hp hk => ?_, b2.fx c2 (fun c w => by omega), ((a3.wk (fun r c w => by
    show r = 79 ∨ (81 ≤ r ∧ r ≤ 85) ∨ (r = 73 ∧ 12 ≤ c ∧ c ≤ 26)
    omega)).tr (b3.wk (fun r c w => by
    have := nB _ _ w
    show r = 79 ∨ (81 ≤ r ∧ r ≤ 85) ∨ (r = 73 ∧ 12 ≤ c ∧ c ≤ 26)
    omega))).tr (c2.wk (fun r c w => Or.inl w.1))⟩
  · exact (c2 _ _ (fun w => by omega)).trans hS.n
  · exact (c2 _ _ (fun w => by omega)).trans hS.yr
  · exact (c2 _ _ (fun w => by omega)).trans hS.nd
  · exact (c2 _ _ (fun w => by omega)).trans hS.ky
  · exact (c2 _ _ (fun w => by omega)).trans hS.ru
  · exact (c2 _ _ (fun w => by omega)).trans (hS.kd p hp)
  · exact (c2 _ _ (fun ⟨_, q, w⟩ => by omega)).trans (hS.nu p hp)
  · exact (c2 _ _ (fun ⟨_, q, w⟩ => by omega)).trans (hS.le p hp)
  · exact (c2 _ _ (fun ⟨_, q, w⟩ => by omega)).trans (hS.po p hp)
  · exact (c2 _ _ (fun ⟨_, q, w⟩ => by omega)).trans (hS.bl p hp)
  · exact (c2 _ _ (fun w => by omega)).trans (hS.ap p hp)
  · exact (c2 _ _ (fun w => by omega)).trans (b1.2 p k hp hk).2.1
theorem allM_w {d : Nat → Nat} {g : Nat → Nat → Int32} {M : mm_M} (hB : zB v) (h : M.1 73 11 = nI v.n) (h82 : ∀ p k, p < v.n → k ≤ 8 → M.1 82 (9 * p + k) = g p k) (hd : zDg 84 v.n d M.1) : ∀ j k m, k + j = v.n → j < m → md_allOf_l4 m (zsI (fun p => g p (d p)) k) (nI k) M = some (zsI (fun p => g p (d p)) v.n, M) := by
  have hn := hB.n
  intro j
  induction j with
  | zero =>
    intro k m hk hm
    obtain ⟨m, rfl, -⟩ := z_suc hm
    rw [md_allOf_l4, h, if_neg (nI_nlt (by omega) (by omega)), show k = v.n by omega]
  | succ j ih =>
    intro k m hk hm
    obtain ⟨m, rfl, hm2⟩ := z_suc hm
    have hp : k < v.n := by omega
    have hk8 := (hd k hp).2
    rw [md_allOf_l4, h, if_pos (nI_lt hp (by omega)), if_pos (zI_inb (by omega) (by omega)), zI_nat (show k < 2147483648 by omega), (hd k hp).1, z9b, if_pos (zI_inb (by omega) (by omega)), zI_nat (by omega), h82 k (d k) hp hk8, nI_1]
    exact ih (k + 1) m (by omega) (by omega)
theorem drawnM_ok {M : mm_M} (h : ShM M.1 v) (hB : zB v) (hT : zTMx v.ru T M.1) (a1 : Int32) : Ok (md_drawn a1 M) (fun y => y.1 = zdrawn T v a1 ∧ ShM y.2.1 v ∧ zfx zDm M.1 y.2.1) := by
  have hn := hB.n
  unfold md_drawn
  refine ok_then (drawsM_ok h hB hT a1) (fun y1 h1 => ?_)
  obtain ⟨b1, b2, b3, b4⟩ := h1
  unfold md_allOf
  rw [show md_allOf_l4 300 (0 : Int32) (0 : Int32) y1.2 = _ from allM_w hB b1.n b2 b3 v.n 0 300 (by omega) (by omega)]
  exact ok_ret ⟨rfl, b1, b4⟩
end
