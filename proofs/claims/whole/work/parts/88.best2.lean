/-! level 2: best: the pruned search is the full one -/
section
variable {v : zV} {T : zT3}
theorem zrest (hB : zB v) {d' : Nat → Nat} : ∀ j p, p + j = v.n → (∀ q, p ≤ q → q < p + j → d' q ≤ 8 ∧ zcb T v q (d' q) = true) → (zsm T v d').toInt ≤ (zsI (fun q => zgs T v q (d' q)) p).toInt + (zhp T v j).toInt := by
  have hn := hB.n
  have hb : ∀ k, k < v.n → -((2400 : Nat) : Int) ≤ ((fun q => zgs T v q (d' q)) k).toInt ∧ ((fun q => zgs T v q (d' q)) k).toInt ≤ (2400 : Nat) := fun k hk => zgs_b hB hk
  intro j
  induction j with
  | zero =>
    intro p hp _
    show (zsI _ v.n).toInt ≤ _ + (0 : Int32).toInt
    rw [zi0, show p = v.n by omega]
    omega
  | succ j ih =>
    intro p hp h
    have h1 := ih (p + 1) (by omega) (fun q a b => h q (by omega) (by omega))
    have h2 := zsI_s (c := 2400) (by decide) (n := v.n) (by omega) hb (k := p) (by omega)
    have h3 := (zhp_b (T := T) hB (j + 1) (by omega)).2.2 (by omega)
    obtain ⟨d8, dc⟩ := h p (Nat.le_refl p) (by omega)
    have h4 := (zhm_ok (T := T) hB (p := p) (by omega) 9 0 0 (by rw [zi0]; omega) (by rw [zi0]; omega)).2.2 (d' p) (by omega) (by omega) dc
    rw [show v.n - (j + 1) = p by omega, show j + 1 - 1 = j from rfl] at h3
    have h5 : ((fun q => zgs T v q (d' q)) p).toInt = (zgs T v p (d' p)).toInt := rfl
    omega
theorem zbn_ge (hB : zB v) (fair : Bool) {j p : Nat} {d d' : Nat → Nat} (hp : p + j = v.n) (hn0 : fair = true → 0 < v.n) (h1 : ∀ q, q < p → d' q = d q) (h2 : ∀ q, p ≤ q → q < p + j → d' q ≤ 8 ∧ zcb T v q (d' q) = true) : (zval T v fair d').toInt ≤ (zbn T v fair p (zsI (fun q => zgs T v q (d q)) p) (zmn (fun q => zgs T v q (d q)) p)).toInt := by
  have hn := hB.n
  unfold zval zbn
  cases fair with
  | true =>
    show (zls T v d').toInt ≤ (zmn (fun q => zgs T v q (d q)) p).toInt
    have hz := zgs_b (T := T) hB (p := 0) (k := d' 0) (hn0 rfl)
    rw [zls_mn (hn0 rfl) (by omega), zmn_cg (g := fun q => zgs T v q (d' q)) p (fun q hq => by show zgs T v q (d q) = zgs T v q (d' q); rw [h1 q hq])]
    have := zmn_le (fun q => zgs T v q (d' q)) j p
    rw [hp] at this
    exact this
  | false =>
    show (zsm T v d').toInt ≤ (zsI (fun q => zgs T v q (d q)) p + zhp T v (v.n - p)).toInt
    have h3 := zrest (T := T) hB j p hp h2
    rw [zsI_cg (f := fun q => zgs T v q (d q)) (g := fun q => zgs T v q (d' q)) p (fun q hq => by show zgs T v q (d q) = zgs T v q (d' q); rw [h1 q hq])]
    have hb : ∀ k, k < v.n → -((2400 : Nat) : Int) ≤ ((fun q => zgs T v q (d' q)) k).toInt ∧ ((fun q => zgs T v q (d' q)) k).toInt ≤ (2400 : Nat) := fun k hk => zgs_b hB hk
    have h4 := zsI_b (c := 2400) (by decide) (n := v.n) (by omega) hb p (by omega)
    have h5 := zhp_b (T := T) hB j (by omega)
    have h6 : (p : Int) * ((2400 : Nat) : Int) ≤ 4 * 2400 := Int.mul_le_mul (by omega) (by omega) (by omega) (by omega)
    rw [show v.n - p = j by omega, i_add (by omega) (by omega)]
    exact h3
theorem zex_fl (hB : zB v) (fair : Bool) (hn0 : fair = true → 0 < v.n) : ∀ j p d (B : zBs), p + j = v.n → zhd T v d = true → (∀ q, p ≤ q → d q = 0) → 0 ≤ B.1.toInt → zex T v fair j p (zsI (fun q => zgs T v q (d q)) p) (zmn (fun q => zgs T v q (d q)) p) d B = zfl T v fair j p d B := by
  have hn := hB.n
  intro j
  induction j with
  | zero =>
    intro p d B hp hh h0 hB0
    have e : zbn T v fair p (zsI (fun q => zgs T v q (d q)) p) (zmn (fun q => zgs T v q (d q)) p) = zval T v fair d := by
      unfold zbn zval
      cases fair with
      | true =>
        show zmn _ p = zls T v d
        have hz := zgs_b (T := T) hB (p := 0) (k := d 0) (hn0 rfl)
        rw [zls_mn (hn0 rfl) (by omega), show p = v.n by omega]
      | false =>
        show zsI _ p + zhp T v (v.n - p) = zsm T v d
        rw [show v.n - p = 0 by omega, show p = v.n by omega]
        exact Int32.add_zero _
    show (if B.1 < _ then _ else B) = (if zhd T v d = true ∧ B.1 < zval T v fair d then _ else B)
    rw [e]
    by_cases g : B.1 < zval T v fair d
    · rw [if_pos g, if_pos ⟨hh, g⟩]
    · rw [if_neg g, if_neg (fun z => g z.2)]
  | succ j ih =>
    intro p d B hp hh h0 hB0
    have hpn : p < v.n := by omega
    have hd0 := h0 p (Nat.le_refl p)
    by_cases g : B.1 < zbn T v fair p (zsI (fun q => zgs T v q (d q)) p) (zmn (fun q => zgs T v q (d q)) p)
    · have e1 : zex T v fair (j + 1) p (zsI (fun q => zgs T v q (d q)) p) (zmn (fun q => zgs T v q (d q)) p) d B = zexk (fun k B => if zcan T v d p k = true then zex T v fair j (p + 1) ((zsI (fun q => zgs T v q (d q)) p) + zgs T v p k) (i_min (zmn (fun q => zgs T v q (d q)) p) (zgs T v p k)) (zdo d p k) B else B) 0 9 B := if_pos g
      rw [e1]
      show _ = zexk (fun k B => if zcb T v p k = true then zfl T v fair j (p + 1) (zdo d p k) B else B) 0 9 B
      have gen : ∀ m k (B : zBs), k + m = 9 → 0 ≤ B.1.toInt → zexk (fun k B => if zcan T v d p k = true then zex T v fair j (p + 1) ((zsI (fun q => zgs T v q (d q)) p) + zgs T v p k) (i_min (zmn (fun q => zgs T v q (d q)) p) (zgs T v p k)) (zdo d p k) B else B) k m B = zexk (fun k B => if zcb T v p k = true then zfl T v fair j (p + 1) (zdo d p k) B else B) k m B := by
        intro m
        induction m with
        | zero => intro k B _ _; rfl
        | succ m ihm =>
          intro k B hk hB1
          show zexk _ (k + 1) m (if zcan T v d p k = true then zex T v fair j (p + 1) ((zsI (fun q => zgs T v q (d q)) p) + zgs T v p k) (i_min (zmn (fun q => zgs T v q (d q)) p) (zgs T v p k)) (zdo d p k) B else B) = zexk _ (k + 1) m (if zcb T v p k = true then zfl T v fair j (p + 1) (zdo d p k) B else B)
          have agree : ∀ q, q < p → d q = zdo d p k q := fun q hq => by unfold zdo; rw [if_neg (by omega)]
          have a2' : (zsI (fun q => zgs T v q (d q)) p) + zgs T v p k = zsI (fun q => zgs T v q (zdo d p k q)) (p + 1) := by
            show _ = zsI _ p + zgs T v p (zdo d p k p)
            rw [zsI_cg (g := fun q => zgs T v q (zdo d p k q)) p (fun q hq => by show zgs T v q (d q) = _; rw [agree q hq])]
            congr 2
            unfold zdo
            rw [if_pos rfl]
          have a3' : i_min (zmn (fun q => zgs T v q (d q)) p) (zgs T v p k) = zmn (fun q => zgs T v q (zdo d p k q)) (p + 1) := by
            show _ = i_min (zmn _ p) (zgs T v p (zdo d p k p))
            rw [zmn_cg (g := fun q => zgs T v q (zdo d p k q)) p (fun q hq => by show zgs T v q (d q) = _; rw [agree q hq]), show zdo d p k p = k from if_pos rfl]
          have step : (if zcan T v d p k = true then zex T v fair j (p + 1) ((zsI (fun q => zgs T v q (d q)) p) + zgs T v p k) (i_min (zmn (fun q => zgs T v q (d q)) p) (zgs T v p k)) (zdo d p k) B else B) = (if zcb T v p k = true then zfl T v fair j (p + 1) (zdo d p k) B else B) := by
            by_cases c : zcan T v d p k = true
            · have c2 : zcb T v p k = true := by
                unfold zcan at c
                rw [Bool.and_eq_true] at c
                exact c.1
              rw [if_pos c, if_pos c2, a2', a3']
              refine ih (p + 1) (zdo d p k) B (by omega) (by rw [zcan_eq hpn hd0 hh]; exact c) (fun q hq => ?_) hB1
              unfold zdo
              rw [if_neg (by omega)]
              exact h0 q (by omega)
            · rw [if_neg c]
              by_cases c2 : zcb T v p k = true
              · rw [if_pos c2]
                refine (zfl_id fair j (p + 1) (zdo d p k) (fun d' h1 h2 h3 => ?_)).symm
                exfalso
                refine c ?_
                rw [← zcan_eq hpn hd0 hh]
                refine zhd_mono hB (d := d') (fun q hq => ?_) h3
                by_cases e : q < p + 1
                · exact Or.inl (h1 q e).symm
                · refine Or.inr ?_
                  unfold zdo
                  rw [if_neg (by omega)]
                  exact h0 q (by omega)
              · rw [if_neg c2]
          rw [step]
          refine ihm (k + 1) _ (by omega) ?_
          split
          · exact Int.le_trans hB1 (zfl_le fair j (p + 1) _ B)
          · exact hB1
      exact gen 9 0 B (by decide) hB0
    · have e1 : zex T v fair (j + 1) p (zsI (fun q => zgs T v q (d q)) p) (zmn (fun q => zgs T v q (d q)) p) d B = B := if_neg g
      rw [e1]
      refine (zfl_id fair (j + 1) p d (fun d' h1 h2 h3 h4 => g ?_)).symm
      have := zbn_ge (T := T) hB fair (d := d) hp hn0 h1 h2
      rw [i_lt] at h4 ⊢
      omega
theorem zfl_val (fair : Bool) : ∀ j p d (B : zBs), B.1 = zval T v fair B.2 → (zfl T v fair j p d B).1 = zval T v fair (zfl T v fair j p d B).2 := by
  intro j
  induction j with
  | zero =>
    intro p d B h
    show (if zhd T v d = true ∧ B.1 < zval T v fair d then (zval T v fair d, d) else B).1 = zval T v fair (if zhd T v d = true ∧ B.1 < zval T v fair d then (zval T v fair d, d) else B).2
    split
    · rfl
    · exact h
  | succ j ih =>
    intro p d B h
    have gen : ∀ m k (B : zBs), B.1 = zval T v fair B.2 → (zexk (fun k B => if zcb T v p k = true then zfl T v fair j (p + 1) (zdo d p k) B else B) k m B).1 = zval T v fair (zexk (fun k B => if zcb T v p k = true then zfl T v fair j (p + 1) (zdo d p k) B else B) k m B).2 := by
      intro m
      induction m with
      | zero => intro k B h; exact h
      | succ m ihm =>
        intro k B h
        refine ihm (k + 1) _ ?_
        show (if zcb T v p k = true then zfl T v fair j (p + 1) (zdo d p k) B else B).1 = zval T v fair (if zcb T v p k = true then zfl T v fair j (p + 1) (zdo d p k) B else B).2
        split
        · exact ih _ _ _ h
        · exact h
    exact gen 9 0 B h
theorem zval_0 (fair : Bool) : zval T v fair zd0 = 0 := by
  have hz : ∀ k, zsI (fun p => zgs T v p (zd0 p)) k = 0 := by
    intro k
    induction k with
    | zero => rfl
    | succ k ih =>
      show zsI _ k + zgs T v k 0 = 0
      rw [ih, zgs_0]
      rfl
  unfold zval
  cases fair with
  | false => exact hz v.n
  | true =>
    show zls T v zd0 = 0
    by_cases c : v.n = 0
    · unfold zls; rw [if_pos c]
    · have hz : (zgs T v 0 (zd0 0)).toInt ≤ 100000 := by
        show (zgs T v 0 0).toInt ≤ 100000
        rw [zgs_0, zi0]
        decide
      rw [zls_mn (by omega) hz]
      have hm : ∀ k, zmn (fun p => zgs T v p (zd0 p)) (k + 1) = 0 := by
        intro k
        induction k with
        | zero => rw [zmn_1 (fun p => zgs T v p (zd0 p)) hz]; exact zgs_0 T v 0
        | succ k ih =>
          show i_min (zmn _ (k + 1)) (zgs T v (k + 1) 0) = 0
          rw [ih, zgs_0]
          rfl
      have := hm (v.n - 1)
      rw [show v.n - 1 + 1 = v.n by omega] at this
      exact this
/-- the best plan -/
def zbst (T : zT3) (v : zV) (fair : Bool) : Nat → Nat := (zfl T v fair v.n 0 zd0 (0, zd0)).2
def zbest (T : zT3) (v : zV) (a1 : Int32) : Int32 := if a1.toInt = 0 then nI (zdg (zbst T v false) v.n) else if a1.toInt = 1 then zsm T v (zbst T v false) else if a1.toInt = 2 then nI (zdg (zbst T v true) v.n) else if a1.toInt = 3 then zls T v (zbst T v true) else -100000
theorem zbst_C (hB : zB v) (fair : Bool) : (zex T v fair v.n 0 0 100000 zd0 (0, zd0)).2 = zbst T v fair := by
  by_cases c : fair = true → 0 < v.n
  · have := zex_fl (T := T) hB fair c v.n 0 zd0 (0, zd0) (by omega) (zhd_0 hB) (fun _ _ => rfl) (by show 0 ≤ (0 : Int32).toInt; rw [zi0]; omega)
    show (zex T v fair v.n 0 (zsI (fun q => zgs T v q (zd0 q)) 0) (zmn (fun q => zgs T v q (zd0 q)) 0) zd0 (0, zd0)).2 = _
    rw [this]
    rfl
  · have hn : v.n = 0 := by
      cases fair with
      | true =>
        have : ¬ 0 < v.n := fun w => c (fun _ => w)
        omega
      | false => exact absurd (fun z : false = true => by cases z) c
    unfold zbst
    rw [hn]
    show (if (0 : Int32) < _ then (_, zd0) else (0, zd0)).2 = (if zhd T v zd0 = true ∧ (0 : Int32) < zval T v fair zd0 then (_, zd0) else ((0 : Int32), zd0)).2
    split <;> split <;> rfl
theorem zbst_M (hB : zB v) (fair : Bool) : zsk T v fair v.n 0 zd0 none = some (zval T v fair (zbst T v fair), zbst T v fair) := by
  rw [zsk_none fair (zhd_0 hB) v.n 0 (fun _ _ => rfl), zval_0]
  have := zfl_val (T := T) (v := v) fair v.n 0 zd0 (0, zd0) (zval_0 fair).symm
  unfold zbst
  rw [← this]
end
