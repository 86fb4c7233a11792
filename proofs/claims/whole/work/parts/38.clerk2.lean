theorem z_clr {a q : Nat} (ha : a < 16) (hq : q < 4) (hb : a.testBit q = false) : nI a &&& (((1 : Int32) <<< (nI q &&& 31)) ^^^ (-1 : Int32)) = nI a := by
  have f : ∀ q < 4, ∀ a < 16, a.testBit q = false → nI a &&& (((1 : Int32) <<< (nI q &&& 31)) ^^^ (-1 : Int32)) = nI a := by decide +kernel
  exact f q hq a ha hb
theorem z_clr0 {a q : Nat} (ha : a < 16) (hq : q < 4) (hb : a.testBit q = false) : (nI a &&& (((1 : Int32) <<< (nI q &&& 31)) ^^^ (-1 : Int32))) ||| ((0 : Int32) <<< (nI q &&& 31)) = nI a := by
  have f : ∀ q < 4, ∀ a < 16, a.testBit q = false → (nI a &&& (((1 : Int32) <<< (nI q &&& 31)) ^^^ (-1 : Int32))) ||| ((0 : Int32) <<< (nI q &&& 31)) = nI a := by decide +kernel
  exact f q hq a ha hb
/-- one who is apart from nobody is parted from nobody again -/
theorem setApart_0 {M : mm_M} {v : zV} (h : ShC 1 M.1 v) (hB : zB v) {p q : Nat} (hp : p < v.n) (hq : q < v.n) (hz : v.ap p = 0) : sh_setApart 1 (nI p) (nI q) (0 : Int32) M = some ((), M) := by
  have hn := hB.n
  have h4p : ak_inb (nI p) 4 = true := zI_inb (by omega) (by omega)
  have h4q : ak_inb (nI q) 4 = true := zI_inb (by omega) (by omega)
  have tp : (nI p).toNatClampNeg = p := zI_nat (by omega)
  have tq : (nI q).toNatClampNeg = q := zI_nat (by omega)
  have e1 : M.1 8 p = nI (v.ap p) := h.ap p (by omega)
  have e2 : M.1 8 q = nI (v.ap q) := h.ap q (by omega)
  have b1 : (v.ap p).testBit q = false := by rw [hz]; exact Nat.zero_testBit q
  have b2 : (v.ap q).testBit p = false := by rw [← hB.as p q (by omega) (by omega)]; exact b1
  unfold sh_setApart
  rw [isOneC_eq h hB, bI_t ((z_ii (by omega)).mpr hp)]
  simp only [Option.bind_some]
  rw [if_neg (by decide), isOneC_eq h hB, bI_t ((z_ii (by omega)).mpr hq)]
  simp only [Option.bind_some]
  rw [if_neg (by decide), if_pos True.intro, if_pos h4p, if_pos h4p, if_pos True.intro, if_pos h4q, if_pos h4q, tp, tq]
  have s1 : ak_up M.1 (1 + 7) p ((M.1 (1 + 7) p) &&& (((1 : Int32) <<< (nI q &&& 31)) ^^^ (-1 : Int32))) = M.1 := up_self (by rw [show M.1 (1 + 7) p = nI (v.ap p) from e1]; exact (z_clr (hB.ap p (by omega)) (by omega) b1).symm)
  rw [s1]
  have s2 : ak_up M.1 (1 + 7) q ((M.1 (1 + 7) q) &&& (((1 : Int32) <<< (nI p &&& 31)) ^^^ (-1 : Int32))) = M.1 := up_self (by rw [show M.1 (1 + 7) q = nI (v.ap q) from e2]; exact (z_clr (hB.ap q (by omega)) (by omega) b2).symm)
  rw [s2]
theorem welcome_l {M : mm_M} {v : zV} (h : ShC 1 M.1 v) (hB : zB v) {p : Nat} (hp : p < v.n) (hz : v.ap p = 0) : ∀ j k n, k + j = v.n → j < n → sh_welcome_l78 n 1 (nI p) (nI k) M = some ((), M) := by
  have hn := hB.n
  intro j
  induction j with
  | zero =>
    intro k n hk hj
    obtain ⟨m, rfl, -⟩ := z_suc hj
    rw [sh_welcome_l78, h.n, if_neg (nI_nlt (by omega) (by omega))]
  | succ j ih =>
    intro k n hk hj
    obtain ⟨m, rfl, hm⟩ := z_suc hj
    have hk1 : k < v.n := by omega
    rw [sh_welcome_l78, h.n, if_pos (nI_lt hk1 (by omega)), nI_1, setApart_0 h hB hp hk1 hz]
    exact ih (k + 1) m (by omega) (by omega)
theorem parts_0 {M : mm_M} {v : zV} (h : ShM M.1 v) (hB : zB v) {p q : Nat} (hp : p < 4) (hq : q < 4) (hz : v.ap p = 0) : md_parts (nI p) (nI q) (0 : Int32) M = some ((), M) := by
  have h4p : ak_inb (nI p) 4 = true := zI_inb (by omega) (by omega)
  have h4q : ak_inb (nI q) 4 = true := zI_inb (by omega) (by omega)
  have tp : (nI p).toNatClampNeg = p := zI_nat (by omega)
  have tq : (nI q).toNatClampNeg = q := zI_nat (by omega)
  have e1 : M.1 80 p = nI (v.ap p) := h.ap p (by omega)
  have e2 : M.1 80 q = nI (v.ap q) := h.ap q (by omega)
  have b1 : (v.ap p).testBit q = false := by rw [hz]; exact Nat.zero_testBit q
  have b2 : (v.ap q).testBit p = false := by rw [← hB.as p q (by omega) (by omega)]; exact b1
  unfold md_parts
  rw [if_pos h4p, if_pos h4p, if_pos h4q, if_pos h4q, tp, tq]
  have s1 : ak_up M.1 80 p (((M.1 80 p) &&& (((1 : Int32) <<< (nI q &&& 31)) ^^^ (-1 : Int32))) ||| ((0 : Int32) <<< (nI q &&& 31))) = M.1 := up_self (by rw [e1]; exact (z_clr0 (hB.ap p (by omega)) (by omega) b1).symm)
  rw [s1]
  have s2 : ak_up M.1 80 q (((M.1 80 q) &&& (((1 : Int32) <<< (nI p &&& 31)) ^^^ (-1 : Int32))) ||| ((0 : Int32) <<< (nI p &&& 31))) = M.1 := up_self (by rw [e2]; exact (z_clr0 (hB.ap q (by omega)) (by omega) b2).symm)
  rw [s2]
theorem zA_1 (a : Nat) : nI a + (1 : Int32) = nI (a + 1) := nI_add a 1
theorem zA_2 (a : Nat) : nI a + (2 : Int32) = nI (a + 2) := nI_add a 2
theorem zA_3 (a : Nat) : nI a + (3 : Int32) = nI (a + 3) := nI_add a 3
theorem zA_4 (a : Nat) : nI a + (4 : Int32) = nI (a + 4) := nI_add a 4
/-- who may come -/
def zcok (a1 a2 a3 : Int32) : Prop := (0 ≤ a1.toInt ∧ a1.toInt ≤ 5) ∧ (0 ≤ a2.toInt ∧ a2.toInt ≤ 9) ∧ 1 ≤ a3.toInt ∧ a3.toInt ≤ 4
/-- what clerk answers, and the shop then -/
def zclerk (v : zV) (a1 a2 a3 : Int32) : Int32 × zV := if v.n < 4 then (nI v.n, zjoin v a1.toInt.toNat a2.toInt.toNat a3.toInt.toNat) else (-4, v)
theorem clerk_C {M : mm_M} {v : zV} (h : ShC 1 M.1 v) (hB : zB v) (a1 a2 a3 : Int32) : Ok (nb_clerk a1 a2 a3 M) (fun y => ((zcok a1 a2 a3 → y.1 = (zclerk v a1 a2 a3).1 ∧ ShC 1 y.2.1 (zclerk v a1 a2 a3).2) ∧ (¬ zcok a1 a2 a3 → y.1 = -2 ∧ y.2 = M)) ∧ Fr z18 M.1 y.2.1 ∧ y.2.2 = M.2) := by
  have hn := hB.n
  have no : ¬ zcok a1 a2 a3 → Ok (some ((-2 : Int32), M)) (fun y => ((zcok a1 a2 a3 → y.1 = (zclerk v a1 a2 a3).1 ∧ ShC 1 y.2.1 (zclerk v a1 a2 a3).2) ∧ (¬ zcok a1 a2 a3 → y.1 = -2 ∧ y.2 = M)) ∧ Fr z18 M.1 y.2.1 ∧ y.2.2 = M.2) := fun c => ok_ret ⟨⟨fun z => absurd z c, fun _ => ⟨rfl, rfl⟩⟩, Fr.rfl', rfl⟩
  unfold nb_clerk
  simp only [i_lt, zi0, show (6 : Int32).toInt = 6 from rfl, show (10 : Int32).toInt = 10 from rfl, show (1 : Int32).toInt = 1 from rfl, show (4 : Int32).toInt = 4 from rfl]
  refine ok_ite (fun c => no (fun z => by have := z.1; omega)) (fun c1 => ?_)
  refine ok_ite (fun c2 => ?_) (fun c => no (fun z => by have := z.1; omega))
  refine ok_ite (fun c => no (fun z => by have := z.2.1; omega)) (fun c3 => ?_)
  refine ok_ite (fun c4 => ?_) (fun c => no (fun z => by have := z.2.1; omega))
  refine ok_ite (fun c => no (fun z => by have := z.2.2; omega)) (fun c5 => ?_)
  refine ok_ite (fun c => no (fun z => by have := z.2.2; omega)) (fun c6 => ?_)
  have hok : zcok a1 a2 a3 := ⟨⟨by omega, by omega⟩, ⟨by omega, by omega⟩, by omega, by omega⟩
  obtain ⟨a, ha, rfl, ea⟩ := zI_of (x := a1) (by omega)
  obtain ⟨b, hb, rfl, eb⟩ := zI_of (x := a2) (by omega)
  obtain ⟨c, hc, rfl, ec⟩ := zI_of (x := a3) (by omega)
  have ean : (nI a).toInt.toNat = a := by omega
  have ebn : (nI b).toInt.toNat = b := by omega
  have ecn : (nI c).toInt.toNat = c := by omega
  unfold sh_welcome
  rw [h.n]
  have tn : (nI v.n).toNatClampNeg = v.n := zI_nat (by omega)
  by_cases hf : v.n < 4
  · have g : nI v.n < (4 : Int32) := nI_lt hf (by decide)
    have i4 : ak_inb (nI v.n) 4 = true := zI_inb (by omega) hf
    have hJ := ShC_join h hf a b c
    have hBJ := zjoin_B hB hf (a := a) (b := b) (c := c) (by omega) (by omega) ⟨by omega, by omega⟩
    have hl := welcome_l (M := (ak_up (ak_up (ak_up (ak_up (ak_up (ak_up (ak_up M.1 1 4 (nI (v.n + 1))) 2 v.n (nI a)) 3 v.n (nI b)) 4 v.n (nI c)) 5 v.n (0 : Int32)) 6 v.n (0 : Int32)) 7 v.n (-1 : Int32), M.2)) hJ hBJ (p := v.n) (by rw [zjoin_n]; omega) (hB.az v.n (by omega) (Nat.le_refl _)) (v.n + 1) 0 300 (by rw [zjoin_n]; omega) (by omega)
    rw [if_pos g, if_pos i4, if_pos i4, if_pos i4, if_pos i4, if_pos i4, if_pos i4, tn, nI_1]
    have hl' : sh_welcome_l78 300 1 (nI v.n) (0 : Int32) (ak_up (ak_up (ak_up (ak_up (ak_up (ak_up (ak_up M.1 1 4 (nI (v.n + 1))) (1 + 1) v.n (nI a)) (1 + 2) v.n (nI b)) (1 + 3) v.n (nI c)) (1 + 4) v.n (0 : Int32)) (1 + 5) v.n (0 : Int32)) (1 + 6) v.n (-1 : Int32), M.2) = some ((), (ak_up (ak_up (ak_up (ak_up (ak_up (ak_up (ak_up M.1 1 4 (nI (v.n + 1))) 2 v.n (nI a)) 3 v.n (nI b)) 4 v.n (nI c)) 5 v.n (0 : Int32)) 6 v.n (0 : Int32)) 7 v.n (-1 : Int32), M.2)) := hl
    rw [hl']
    refine ok_ret ⟨⟨fun _ => ⟨?_, ?_⟩, fun z => absurd hok z⟩, ((((((Fr.rfl'.up rfl).up rfl).up rfl).up rfl).up rfl).up rfl).up rfl, rfl⟩
    · unfold zclerk
      rw [if_pos hf]
    · unfold zclerk
      rw [if_pos hf, ean, ebn, ecn]
      exact hJ
  · have g : ¬ nI v.n < (4 : Int32) := nI_nlt (show 4 ≤ v.n by omega) (by omega)
    rw [if_neg g]
    refine ok_ret ⟨⟨fun _ => ?_, fun z => absurd hok z⟩, Fr.rfl', rfl⟩
    unfold zclerk
    rw [if_neg hf]
    exact ⟨rfl, h⟩
theorem clerkM_l {M : mm_M} {v : zV} (h : ShM M.1 v) (hB : zB v) (hf : v.n < 4) : ∀ j k n, k + j = 4 → j < n → md_clerk_l131 n (nI k) M = some ((), M) := by
  intro j
  induction j with
  | zero =>
    intro k n hk hj
    obtain ⟨m, rfl, -⟩ := z_suc hj
    have g : ¬ nI k < (4 : Int32) := nI_nlt (show 4 ≤ k by omega) (by omega)
    rw [md_clerk_l131, if_neg g]
  | succ j ih =>
    intro k n hk hj
    obtain ⟨m, rfl, hm⟩ := z_suc hj
    have g : nI k < (4 : Int32) := nI_lt (show k < 4 by omega) (by decide)
    rw [md_clerk_l131, if_pos g, h.n, nI_1, parts_0 h hB hf (by omega) (hB.az v.n hf (Nat.le_refl _))]
    exact ih (k + 1) m (by omega) (by omega)
theorem b_of {p : Prop} [Decidable p] (h : ¬ bI p = 0) : p := by
  by_cases c : p
  · exact c
  · exact absurd (bI_0.mpr c) h
/-- rows of a shop that isn't one of its people's yet say nothing of it -/
theorem ShM_pre {σ : Nat → Nat → Int32} {v : zV} (h : ShM σ v) (a b c : Nat) : ShM (ak_up (ak_up (ak_up (ak_up (ak_up (ak_up σ 78 v.n (nI a)) 79 (5 * v.n) (nI b)) 79 (5 * v.n + 1) (nI c)) 79 (5 * v.n + 2) (0 : Int32)) 79 (5 * v.n + 3) (0 : Int32)) 79 (5 * v.n + 4) (-1 : Int32)) v := by
  refine ⟨?_, ?_, ?_, ?_, ?_, ?_, ?_, ?_, ?_, ?_, ?_, ?_⟩
  · simp [up_ap]; exact h.n
  · simp [up_ap]; exact h.yr
  · simp [up_ap]; exact h.nd
  · simp [up_ap]; exact h.ky
  · simp [up_ap]; exact h.ru
  · intro q hq
    simp only [up_ap]
    repeat' split
    all_goals first
      | omega
      | exact h.kd q hq
  · intro q hq
    simp only [up_ap]
    repeat' split
    all_goals first
      | omega
      | exact h.nu q hq
  · intro q hq
    simp only [up_ap]
    repeat' split
    all_goals first
      | omega
      | exact h.le q hq
  · intro q hq
    simp only [up_ap]
    repeat' split
    all_goals first
      | omega
      | exact h.wi q hq
  · intro q hq
    simp only [up_ap]
    repeat' split
    all_goals first
      | omega
      | exact h.po q hq
  · intro q hq
    simp only [up_ap]
    repeat' split
    all_goals first
      | omega
      | exact h.bl q hq
  · intro q hq
    simp [up_ap]
    exact h.ap q hq
def zMo (r : Nat) : Bool := decide (73 ≤ r)
theorem clerk_M {M : mm_M} {v : zV} (h : ShM M.1 v) (hB : zB v) (a1 a2 a3 : Int32) : Ok (md_clerk a1 a2 a3 M) (fun y => ((zcok a1 a2 a3 → y.1 = (zclerk v a1 a2 a3).1 ∧ ShM y.2.1 (zclerk v a1 a2 a3).2) ∧ (¬ zcok a1 a2 a3 → y.1 = -2 ∧ y.2 = M)) ∧ (∀ r, r ≠ 78 → r ≠ 79 → r ≠ 73 → y.2.1 r = M.1 r) ∧ (∀ j, j ≠ 11 → y.2.1 73 j = M.1 73 j) ∧ y.2.2 = M.2) := by
  have hn := hB.n
  have no : ¬ zcok a1 a2 a3 → Ok (some ((-2 : Int32), M)) (fun y => ((zcok a1 a2 a3 → y.1 = (zclerk v a1 a2 a3).1 ∧ ShM y.2.1 (zclerk v a1 a2 a3).2) ∧ (¬ zcok a1 a2 a3 → y.1 = -2 ∧ y.2 = M)) ∧ (∀ r, r ≠ 78 → r ≠ 79 → r ≠ 73 → y.2.1 r = M.1 r) ∧ (∀ j, j ≠ 11 → y.2.1 73 j = M.1 73 j) ∧ y.2.2 = M.2) := fun c => ok_ret ⟨⟨fun z => absurd z c, fun _ => ⟨rfl, rfl⟩⟩, fun _ _ _ _ => rfl, fun _ _ => rfl, rfl⟩
  unfold md_clerk
  simp only [in_eq, Option.bind_some, Int32.toInt_toInt64, show (0 : Int64).toInt = 0 from rfl, show (5 : Int64).toInt = 5 from rfl, show (9 : Int64).toInt = 9 from rfl, show (1 : Int64).toInt = 1 from rfl, show (4 : Int64).toInt = 4 from rfl]
  refine ok_ite (fun c => no (fun z => bI_0.mp c z.1)) (fun c1 => ?_)
  refine ok_ite (fun c => no (fun z => bI_0.mp c z.2.1)) (fun c2 => ?_)
  refine ok_ite (fun c => no (fun z => bI_0.mp c z.2.2)) (fun c3 => ?_)
  have k1 := b_of c1
  have k2 := b_of c2
  have k3 := b_of c3
  have hok : zcok a1 a2 a3 := ⟨k1, k2, k3⟩
  obtain ⟨a, ha, rfl, ea⟩ := zI_of (x := a1) (by omega)
  obtain ⟨b, hb, rfl, eb⟩ := zI_of (x := a2) (by omega)
  obtain ⟨c, hc, rfl, ec⟩ := zI_of (x := a3) (by omega)
  have ean : (nI a).toInt.toNat = a := by omega
  have ebn : (nI b).toInt.toNat = b := by omega
  have ecn : (nI c).toInt.toNat = c := by omega
  have n4 : nI v.n = (4 : Int32) ↔ v.n = 4 := nI_eq (b := 4) (by omega) (by decide)
  rw [h.n]
  refine ok_ite (fun cc => ?_) (fun cc => ?_)
  · refine ok_ret ⟨⟨fun _ => ?_, fun z => absurd hok z⟩, fun _ _ _ _ => rfl, fun _ _ => rfl, rfl⟩
    unfold zclerk
    rw [if_neg (by have := n4.mp cc; omega)]
    exact ⟨rfl, h⟩
  have hf : v.n < 4 := by
    have : ¬ v.n = 4 := fun e => cc (n4.mpr e)
    omega
  have tn : (nI v.n).toNatClampNeg = v.n := zI_nat (by omega)
  have t0 : (nI (5 * v.n)).toNatClampNeg = 5 * v.n := zI_nat (by omega)
  have t1 : (nI (5 * v.n + 1)).toNatClampNeg = 5 * v.n + 1 := zI_nat (by omega)
  have t2 : (nI (5 * v.n + 2)).toNatClampNeg = 5 * v.n + 2 := zI_nat (by omega)
  have t3 : (nI (5 * v.n + 3)).toNatClampNeg = 5 * v.n + 3 := zI_nat (by omega)
  have t4 : (nI (5 * v.n + 4)).toNatClampNeg = 5 * v.n + 4 := zI_nat (by omega)
  simp only [ak_up_ne (show (73 : Nat) ≠ 78 by decide), ak_up_ne (show (73 : Nat) ≠ 79 by decide), h.n, tn, zA_1, zA_2, zA_3, zA_4, z5_0, t0, t1, t2, t3, t4]
  rw [if_pos (zI_inb (by omega) (by omega)), if_pos (zI_inb (by omega) (by omega)), if_pos (zI_inb (by omega) (by omega)), if_pos (zI_inb (by omega) (by omega)), if_pos (zI_inb (by omega) (by omega)), if_pos (zI_inb (by omega) (by omega))]
  have hl := clerkM_l (M := (ak_up (ak_up (ak_up (ak_up (ak_up (ak_up M.1 78 v.n (nI a)) 79 (5 * v.n) (nI b)) 79 (5 * v.n + 1) (nI c)) 79 (5 * v.n + 2) (0 : Int32)) 79 (5 * v.n + 3) (0 : Int32)) 79 (5 * v.n + 4) (-1 : Int32), M.2)) (ShM_pre h a b c) hB hf 4 0 300 (by omega) (by omega)
  rw [show (0 : Int32) = nI 0 from rfl] at hl ⊢
  rw [hl]
  simp only [Option.bind_some, ak_up_ne (show (73 : Nat) ≠ 78 by decide), ak_up_ne (show (73 : Nat) ≠ 79 by decide), h.n, nI_1, ak_up_same]
  refine ok_ret ⟨⟨fun _ => ⟨?_, ?_⟩, fun z => absurd hok z⟩, ?_, ?_, rfl⟩
  · unfold zclerk
    rw [if_pos hf]
    exact nI_pred v.n
  · unfold zclerk
    rw [if_pos hf, ean, ebn, ecn]
    exact ShM_join h hf a b c
  · intro r h1 h2 h3
    show ak_up _ 73 _ _ r = _
    rw [ak_up_ne h3, ak_up_ne h2, ak_up_ne h2, ak_up_ne h2, ak_up_ne h2, ak_up_ne h2, ak_up_ne h1]
  · intro j hj
    show ak_up _ 73 11 _ 73 j = _
    rw [ak_up_oth hj]
    simp only [ak_up_ne (show (73 : Nat) ≠ 78 by decide), ak_up_ne (show (73 : Nat) ≠ 79 by decide)]
