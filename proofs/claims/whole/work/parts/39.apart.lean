/-! level 2: apart -/
def zsb (a q x : Nat) : Nat := if x = 1 then a ||| 2 ^ q else a &&& (15 ^^^ 2 ^ q)
def zpart (v : zV) (p q x : Nat) : zV := (v.1, fun k r => if k = 6 then (if r = q then zsb (v.ap q) p x else if r = p then zsb (v.ap p) q x else v.ap r) else v.2 k r)
theorem zpart_ap (v : zV) (p q x r : Nat) : (zpart v p q x).ap r = if r = q then zsb (v.ap q) p x else if r = p then zsb (v.ap p) q x else v.ap r := rfl
theorem zsb_lt {a q x : Nat} (ha : a < 16) (hq : q < 4) : zsb a q x < 16 := by
  have f : ∀ q < 4, ∀ a < 16, a ||| 2 ^ q < 16 ∧ a &&& (15 ^^^ 2 ^ q) < 16 := by decide +kernel
  unfold zsb
  split
  · exact (f q hq a ha).1
  · exact (f q hq a ha).2
theorem zsb_bit {a q x r : Nat} (ha : a < 16) (hq : q < 4) (hr : r < 4) : (zsb a q x).testBit r = if r = q then decide (x = 1) else a.testBit r := by
  have f : ∀ r < 4, ∀ q < 4, ∀ a < 16, (a ||| 2 ^ q).testBit r = (if r = q then true else a.testBit r) ∧ (a &&& (15 ^^^ 2 ^ q)).testBit r = (if r = q then false else a.testBit r) := by decide +kernel
  unfold zsb
  by_cases c : x = 1
  · rw [if_pos c, (f r hr q hq a ha).1]; simp [c]
  · rw [if_neg c, (f r hr q hq a ha).2]; simp [c]
theorem zpart_B {v : zV} (hB : zB v) {p q x : Nat} (hp : p < v.n) (hq : q < v.n) (hpq : p ≠ q) : zB (zpart v p q x) := by
  have hn := hB.n
  refine ⟨hB.n, hB.yr, hB.nd, hB.ky, hB.ru, hB.kd, hB.nu, hB.le, hB.wi, hB.po, hB.bl, ?_, ?_, ?_, ?_⟩
  · intro r hr
    rw [zpart_ap]
    repeat' split
    · exact zsb_lt (hB.ap q (by omega)) (by omega)
    · exact zsb_lt (hB.ap p (by omega)) (by omega)
    · exact hB.ap r hr
  · intro r hr hz
    have hz : v.n ≤ r := hz
    rw [zpart_ap, if_neg (by omega), if_neg (by omega)]
    exact hB.az r hr hz
  · intro r s hr hs
    rw [zpart_ap, zpart_ap]
    have a1 := hB.ap p (by omega)
    have a2 := hB.ap q (by omega)
    by_cases c1 : r = q
    · subst c1
      rw [if_pos rfl, zsb_bit a2 (by omega) hs]
      by_cases c2 : s = r
      · subst c2
        rw [if_pos rfl, zsb_bit a2 (by omega) hs]
      · rw [if_neg c2]
        by_cases c3 : s = p
        · subst c3
          rw [if_pos rfl, if_pos rfl, zsb_bit a1 (by omega) hr, if_pos rfl]
        · rw [if_neg c3, if_neg c3]
          exact hB.as r s hr hs
    · rw [if_neg c1]
      by_cases c2 : r = p
      · subst c2
        rw [if_pos rfl, zsb_bit a1 (by omega) hs]
        by_cases c3 : s = q
        · subst c3
          rw [if_pos rfl, if_pos rfl, zsb_bit a2 (by omega) hr, if_pos rfl]
        · rw [if_neg c3, if_neg c3]
          by_cases c4 : s = r
          · subst c4
            rw [if_pos rfl, zsb_bit a1 (by omega) hs, if_neg c3]
          · rw [if_neg c4]
            exact hB.as r s hr hs
      · rw [if_neg c2]
        by_cases c3 : s = q
        · subst c3
          rw [if_pos rfl, zsb_bit a2 (by omega) hr, if_neg c2]
          exact hB.as r s hr hs
        · rw [if_neg c3]
          by_cases c4 : s = p
          · subst c4
            rw [if_pos rfl, zsb_bit a1 (by omega) hr, if_neg c1]
            exact hB.as r s hr hs
          · rw [if_neg c4]
            exact hB.as r s hr hs
  · intro r hr
    rw [zpart_ap]
    by_cases c1 : r = q
    · subst c1
      rw [if_pos rfl, zsb_bit (hB.ap r hr) (by omega) hr, if_neg (Ne.symm hpq)]
      exact hB.ai r hr
    · rw [if_neg c1]
      by_cases c2 : r = p
      · subst c2
        rw [if_pos rfl, zsb_bit (hB.ap r hr) (by omega) hr, if_neg hpq]
        exact hB.ai r hr
      · rw [if_neg c2]
        exact hB.ai r hr
theorem z_setb {a q : Nat} (ha : a < 16) (hq : q < 4) : nI a ||| ((1 : Int32) <<< (nI q &&& 31)) = nI (zsb a q 1) := by
  have f : ∀ q < 4, ∀ a < 16, nI a ||| ((1 : Int32) <<< (nI q &&& 31)) = nI (zsb a q 1) := by decide +kernel
  exact f q hq a ha
theorem z_clrb {a q : Nat} (ha : a < 16) (hq : q < 4) : nI a &&& (((1 : Int32) <<< (nI q &&& 31)) ^^^ (-1 : Int32)) = nI (zsb a q 0) := by
  have f : ∀ q < 4, ∀ a < 16, nI a &&& (((1 : Int32) <<< (nI q &&& 31)) ^^^ (-1 : Int32)) = nI (zsb a q 0) := by decide +kernel
  exact f q hq a ha
theorem z_modb {a q x : Nat} (ha : a < 16) (hq : q < 4) (hx : x ≤ 1) : (nI a &&& (((1 : Int32) <<< (nI q &&& 31)) ^^^ (-1 : Int32))) ||| (nI x <<< (nI q &&& 31)) = nI (zsb a q x) := by
  have f : ∀ x ≤ 1, ∀ q < 4, ∀ a < 16, (nI a &&& (((1 : Int32) <<< (nI q &&& 31)) ^^^ (-1 : Int32))) ||| (nI x <<< (nI q &&& 31)) = nI (zsb a q x) := by decide +kernel
  exact f x hx q hq a ha
theorem ShC_part {σ : Nat → Nat → Int32} {v : zV} (h : ShC 1 σ v) {p q x : Nat} : ShC 1 (ak_up (ak_up σ 8 p (nI (zsb (v.ap p) q x))) 8 q (nI (zsb (v.ap q) p x))) (zpart v p q x) := by
  refine ⟨?_, ?_, ?_, ?_, ?_, ?_, ?_, ?_, ?_, ?_, ?_, ?_⟩
  · rw [ak_up_ne (by decide), ak_up_ne (by decide)]; exact h.n
  · rw [ak_up_ne (by decide), ak_up_ne (by decide)]; exact h.yr
  · rw [ak_up_ne (by decide), ak_up_ne (by decide)]; exact h.nd
  · rw [ak_up_ne (by decide), ak_up_ne (by decide)]; exact h.ky
  · rw [ak_up_ne (by decide), ak_up_ne (by decide)]; exact h.ru
  · intro r hr; rw [ak_up_ne (by decide), ak_up_ne (by decide)]; exact h.kd r hr
  · intro r hr; rw [ak_up_ne (by decide), ak_up_ne (by decide)]; exact h.nu r hr
  · intro r hr; rw [ak_up_ne (by decide), ak_up_ne (by decide)]; exact h.le r hr
  · intro r hr; rw [ak_up_ne (by decide), ak_up_ne (by decide)]; exact h.wi r hr
  · intro r hr; rw [ak_up_ne (by decide), ak_up_ne (by decide)]; exact h.po r hr
  · intro r hr; rw [ak_up_ne (by decide), ak_up_ne (by decide)]; exact h.bl r hr
  · intro r hr
    rw [zpart_ap]
    show (if 8 = 8 ∧ r = q then nI (zsb (v.ap q) p x) else if 8 = 8 ∧ r = p then nI (zsb (v.ap p) q x) else σ 8 r) = _
    by_cases c1 : r = q
    · rw [if_pos ⟨rfl, c1⟩, if_pos c1]
    · rw [if_neg (fun z => c1 z.2), if_neg c1]
      by_cases c2 : r = p
      · rw [if_pos ⟨rfl, c2⟩, if_pos c2]
      · rw [if_neg (fun z => c2 z.2), if_neg c2]
        exact h.ap r hr
theorem ShM_part {σ : Nat → Nat → Int32} {v : zV} (h : ShM σ v) {p q x : Nat} : ShM (ak_up (ak_up σ 80 p (nI (zsb (v.ap p) q x))) 80 q (nI (zsb (v.ap q) p x))) (zpart v p q x) := by
  refine ⟨?_, ?_, ?_, ?_, ?_, ?_, ?_, ?_, ?_, ?_, ?_, ?_⟩
  · rw [ak_up_ne (by decide), ak_up_ne (by decide)]; exact h.n
  · rw [ak_up_ne (by decide), ak_up_ne (by decide)]; exact h.yr
  · rw [ak_up_ne (by decide), ak_up_ne (by decide)]; exact h.nd
  · rw [ak_up_ne (by decide), ak_up_ne (by decide)]; exact h.ky
  · rw [ak_up_ne (by decide), ak_up_ne (by decide)]; exact h.ru
  · intro r hr; rw [ak_up_ne (by decide), ak_up_ne (by decide)]; exact h.kd r hr
  · intro r hr; rw [ak_up_ne (by decide), ak_up_ne (by decide)]; exact h.nu r hr
  · intro r hr; rw [ak_up_ne (by decide), ak_up_ne (by decide)]; exact h.le r hr
  · intro r hr; rw [ak_up_ne (by decide), ak_up_ne (by decide)]; exact h.wi r hr
  · intro r hr; rw [ak_up_ne (by decide), ak_up_ne (by decide)]; exact h.po r hr
  · intro r hr; rw [ak_up_ne (by decide), ak_up_ne (by decide)]; exact h.bl r hr
  · intro r hr
    rw [zpart_ap]
    show (if 80 = 80 ∧ r = q then nI (zsb (v.ap q) p x) else if 80 = 80 ∧ r = p then nI (zsb (v.ap p) q x) else σ 80 r) = _
    by_cases c1 : r = q
    · rw [if_pos ⟨rfl, c1⟩, if_pos c1]
    · rw [if_neg (fun z => c1 z.2), if_neg c1]
      by_cases c2 : r = p
      · rw [if_pos ⟨rfl, c2⟩, if_pos c2]
      · rw [if_neg (fun z => c2 z.2), if_neg c2]
        exact h.ap r hr
theorem setApart_eq {M : mm_M} {v : zV} (h : ShC 1 M.1 v) (hB : zB v) {p q x : Nat} (hp : p < v.n) (hq : q < v.n) (hpq : p ≠ q) (hx : x ≤ 1) : sh_setApart 1 (nI p) (nI q) (nI x) M = some ((), (ak_up (ak_up M.1 8 p (nI (zsb (v.ap p) q x))) 8 q (nI (zsb (v.ap q) p x)), M.2)) := by
  have hn := hB.n
  have h4p : ak_inb (nI p) 4 = true := zI_inb (by omega) (by omega)
  have h4q : ak_inb (nI q) 4 = true := zI_inb (by omega) (by omega)
  have tp : (nI p).toNatClampNeg = p := zI_nat (by omega)
  have tq : (nI q).toNatClampNeg = q := zI_nat (by omega)
  have e1 : M.1 (1 + 7) p = nI (v.ap p) := h.ap p (by omega)
  have e2 : M.1 (1 + 7) q = nI (v.ap q) := h.ap q (by omega)
  have a1 := hB.ap p (by omega)
  have a2 := hB.ap q (by omega)
  unfold sh_setApart
  rw [isOneC_eq h hB, bI_t ((z_ii (by omega)).mpr hp)]
  simp only [Option.bind_some]
  rw [if_neg (by decide), isOneC_eq h hB, bI_t ((z_ii (by omega)).mpr hq)]
  simp only [Option.bind_some]
  rw [if_neg (by decide)]
  have hc : x = 0 ∨ x = 1 := by omega
  rcases hc with rfl | rfl
  · have p0 : nI 0 = (0 : Int32) := rfl
    rw [if_pos p0, if_pos h4p, if_pos h4p, if_pos p0, if_pos h4q, if_pos h4q, tp, tq, ak_up_oth (Ne.symm hpq), e1, e2, z_clrb a1 (by omega), z_clrb a2 (by omega)]
  · have n0 : ¬ nI 1 = (0 : Int32) := by decide
    rw [if_neg n0, if_pos h4p, if_pos h4p, if_neg n0, if_pos h4q, if_pos h4q, tp, tq, ak_up_oth (Ne.symm hpq), e1, e2, z_setb a1 (by omega), z_setb a2 (by omega)]
theorem partsM_eq {M : mm_M} {v : zV} (h : ShM M.1 v) (hB : zB v) {p q x : Nat} (hp : p < v.n) (hq : q < v.n) (hpq : p ≠ q) (hx : x ≤ 1) : md_parts (nI p) (nI q) (nI x) M = some ((), (ak_up (ak_up M.1 80 p (nI (zsb (v.ap p) q x))) 80 q (nI (zsb (v.ap q) p x)), M.2)) := by
  have hn := hB.n
  have h4p : ak_inb (nI p) 4 = true := zI_inb (by omega) (by omega)
  have h4q : ak_inb (nI q) 4 = true := zI_inb (by omega) (by omega)
  have tp : (nI p).toNatClampNeg = p := zI_nat (by omega)
  have tq : (nI q).toNatClampNeg = q := zI_nat (by omega)
  have e1 : M.1 80 p = nI (v.ap p) := h.ap p (by omega)
  have e2 : M.1 80 q = nI (v.ap q) := h.ap q (by omega)
  have a1 := hB.ap p (by omega)
  have a2 := hB.ap q (by omega)
  unfold md_parts
  rw [if_pos h4p, if_pos h4p, if_pos h4q, if_pos h4q, tp, tq, ak_up_oth (Ne.symm hpq), e1, e2, z_modb a1 (by omega) hx, z_modb a2 (by omega) hx]
def zaok (v : zV) (a1 a2 a3 : Int32) : Prop := (0 ≤ a1.toInt ∧ a1.toInt < v.n) ∧ (0 ≤ a2.toInt ∧ a2.toInt < v.n) ∧ a1 ≠ a2 ∧ 0 ≤ a3.toInt ∧ a3.toInt ≤ 1
def zapart (v : zV) (a1 a2 a3 : Int32) : Int32 × zV := (bI ((v.ap a1.toInt.toNat).testBit a2.toInt.toNat = true), zpart v a1.toInt.toNat a2.toInt.toNat a3.toInt.toNat)
theorem apart_C {M : mm_M} {v : zV} (h : ShC 1 M.1 v) (hB : zB v) (a1 a2 a3 : Int32) : Ok (nb_apart a1 a2 a3 M) (fun y => ((zaok v a1 a2 a3 → y.1 = (zapart v a1 a2 a3).1 ∧ ShC 1 y.2.1 (zapart v a1 a2 a3).2) ∧ (¬ zaok v a1 a2 a3 → y.1 = -2 ∧ y.2 = M)) ∧ Fr z18 M.1 y.2.1 ∧ y.2.2 = M.2) := by
  have hn := hB.n
  have no : ¬ zaok v a1 a2 a3 → Ok (some ((-2 : Int32), M)) (fun y => ((zaok v a1 a2 a3 → y.1 = (zapart v a1 a2 a3).1 ∧ ShC 1 y.2.1 (zapart v a1 a2 a3).2) ∧ (¬ zaok v a1 a2 a3 → y.1 = -2 ∧ y.2 = M)) ∧ Fr z18 M.1 y.2.1 ∧ y.2.2 = M.2) := fun c => ok_ret ⟨⟨fun z => absurd z c, fun _ => ⟨rfl, rfl⟩⟩, Fr.rfl', rfl⟩
  unfold nb_apart
  rw [isOneC_eq h hB]
  simp only [Option.bind_some]
  refine ok_ite (fun c => no (fun z => bI_0.mp c z.1)) (fun c1 => ?_)
  rw [isOneC_eq h hB]
  simp only [Option.bind_some]
  refine ok_ite (fun c => no (fun z => bI_0.mp c z.2.1)) (fun c2 => ?_)
  refine ok_ite (fun c => no (fun z => z.2.2.1 c)) (fun c3 => ?_)
  refine ok_ite (fun c => no (fun z => by have := z.2.2.2.1; rw [i_lt, zi0] at c; omega)) (fun c4 => ?_)
  refine ok_ite (fun c => no (fun z => by have := z.2.2.2.2; rw [i_lt, show (1 : Int32).toInt = 1 from rfl] at c; omega)) (fun c5 => ?_)
  rw [i_lt, zi0] at c4
  rw [i_lt, show (1 : Int32).toInt = 1 from rfl] at c5
  have k1 := b_of c1
  have k2 := b_of c2
  have hok : zaok v a1 a2 a3 := ⟨k1, k2, c3, by omega, by omega⟩
  obtain ⟨p, hp, rfl, ep⟩ := zI_of (x := a1) (by omega)
  obtain ⟨q, hq, rfl, eq⟩ := zI_of (x := a2) (by omega)
  obtain ⟨x, hx, rfl, ex⟩ := zI_of (x := a3) (by omega)
  have epn : (nI p).toInt.toNat = p := by omega
  have eqn : (nI q).toInt.toNat = q := by omega
  have exn : (nI x).toInt.toNat = x := by omega
  have hpq : p ≠ q := fun e => c3 (by rw [e])
  have hp4 : p < v.n := by omega
  have hq4 : q < v.n := by omega
  have ha : M.1 8 p = nI (v.ap p) := h.ap p (by omega)
  have hA := hB.ap p (by omega)
  have tail : ∀ (x' : Nat), x' = x → Ok ((sh_setApart 1 (nI p) (nI q) (nI x') M).bind fun y => some (((M.1 8 (nI p).toNatClampNeg) >>> (nI q &&& 31)) &&& (1 : Int32), y.2)) (fun y => ((zaok v (nI p) (nI q) (nI x) → y.1 = (zapart v (nI p) (nI q) (nI x)).1 ∧ ShC 1 y.2.1 (zapart v (nI p) (nI q) (nI x)).2) ∧ (¬ zaok v (nI p) (nI q) (nI x) → y.1 = -2 ∧ y.2 = M)) ∧ Fr z18 M.1 y.2.1 ∧ y.2.2 = M.2) := by
    intro x' e
    subst e
    rw [setApart_eq h hB hp4 hq4 hpq (by omega), zI_nat hp, ha, zI_sh (by omega) (by omega)]
    refine ok_ret ⟨⟨fun _ => ?_, fun z => absurd hok z⟩, (Fr.rfl'.up rfl).up rfl, rfl⟩
    unfold zapart
    rw [epn, eqn, exn]
    exact ⟨rfl, ShC_part h⟩
  refine ok_pos (zI_inb hp (by omega)) ?_
  have hc : x = 0 ∨ x = 1 := by omega
  rcases hc with rfl | rfl
  · exact ok_neg (by decide) (tail 0 rfl)
  · exact ok_pos rfl (tail 1 rfl)
theorem apart_M {M : mm_M} {v : zV} (h : ShM M.1 v) (hB : zB v) (a1 a2 a3 : Int32) : Ok (md_apart a1 a2 a3 M) (fun y => ((zaok v a1 a2 a3 → y.1 = (zapart v a1 a2 a3).1 ∧ ShM y.2.1 (zapart v a1 a2 a3).2) ∧ (¬ zaok v a1 a2 a3 → y.1 = -2 ∧ y.2 = M)) ∧ Fr (fun r => r == 80) M.1 y.2.1 ∧ y.2.2 = M.2) := by
  have hn := hB.n
  have no : ¬ zaok v a1 a2 a3 → Ok (some ((-2 : Int32), M)) (fun y => ((zaok v a1 a2 a3 → y.1 = (zapart v a1 a2 a3).1 ∧ ShM y.2.1 (zapart v a1 a2 a3).2) ∧ (¬ zaok v a1 a2 a3 → y.1 = -2 ∧ y.2 = M)) ∧ Fr (fun r => r == 80) M.1 y.2.1 ∧ y.2.2 = M.2) := fun c => ok_ret ⟨⟨fun z => absurd z c, fun _ => ⟨rfl, rfl⟩⟩, Fr.rfl', rfl⟩
  unfold md_apart
  rw [isOneM_eq h hB]
  simp only [Option.bind_some]
  refine ok_ite (fun c => no (fun z => bI_0.mp c z.1)) (fun c1 => ?_)
  rw [isOneM_eq h hB]
  simp only [Option.bind_some]
  refine ok_ite (fun c => no (fun z => bI_0.mp c z.2.1)) (fun c2 => ?_)
  refine ok_ite (fun c => no (fun z => z.2.2.1 c)) (fun c3 => ?_)
  simp only [in_eq, Option.bind_some, Int32.toInt_toInt64, show (0 : Int64).toInt = 0 from rfl, show (1 : Int64).toInt = 1 from rfl]
  refine ok_ite (fun c => no (fun z => bI_0.mp c z.2.2.2)) (fun c4 => ?_)
  have k1 := b_of c1
  have k2 := b_of c2
  have k4 := b_of c4
  have hok : zaok v a1 a2 a3 := ⟨k1, k2, c3, k4⟩
  obtain ⟨p, hp, rfl, ep⟩ := zI_of (x := a1) (by omega)
  obtain ⟨q, hq, rfl, eq⟩ := zI_of (x := a2) (by omega)
  obtain ⟨x, hx, rfl, ex⟩ := zI_of (x := a3) (by omega)
  have epn : (nI p).toInt.toNat = p := by omega
  have eqn : (nI q).toInt.toNat = q := by omega
  have exn : (nI x).toInt.toNat = x := by omega
  have hpq : p ≠ q := fun e => c3 (by rw [e])
  have hp4 : p < v.n := by omega
  have hq4 : q < v.n := by omega
  have ha : M.1 80 p = nI (v.ap p) := h.ap p (by omega)
  have hA := hB.ap p (by omega)
  refine ok_pos (zI_inb hp (by omega)) ?_
  rw [partsM_eq h hB hp4 hq4 hpq (by omega), zI_nat hp, ha, zI_sh (by omega) (by omega)]
  refine ok_ret ⟨⟨fun _ => ?_, fun z => absurd hok z⟩, (Fr.rfl'.up rfl).up rfl, rfl⟩
  unfold zapart
  rw [epn, eqn, exn]
  exact ⟨rfl, ShM_part h⟩
