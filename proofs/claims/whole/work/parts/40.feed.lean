/-! level 2: feed, force -/
/-- what is fed, of the class -/
def TpC (σ : Nat → Nat → Int32) (f : Nat) (t : Nat → Nat) : Prop := σ 0 5 = nI f ∧ f ≤ 160 ∧ ∀ i, i < f → σ 25 i = nI (t i) ∧ t i < 256
/-- what is fed, of the model -/
def TpM (σ : Nat → Nat → Int32) (f : Nat) (t : Nat → Nat) : Prop := σ 73 6 = nI f ∧ f ≤ 160 ∧ ∀ i, i < f → σ 76 i = nI (t i) ∧ t i < 256
def zty (t : Nat → Nat) (f x : Nat) : Nat → Nat := fun i => if i = f then x else t i
abbrev zfok (a : Int32) : Prop := 0 ≤ a.toInt ∧ a.toInt ≤ 255
theorem feed_C {M : mm_M} {f : Nat} {t : Nat → Nat} (h : TpC M.1 f t) (a : Int32) : Ok (nb_feed a M) (fun y => (¬ zfok a → y.1 = -2 ∧ y.2 = M) ∧ (zfok a → f = 160 → y.1 = -4 ∧ y.2 = M) ∧ (zfok a → f < 160 → y.1 = nI (f + 1) ∧ TpC y.2.1 (f + 1) (zty t f a.toInt.toNat)) ∧ Fr (fun r => r == 0 || r == 25) M.1 y.2.1 ∧ (∀ j, j ≠ 5 → y.2.1 0 j = M.1 0 j) ∧ y.2.2 = M.2) := by
  obtain ⟨h1, h2, h3⟩ := h
  unfold nb_feed
  simp only [i_lt, zi0, show (255 : Int32).toInt = 255 from rfl]
  refine ok_ite (fun c => ok_ret ⟨fun _ => ⟨rfl, rfl⟩, fun z => by have := z.1; omega, fun z => by have := z.1; omega, Fr.rfl', fun _ _ => rfl, rfl⟩) (fun c1 => ?_)
  refine ok_ite (fun c => ok_ret ⟨fun _ => ⟨rfl, rfl⟩, fun z => by have := z.2; omega, fun z => by have := z.2; omega, Fr.rfl', fun _ _ => rfl, rfl⟩) (fun c2 => ?_)
  have hok : zfok a := ⟨by omega, by omega⟩
  obtain ⟨x, hx, rfl, ex⟩ := zI_of (x := a) hok.1
  have exn : (nI x).toInt.toNat = x := by omega
  simp only [h1, zI_int (show f < 2147483648 by omega), show (160 : Int32).toInt = 160 from rfl]
  refine ok_ite (fun c => ?_) (fun c => ok_ret ⟨fun z => absurd hok z, fun _ _ => ⟨rfl, rfl⟩, fun _ z => by omega, Fr.rfl', fun _ _ => rfl, rfl⟩)
  refine ok_pos (zI_inb (by omega) (by omega)) ?_
  rw [zI_nat (by omega), ak_up_same, ak_up_ne (show (0 : Nat) ≠ 25 by decide), h1, nI_1]
  refine ok_ret ⟨fun z => absurd hok z, fun _ z => by omega, fun _ _ => ⟨rfl, ?_, by omega, ?_⟩, (Fr.rfl'.up rfl).up rfl, ?_, rfl⟩
  · simp [up_ap]
  · intro i hi
    rw [exn]
    show (if 25 = 0 ∧ i = 5 then nI (f + 1) else if 25 = 25 ∧ i = f then nI x else M.1 25 i) = nI (if i = f then x else t i) ∧ (if i = f then x else t i) < 256
    rw [if_neg (by omega)]
    by_cases e : i = f
    · rw [if_pos ⟨rfl, e⟩, if_pos e]
      exact ⟨rfl, by have := hok.2; omega⟩
    · rw [if_neg (fun z => e z.2), if_neg e]
      exact h3 i (by omega)
  · intro j hj
    show ak_up _ 0 5 _ 0 j = _
    rw [ak_up_oth hj, ak_up_ne (by decide)]
theorem feed_M {M : mm_M} {f : Nat} {t : Nat → Nat} (h : TpM M.1 f t) (a : Int32) : Ok (md_feed a M) (fun y => (¬ zfok a → y.1 = -2 ∧ y.2 = M) ∧ (zfok a → f = 160 → y.1 = -4 ∧ y.2 = M) ∧ (zfok a → f < 160 → y.1 = nI (f + 1) ∧ TpM y.2.1 (f + 1) (zty t f a.toInt.toNat)) ∧ Fr (fun r => r == 73 || r == 76) M.1 y.2.1 ∧ (∀ j, j ≠ 6 → y.2.1 73 j = M.1 73 j) ∧ y.2.2 = M.2) := by
  obtain ⟨h1, h2, h3⟩ := h
  unfold md_feed
  simp only [in_eq, Option.bind_some, Int32.toInt_toInt64, show (0 : Int64).toInt = 0 from rfl, show (255 : Int64).toInt = 255 from rfl]
  refine ok_ite (fun c => ok_ret ⟨fun _ => ⟨rfl, rfl⟩, fun z => absurd z (bI_0.mp c), fun z => absurd z (bI_0.mp c), Fr.rfl', fun _ _ => rfl, rfl⟩) (fun c1 => ?_)
  have hok : zfok a := b_of c1
  obtain ⟨x, hx, rfl, ex⟩ := zI_of (x := a) hok.1
  have exn : (nI x).toInt.toNat = x := by omega
  have n160 : nI f = (160 : Int32) ↔ f = 160 := nI_eq (b := 160) (by omega) (by decide)
  rw [h1]
  refine ok_ite (fun c => ok_ret ⟨fun z => absurd hok z, fun _ _ => ⟨rfl, rfl⟩, fun _ z => by have := n160.mp c; omega, Fr.rfl', fun _ _ => rfl, rfl⟩) (fun c => ?_)
  have hf : f < 160 := by
    have : ¬ f = 160 := fun e => c (n160.mpr e)
    omega
  refine ok_pos (zI_inb (by omega) (by omega)) ?_
  rw [zI_nat (by omega), ak_up_same, ak_up_ne (show (73 : Nat) ≠ 76 by decide), h1, nI_1]
  refine ok_ret ⟨fun z => absurd hok z, fun _ z => by omega, fun _ _ => ⟨rfl, ?_, by omega, ?_⟩, (Fr.rfl'.up rfl).up rfl, ?_, rfl⟩
  · simp [up_ap]
  · intro i hi
    rw [exn]
    show (if 76 = 73 ∧ i = 6 then nI (f + 1) else if 76 = 76 ∧ i = f then nI x else M.1 76 i) = nI (if i = f then x else t i) ∧ (if i = f then x else t i) < 256
    rw [if_neg (by omega)]
    by_cases e : i = f
    · rw [if_pos ⟨rfl, e⟩, if_pos e]
      exact ⟨rfl, by have := hok.2; omega⟩
    · rw [if_neg (fun z => e z.2), if_neg e]
      exact h3 i (by omega)
  · intro j hj
    show ak_up _ 73 6 _ 73 j = _
    rw [ak_up_oth hj, ak_up_ne (by decide)]
theorem force_C {M : mm_M} {v : zV} (h : ShC 1 M.1 v) {c : Nat} (hc : M.1 26 0 = nI c) (hc1 : 1 ≤ c) (hc6 : c ≤ 6) (a : Int32) : Ok (nb_force a M) (fun y => ((0 ≤ a.toInt ∧ a.toInt < c → y.1 = nI v.ru ∧ ShC 1 y.2.1 (zs v 3 a.toInt.toNat)) ∧ (¬ (0 ≤ a.toInt ∧ a.toInt < c) → y.1 = -2 ∧ y.2 = M)) ∧ Fr z18 M.1 y.2.1 ∧ y.2.2 = M.2) := by
  unfold nb_force
  rw [hc]
  simp only [i_lt, zi0, zI_int (show c < 2147483648 by omega)]
  refine ok_ite (fun z => ok_ret ⟨⟨fun w => by omega, fun _ => ⟨rfl, rfl⟩⟩, Fr.rfl', rfl⟩) (fun z1 => ?_)
  refine ok_ite (fun z2 => ?_) (fun z => ok_ret ⟨⟨fun w => by omega, fun _ => ⟨rfl, rfl⟩⟩, Fr.rfl', rfl⟩)
  obtain ⟨x, hx, rfl, ex⟩ := zI_of (x := a) (by omega)
  have exn : (nI x).toInt.toNat = x := by omega
  refine ok_ret ⟨⟨fun _ => ⟨h.ru, ?_⟩, fun z => absurd (by omega) z⟩, Fr.rfl'.up rfl, rfl⟩
  rw [exn]
  exact ShC_s3 h
theorem force_M {M : mm_M} {v : zV} (h : ShM M.1 v) {c : Nat} (hc : M.1 73 3 = nI c) (hc1 : 1 ≤ c) (hc6 : c ≤ 6) (a : Int32) : Ok (md_force a M) (fun y => ((0 ≤ a.toInt ∧ a.toInt < c → y.1 = nI v.ru ∧ ShM y.2.1 (zs v 3 a.toInt.toNat)) ∧ (¬ (0 ≤ a.toInt ∧ a.toInt < c) → y.1 = -2 ∧ y.2 = M)) ∧ Fr (fun r => r == 73) M.1 y.2.1 ∧ (∀ j, j ≠ 4 → y.2.1 73 j = M.1 73 j) ∧ y.2.2 = M.2) := by
  have e : (nI c - 1).toInt = (c : Int) - 1 := by
    have f : ∀ k ≤ 6, (nI k - 1).toInt = (k : Int) - 1 := by decide
    exact f _ hc6
  unfold md_force
  rw [hc]
  simp only [in_eq, Option.bind_some, Int32.toInt_toInt64, show (0 : Int64).toInt = 0 from rfl, e]
  refine ok_ite (fun z => ok_ret ⟨⟨fun w => absurd (⟨w.1, by omega⟩ : 0 ≤ a.toInt ∧ a.toInt ≤ (c : Int) - 1) (bI_0.mp z), fun _ => ⟨rfl, rfl⟩⟩, Fr.rfl', fun _ _ => rfl, rfl⟩) (fun z1 => ?_)
  have k := b_of z1
  obtain ⟨x, hx, rfl, ex⟩ := zI_of (x := a) k.1
  have exn : (nI x).toInt.toNat = x := by omega
  refine ok_ret ⟨⟨fun _ => ⟨h.ru, ?_⟩, fun z => absurd ⟨k.1, by omega⟩ z⟩, Fr.rfl'.up rfl, fun j hj => ak_up_oth hj, rfl⟩
  rw [exn]
  exact ShM_s3 h
