/-! level 2: small numbers, bits, what a function's answer bears; the views of the two states -/
theorem zI_lit (k : Nat) : (no_index (OfNat.ofNat k) : Int32) = nI k := rfl
theorem zI_int {k : Nat} (h : k < 2147483648) : (nI k).toInt = (k : Int) := nI_toInt h
theorem zI_nat {k : Nat} (h : k < 2147483648) : (nI k).toNatClampNeg = k := nI_clamp h
theorem zI_mul (a b : Nat) : nI a * nI b = nI (a * b) := (Int32.ofNat_mul a b).symm
theorem i_lt {a b : Int32} : a < b ↔ a.toInt < b.toInt := Int32.lt_iff_toInt_lt
theorem i_eq {a b : Int32} : a = b ↔ a.toInt = b.toInt := Int32.toInt_inj.symm
theorem zI_sub {a b : Nat} (h : b ≤ a) : nI a - nI b = nI (a - b) := by
  have h2 : nI a = nI (a - b) + nI b := by rw [nI_add, Nat.sub_add_cancel h]
  rw [h2, Int32.add_sub_cancel]
/-- an int within bounds is a count -/
theorem zI_of {x : Int32} (h : 0 ≤ x.toInt) : ∃ k : Nat, k < 2147483648 ∧ x = nI k ∧ x.toInt = k := by
  refine ⟨x.toInt.toNat, ?_, ?_, ?_⟩
  · have := x.toInt_lt
    omega
  · rw [i_eq, zI_int (by have := x.toInt_lt; omega)]
    omega
  · omega
theorem zI_inb {k n : Nat} (hk : k < 2147483648) (h : k < n) : ak_inb (nI k) n = true := by
  unfold ak_inb
  have h1 : ¬ nI k < 0 := nI_pos hk
  rw [zI_nat hk]
  simp [h1, h]
theorem up_ap {α : Type} {f : Nat → Nat → α} {i j a b : Nat} {v : α} : ak_up f i j v a b = if a = i ∧ b = j then v else f a b := rfl
/-- a truth as an int -/
def bI (p : Prop) [Decidable p] : Int32 := if p then 1 else 0
theorem bI_t {p : Prop} [Decidable p] (h : p) : bI p = 1 := if_pos h
theorem bI_f {p : Prop} [Decidable p] (h : ¬ p) : bI p = 0 := if_neg h
theorem bI_0 {p : Prop} [Decidable p] : bI p = 0 ↔ ¬ p := by
  unfold bI
  split
  · rename_i h; exact ⟨fun e => absurd e (by decide), fun e => absurd h e⟩
  · rename_i h; exact ⟨fun _ => h, fun _ => rfl⟩
theorem bI_1 {p : Prop} [Decidable p] : bI p = 1 ↔ p := by
  unfold bI
  split
  · rename_i h; exact ⟨fun _ => h, fun _ => rfl⟩
  · rename_i h; exact ⟨fun e => absurd e (by decide), fun e => absurd e h⟩
theorem bI_01 {p : Prop} [Decidable p] : (bI p = 0 ∨ bI p = 1) ↔ True := by
  by_cases h : p
  · simp [bI_t h]
  · simp [bI_f h]
theorem bI_eq {p q : Prop} [Decidable p] [Decidable q] (h : p ↔ q) : bI p = bI q := by
  by_cases hp : p
  · rw [bI_t hp, bI_t (h.mp hp)]
  · rw [bI_f hp, bI_f (fun z => hp (h.mpr z))]
/-- there is an answer, and it bears P -/
def Ok {β : Type} (o : Option β) (P : β → Prop) : Prop := ∃ y, o = some y ∧ P y
theorem ok_ret {β : Type} {y : β} {P : β → Prop} (h : P y) : Ok (some y) P := ⟨y, rfl, h⟩
theorem ok_bind {β γ : Type} {o : Option β} {f : β → Option γ} {P : γ → Prop} (h : Ok o (fun y => Ok (f y) P)) : Ok (o.bind f) P := by
  obtain ⟨y, rfl, h2⟩ := h
  exact h2
theorem ok_mono {β : Type} {o : Option β} {P P' : β → Prop} (h : Ok o P) (hp : ∀ y, P y → P' y) : Ok o P' := by
  obtain ⟨y, e, h2⟩ := h
  exact ⟨y, e, hp y h2⟩
theorem ok_pos {β : Type} {c : Prop} [Decidable c] {a b : Option β} {P : β → Prop} (hc : c) (h : Ok a P) : Ok (if c then a else b) P := by rw [if_pos hc]; exact h
theorem ok_neg {β : Type} {c : Prop} [Decidable c] {a b : Option β} {P : β → Prop} (hc : ¬ c) (h : Ok b P) : Ok (if c then a else b) P := by rw [if_neg hc]; exact h
theorem ok_ite {β : Type} {c : Prop} [Decidable c] {a b : Option β} {P : β → Prop} (h1 : c → Ok a P) (h2 : ¬ c → Ok b P) : Ok (if c then a else b) P := by
  by_cases hc : c
  · exact ok_pos hc (h1 hc)
  · exact ok_neg hc (h2 hc)
theorem ok_eq {β : Type} {o : Option β} {y : β} {P : β → Prop} (e : o = some y) (h : P y) : Ok o P := ⟨y, e, h⟩
theorem ok_then {β γ : Type} {o : Option β} {f : β → Option γ} {Q : β → Prop} {P : γ → Prop} (h : Ok o Q) (hf : ∀ y, Q y → Ok (f y) P) : Ok (o.bind f) P := ok_bind (ok_mono h hf)
/-- the same but for some cells -/
def Fr (p : Nat → Bool) (a b : Nat → Nat → Int32) : Prop := ∀ r, p r = false → b r = a r
theorem Fr.rfl' {p : Nat → Bool} {a : Nat → Nat → Int32} : Fr p a a := fun _ _ => rfl
theorem Fr.tr {p : Nat → Bool} {a b c : Nat → Nat → Int32} (h1 : Fr p a b) (h2 : Fr p b c) : Fr p a c := fun r hr => (h2 r hr).trans (h1 r hr)
theorem Fr.up {p : Nat → Bool} {a b : Nat → Nat → Int32} {i j : Nat} {v : Int32} (h : Fr p a b) (hi : p i = true) : Fr p a (ak_up b i j v) := by
  intro r hr
  rw [ak_up_ne (by intro e; rw [e, hi] at hr; cases hr)]
  exact h r hr
theorem Fr.wk {p q : Nat → Bool} {a b : Nat → Nat → Int32} (h : Fr p a b) (hpq : ∀ r, p r = true → q r = true) : Fr q a b := by
  intro r hr
  refine h r ?_
  cases hp : p r with
  | false => rfl
  | true => rw [hpq r hp] at hr; cases hr
/-- bit w of a small count -/
theorem zI_sh {a w : Nat} (ha : a < 256) (hw : w < 8) : (nI a >>> (nI w &&& 31)) &&& 1 = bI (a.testBit w = true) := by
  have h : ∀ w < 8, ∀ a < 256, (nI a >>> (nI w &&& 31)) &&& 1 = bI (a.testBit w = true) := by decide +kernel
  exact h w hw a ha
