/-! THE SMALL MACHINE: a program of its own words over a heap of its own words, which later is shown to be what the bytecode does. -/
/-- what an instruction's entry of the constant pool comes to -/
abbrev ak_X : Type := Nat × Nat × Nat × Int
abbrev ak_I : Type := Option (Instr × Nat × ak_X)
abbrev ak_Q : Type := MethodName × ByteArray × Nat × Option FieldType × List ak_I × Nat
/-- widths of the instructions that are told of -/
def ak_wd : Instr → Nat → Bool
  | .tableswitch .., _ => true
  | .bipush _, w => w == 2
  | .sipush _, w => w == 3
  | .iload _, w => w == 2
  | .lload _, w => w == 2
  | .aload _, w => w == 2
  | .istore _, w => w == 2
  | .lstore _, w => w == 2
  | .astore _, w => w == 2
  | .ldc _, w => w == 2
  | .ldc_w _, w => w == 3
  | .ldc2_w _, w => w == 3
  | .iinc .., w => w == 3
  | .goto _, w => w == 3
  | .ifCond .., w => w == 3
  | .if_icmp .., w => w == 3
  | .getfield _, w => w == 3
  | .putfield _, w => w == 3
  | .getstatic _, w => w == 3
  | .new _, w => w == 3
  | .newarray _, w => w == 2
  | .anewarray _, w => w == 3
  | .instanceof _, w => w == 3
  | .invokevirtual _, w => w == 3
  | .invokespecial _, w => w == 3
  | .invokestatic _, w => w == 3
  | _, w => w == 1
/-! each method's table is what its bytes say -/
def ak_chk (b : ByteArray) : Nat → List ak_I → Bool
  | _, [] => true
  | n, none :: t => ak_chk b (n + 1) t
  | n, some q :: t => decide (decode b n = .ok (q.1, q.2.1)) && ak_wd q.1 q.2.1 && ak_chk b (n + 1) t
theorem ak_chk_at {b : ByteArray} : ∀ (l : List ak_I) (n : Nat), ak_chk b n l = true → ∀ (k : Nat) (q : Instr × Nat × ak_X), l[k]? = some (some q) → decode b (n + k) = .ok (q.1, q.2.1) ∧ ak_wd q.1 q.2.1 = true
  | [], _, _, k, q, h => by simp at h
  | a :: t, n, hc, k, q, h => by
    cases k with
    | zero =>
      rw [List.getElem?_cons_zero] at h
      cases h
      simp only [ak_chk, Bool.and_eq_true, decide_eq_true_eq] at hc
      exact ⟨hc.1.1, hc.1.2⟩
    | succ k =>
      rw [List.getElem?_cons_succ] at h
      have ht : ak_chk b (n + 1) t = true := by
        cases a with
        | none => exact hc
        | some a => simp only [ak_chk, Bool.and_eq_true] at hc; exact hc.2
      have := ak_chk_at t (n + 1) ht k q h
      rwa [show n + 1 + k = n + (k + 1) by omega] at this
theorem ak_chk_app {b : ByteArray} : ∀ {l r : List ak_I} {n k : Nat}, n + l.length = k → ak_chk b n l = true → ak_chk b k r = true → ak_chk b n (l ++ r) = true
  | [], r, n, k, e, _, h2 => by
    have : n = k := by simpa using e
    subst this; exact h2
  | none :: t, r, n, k, e, h1, h2 => ak_chk_app (l := t) (n := n + 1) (by simp at e; omega) h1 h2
  | some q :: t, r, n, k, e, h1, h2 => by
    simp only [ak_chk, Bool.and_eq_true] at h1
    show ak_chk b n (some q :: (t ++ r)) = true
    simp only [ak_chk, Bool.and_eq_true]
    exact ⟨h1.1, ak_chk_app (l := t) (n := n + 1) (by simp at e; omega) h1.2 h2⟩
