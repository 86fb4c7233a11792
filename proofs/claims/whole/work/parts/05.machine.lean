/-- a cell's kind: an object of a class, or an array of a type and a length -/
abbrev ak_K : Type := Nat ⊕ (Nat × Nat)
/-- the heap: kinds, whole numbers, long numbers, references -/
abbrev ak_H : Type := List ak_K × (Nat → Nat → Int32) × (Nat → Nat → Int64) × (Nat → Nat → Option Nat)
abbrev ak_L : Type := List (Option Value)
/-- a step comes to: the next place; an answer; a call -/
abbrev ak_O : Type := (Nat × ak_L × List Value × ak_H) ⊕ (Option Value) ⊕ (Nat × List Value × List Value)
def ak_up {α : Type} (f : Nat → Nat → α) (i j : Nat) (v : α) : Nat → Nat → α := fun a b => if a = i ∧ b = j then v else f a b
def ak_cpy (f : Nat → Nat → Int32) (src sp dst dp n : Nat) : Nat → Nat → Int32 := fun a k => if a = dst ∧ dp ≤ k ∧ k < dp + n then f src (sp + (k - dp)) else f a k
def ak_inb (i : Int32) (n : Nat) : Bool := !(decide (i < 0)) && decide (i.toNatClampNeg < n)
/-- static arrays: what stands at the places from 1000000 on: type, length, contents; the script is (L, xs) -/
abbrev ak_Z : Type := Nat × (Nat → Int32)
def ak_strs : List (List Int32) := [[106, 111, 121, 115], [101, 97, 114, 110, 115], [109, 97, 121], [111, 114], [97, 110, 100], [110, 111, 116], [119, 101, 101, 107], [119, 105, 115, 104, 101, 100], [110, 117, 109, 98, 101, 114], [108, 101, 110, 103, 116, 104], [112, 111, 105, 110, 116, 115], [97, 119, 97, 121]]
def ak_from : List Int32 := [0, 0, 0, 0, 1, 0, 0]
def ak_to : List Int32 := [999, 4, 15, 9, 4, 255, 999]
/-- a read-only array of whole numbers: whether of bytes, its length, what it holds -/
def ak_sa (Z : ak_Z) (r : Nat) : Option (Bool × Nat × (Nat → Int32)) :=
  if r = 2000000 then some (false, 7, fun j => ak_from.getD j 0)
  else if r = 2000001 then some (false, 7, fun j => ak_to.getD j 0)
  else if r = 4000000 then some (false, Z.1, Z.2)
  else if 1000100 ≤ r ∧ r < 1000112 then some (true, (ak_strs.getD (r - 1000100) []).length, fun j => (ak_strs.getD (r - 1000100) []).getD j 0)
  else none
/-- instructions of the stack alone -/
def ak_stk (ins : Instr) (x : ak_X) (S : List Value) : Option (List Value) := match ins with
  | .iconst n => some (.int (Int32.ofInt n) :: S)
  | .bipush n => some (.int (Int8.ofInt n).toInt32 :: S)
  | .sipush n => some (.int (Int16.ofInt n).toInt32 :: S)
  | .lconst n => some (.long (Int64.ofNat (n : Nat)) :: S)
  | .ldc _ => match x with
    | (4, _, _, v) => some (.int (Int32.ofInt v) :: S)
    | (5, k, _, _) => some (.ref (1000000 + k) :: S)
    | _ => none
  | .ldc_w _ => match x with
    | (4, _, _, v) => some (.int (Int32.ofInt v) :: S)
    | _ => none
  | .ldc2_w _ => match x with
    | (6, _, _, v) => some (.long (Int64.ofInt v) :: S)
    | _ => none
  | .iadd => match S with | .int b :: .int a :: r => some (.int (a + b) :: r) | _ => none
  | .isub => match S with | .int b :: .int a :: r => some (.int (a - b) :: r) | _ => none
  | .imul => match S with | .int b :: .int a :: r => some (.int (a * b) :: r) | _ => none
  | .iand => match S with | .int b :: .int a :: r => some (.int (a &&& b) :: r) | _ => none
  | .ior => match S with | .int b :: .int a :: r => some (.int (a ||| b) :: r) | _ => none
  | .ixor => match S with | .int b :: .int a :: r => some (.int (a ^^^ b) :: r) | _ => none
  | .idiv => match S with | .int b :: .int a :: r => if b = 0 then none else some (.int (a / b) :: r) | _ => none
  | .irem => match S with | .int b :: .int a :: r => if b = 0 then none else some (.int (a - a / b * b) :: r) | _ => none
  | .ineg => match S with | .int a :: r => some (.int (-a) :: r) | _ => none
  | .ishl => match S with | .int b :: .int a :: r => some (.int (a <<< (b &&& 31)) :: r) | _ => none
  | .ishr => match S with | .int b :: .int a :: r => some (.int (a >>> (b &&& 31)) :: r) | _ => none
  | .iushr => match S with | .int b :: .int a :: r => some (.int (a.toUInt32 >>> (b.toUInt32 &&& Int32.toUInt32 31)).toInt32 :: r) | _ => none
  | .ladd => match S with | .long b :: .long a :: r => some (.long (a + b) :: r) | _ => none
  | .lsub => match S with | .long b :: .long a :: r => some (.long (a - b) :: r) | _ => none
  | .lmul => match S with | .long b :: .long a :: r => some (.long (a * b) :: r) | _ => none
  | .ldiv => match S with | .long b :: .long a :: r => if b = 0 then none else some (.long (a / b) :: r) | _ => none
  | .lrem => match S with | .long b :: .long a :: r => if b = 0 then none else some (.long (a - a / b * b) :: r) | _ => none
  | .lcmp => match S with | .long b :: .long a :: r => some (.int (lg_cmp a b) :: r) | _ => none
  | .i2l => match S with | .int a :: r => some (.long a.toInt64 :: r) | _ => none
  | .l2i => match S with | .long a :: r => some (.int a.toInt32 :: r) | _ => none
  | .i2b => match S with | .int a :: r => some (.int a.toInt8.toInt32 :: r) | _ => none
  | .i2s => match S with | .int a :: r => some (.int a.toInt16.toInt32 :: r) | _ => none
  | .i2c => match S with | .int a :: r => some (.int (a.toUInt32 % 65536).toInt32 :: r) | _ => none
  | .dup => match S with
    | .int a :: r => some (.int a :: .int a :: r)
    | .ref a :: r => some (.ref a :: .ref a :: r)
    | _ => none
  | .pop => match S with | .int _ :: r => some r | _ => none
  | .dup2 => match S with | .int a :: .ref b :: r => some (.int a :: .ref b :: .int a :: .ref b :: r) | _ => none
  | _ => none
/-- reading a local -/
def ak_ldi (L : ak_L) (k : Nat) (S : List Value) : Option (List Value) := match L[k]? with
  | some (some (.int v)) => some (.int v :: S)
  | _ => none
def ak_ldl (L : ak_L) (k : Nat) (S : List Value) : Option (List Value) := match L[k]? with
  | some (some (.long v)) => some (.long v :: S)
  | _ => none
def ak_lda (L : ak_L) (k : Nat) (S : List Value) : Option (List Value) := match L[k]? with
  | some (some (.ref v)) => some (.ref v :: S)
  | _ => none
def ak_load (ins : Instr) (L : ak_L) (S : List Value) : Option (List Value) := match ins with
  | .iload_n k => ak_ldi L k S
  | .iload k => ak_ldi L k S
  | .lload_n k => ak_ldl L k S
  | .lload k => ak_ldl L k S
  | .aload_n k => ak_lda L k S
  | .aload k => ak_lda L k S
  | _ => none
/-- a long that stands one place before goes -/
def ak_kill (L : ak_L) (k : Nat) : ak_L := match k with
  | 0 => L
  | k + 1 => match L[k]? with
    | some (some u) => if u.category = 2 then L.set k none else L
    | _ => L
def ak_st1 (L : ak_L) (k : Nat) (v : Value) : Option ak_L := if k < L.length then some ((ak_kill L k).set k (some v)) else none
def ak_st2 (L : ak_L) (k : Nat) (v : Value) : Option ak_L := if k + 1 < L.length then some (((ak_kill L k).set k (some v)).set (k + 1) none) else none
def ak_stoi (L : ak_L) (k : Nat) (S : List Value) : Option (ak_L × List Value) := match S with
  | .int v :: r => (ak_st1 L k (.int v)).map (fun l => (l, r))
  | _ => none
def ak_stol (L : ak_L) (k : Nat) (S : List Value) : Option (ak_L × List Value) := match S with
  | .long v :: r => (ak_st2 L k (.long v)).map (fun l => (l, r))
  | _ => none
def ak_stoa (L : ak_L) (k : Nat) (S : List Value) : Option (ak_L × List Value) := match S with
  | .ref v :: r => (ak_st1 L k (.ref v)).map (fun l => (l, r))
  | _ => none
def ak_store (ins : Instr) (L : ak_L) (S : List Value) : Option (ak_L × List Value) := match ins with
  | .istore_n k => ak_stoi L k S
  | .istore k => ak_stoi L k S
  | .lstore_n k => ak_stol L k S
  | .lstore k => ak_stol L k S
  | .astore_n k => ak_stoa L k S
  | .astore k => ak_stoa L k S
  | .iinc k n => match L[k]? with
    | some (some (.int v)) => (ak_st1 L k (.int (v + Int32.ofInt n))).map (fun l => (l, S))
    | _ => none
  | _ => none
def ak_cnd (c : Jvm.ClassFile.Cond) (a b : Int32) : Bool := match c with
  | .eq => decide (a = b)
  | .ne => !decide (a = b)
  | .lt => decide (a < b)
  | .ge => decide (b ≤ a)
  | .gt => decide (b < a)
  | .le => decide (a ≤ b)
/-- branches: the place (as a whole number) and the stack -/
def ak_jump (ins : Instr) (w pc : Nat) (S : List Value) : Option (Int × List Value) := match ins with
  | .goto off => some ((pc : Int) + off, S)
  | .ifCond c off => match S with
    | .int a :: r => some (if ak_cnd c a 0 then (pc : Int) + off else ((pc + w : Nat) : Int), r)
    | _ => none
  | .if_icmp c off => match S with
    | .int b :: .int a :: r => some (if ak_cnd c a b then (pc : Int) + off else ((pc + w : Nat) : Int), r)
    | _ => none
  | .tableswitch dflt lo hi offs => match S with
    | .int a :: r => if a.toInt < lo ∨ hi < a.toInt then some ((pc : Int) + dflt, r) else (offs[(a.toInt - lo).toNat]?).map (fun o => ((pc : Int) + o, r))
    | _ => none
  | _ => none
/-- the fields of our classes: 0 int, 1 boolean, 2 long, 3 reference -/
def ak_F : List (List Nat) := [[], [], [], [], [], [3, 3, 3, 3, 3, 3, 3, 3, 3, 3, 1, 0], [0, 3, 3, 3, 3], [0, 0, 3], [0, 0, 0, 0, 0, 3, 3, 3, 3, 3, 3, 3], [], [3, 3, 0, 0, 3, 0, 0, 0, 0, 0, 0, 0], [3, 3, 3, 1, 3, 0, 3, 3, 3], [0, 3, 3, 0, 0, 3, 0, 3, 3, 3, 3, 0, 0, 0, 0, 0, 0, 0, 0, 0, 0, 0, 0, 2, 0, 1, 0, 3, 3, 3, 3, 1, 0, 0, 3, 3, 3, 3, 0, 0, 3, 3, 3, 3]]
/-- a field's value -/
def ak_fv (h : ak_H) (ci r k : Nat) : Option Value := match (ak_F.getD ci []).getD k 9 with
  | 0 => some (.int (h.2.1 r k))
  | 1 => some (.int (h.2.1 r k))
  | 2 => some (.long (h.2.2.1 r k))
  | 3 => some (va_rf (h.2.2.2 r k))
  | _ => none
/-- a field laid -/
def ak_fp (h : ak_H) (ci r k : Nat) (v : Value) : Option ak_H := match (ak_F.getD ci []).getD k 9, v with
  | 0, .int a => some (h.1, ak_up h.2.1 r k a, h.2.2.1, h.2.2.2)
  | 1, .int a => if a = 0 ∨ a = 1 then some (h.1, ak_up h.2.1 r k a, h.2.2.1, h.2.2.2) else none
  | 2, .long a => some (h.1, h.2.1, ak_up h.2.2.1 r k a, h.2.2.2)
  | 3, .ref a => some (h.1, h.2.1, h.2.2.1, ak_up h.2.2.2 r k (some a))
  | _, _ => none
/-- whether a class is under another (its name's number): 0 apprentice, 1 boss, 2 bride, 3 clerk, 4 parent, 9 single -/
def ak_sub (c j : Nat) : Bool := c == j || (j == 3 && (c == 0 || c == 1 || c == 2 || c == 4 || c == 9)) || (j == 4 && c == 2) || (j == 9 && c == 1)
/-- a cell's room -/
def ak_sz (k : ak_K) : Nat := match k with
  | .inl ci => (ak_F.getD ci []).length
  | .inr q => q.2
def ak_nS (h : ak_H) : Nat := (h.1.map ak_sz).sum
def ak_arr (t : Nat) : Bool := t == 2 || t == 3 || t == 4
/-- the class of what an array of references holds -/
def ak_el (t : Nat) : Nat := if t = 2 then 10 else if t = 3 then 3 else 7
/-- how many cells there are once both objects are made -/
def ak_N0 : Nat := 93
/-- instructions of the heap; d: how many calls deep one may still go -/
def ak_mem (Z : ak_Z) (d : Nat) (own : Nat) (isInit : Bool) (ins : Instr) (x : ak_X) (S : List Value) (h : ak_H) : Option (List Value × ak_H) := match ins with
  | .getfield _ => match x, S with
    | (1, ci, k, _), .ref r :: st => if h.1[r]? = some (.inl ci) then (ak_fv h ci r k).map (fun v => (v :: st, h)) else none
    | (2, f, _, _), .ref r :: st => if 1000000 ≤ r ∧ r < 1000012 then (if f = 0 then some (.ref (r + 100) :: st, h) else some (.int 0 :: st, h)) else none
    | _, _ => none
  | .putfield _ => match x, S with
    | (1, ci, k, fin), v :: .ref r :: st => if h.1[r]? = some (.inl ci) ∧ (fin = 0 ∨ (isInit = true ∧ own = ci)) then (ak_fp h ci r k v).map (fun h' => (st, h')) else none
    | _, _ => none
  | .getstatic _ => match x with
    | (3, 0, _, _) => some (.ref 2000000 :: S, h)
    | (3, 1, _, _) => some (.ref 2000001 :: S, h)
    | (3, 2, _, _) => some (.int 1 :: S, h)
    | (3, 3, _, _) => some (.retAddr 0 :: S, h)
    | _ => none
  | .iaload => match S with
    | .int i :: .ref r :: st => match h.1[r]? with
      | some (.inr (0, n)) => if ak_inb i n = true then some (.int (h.2.1 r i.toNatClampNeg) :: st, h) else none
      | some _ => none
      | none => match ak_sa Z r with
        | some (false, n, f) => if ak_inb i n = true then some (.int (f i.toNatClampNeg) :: st, h) else none
        | _ => none
    | _ => none
  | .baload => match S with
    | .int i :: .ref r :: st => match h.1[r]? with
      | some (.inr (1, n)) => if ak_inb i n = true then some (.int (h.2.1 r i.toNatClampNeg) :: st, h) else none
      | some _ => none
      | none => match ak_sa Z r with
        | some (true, n, f) => if ak_inb i n = true then some (.int (f i.toNatClampNeg) :: st, h) else none
        | _ => none
    | _ => none
  | .aaload => match S with
    | .int i :: .ref r :: st => match h.1[r]? with
      | some (.inr (t, n)) => if ak_arr t = true ∧ ak_inb i n = true then some (va_rf (h.2.2.2 r i.toNatClampNeg) :: st, h) else none
      | _ => none
    | _ => none
  | .arraylength => match S with
    | .ref r :: st => match h.1[r]? with
      | some (.inr (t, n)) => if t < 5 then some (.int (Int32.ofNat n) :: st, h) else none
      | some _ => none
      | none => match ak_sa Z r with
        | some (_, n, _) => some (.int (Int32.ofNat n) :: st, h)
        | _ => none
    | _ => none
  | .iastore => match S with
    | .int v :: .int i :: .ref r :: st => match h.1[r]? with
      | some (.inr (0, n)) => if ak_inb i n = true then some (st, (h.1, ak_up h.2.1 r i.toNatClampNeg v, h.2.2.1, h.2.2.2)) else none
      | _ => none
    | _ => none
  | .bastore => match S with
    | .int v :: .int i :: .ref r :: st => match h.1[r]? with
      | some (.inr (1, n)) => if ak_inb i n = true ∧ (v = 0 ∨ v = 1) then some (st, (h.1, ak_up h.2.1 r i.toNatClampNeg v, h.2.2.1, h.2.2.2)) else none
      | _ => none
    | _ => none
  | .aastore => match S with
    | .ref v :: .int i :: .ref r :: st => match h.1[r]?, h.1[v]? with
      | some (.inr (t, n)), some (.inl c) => if ak_arr t = true ∧ ak_sub c (ak_el t) = true ∧ ak_inb i n = true then some (st, (h.1, h.2.1, h.2.2.1, ak_up h.2.2.2 r i.toNatClampNeg (some v))) else none
      | _, _ => none
    | _ => none
  | .new _ => match x with
    | (7, ci, _, _) => if ci < 13 ∧ h.1.length < ak_N0 then some (.ref h.1.length :: S, (h.1 ++ [.inl ci], fun a k => if a = h.1.length then 0 else h.2.1 a k, fun a k => if a = h.1.length then 0 else h.2.2.1 a k, fun a k => if a = h.1.length then none else h.2.2.2 a k)) else none
    | _ => none
  | .newarray at_ => match S with
    | .int n :: st => if (at_ = .int ∨ at_ = .boolean) ∧ ¬ n < 0 ∧ n.toNatClampNeg ≤ 10000 ∧ h.1.length < ak_N0 then some (.ref h.1.length :: st, (h.1 ++ [.inr (if at_ = .int then 0 else 1, n.toNatClampNeg)], fun a k => if a = h.1.length then 0 else h.2.1 a k, h.2.2.1, h.2.2.2)) else none
    | _ => none
  | .anewarray _ => match x, S with
    | (7, ci, t, _), .int n :: st => if ak_arr t = true ∧ ci = ak_el t ∧ ¬ n < 0 ∧ n.toNatClampNeg ≤ 10000 ∧ h.1.length < ak_N0 then some (.ref h.1.length :: st, (h.1 ++ [.inr (t, n.toNatClampNeg)], h.2.1, h.2.2.1, fun a k => if a = h.1.length then none else h.2.2.2 a k)) else none
    | _, _ => none
  | .instanceof _ => match x, S with
    | (7, j, _, _), .ref r :: st => match h.1[r]? with
      | some (.inl c) => if (c = 0 ∨ c = 1 ∨ c = 2 ∨ c = 3 ∨ c = 4 ∨ c = 9) ∧ (j = 0 ∨ j = 1 ∨ j = 2 ∨ j = 4 ∨ j = 9) then some (.int (if ak_sub c j = true then 1 else 0) :: st, h) else none
      | _ => none
    | _, _ => none
  | .invokespecial _ => match x, S with
    | (16, _, _, _), .ref _ :: st => if d ≠ 0 ∧ (st.map fun v => v.category).sum ≤ 8 then some (st, h) else none
    | _, _ => none
  | .invokestatic _ => match x, S with
    | (19, _, _, _), .int b :: .int a :: st => if d ≠ 0 ∧ (st.map fun v => v.category).sum ≤ 8 then some (.int (if b < a then b else a) :: st, h) else none
    | (20, _, _, _), .int b :: .int a :: st => if d ≠ 0 ∧ (st.map fun v => v.category).sum ≤ 8 then some (.int (if a < b then b else a) :: st, h) else none
    | (17, _, _, _), .int n :: .int dp :: .ref b :: .int sp :: .ref a :: st => match h.1[a]?, h.1[b]? with
      | some (.inr (0, n0)), some (.inr (0, n1)) => if d ≠ 0 ∧ ak_N0 ≤ h.1.length ∧ (st.map fun v => v.category).sum ≤ 8 ∧ ¬ sp < 0 ∧ ¬ dp < 0 ∧ ¬ n < 0 ∧ sp.toNatClampNeg + n.toNatClampNeg ≤ n0 ∧ dp.toNatClampNeg + n.toNatClampNeg ≤ n1 then some (st, (h.1, ak_cpy h.2.1 a sp.toNatClampNeg b dp.toNatClampNeg n.toNatClampNeg, h.2.2.1, h.2.2.2)) else none
      | _, _ => none
    | _, _ => none
  | _ => none
/-- calls: of which method, with what, and what stays on the stack -/
def ak_call (ins : Instr) (x : ak_X) (S : List Value) (h : ak_H) : Option (Nat × List Value × List Value) := match ins with
  | .invokevirtual _ => match x, S.drop x.2.2.1 with
    | (8, mi, n, ci), .ref r :: st => if h.1[r]? = some (.inl ci.toNat) ∧ (S.take n).length = n ∧ (st.map fun v => v.category).sum ≤ 8 then some (mi, .ref r :: (S.take n).reverse, st) else none
    | (9, mi, n, _), .ref r :: st => if (1000000 ≤ r ∧ r < 1000012) ∧ (S.take n).length = n ∧ (st.map fun v => v.category).sum ≤ 8 then some (mi, .ref r :: (S.take n).reverse, st) else none
    | (10, f, n, _), .ref r :: st => match h.1[r]? with
      | some (.inl c) => match ak_fam f c with
        | some mi => if (S.take n).length = n ∧ (st.map fun v => v.category).sum ≤ 8 then some (mi, .ref r :: (S.take n).reverse, st) else none
        | none => none
      | _ => none
    | _, _ => none
  | .invokespecial _ => match x, S.drop x.2.2.1 with
    | (14, mi, n, _), .ref r :: st => if r < h.1.length ∧ (S.take n).length = n ∧ (st.map fun v => v.category).sum ≤ 8 then some (mi, .ref r :: (S.take n).reverse, st) else none
    | (15, mi, n, _), .ref r :: st => match h.1[r]? with
      | some (.inl _) => if (S.take n).length = n ∧ (st.map fun v => v.category).sum ≤ 8 then some (mi, .ref r :: (S.take n).reverse, st) else none
      | _ => none
    | (18, mi, n, _), .ref r :: st => match h.1[r]? with
      | some (.inl _) => if (S.take n).length = n ∧ (st.map fun v => v.category).sum ≤ 8 then some (mi, .ref r :: (S.take n).reverse, st) else none
      | _ => none
    | _, _ => none
  | .invokestatic _ => match x with
    | (11, mi, n, _) => if (S.take n).length = n ∧ ((S.drop n).map fun v => v.category).sum ≤ 8 then some (mi, (S.take n).reverse, S.drop n) else none
    | (12, mi, n, _) => if (S.take n).length = n ∧ ((S.drop n).map fun v => v.category).sum ≤ 8 then some (mi, (S.take n).reverse, S.drop n) else none
    | (13, mi, n, _) => if (S.take n).length = n ∧ ((S.drop n).map fun v => v.category).sum ≤ 8 then some (mi, (S.take n).reverse, S.drop n) else none
    | _ => none
  | _ => none
/-- answers -/
def ak_ret (ret : Option FieldType) (ins : Instr) (S : List Value) : Option (Option Value) := match ins, S with
  | .ireturn, [.int v] => match ret with
    | some .int => some (some (.int v))
    | some .boolean => if v = 0 ∨ v = 1 then some (some (.int v)) else none
    | some .byte => if narrow .byte (.int v) = .int v then some (some (.int v)) else none
    | some .char => if narrow .char (.int v) = .int v then some (some (.int v)) else none
    | _ => none
  | .lreturn, [.long v] => match ret with
    | some .long => some (some (.long v))
    | _ => none
  | .areturn, [.ref v] => match ret with
    | some (.object _) => some (some (.ref v))
    | some (.array _) => some (some (.ref v))
    | _ => none
  | .return_, [] => match ret with
    | none => some none
    | _ => none
  | _, _ => none
/-- which instruction is of which sort -/
def ak_sort (ins : Instr) : Nat := match ins with
  | .iload_n _ => 1
  | .iload _ => 1
  | .lload_n _ => 1
  | .lload _ => 1
  | .aload_n _ => 1
  | .aload _ => 1
  | .istore_n _ => 2
  | .istore _ => 2
  | .lstore_n _ => 2
  | .lstore _ => 2
  | .astore_n _ => 2
  | .astore _ => 2
  | .iinc _ _ => 2
  | .goto _ => 3
  | .ifCond _ _ => 3
  | .if_icmp _ _ => 3
  | .tableswitch _ _ _ _ => 3
  | .getfield _ => 4
  | .putfield _ => 4
  | .getstatic _ => 4
  | .iaload => 4
  | .baload => 4
  | .aaload => 4
  | .arraylength => 4
  | .iastore => 4
  | .bastore => 4
  | .aastore => 4
  | .new _ => 4
  | .newarray _ => 4
  | .anewarray _ => 4
  | .instanceof _ => 4
  | .invokevirtual _ => 5
  | .invokespecial _ => 5
  | .invokestatic _ => 5
  | .ireturn => 6
  | .lreturn => 6
  | .areturn => 6
  | .return_ => 6
  | _ => 0
/-- one step -/
def ak_step (Z : ak_Z) (d own : Nat) (isInit : Bool) (ret : Option FieldType) (ins : Instr) (w : Nat) (x : ak_X) (pc : Nat) (L : ak_L) (S : List Value) (h : ak_H) : Option ak_O := match ak_sort ins with
  | 0 => (ak_stk ins x S).map (fun S' => .inl (pc + w, L, S', h))
  | 1 => (ak_load ins L S).map (fun S' => .inl (pc + w, L, S', h))
  | 2 => (ak_store ins L S).map (fun q => .inl (pc + w, q.1, q.2, h))
  | 3 => match ak_jump ins w pc S with
    | some (.ofNat t, S') => some (.inl (t, L, S', h))
    | _ => none
  | 4 => (ak_mem Z d own isInit ins x S h).map (fun q => .inl (pc + w, L, q.1, q.2))
  | 5 => match ak_mem Z d own isInit ins x S h with
    | some q => some (.inl (pc + w, L, q.1, q.2))
    | none => (ak_call ins x S h).map (fun q => .inr (.inr q))
  | 6 => (ak_ret ret ins S).map (fun r => .inr (.inl r))
  | _ => none
/-- a method's locals as it begins -/
def ak_ent (n : Nat) (args : List Value) : ak_L := match args with
  | [] => List.replicate n none
  | v :: r => if v.category = 2 then some v :: none :: ak_ent (n - 2) r else some v :: ak_ent (n - 1) r
/-- the machine: n steps at most, d calls deep at most -/
def ak_run (Z : ak_Z) : Nat → Nat → Nat → Nat → ak_L → List Value → ak_H → Option (Option Value × ak_H)
  | 0, _, _, _, _, _, _ => none
  | n + 1, d, mi, pc, L, S, h => match ak_M[mi]? with
    | none => none
    | some q => match q.2.2.2.2.1[pc]? with
      | some (some (ins, w, x)) => match ak_step Z d q.2.2.2.2.2 (q.1.name == "<init>") q.2.2.2.1 ins w x pc L S h with
        | some (.inl (pc', L', S', h')) => ak_run Z n d mi pc' L' S' h'
        | some (.inr (.inl r)) => some (r, h)
        | some (.inr (.inr (mj, as, rest))) => match d with
          | 0 => none
          | d' + 1 => match ak_M[mj]? with
            | none => none
            | some qj => if (ak_ent qj.2.2.1 as).length = qj.2.2.1 then (match ak_run Z n d' mj 0 (ak_ent qj.2.2.1 as) [] h with
              | some (r, h') => ak_run Z n d mi (pc + 3) L (r.toList ++ rest) h'
              | none => none) else none
        | none => none
      | _ => none
