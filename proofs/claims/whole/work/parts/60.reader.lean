/-! level 2: texts: the pure reader (bytes B, so many n) -/
/-- the first place from i on, within j, that isn't p -/
def zrun (p : Nat → Bool) : Nat → Nat → Nat
  | 0, i => i
  | j + 1, i => if p i = true then zrun p j (i + 1) else i
theorem zrun_ge (p : Nat → Bool) : ∀ j i, i ≤ zrun p j i ∧ zrun p j i ≤ i + j := by
  intro j
  induction j with
  | zero => intro i; exact ⟨Nat.le_refl i, Nat.le_refl i⟩
  | succ j ih =>
    intro i
    unfold zrun
    split
    · have := ih (i + 1); omega
    · omega
theorem zrun_gt {p : Nat → Bool} {j i : Nat} (hj : 0 < j) (h : p i = true) : i < zrun p j i := by
  obtain ⟨k, rfl⟩ : ∃ k, j = k + 1 := ⟨j - 1, by omega⟩
  unfold zrun
  rw [if_pos h]
  have := zrun_ge p k (i + 1)
  omega
def zbla (b : Nat) : Bool := decide (b = 32 ∨ b = 10)
def zlet (b : Nat) : Bool := decide (97 ≤ b ∧ b ≤ 122)
def zdgt (b : Nat) : Bool := decide (48 ≤ b ∧ b ≤ 57)
def zsig (b : Nat) : Bool := decide (b = 40 ∨ b = 41 ∨ b = 59 ∨ b = 43 ∨ b = 45 ∨ b = 42 ∨ b = 60 ∨ b = 61)
def zmw (B : Nat → Nat) : Nat → List Nat → Bool
  | _, [] => true
  | i, c :: l => decide (B i = c) && zmw B (i + 1) l
/-- whether the bytes i .. e spell the word -/
def zis (B : Nat → Nat) (i e : Nat) (l : List Nat) : Bool := decide (e = i + l.length) && zmw B i l
/-- which key word it is, 262 none -/
def zkey (B : Nat → Nat) (i e : Nat) : Nat :=
  if zis B i e [106, 111, 121, 115] = true then 256 else
  if zis B i e [101, 97, 114, 110, 115] = true then 257 else
  if zis B i e [109, 97, 121] = true then 258 else
  if zis B i e [111, 114] = true then 259 else
  if zis B i e [97, 110, 100] = true then 260 else
  if zis B i e [110, 111, 116] = true then 261 else 262
/-- which name it is, 6 none -/
def znam (B : Nat → Nat) (i e : Nat) : Nat :=
  if zis B i e [119, 101, 101, 107] = true then 0 else
  if zis B i e [119, 105, 115, 104, 101, 100] = true then 1 else
  if zis B i e [110, 117, 109, 98, 101, 114] = true then 2 else
  if zis B i e [108, 101, 110, 103, 116, 104] = true then 3 else
  if zis B i e [112, 111, 105, 110, 116, 115] = true then 4 else
  if zis B i e [97, 119, 97, 121] = true then 5 else 6
/-- what a word is: its token, its number -/
def zwd (B : Nat → Nat) (i e : Nat) : Nat × Nat := if zkey B i e = 262 then if znam B i e = 6 then (265, 6) else (262, znam B i e) else (zkey B i e, 0)
def zdig (B : Nat → Nat) (s : Nat) : Nat → Nat
  | 0 => 0
  | k + 1 => 10 * zdig B s k + (B (s + k) - 48)
/-- a token: its place, its end, what it is, its number -/
abbrev zTk : Type := Nat × Nat × Nat × Nat
def zskp (B : Nat → Nat) (n i : Nat) : Nat := zrun (fun k => zbla (B k)) (n - i) i
def zwe (B : Nat → Nat) (n i : Nat) : Nat := zrun (fun k => zlet (B k)) (n - i) i
def zne (B : Nat → Nat) (n i : Nat) : Nat := zrun (fun k => zdgt (B k)) (n - i) i
def zlx1 (B : Nat → Nat) (n s : Nat) : zTk :=
  if s < n then
    if zlet (B s) = true then (s, zwe B n s, (zwd B s (zwe B n s)).1, (zwd B s (zwe B n s)).2)
    else if zdgt (B s) = true then (s, zne B n s, if 4 < zne B n s - s then 265 else 263, zdig B s (zne B n s - s))
    else if zsig (B s) = true then (s, s + 1, B s, 0) else (s, s, 265, 0)
  else (s, s, 264, 0)
def zlx (B : Nat → Nat) (n i : Nat) : zTk := zlx1 B n (zskp B n i)
/-- what a token's parts are called -/
def zTk.p (S : zTk) : Nat := S.1
def zTk.e (S : zTk) : Nat := S.2.1
def zTk.k (S : zTk) : Nat := S.2.2.1
def zTk.v (S : zTk) : Nat := S.2.2.2
/-- a token within n bytes -/
def zG (n : Nat) (S : zTk) : Prop := S.p ≤ S.e ∧ S.e ≤ n ∧ (S.k = 264 ∨ S.k = 265 ∨ S.p < S.e)
theorem zlx_G (B : Nat → Nat) {n i : Nat} (h : i ≤ n) : i ≤ (zlx B n i).p ∧ zG n (zlx B n i) := by
  have h1 := zrun_ge (fun k => zbla (B k)) (n - i) i
  unfold zlx
  have hs : i ≤ zskp B n i ∧ zskp B n i ≤ n := by unfold zskp; omega
  generalize zskp B n i = s at hs
  unfold zlx1
  have h2 := zrun_ge (fun k => zlet (B k)) (n - s) s
  have h3 := zrun_ge (fun k => zdgt (B k)) (n - s) s
  split
  · rename_i c
    split
    · rename_i d
      have := zrun_gt (p := fun k => zlet (B k)) (j := n - s) (i := s) (by omega) d
      exact ⟨hs.1, h2.1, (by show zrun _ _ _ ≤ n; omega), Or.inr (Or.inr this)⟩
    · split
      · rename_i d
        have := zrun_gt (p := fun k => zdgt (B k)) (j := n - s) (i := s) (by omega) d
        exact ⟨hs.1, h3.1, (by show zrun _ _ _ ≤ n; omega), Or.inr (Or.inr this)⟩
      · split
        · exact ⟨hs.1, Nat.le_succ s, c, Or.inr (Or.inr (Nat.lt_succ_self s))⟩
        · exact ⟨hs.1, Nat.le_refl s, hs.2, Or.inr (Or.inl rfl)⟩
  · exact ⟨hs.1, Nat.le_refl s, hs.2, Or.inl rfl⟩
theorem zkey_le (B : Nat → Nat) (i e : Nat) : 256 ≤ zkey B i e ∧ zkey B i e ≤ 262 := by
  unfold zkey
  repeat' split
  all_goals omega
theorem znam_le (B : Nat → Nat) (i e : Nat) : znam B i e ≤ 6 := by
  unfold znam
  repeat' split
  all_goals omega
theorem zwd_k (B : Nat → Nat) (i e : Nat) : (zwd B i e).1 ≤ 265 := by
  have := (zkey_le B i e).2
  unfold zwd
  split
  · split
    · exact Nat.le_refl _
    · exact (by decide : 262 ≤ 265)
  · show zkey B i e ≤ 265
    omega
theorem zlx_k (B : Nat → Nat) (n i : Nat) : (zlx B n i).k ≤ 265 := by
  unfold zlx zlx1
  generalize zskp B n i = s
  split
  · split
    · exact zwd_k _ _ _
    · split
      · show (if 4 < zne B n s - s then 265 else 263) ≤ 265
        split <;> omega
      · split
        · rename_i h
          show B s ≤ 265
          have := of_decide_eq_true h
          omega
        · exact Nat.le_refl _
  · exact (by decide : 264 ≤ 265)
/-- what a reader gives: nothing (no fuel), the place of a fault, or code and the next token -/
abbrev zR : Type := Option (Nat ⊕ (List Int32 × zTk))
def zbd (r : zR) (f : List Int32 → zTk → zR) : zR := match r with
  | none => none
  | some (.inl p) => some (.inl p)
  | some (.inr y) => f y.1 y.2
theorem zbd_inr {r : zR} {f : List Int32 → zTk → zR} {y : List Int32 × zTk} (h : zbd r f = some (.inr y)) : ∃ c S, r = some (.inr (c, S)) ∧ f c S = some (.inr y) := by
  unfold zbd at h
  split at h
  · cases h
  · cases h
  · rename_i z; exact ⟨z.1, z.2, rfl, h⟩
theorem zbd_none {r : zR} {f : List Int32 → zTk → zR} (h1 : r ≠ none) (h2 : ∀ c S, r = some (.inr (c, S)) → f c S ≠ none) : zbd r f ≠ none := by
  unfold zbd
  split
  · exact absurd rfl h1
  · exact fun e => by cases e
  · exact h2 _ _ rfl
/-- operand after operand, while the token is one of op -/
def zlp (B : Nat → Nat) (n : Nat) (rc : zTk → zR) (op : Nat → Int32) : Nat → zTk → zR
  | 0, _ => none
  | f + 1, S => if op S.k = 0 then some (.inr ([], S)) else zbd (rc (zlx B n S.e)) fun c S1 => zbd (zlp B n rc op f S1) fun c2 S2 => some (.inr (c ++ op S.k :: c2, S2))
def zo0 (k : Nat) : Int32 := if k = 259 then -15 else 0
def zo1 (k : Nat) : Int32 := if k = 260 then -14 else 0
def zo4 (k : Nat) : Int32 := if k = 43 then -9 else if k = 45 then -10 else 0
def zo5 (k : Nat) : Int32 := if k = 42 then -11 else 0
def zlv (B : Nat → Nat) (n : Nat) (rc : zTk → zR) (op : Nat → Int32) (S : zTk) : zR := zbd (rc S) fun c S1 => zbd (zlp B n rc op 300 S1) fun c2 S2 => some (.inr (c ++ c2, S2))
def zrd2 (B : Nat → Nat) (n : Nat) (rc : Nat → Nat → zTk → zR) (o : Nat) (S : zTk) : zR :=
  if S.k = 261 then if o < 5 then zbd (rc 2 (o + 1) (zlx B n S.e)) fun c S1 => some (.inr (c ++ [-8], S1)) else some (.inl S.p) else rc 3 o S
def zrd3 (B : Nat → Nat) (n : Nat) (rc : Nat → Nat → zTk → zR) (o : Nat) (S : zTk) : zR :=
  zbd (rc 4 o S) fun c S1 => if S1.k = 60 then zbd (rc 4 o (zlx B n S1.e)) fun c2 S2 => some (.inr (c ++ c2 ++ [-12], S2))
    else if S1.k = 61 then zbd (rc 4 o (zlx B n S1.e)) fun c2 S2 => some (.inr (c ++ c2 ++ [-13], S2)) else some (.inr (c, S1))
def zrd6 (B : Nat → Nat) (n : Nat) (rc : Nat → Nat → zTk → zR) (o : Nat) (S : zTk) : zR :=
  if S.k = 263 then some (.inr ([Int32.ofNat S.v], zlx B n S.e))
  else if S.k = 262 then some (.inr ([-1 - Int32.ofNat S.v], zlx B n S.e))
  else if S.k = 45 then if o < 5 then zbd (rc 6 (o + 1) (zlx B n S.e)) fun c S1 => some (.inr (c ++ [-7], S1)) else some (.inl S.p)
  else if S.k = 40 then if o < 5 then zbd (rc 0 (o + 1) (zlx B n S.e)) fun c S1 => if S1.k = 41 then some (.inr (c, zlx B n S1.e)) else some (.inl S1.p) else some (.inl S.p)
  else some (.inl S.p)
def zrd (B : Nat → Nat) (n : Nat) : Nat → Nat → Nat → zTk → zR
  | 0, _, _, _ => none
  | k + 1, s, o, S =>
    if s = 0 then zlv B n (zrd B n k 1 o) zo0 S else if s = 1 then zlv B n (zrd B n k 2 o) zo1 S else if s = 2 then zrd2 B n (zrd B n k) o S
    else if s = 3 then zrd3 B n (zrd B n k) o S else if s = 4 then zlv B n (zrd B n k 5 o) zo4 S else if s = 5 then zlv B n (zrd B n k 6 o) zo5 S else zrd6 B n (zrd B n k) o S
/-- a reader goes on, and writes no more than it reads -/
def zP (n : Nat) (S : zTk) (r : zR) : Prop := ∀ c S1, r = some (.inr (c, S1)) → zG n S1 ∧ S.p < S.e ∧ S.e ≤ S1.p ∧ c.length + S.p ≤ S1.p
theorem zlp_P (B : Nat → Nat) {n : Nat} {rc : zTk → zR} {op : Nat → Int32} (hop : ∀ k, op k ≠ 0 → k ≠ 264 ∧ k ≠ 265) (h : ∀ S, zG n S → zP n S (rc S)) : ∀ f S c S1, zG n S → zlp B n rc op f S = some (.inr (c, S1)) → zG n S1 ∧ S.p ≤ S1.p ∧ c.length + S.p ≤ S1.p := by
  intro f
  induction f with
  | zero => intro S c S1 hS e; cases e
  | succ f ih =>
    intro S c S1 hS e
    unfold zlp at e
    split at e
    · cases e
      exact ⟨hS, Nat.le_refl _, by simp⟩
    · rename_i hk
      have hk2 := hop _ hk
      have hg := zlx_G B (n := n) (i := S.e) hS.2.1
      obtain ⟨c1, S2, e1, e2⟩ := zbd_inr e
      obtain ⟨c2, S3, e3, e4⟩ := zbd_inr e2
      cases e4
      obtain ⟨a1, a2, a3, a4⟩ := h _ hg.2 _ _ e1
      obtain ⟨b1, b2, b3⟩ := ih _ _ _ a1 e3
      have hlt : S.p < S.e := by
        rcases hS.2.2 with z | z | z
        · exact absurd z hk2.1
        · exact absurd z hk2.2
        · exact z
      have := hg.1
      refine ⟨b1, by omega, ?_⟩
      simp only [List.length_append, List.length_cons]
      omega
theorem zo0_n : ∀ k, zo0 k ≠ 0 → k ≠ 264 ∧ k ≠ 265 := by
  intro k h
  unfold zo0 at h
  split at h
  · omega
  · exact absurd rfl h
theorem zo1_n : ∀ k, zo1 k ≠ 0 → k ≠ 264 ∧ k ≠ 265 := by
  intro k h
  unfold zo1 at h
  split at h
  · omega
  · exact absurd rfl h
theorem zo4_n : ∀ k, zo4 k ≠ 0 → k ≠ 264 ∧ k ≠ 265 := by
  intro k h
  unfold zo4 at h
  split at h
  · omega
  · split at h
    · omega
    · exact absurd rfl h
theorem zo5_n : ∀ k, zo5 k ≠ 0 → k ≠ 264 ∧ k ≠ 265 := by
  intro k h
  unfold zo5 at h
  split at h
  · omega
  · exact absurd rfl h
theorem zlv_P (B : Nat → Nat) {n : Nat} {rc : zTk → zR} {op : Nat → Int32} (hop : ∀ k, op k ≠ 0 → k ≠ 264 ∧ k ≠ 265) (h : ∀ S, zG n S → zP n S (rc S)) {S : zTk} (hS : zG n S) : zP n S (zlv B n rc op S) := by
  intro c S1 e
  obtain ⟨c1, S2, e1, e2⟩ := zbd_inr e
  obtain ⟨c2, S3, e3, e4⟩ := zbd_inr e2
  cases e4
  obtain ⟨a1, a2, a3, a4⟩ := h _ hS _ _ e1
  obtain ⟨b1, b2, b3⟩ := zlp_P B hop h _ _ _ _ a1 e3
  refine ⟨b1, a2, by omega, ?_⟩
  simp only [List.length_append]
  omega
theorem zG_lt {n : Nat} {S : zTk} (h : zG n S) (h1 : S.k ≠ 264) (h2 : S.k ≠ 265) : S.p < S.e := by
  rcases h.2.2 with z | z | z
  · exact absurd z h1
  · exact absurd z h2
  · exact z
theorem zrd_P (B : Nat → Nat) (n : Nat) : ∀ k s o S, zG n S → zP n S (zrd B n k s o S) := by
  intro k
  induction k with
  | zero => intro s o S hS c S1 e; cases e
  | succ k ih =>
    intro s o S hS
    unfold zrd
    split
    · exact zlv_P B zo0_n (ih 1 o) hS
    split
    · exact zlv_P B zo1_n (ih 2 o) hS
    split
    · unfold zrd2
      split
      · rename_i hk
        split
        · intro c S1 e
          have hg := zlx_G B (n := n) (i := S.e) hS.2.1
          have hl := zG_lt hS (by omega) (by omega)
          obtain ⟨c1, S2, e1, e2⟩ := zbd_inr e
          cases e2
          obtain ⟨a1, a2, a3, a4⟩ := ih _ _ _ hg.2 _ _ e1
          have := hg.1
          refine ⟨a1, hl, by omega, ?_⟩
          simp only [List.length_append, List.length_cons, List.length_nil]
          omega
        · intro c S1 e; cases e
      · exact ih 3 o S hS
    split
    · unfold zrd3
      intro c S1 e
      obtain ⟨c1, S2, e1, e2⟩ := zbd_inr e
      obtain ⟨a1, a2, a3, a4⟩ := ih _ _ _ hS _ _ e1
      have hg := zlx_G B (n := n) (i := S2.e) a1.2.1
      have hg1 := hg.1
      split at e2
      · have hl := zG_lt a1 (by omega) (by omega)
        obtain ⟨c2, S3, e3, e4⟩ := zbd_inr e2
        cases e4
        obtain ⟨b1, b2, b3, b4⟩ := ih _ _ _ hg.2 _ _ e3
        refine ⟨b1, a2, by omega, ?_⟩
        simp only [List.length_append, List.length_cons, List.length_nil]
        omega
      split at e2
      · have hl := zG_lt a1 (by omega) (by omega)
        obtain ⟨c2, S3, e3, e4⟩ := zbd_inr e2
        cases e4
        obtain ⟨b1, b2, b3, b4⟩ := ih _ _ _ hg.2 _ _ e3
        refine ⟨b1, a2, by omega, ?_⟩
        simp only [List.length_append, List.length_cons, List.length_nil]
        omega
      · cases e2
        exact ⟨a1, a2, a3, a4⟩
    split
    · exact zlv_P B zo4_n (ih 5 o) hS
    split
    · exact zlv_P B zo5_n (ih 6 o) hS
    unfold zrd6
    have hg := zlx_G B (n := n) (i := S.e) hS.2.1
    have hg1 := hg.1
    split
    · intro c S1 e
      cases e
      have hl := zG_lt hS (by omega) (by omega)
      refine ⟨hg.2, hl, hg1, ?_⟩
      simp only [List.length_cons, List.length_nil]
      omega
    split
    · intro c S1 e
      cases e
      have hl := zG_lt hS (by omega) (by omega)
      refine ⟨hg.2, hl, hg1, ?_⟩
      simp only [List.length_cons, List.length_nil]
      omega
    split
    · split
      · intro c S1 e
        have hl := zG_lt hS (by omega) (by omega)
        obtain ⟨c1, S2, e1, e2⟩ := zbd_inr e
        cases e2
        obtain ⟨a1, a2, a3, a4⟩ := ih _ _ _ hg.2 _ _ e1
        refine ⟨a1, hl, by omega, ?_⟩
        simp only [List.length_append, List.length_cons, List.length_nil]
        omega
      · intro c S1 e; cases e
    split
    · split
      · intro c S1 e
        have hl := zG_lt hS (by omega) (by omega)
        obtain ⟨c1, S2, e1, e2⟩ := zbd_inr e
        split at e2
        · cases e2
          obtain ⟨a1, a2, a3, a4⟩ := ih _ _ _ hg.2 _ _ e1
          have hg2 := zlx_G B (n := n) (i := S2.e) a1.2.1
          have := hg2.1
          have := a1.1
          exact ⟨hg2.2, hl, by omega, by omega⟩
        · cases e2
      · intro c S1 e; cases e
    · intro c S1 e; cases e
theorem zlp_T (B : Nat → Nat) {n : Nat} {rc : zTk → zR} {op : Nat → Int32} (hop : ∀ k, op k ≠ 0 → k ≠ 264 ∧ k ≠ 265) (h : ∀ S, zG n S → zP n S (rc S)) (ht : ∀ S, zG n S → rc S ≠ none) : ∀ f S, zG n S → n < f + S.p → zlp B n rc op f S ≠ none := by
  intro f
  induction f with
  | zero => intro S hS hf; have := hS.1; have := hS.2.1; omega
  | succ f ih =>
    intro S hS hf
    unfold zlp
    split
    · exact fun e => by cases e
    · rename_i hk
      have hk2 := hop _ hk
      have hl := zG_lt hS hk2.1 hk2.2
      have hg := zlx_G B (n := n) (i := S.e) hS.2.1
      refine zbd_none (ht _ hg.2) (fun c S1 e1 => ?_)
      obtain ⟨a1, a2, a3, a4⟩ := h _ hg.2 _ _ e1
      have := hg.1
      exact zbd_none (ih _ a1 (by omega)) (fun _ _ _ e => by cases e)
theorem zlv_T (B : Nat → Nat) {n : Nat} (hn : n ≤ 160) {rc : zTk → zR} {op : Nat → Int32} (hop : ∀ k, op k ≠ 0 → k ≠ 264 ∧ k ≠ 265) (h : ∀ S, zG n S → zP n S (rc S)) (ht : ∀ S, zG n S → rc S ≠ none) {S : zTk} (hS : zG n S) : zlv B n rc op S ≠ none := by
  refine zbd_none (ht _ hS) (fun c S1 e1 => ?_)
  exact zbd_none (zlp_T B hop h ht _ _ (h _ hS _ _ e1).1 (by omega)) (fun _ _ _ e => by cases e)
/-- there is fuel enough -/
theorem zrd_T (B : Nat → Nat) {n : Nat} (hn : n ≤ 160) : ∀ k s o S, zG n S → o ≤ 5 → s ≤ 6 → 7 * (6 - o) ≤ k + s → zrd B n k s o S ≠ none := by
  intro k
  induction k with
  | zero => intro s o S hS ho hs hk; omega
  | succ k ih =>
    intro s o S hS ho hs hk
    unfold zrd
    split
    · exact zlv_T B hn zo0_n (zrd_P B n k 1 o) (fun S hS => ih 1 o S hS ho (by omega) (by omega)) hS
    split
    · exact zlv_T B hn zo1_n (zrd_P B n k 2 o) (fun S hS => ih 2 o S hS ho (by omega) (by omega)) hS
    split
    · unfold zrd2
      have hg := zlx_G B (n := n) (i := S.e) hS.2.1
      split
      · split
        · exact zbd_none (ih _ _ _ hg.2 (by omega) (by omega) (by omega)) (fun _ _ _ e => by cases e)
        · exact fun e => by cases e
      · exact ih _ _ _ hS ho (by omega) (by omega)
    split
    · unfold zrd3
      refine zbd_none (ih _ _ _ hS ho (by omega) (by omega)) (fun c S1 e1 => ?_)
      obtain ⟨a1, a2, a3, a4⟩ := zrd_P B n _ _ _ _ hS _ _ e1
      have hg := zlx_G B (n := n) (i := S1.e) a1.2.1
      split
      · exact zbd_none (ih _ _ _ hg.2 ho (by omega) (by omega)) (fun _ _ _ e => by cases e)
      split
      · exact zbd_none (ih _ _ _ hg.2 ho (by omega) (by omega)) (fun _ _ _ e => by cases e)
      · exact fun e => by cases e
    split
    · exact zlv_T B hn zo4_n (zrd_P B n k 5 o) (fun S hS => ih 5 o S hS ho (by omega) (by omega)) hS
    split
    · exact zlv_T B hn zo5_n (zrd_P B n k 6 o) (fun S hS => ih 6 o S hS ho (by omega) (by omega)) hS
    unfold zrd6
    have hg := zlx_G B (n := n) (i := S.e) hS.2.1
    split
    · exact fun e => by cases e
    split
    · exact fun e => by cases e
    split
    · split
      · exact zbd_none (ih _ _ _ hg.2 (by omega) (by omega) (by omega)) (fun _ _ _ e => by cases e)
      · exact fun e => by cases e
    split
    · split
      · refine zbd_none (ih _ _ _ hg.2 (by omega) (by omega) (by omega)) (fun c S1 e1 => ?_)
        split
        · exact fun e => by cases e
        · exact fun e => by cases e
      · exact fun e => by cases e
    · exact fun e => by cases e
