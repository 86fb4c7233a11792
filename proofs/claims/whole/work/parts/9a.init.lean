/-! the constructors: the small machine with no script at hand, as the kernel runs it -/
def zi_Z0 : ak_Z := (0, fun _ => 0)
def zi_h0 : ak_H := ([], fun _ _ => 0, fun _ _ => 0, fun _ _ => none)
def zi_ok (ins : Instr) (S : List Value) (h : ak_H) : Bool := match ins with
  | .arraylength => (match S with | .ref r :: _ => decide (r < h.1.length) | _ => false)
  | _ => true
/-- a place that is written stands low -/
def zi_ck (ins : Instr) (x : ak_X) (S : List Value) (h : ak_H) : Bool := match ins with
  | .putfield _ => decide (x.2.2.1 < 45)
  | .aastore => (match S with | .ref _ :: .int i :: _ => decide (i.toNatClampNeg < 45) | _ => false)
  | .arraylength => zi_ok .arraylength S h
  | _ => true
theorem zi_sa {Z : ak_Z} {r : Nat} (h : r ≠ 4000000) : ak_sa Z r = ak_sa zi_Z0 r := by
  unfold ak_sa
  simp only [h, if_false]
theorem zi_sa0 : ak_sa zi_Z0 4000000 = some (false, 0, fun _ => 0) := by
  unfold ak_sa
  simp [zi_Z0]
theorem zi_inb (i : Int32) : ak_inb i 0 = false := by
  unfold ak_inb
  simp
theorem zi_mem {Z : ak_Z} {d own : Nat} {b : Bool} {ins : Instr} {x : ak_X} {S : List Value} {h : ak_H} {y : List Value × ak_H} (hn : zi_ok ins S h = true) (h0 : ak_mem zi_Z0 d own b ins x S h = some y) : ak_mem Z d own b ins x S h = some y := by
  cases ins
  case iaload =>
    simp only [ak_mem] at h0 ⊢
    split at h0
    · rename_i i r st
      cases hk : h.1[r]? with
      | some k =>
        rw [hk] at h0
        split at h0 <;> first | (rename_i n e; cases e; exact h0) | (cases h0; done) | (rename_i e; cases e; done)
      | none =>
        rw [hk] at h0
        dsimp only at h0 ⊢
        by_cases e : r = 4000000
        · rw [e, zi_sa0] at h0
          dsimp only at h0
          rw [zi_inb] at h0
          cases h0
        · rw [zi_sa e]; exact h0
    · cases h0
  case baload =>
    simp only [ak_mem] at h0 ⊢
    split at h0
    · rename_i i r st
      cases hk : h.1[r]? with
      | some k =>
        rw [hk] at h0
        split at h0 <;> first | (rename_i n e; cases e; exact h0) | (cases h0; done) | (rename_i e; cases e; done)
      | none =>
        rw [hk] at h0
        dsimp only at h0 ⊢
        by_cases e : r = 4000000
        · rw [e, zi_sa0] at h0
          cases h0
        · rw [zi_sa e]; exact h0
    · cases h0
  case arraylength =>
    simp only [ak_mem] at h0 ⊢
    split at h0
    · rename_i r st
      have hr : r < h.1.length := by simpa [zi_ok] using hn
      obtain ⟨k, hk⟩ : ∃ k, h.1[r]? = some k := ⟨_, List.getElem?_eq_getElem hr⟩
      rw [hk] at h0 ⊢
      split at h0 <;> first | (rename_i t n e; cases e; exact h0) | (cases h0; done) | (rename_i e; cases e; done)
    · cases h0
  all_goals exact h0
theorem zi_mem5 {Z : ak_Z} {d own : Nat} {b : Bool} {ins : Instr} {x : ak_X} {S : List Value} {h : ak_H} (h5 : ak_sort ins = 5) : ak_mem Z d own b ins x S h = ak_mem zi_Z0 d own b ins x S h := by
  cases ins <;> first | rfl | (exfalso; revert h5; simp [ak_sort])
theorem zi_step {Z : ak_Z} {d own : Nat} {b : Bool} {ret : Option FieldType} {ins : Instr} {w : Nat} {x : ak_X} {pc : Nat} {L : ak_L} {S : List Value} {h : ak_H} {o : ak_O} (hn : zi_ok ins S h = true) (h0 : ak_step zi_Z0 d own b ret ins w x pc L S h = some o) : ak_step Z d own b ret ins w x pc L S h = some o := by
  unfold ak_step at h0 ⊢
  generalize hs : ak_sort ins = t at h0 ⊢
  match t, hs, h0 with
  | 0, _, h0 => exact h0
  | 1, _, h0 => exact h0
  | 2, _, h0 => exact h0
  | 3, _, h0 => exact h0
  | 4, _, h0 =>
    obtain ⟨q, h1, h2⟩ := Option.map_eq_some_iff.mp h0
    show (ak_mem Z d own b ins x S h).map _ = some o
    rw [zi_mem hn h1]
    exact congrArg some h2
  | 5, hs, h0 =>
    have e := zi_mem5 (Z := Z) (d := d) (own := own) (b := b) (x := x) (S := S) (h := h) hs
    rw [e]
    exact h0
  | 6, _, h0 => exact h0
  | n + 7, _, h0 => cases h0
/-- what isn't written holds nothing -/
def zi_B (h : ak_H) : Prop := (∀ a b, (h.1.length ≤ a ∨ 45 ≤ b) → h.2.2.2 a b = none) ∧ ∀ a b, (h.1.length ≤ a ∨ 45 ≤ b) → h.2.2.1 a b = 0
theorem zi_B0 : zi_B zi_h0 := ⟨fun _ _ _ => rfl, fun _ _ _ => rfl⟩
theorem zi_up {α : Type} {f : Nat → Nat → α} {i j n : Nat} {v o : α} (hf : ∀ a b, (n ≤ a ∨ 45 ≤ b) → f a b = o) (hi : i < n) (hj : j < 45) : ∀ a b, (n ≤ a ∨ 45 ≤ b) → ak_up f i j v a b = o := by
  intro a b h
  unfold ak_up
  rw [if_neg (by omega)]
  exact hf a b h
theorem zi_gr {α : Type} {f : Nat → Nat → α} {n : Nat} {o : α} (hf : ∀ a b, (n ≤ a ∨ 45 ≤ b) → f a b = o) : ∀ a b, (n + 1 ≤ a ∨ 45 ≤ b) → f a b = o := fun a b h => hf a b (by omega)
theorem zi_nw {α : Type} {f : Nat → Nat → α} {n : Nat} {o : α} (hf : ∀ a b, (n ≤ a ∨ 45 ≤ b) → f a b = o) : ∀ a b, (n + 1 ≤ a ∨ 45 ≤ b) → (fun a k => if a = n then o else f a k) a b = o := by
  intro a b h
  show (if a = n then o else f a b) = o
  split
  · rfl
  · exact hf a b (by omega)
theorem zi_fp {h h' : ak_H} {ci r k : Nat} {v : Value} (hB : zi_B h) (hk : k < 45) (hr : r < h.1.length) (hp : ak_fp h ci r k v = some h') : zi_B h' := by
  unfold ak_fp at hp
  split at hp
  · cases hp; exact hB
  · split at hp
    · cases hp; exact hB
    · cases hp
  · cases hp; exact ⟨hB.1, zi_up hB.2 hr hk⟩
  · cases hp; exact ⟨zi_up hB.1 hr hk, hB.2⟩
  · cases hp
theorem zi_len {h : ak_H} {r : Nat} {k : ak_K} (e : h.1[r]? = some k) : r < h.1.length := (List.getElem?_eq_some_iff.mp e).1
theorem zi_memB {Z : ak_Z} {d own : Nat} {b : Bool} {ins : Instr} {x : ak_X} {S : List Value} {h : ak_H} {y : List Value × ak_H} (hB : zi_B h) (hc : zi_ck ins x S h = true) (h0 : ak_mem Z d own b ins x S h = some y) : zi_B y.2 := by
  cases ins
  case putfield i =>
    simp only [ak_mem] at h0
    simp only [zi_ck, decide_eq_true_eq] at hc
    split at h0
    · split at h0
      · rename_i g
        obtain ⟨h', h1, h2⟩ := Option.map_eq_some_iff.mp h0
        cases h2
        exact zi_fp hB hc (zi_len g.1) h1
      · cases h0
    · cases h0
  case aastore =>
    simp only [ak_mem] at h0
    split at h0
    · split at h0
      · rename_i e1 e2
        split at h0
        · cases h0
          simp only [zi_ck, decide_eq_true_eq] at hc
          exact ⟨zi_up hB.1 (zi_len e1) hc, hB.2⟩
        · cases h0
      · cases h0
    · cases h0
  case new i =>
    simp only [ak_mem] at h0
    split at h0
    · split at h0
      · cases h0
        refine ⟨fun a b hh => ?_, fun a b hh => ?_⟩
        · have h2 : h.1.length + 1 ≤ a ∨ 45 ≤ b := by simpa using hh
          exact zi_nw hB.1 a b h2
        · have h2 : h.1.length + 1 ≤ a ∨ 45 ≤ b := by simpa using hh
          exact zi_nw hB.2 a b h2
      · cases h0
    · cases h0
  case newarray i =>
    simp only [ak_mem] at h0
    split at h0
    · split at h0
      · cases h0
        refine ⟨fun a b hh => ?_, fun a b hh => ?_⟩
        · have h2 : h.1.length + 1 ≤ a ∨ 45 ≤ b := by simpa using hh
          exact zi_gr hB.1 a b h2
        · have h2 : h.1.length + 1 ≤ a ∨ 45 ≤ b := by simpa using hh
          exact zi_gr hB.2 a b h2
      · cases h0
    · cases h0
  case anewarray i =>
    simp only [ak_mem] at h0
    split at h0
    · split at h0
      · cases h0
        refine ⟨fun a b hh => ?_, fun a b hh => ?_⟩
        · have h2 : h.1.length + 1 ≤ a ∨ 45 ≤ b := by simpa using hh
          exact zi_nw hB.1 a b h2
        · have h2 : h.1.length + 1 ≤ a ∨ 45 ≤ b := by simpa using hh
          exact zi_gr hB.2 a b h2
      · cases h0
    · cases h0
  all_goals first
    | (simp [ak_mem] at h0; done)
    | (simp only [ak_mem] at h0
       (repeat' split at h0) <;> first | (cases h0; done) | (cases h0; exact hB) | (obtain ⟨v, h1, h2⟩ := Option.map_eq_some_iff.mp h0; cases h2; exact hB))
/-- the run that the kernel does -/
def zi_Q : Nat → Nat → Nat → Nat → ak_L → List Value → ak_H → Option (Option Value × ak_H)
  | 0, _, _, _, _, _, _ => none
  | n + 1, d, mi, pc, L, S, h => match ak_M[mi]? with
    | none => none
    | some q => match q.2.2.2.2.1[pc]? with
      | some (some (ins, w, x)) => if zi_ck ins x S h = true then (match ak_step zi_Z0 d q.2.2.2.2.2 (q.1.name == "<init>") q.2.2.2.1 ins w x pc L S h with
        | some (.inl (pc', L', S', h')) => zi_Q n d mi pc' L' S' h'
        | some (.inr (.inl r)) => some (r, h)
        | some (.inr (.inr (mj, as, rest))) => (match d with
          | 0 => none
          | d' + 1 => match ak_M[mj]? with
            | none => none
            | some qj => if (ak_ent qj.2.2.1 as).length = qj.2.2.1 then (match zi_Q n d' mj 0 (ak_ent qj.2.2.1 as) [] h with
              | some (r, h') => zi_Q n d mi (pc + 3) L (r.toList ++ rest) h'
              | none => none) else none)
        | none => none) else none
      | _ => none
theorem zi_ck_al {ins : Instr} {x : ak_X} {S : List Value} {h : ak_H} (h0 : zi_ck ins x S h = true) : zi_ok ins S h = true := by
  cases ins <;> first | rfl | exact h0
theorem zi_stepB {Z : ak_Z} {d own : Nat} {b : Bool} {ret : Option FieldType} {ins : Instr} {w : Nat} {x : ak_X} {pc : Nat} {L : ak_L} {S : List Value} {h : ak_H} {pc' : Nat} {L' : ak_L} {S' : List Value} {h' : ak_H} (hB : zi_B h) (hc : zi_ck ins x S h = true) (h0 : ak_step Z d own b ret ins w x pc L S h = some (.inl (pc', L', S', h'))) : zi_B h' := by
  unfold ak_step at h0
  split at h0
  · obtain ⟨q, h1, h2⟩ := Option.map_eq_some_iff.mp h0
    cases h2; exact hB
  · obtain ⟨q, h1, h2⟩ := Option.map_eq_some_iff.mp h0
    cases h2; exact hB
  · obtain ⟨q, h1, h2⟩ := Option.map_eq_some_iff.mp h0
    cases h2; exact hB
  · split at h0
    · cases h0; exact hB
    · cases h0
  · obtain ⟨q, h1, h2⟩ := Option.map_eq_some_iff.mp h0
    cases h2
    exact zi_memB hB hc h1
  · split at h0
    · rename_i q h1
      cases h0
      exact zi_memB hB hc h1
    · obtain ⟨q, h1, h2⟩ := Option.map_eq_some_iff.mp h0
      cases h2
  · obtain ⟨q, h1, h2⟩ := Option.map_eq_some_iff.mp h0
    cases h2
  · cases h0
theorem zi_Q_run {Z : ak_Z} : ∀ (n d mi pc : Nat) (L : ak_L) (S : List Value) (h : ak_H) (r : Option Value) (hf : ak_H), zi_B h → zi_Q n d mi pc L S h = some (r, hf) → ak_run Z n d mi pc L S h = some (r, hf) ∧ zi_B hf := by
  intro n
  induction n with
  | zero => intro d mi pc L S h r hf hB hr; rw [zi_Q] at hr; cases hr
  | succ n ih =>
    intro d mi pc L S h r hf hB hr
    rw [zi_Q] at hr
    split at hr
    · cases hr
    · rename_i q hM
      split at hr
      · rename_i ins w x hI
        split at hr
        · rename_i hc
          split at hr
          · rename_i pc' L' S' h' hs
            rw [ak_run_next hM hI (zi_step (zi_ck_al hc) hs)]
            exact ih _ _ _ _ _ _ _ _ (zi_stepB hB hc hs) hr
          · rename_i r1 hs
            cases hr
            exact ⟨ak_run_ret hM hI (zi_step (zi_ck_al hc) hs), hB⟩
          · rename_i mj as rest hs
            cases d with
            | zero => cases hr
            | succ d' =>
              dsimp only at hr
              split at hr
              · cases hr
              · rename_i qj hMj
                split at hr
                · rename_i hl
                  split at hr
                  · rename_i r1 h1 hq
                    obtain ⟨k1, k2⟩ := ih _ _ _ _ _ _ _ _ hB hq
                    rw [ak_run_call hM hI (zi_step (zi_ck_al hc) hs) hMj hl k1]
                    exact ih _ _ _ _ _ _ _ _ k2 hr
                  · cases hr
                · cases hr
          · cases hr
        · cases hr
      · cases hr
/-- the law's own frame, up to where its loop begins -/
def zi_G : Nat → Nat → Nat → ak_L → List Value → ak_H → Option (ak_L × List Value × ak_H)
  | 0, _, _, _, _, _ => none
  | n + 1, d, pc, L, S, h => if pc = 16 then some (L, S, h) else match ak_M[245]? with
    | none => none
    | some q => match q.2.2.2.2.1[pc]? with
      | some (some (ins, w, x)) => if zi_ck ins x S h = true then (match ak_step zi_Z0 d q.2.2.2.2.2 (q.1.name == "<init>") q.2.2.2.1 ins w x pc L S h with
        | some (.inl (pc', L', S', h')) => zi_G n d pc' L' S' h'
        | some (.inr (.inr (mj, as, rest))) => (match d with
          | 0 => none
          | d' + 1 => match ak_M[mj]? with
            | none => none
            | some qj => if (ak_ent qj.2.2.1 as).length = qj.2.2.1 then (match zi_Q 20000 d' mj 0 (ak_ent qj.2.2.1 as) [] h with
              | some (r, h') => zi_G n d (pc + 3) L (r.toList ++ rest) h'
              | none => none) else none)
        | _ => none) else none
      | _ => none
theorem zi_G_ev {Z : ak_Z} {Q : Option Value → ak_H → Prop} : ∀ (n d pc : Nat) (L : ak_L) (S : List Value) (h : ak_H) (L' : ak_L) (S' : List Value) (h' : ak_H), zi_B h → zi_G n d pc L S h = some (L', S', h') → zi_B h' ∧ (Ev Z d 245 16 L' S' h' Q → Ev Z d 245 pc L S h Q) := by
  intro n
  induction n with
  | zero => intro d pc L S h L' S' h' hB hr; rw [zi_G] at hr; cases hr
  | succ n ih =>
    intro d pc L S h L' S' h' hB hr
    rw [zi_G] at hr
    split at hr
    · rename_i e
      cases hr
      rw [e]
      exact ⟨hB, fun k => k⟩
    · split at hr
      · cases hr
      · rename_i q hM
        split at hr
        · rename_i ins w x hI
          split at hr
          · rename_i hc
            split at hr
            · rename_i pc' L1 S1 h1 hs
              obtain ⟨b1, b2⟩ := ih _ _ _ _ _ _ _ _ (zi_stepB hB hc hs) hr
              exact ⟨b1, fun k => e_step hM hI (zi_step (zi_ck_al hc) hs) (b2 k)⟩
            · rename_i mj as rest hs
              cases d with
              | zero => cases hr
              | succ d' =>
                dsimp only at hr
                split at hr
                · cases hr
                · rename_i qj hMj
                  split at hr
                  · rename_i hl
                    split at hr
                    · rename_i r1 h1 hq
                      obtain ⟨k1, k2⟩ := zi_Q_run (Z := Z) _ _ _ _ _ _ _ _ _ hB hq
                      obtain ⟨b1, b2⟩ := ih _ _ _ _ _ _ _ _ k2 hr
                      exact ⟨b1, fun k => e_call hM hI (zi_step (zi_ck_al hc) hs) hMj rfl hl ⟨_, _, _, k1, b2 k⟩⟩
                    · cases hr
                  · cases hr
            · cases hr
          · cases hr
        · cases hr
