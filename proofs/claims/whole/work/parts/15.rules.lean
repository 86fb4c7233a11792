/-! rules: what is enough that a run ends well; the heap once both objects are made -/
def mm_SH : List ak_K := [.inl 11, .inl 8, .inr (0, 4), .inr (0, 4), .inr (0, 4), .inr (0, 4), .inr (0, 4), .inr (0, 4), .inr (0, 4), .inl 8, .inr (0, 4), .inr (0, 4), .inr (0, 4), .inr (0, 4), .inr (0, 4), .inr (0, 4), .inr (0, 4), .inl 8, .inr (0, 4), .inr (0, 4), .inr (0, 4), .inr (0, 4), .inr (0, 4), .inr (0, 4), .inr (0, 4), .inr (0, 160), .inl 6, .inr (2, 6), .inr (3, 6), .inl 3, .inl 4, .inl 9, .inl 2, .inl 1, .inl 0, .inr (0, 6), .inr (0, 160), .inl 10, .inr (0, 160), .inr (0, 3), .inl 10, .inr (0, 160), .inr (0, 3), .inl 10, .inr (0, 160), .inr (0, 3), .inl 10, .inr (0, 160), .inr (0, 3), .inl 10, .inr (0, 160), .inr (0, 3), .inl 10, .inr (0, 160), .inr (0, 3), .inl 5, .inr (0, 36), .inr (0, 36), .inr (1, 36), .inr (1, 16), .inr (0, 8), .inr (0, 4), .inr (0, 4), .inr (0, 5), .inr (4, 4), .inl 7, .inr (0, 40), .inl 7, .inr (0, 40), .inl 7, .inr (0, 40), .inl 7, .inr (0, 40), .inl 12, .inr (0, 960), .inr (0, 6), .inr (0, 160), .inr (0, 3), .inr (0, 4), .inr (0, 20), .inr (0, 4), .inr (1, 36), .inr (0, 36), .inr (0, 36), .inr (0, 4), .inr (0, 4), .inr (0, 3), .inr (0, 20), .inr (0, 4), .inr (1, 4), .inr (0, 4), .inr (0, 4), .inr (0, 160)]
def mm_RT : List (List (Option Nat)) := [[some 1, some 9, some 17, none, some 25, none, some 26, some 55, some 64], [none, none, none, none, none, some 2, some 3, some 4, some 5, some 6, some 7, some 8], [], [], [], [], [], [], [], [none, none, none, none, none, some 10, some 11, some 12, some 13, some 14, some 15, some 16], [], [], [], [], [], [], [], [none, none, none, none, none, some 18, some 19, some 20, some 21, some 22, some 23, some 24], [], [], [], [], [], [], [], [], [none, some 27, some 28, some 35, some 36], [some 37, some 40, some 43, some 46, some 49, some 52], [some 29, some 30, some 31, some 32, some 33, some 34], [], [], [], [], [], [], [], [], [some 38, some 39, none, none, some 25], [], [], [some 41, some 42, none, none, some 25], [], [], [some 44, some 45, none, none, some 25], [], [], [some 47, some 48, none, none, some 25], [], [], [some 50, some 51, none, none, some 25], [], [], [some 53, some 54, none, none, some 25], [], [], [some 26, some 1, some 56, some 57, some 58, some 59, some 60, some 61, some 62, some 63], [], [], [], [], [], [], [], [], [some 65, some 67, some 69, some 71], [none, none, some 66], [], [none, none, some 68], [], [none, none, some 70], [], [none, none, some 72], [], [none, some 74, some 75, none, none, some 76, none, some 77, some 78, some 79, some 80, none, none, none, none, none, none, none, none, none, none, none, none, none, none, none, none, some 81, some 82, some 83, some 84, none, none, none, some 85, some 86, some 87, some 88, none, none, some 89, some 90, some 91, some 92], [], [], [], [], [], [], [], [], [], [], [], [], [], [], [], [], [], [], []]
/-- the heap's numbers, the planner's shop, the one long -/
abbrev mm_M : Type := (Nat → Nat → Int32) × Nat × Int64
def mm_R (p : Nat) : Nat → Nat → Option Nat := ak_up (fun i j => (mm_RT.getD i []).getD j none) 55 1 (some p)
def mm_J (t : Int64) : Nat → Nat → Int64 := fun a b => if a = 73 ∧ b = 23 then t else 0
def mm_H (M : mm_M) : ak_H := (mm_SH, M.1, mm_J M.2.2, mm_R M.2.1)
theorem mm_R_up (p v : Nat) : ak_up (mm_R p) 55 1 (some v) = mm_R v := by
  funext a b
  unfold mm_R ak_up
  by_cases h : a = 55 ∧ b = 1
  · simp [h]
  · simp [h]
theorem mm_J_up (t v : Int64) : ak_up (mm_J t) 73 23 v = mm_J v := by
  funext a b
  unfold mm_J ak_up
  by_cases h : a = 73 ∧ b = 23
  · simp [h]
  · simp [h]
theorem ak_inb_lt {i : Int32} {n : Nat} (h : ak_inb i n = true) : i.toNatClampNeg < n := by
  unfold ak_inb at h
  simp only [Bool.and_eq_true, decide_eq_true_eq] at h
  exact h.2
/-- from here a run ends with Q -/
def Ev (Z : ak_Z) (d mi pc : Nat) (L : ak_L) (S : List Value) (h : ak_H) (Q : Option Value → ak_H → Prop) : Prop := ∃ (n : Nat) (r : Option Value) (h' : ak_H), ak_run Z n d mi pc L S h = some (r, h') ∧ Q r h'
section FW
variable {Z : ak_Z} {n d mi pc w : Nat} {L : ak_L} {S : List Value} {h : ak_H} {q : ak_Q} {ins : Instr} {x : ak_X}
theorem ak_run_next (hM : ak_M[mi]? = some q) (hI : q.2.2.2.2.1[pc]? = some (some (ins, w, x))) {pc' : Nat} {L' : ak_L} {S' : List Value} {h' : ak_H} (hs : ak_step Z d q.2.2.2.2.2 (q.1.name == "<init>") q.2.2.2.1 ins w x pc L S h = some (.inl (pc', L', S', h'))) : ak_run Z (n + 1) d mi pc L S h = ak_run Z n d mi pc' L' S' h' := by
  rw [ak_run]
  simp only [hM, hI, hs]
theorem ak_run_ret (hM : ak_M[mi]? = some q) (hI : q.2.2.2.2.1[pc]? = some (some (ins, w, x))) {r : Option Value} (hs : ak_step Z d q.2.2.2.2.2 (q.1.name == "<init>") q.2.2.2.1 ins w x pc L S h = some (.inr (.inl r))) : ak_run Z (n + 1) d mi pc L S h = some (r, h) := by
  rw [ak_run]
  simp only [hM, hI, hs]
theorem ak_run_call (hM : ak_M[mi]? = some q) (hI : q.2.2.2.2.1[pc]? = some (some (ins, w, x))) {mj : Nat} {as rest : List Value} (hs : ak_step Z (d + 1) q.2.2.2.2.2 (q.1.name == "<init>") q.2.2.2.1 ins w x pc L S h = some (.inr (.inr (mj, as, rest)))) {qj : ak_Q} (hMj : ak_M[mj]? = some qj) (hl : (ak_ent qj.2.2.1 as).length = qj.2.2.1) {r : Option Value} {h1 : ak_H} (hr : ak_run Z n d mj 0 (ak_ent qj.2.2.1 as) [] h = some (r, h1)) : ak_run Z (n + 1) (d + 1) mi pc L S h = ak_run Z n (d + 1) mi (pc + 3) L (r.toList ++ rest) h1 := by
  rw [ak_run]
  simp only [hM, hI, hs, hMj]
  rw [if_pos hl, hr]
end FW
theorem ak_run_more {Z : ak_Z} : ∀ (n d mi pc : Nat) (L : ak_L) (S : List Value) (h : ak_H) (r : Option Value) (hf : ak_H), ak_run Z n d mi pc L S h = some (r, hf) → ∀ k, ak_run Z (n + k) d mi pc L S h = some (r, hf) := by
  intro n
  induction n with
  | zero => intro d mi pc L S h r hf hr; rw [ak_run] at hr; cases hr
  | succ n ih =>
    intro d mi pc L S h r hf hr k
    rw [show n + 1 + k = (n + k) + 1 by omega]
    obtain ⟨q, ins, w, x, o, hq, hi, hs, ⟨pc', L', S', h', rfl, h2⟩ | ⟨rfl, rfl⟩ | ⟨mj, as, rest, d', qj, r1, h1, rfl, rfl, h3, hlen, h4, h5⟩⟩ := ak_run_inv hr
    · rw [ak_run_next hq hi hs]
      exact ih _ _ _ _ _ _ _ _ h2 k
    · exact ak_run_ret hq hi hs
    · rw [ak_run_call hq hi hs h3 hlen (ih _ _ _ _ _ _ _ _ h4 k)]
      exact ih _ _ _ _ _ _ _ _ h5 k
section EV
variable {Z : ak_Z} {d mi pc w : Nat} {L : ak_L} {S : List Value} {h : ak_H} {Q : Option Value → ak_H → Prop} {q : ak_Q} {ins : Instr} {x : ak_X}
theorem e_step (hM : ak_M[mi]? = some q) (hI : q.2.2.2.2.1[pc]? = some (some (ins, w, x))) {pc' : Nat} {L' : ak_L} {S' : List Value} {h' : ak_H} (hs : ak_step Z d q.2.2.2.2.2 (q.1.name == "<init>") q.2.2.2.1 ins w x pc L S h = some (.inl (pc', L', S', h'))) (kk : Ev Z d mi pc' L' S' h' Q) : Ev Z d mi pc L S h Q := by
  obtain ⟨n, r, h1, h2, h3⟩ := kk
  exact ⟨n + 1, r, h1, by rw [ak_run_next hM hI hs]; exact h2, h3⟩
theorem e_ret (hM : ak_M[mi]? = some q) (hI : q.2.2.2.2.1[pc]? = some (some (ins, w, x))) {r : Option Value} (hs : ak_step Z d q.2.2.2.2.2 (q.1.name == "<init>") q.2.2.2.1 ins w x pc L S h = some (.inr (.inl r))) (kk : Q r h) : Ev Z d mi pc L S h Q :=
  ⟨1, r, h, ak_run_ret hM hI hs, kk⟩
theorem e_call (hM : ak_M[mi]? = some q) (hI : q.2.2.2.2.1[pc]? = some (some (ins, w, x))) {mj : Nat} {as rest : List Value} (hs : ak_step Z (d + 1) q.2.2.2.2.2 (q.1.name == "<init>") q.2.2.2.1 ins w x pc L S h = some (.inr (.inr (mj, as, rest)))) {qj : ak_Q} (hMj : ak_M[mj]? = some qj) {Lj : ak_L} (hL : ak_ent qj.2.2.1 as = Lj) (hl : Lj.length = qj.2.2.1)
    (kk : Ev Z d mj 0 Lj [] h (fun r h1 => Ev Z (d + 1) mi (pc + 3) L (r.toList ++ rest) h1 Q)) : Ev Z (d + 1) mi pc L S h Q := by
  subst hL
  obtain ⟨n, r, h1, h2, n2, r2, h3, h4, h5⟩ := kk
  refine ⟨n + n2 + 1, r2, h3, ?_, h5⟩
  have := ak_run_more _ _ _ _ _ _ _ _ _ h4 n
  rw [Nat.add_comm n2 n] at this
  rw [ak_run_call hM hI hs hMj hl (ak_run_more _ _ _ _ _ _ _ _ _ h2 n2)]
  exact this
/-- known locals may be forgotten -/
def ak_lf : ak_L → ak_L → Prop
  | [], [] => True
  | a' :: t', a :: t => (a' = a ∨ a' = none) ∧ ak_lf t' t
  | _, _ => False
theorem lf_0 : ak_lf [] [] := trivial
theorem lf_k {a : Option Value} {t' t : ak_L} (h : ak_lf t' t) : ak_lf (a :: t') (a :: t) := ⟨Or.inl rfl, h⟩
theorem lf_d {a : Option Value} {t' t : ak_L} (h : ak_lf t' t) : ak_lf (none :: t') (a :: t) := ⟨Or.inr rfl, h⟩
def ak_le (L' L : ak_L) : Prop := L'.length = L.length ∧ ∀ (i : Nat) (v : Value), L'[i]? = some (some v) → L[i]? = some (some v)
theorem ak_lf_le : ∀ {L' L : ak_L}, ak_lf L' L → ak_le L' L
  | [], [], _ => ⟨rfl, fun i v h => h⟩
  | a' :: t', a :: t, h => by
    obtain ⟨h1, h2⟩ := ak_lf_le h.2
    refine ⟨by simp [h1], fun i v hi => ?_⟩
    cases i with
    | zero =>
      rw [List.getElem?_cons_zero] at hi ⊢
      cases hi
      rcases h.1 with e | e
      · rw [← e]
      · cases e
    | succ i =>
      rw [List.getElem?_cons_succ] at hi ⊢
      exact h2 i v hi
theorem ak_le_at {L' L : ak_L} {k : Nat} {v : Value} (h : ak_le L' L) (hk : L'[k]? = some (some v)) : L[k]? = some (some v) := h.2 k v hk
theorem ak_le_set {L' L : ak_L} (k : Nat) (o : Option Value) (h : ak_le L' L) : ak_le (L'.set k o) (L.set k o) := by
  refine ⟨by simp [h.1], fun i v hi => ?_⟩
  by_cases hik : i = k
  · subst hik
    have hl : i < L'.length := by simpa using (List.getElem?_eq_some_iff.mp hi).1
    rw [List.getElem?_set_self hl] at hi
    rw [List.getElem?_set_self (by rw [← h.1]; exact hl)]
    exact hi
  · rw [List.getElem?_set_ne (Ne.symm hik)] at hi ⊢
    exact h.2 i v hi
theorem ak_le_kill {L' L : ak_L} (k : Nat) (h : ak_le L' L) : ak_le (ak_kill L' k) (ak_kill L k) :=
  ⟨by rw [ak_kill_len, ak_kill_len]; exact h.1, fun i v hi => ak_kill_at.mpr ⟨h.2 i v (ak_kill_at.mp hi).1, (ak_kill_at.mp hi).2⟩⟩
theorem ak_le_load {L' L : ak_L} (hl : ak_le L' L) {S S' : List Value} (h : ak_load ins L' S = some S') : ak_load ins L S = some S' := by
  have hi : ∀ {k : Nat}, ak_ldi L' k S = some S' → ak_ldi L k S = some S' := by
    intro k hk
    obtain ⟨v, e, rfl⟩ := ak_ldi_ok hk
    unfold ak_ldi
    rw [ak_le_at hl e]
  have hj : ∀ {k : Nat}, ak_ldl L' k S = some S' → ak_ldl L k S = some S' := by
    intro k hk
    obtain ⟨v, e, rfl⟩ := ak_ldl_ok hk
    unfold ak_ldl
    rw [ak_le_at hl e]
  have ha : ∀ {k : Nat}, ak_lda L' k S = some S' → ak_lda L k S = some S' := by
    intro k hk
    obtain ⟨v, e, rfl⟩ := ak_lda_ok hk
    unfold ak_lda
    rw [ak_le_at hl e]
  unfold ak_load at h ⊢
  split at h <;> first | exact hi h | exact hj h | exact ha h | cases h
theorem ak_le_store {L' L : ak_L} (hl : ak_le L' L) {S : List Value} {t' : ak_L × List Value} (h : ak_store ins L' S = some t') : ∃ t, ak_store ins L S = some t ∧ ak_le t'.1 t.1 ∧ t.2 = t'.2 := by
  have s1 : ∀ {k : Nat} {v : Value} {l' : ak_L}, ak_st1 L' k v = some l' → ∃ l, ak_st1 L k v = some l ∧ ak_le l' l := by
    intro k v l' e
    unfold ak_st1 at e ⊢
    split at e
    · rename_i hc
      cases e
      exact ⟨_, if_pos (by rw [← hl.1]; exact hc), ak_le_set k _ (ak_le_kill k hl)⟩
    · cases e
  have s2 : ∀ {k : Nat} {v : Value} {l' : ak_L}, ak_st2 L' k v = some l' → ∃ l, ak_st2 L k v = some l ∧ ak_le l' l := by
    intro k v l' e
    unfold ak_st2 at e ⊢
    split at e
    · rename_i hc
      cases e
      exact ⟨_, if_pos (by rw [← hl.1]; exact hc), ak_le_set _ _ (ak_le_set k _ (ak_le_kill k hl))⟩
    · cases e
  have hi : ∀ {k : Nat}, ak_stoi L' k S = some t' → ∃ t, ak_stoi L k S = some t ∧ ak_le t'.1 t.1 ∧ t.2 = t'.2 := by
    intro k hk
    obtain ⟨v, rfl, e⟩ := ak_stoi_ok hk
    obtain ⟨l, e1, e2⟩ := s1 e
    exact ⟨(l, t'.2), by unfold ak_stoi; simp [e1], e2, rfl⟩
  have hj : ∀ {k : Nat}, ak_stol L' k S = some t' → ∃ t, ak_stol L k S = some t ∧ ak_le t'.1 t.1 ∧ t.2 = t'.2 := by
    intro k hk
    obtain ⟨v, rfl, e⟩ := ak_stol_ok hk
    obtain ⟨l, e1, e2⟩ := s2 e
    exact ⟨(l, t'.2), by unfold ak_stol; simp [e1], e2, rfl⟩
  have ha : ∀ {k : Nat}, ak_stoa L' k S = some t' → ∃ t, ak_stoa L k S = some t ∧ ak_le t'.1 t.1 ∧ t.2 = t'.2 := by
    intro k hk
    obtain ⟨v, rfl, e⟩ := ak_stoa_ok hk
    obtain ⟨l, e1, e2⟩ := s1 e
    exact ⟨(l, t'.2), by unfold ak_stoa; simp [e1], e2, rfl⟩
  unfold ak_store at h ⊢
  split at h
  · exact hi h
  · exact hi h
  · exact hj h
  · exact hj h
  · exact ha h
  · exact ha h
  · split at h
    · rename_i v e
      cases e1 : ak_st1 L' _ (.int (v + Int32.ofInt _)) with
      | none => rw [e1] at h; cases h
      | some l' =>
        rw [e1] at h
        cases h
        obtain ⟨l, g1, g2⟩ := s1 e1
        exact ⟨(l, S), by rw [ak_le_at hl e]; simp [g1], g2, rfl⟩
    · cases h
  · cases h
theorem ak_step_le {d own : Nat} {b : Bool} {rt : Option FieldType} {L' : ak_L} (hl : ak_le L' L) {pc' : Nat} {L1' : ak_L} {S' : List Value} {h' : ak_H} (hs : ak_step Z d own b rt ins w x pc L' S h = some (.inl (pc', L1', S', h'))) : ∃ L1, ak_step Z d own b rt ins w x pc L S h = some (.inl (pc', L1, S', h')) ∧ ak_le L1' L1 := by
  unfold ak_step at hs ⊢
  split at hs
  · cases e : ak_stk ins x S with
    | none => rw [e] at hs; cases hs
    | some a => rw [e] at hs; cases hs; exact ⟨L, rfl, hl⟩
  · cases e : ak_load ins L' S with
    | none => rw [e] at hs; cases hs
    | some a => rw [e] at hs; cases hs; exact ⟨L, by rw [ak_le_load hl e]; rfl, hl⟩
  · cases e : ak_store ins L' S with
    | none => rw [e] at hs; cases hs
    | some a =>
      rw [e] at hs
      cases hs
      obtain ⟨t, e1, e2, e3⟩ := ak_le_store hl e
      exact ⟨t.1, by rw [e1, ← e3]; rfl, e2⟩
  · split at hs
    · cases hs
      exact ⟨L, rfl, hl⟩
    · cases hs
  · cases e : ak_mem Z d own b ins x S h with
    | none => rw [e] at hs; cases hs
    | some a => rw [e] at hs; cases hs; exact ⟨L, rfl, hl⟩
  · split at hs
    · cases hs
      exact ⟨L, rfl, hl⟩
    · cases e : ak_call ins x S h with
      | none => rw [e] at hs; cases hs
      | some a => rw [e] at hs; cases hs
  · cases e : ak_ret rt ins S with
    | none => rw [e] at hs; cases hs
    | some a => rw [e] at hs; cases hs
  · cases hs
theorem ak_step_le2 {d own : Nat} {b : Bool} {rt : Option FieldType} {L' : ak_L} {o : Option Value ⊕ (Nat × List Value × List Value)} (hs : ak_step Z d own b rt ins w x pc L' S h = some (.inr o)) : ak_step Z d own b rt ins w x pc L S h = some (.inr o) := by
  unfold ak_step at hs ⊢
  split at hs
  · cases e : ak_stk ins x S with
    | none => rw [e] at hs; cases hs
    | some a => rw [e] at hs; cases hs
  · cases e : ak_load ins L' S with
    | none => rw [e] at hs; cases hs
    | some a => rw [e] at hs; cases hs
  · cases e : ak_store ins L' S with
    | none => rw [e] at hs; cases hs
    | some a => rw [e] at hs; cases hs
  · split at hs <;> cases hs
  · cases e : ak_mem Z d own b ins x S h with
    | none => rw [e] at hs; cases hs
    | some a => rw [e] at hs; cases hs
  · split at hs
    · cases hs
    · exact hs
  · exact hs
  · cases hs
theorem ak_run_le : ∀ (n d mi pc : Nat) (L' L : ak_L) (S : List Value) (h : ak_H) (r : Option Value) (hf : ak_H), ak_le L' L → ak_run Z n d mi pc L' S h = some (r, hf) → ak_run Z n d mi pc L S h = some (r, hf) := by
  intro n
  induction n with
  | zero => intro d mi pc L' L S h r hf hl hr; rw [ak_run] at hr; cases hr
  | succ n ih =>
    intro d mi pc L' L S h r hf hl hr
    obtain ⟨q, ins, w, x, o, hq, hi, hs, ⟨pc', L1', S', h', rfl, h2⟩ | ⟨rfl, rfl⟩ | ⟨mj, as, rest, d', qj, r1, h1, rfl, rfl, h3, hlen, h4, h5⟩⟩ := ak_run_inv hr
    · obtain ⟨L1, e1, e2⟩ := ak_step_le hl hs
      rw [ak_run_next hq hi e1]
      exact ih _ _ _ _ _ _ _ _ _ e2 h2
    · exact ak_run_ret hq hi (ak_step_le2 hs)
    · rw [ak_run_call hq hi (ak_step_le2 hs) h3 hlen h4]
      exact ih _ _ _ _ _ _ _ _ _ hl h5
theorem e_forget {L' : ak_L} (hl : ak_lf L' L) (kk : Ev Z d mi pc L' S h Q) : Ev Z d mi pc L S h Q := by
  obtain ⟨n, r, h1, h2, h3⟩ := kk
  exact ⟨n, r, h1, ak_run_le _ _ _ _ _ _ _ _ _ _ (ak_lf_le hl) h2, h3⟩
theorem e_post {Q' : Option Value → ak_H → Prop} (hq : ∀ r h', Q' r h' → Q r h') (kk : Ev Z d mi pc L S h Q') : Ev Z d mi pc L S h Q := by
  obtain ⟨n, r, h1, h2, h3⟩ := kk
  exact ⟨n, r, h1, h2, hq _ _ h3⟩
end EV

def mm_is8 (r : Nat) : Bool := r == 1 || r == 9 || r == 17
theorem mm_in8 {r : Nat} (h : mm_is8 r = true) : r = 1 ∨ r = 9 ∨ r = 17 := by
  simpa [mm_is8, Bool.or_eq_true, or_assoc] using h
theorem mm_cl8 {r : Nat} (h : mm_is8 r = true) : mm_SH[r]? = some (.inl 8) := by
  rcases mm_in8 h with rfl | rfl | rfl <;> rfl
theorem mm_rf8_5 {p r : Nat} (h : mm_is8 r = true) : mm_R p r 5 = some (r + 1) := by
  rcases mm_in8 h with rfl | rfl | rfl <;> rfl
theorem mm_ar8_5 {r : Nat} (h : mm_is8 r = true) : mm_SH[r + 1]? = some (.inr (0, 4)) := by
  rcases mm_in8 h with rfl | rfl | rfl <;> rfl
theorem mm_rf8_6 {p r : Nat} (h : mm_is8 r = true) : mm_R p r 6 = some (r + 2) := by
  rcases mm_in8 h with rfl | rfl | rfl <;> rfl
theorem mm_ar8_6 {r : Nat} (h : mm_is8 r = true) : mm_SH[r + 2]? = some (.inr (0, 4)) := by
  rcases mm_in8 h with rfl | rfl | rfl <;> rfl
theorem mm_rf8_7 {p r : Nat} (h : mm_is8 r = true) : mm_R p r 7 = some (r + 3) := by
  rcases mm_in8 h with rfl | rfl | rfl <;> rfl
theorem mm_ar8_7 {r : Nat} (h : mm_is8 r = true) : mm_SH[r + 3]? = some (.inr (0, 4)) := by
  rcases mm_in8 h with rfl | rfl | rfl <;> rfl
theorem mm_rf8_8 {p r : Nat} (h : mm_is8 r = true) : mm_R p r 8 = some (r + 4) := by
  rcases mm_in8 h with rfl | rfl | rfl <;> rfl
theorem mm_ar8_8 {r : Nat} (h : mm_is8 r = true) : mm_SH[r + 4]? = some (.inr (0, 4)) := by
  rcases mm_in8 h with rfl | rfl | rfl <;> rfl
theorem mm_rf8_9 {p r : Nat} (h : mm_is8 r = true) : mm_R p r 9 = some (r + 5) := by
  rcases mm_in8 h with rfl | rfl | rfl <;> rfl
theorem mm_ar8_9 {r : Nat} (h : mm_is8 r = true) : mm_SH[r + 5]? = some (.inr (0, 4)) := by
  rcases mm_in8 h with rfl | rfl | rfl <;> rfl
theorem mm_rf8_10 {p r : Nat} (h : mm_is8 r = true) : mm_R p r 10 = some (r + 6) := by
  rcases mm_in8 h with rfl | rfl | rfl <;> rfl
theorem mm_ar8_10 {r : Nat} (h : mm_is8 r = true) : mm_SH[r + 6]? = some (.inr (0, 4)) := by
  rcases mm_in8 h with rfl | rfl | rfl <;> rfl
theorem mm_rf8_11 {p r : Nat} (h : mm_is8 r = true) : mm_R p r 11 = some (r + 7) := by
  rcases mm_in8 h with rfl | rfl | rfl <;> rfl
theorem mm_ar8_11 {r : Nat} (h : mm_is8 r = true) : mm_SH[r + 7]? = some (.inr (0, 4)) := by
  rcases mm_in8 h with rfl | rfl | rfl <;> rfl
def mm_is10 (r : Nat) : Bool := r == 37 || r == 40 || r == 43 || r == 46 || r == 49 || r == 52
theorem mm_in10 {r : Nat} (h : mm_is10 r = true) : r = 37 ∨ r = 40 ∨ r = 43 ∨ r = 46 ∨ r = 49 ∨ r = 52 := by
  simpa [mm_is10, Bool.or_eq_true, or_assoc] using h
theorem mm_cl10 {r : Nat} (h : mm_is10 r = true) : mm_SH[r]? = some (.inl 10) := by
  rcases mm_in10 h with rfl | rfl | rfl | rfl | rfl | rfl <;> rfl
theorem mm_rf10_0 {p r : Nat} (h : mm_is10 r = true) : mm_R p r 0 = some (r + 1) := by
  rcases mm_in10 h with rfl | rfl | rfl | rfl | rfl | rfl <;> rfl
theorem mm_ar10_0 {r : Nat} (h : mm_is10 r = true) : mm_SH[r + 1]? = some (.inr (0, 160)) := by
  rcases mm_in10 h with rfl | rfl | rfl | rfl | rfl | rfl <;> rfl
theorem mm_rf10_1 {p r : Nat} (h : mm_is10 r = true) : mm_R p r 1 = some (r + 2) := by
  rcases mm_in10 h with rfl | rfl | rfl | rfl | rfl | rfl <;> rfl
theorem mm_ar10_1 {r : Nat} (h : mm_is10 r = true) : mm_SH[r + 2]? = some (.inr (0, 3)) := by
  rcases mm_in10 h with rfl | rfl | rfl | rfl | rfl | rfl <;> rfl
theorem mm_rf10_4 {p r : Nat} (h : mm_is10 r = true) : mm_R p r 4 = some 25 := by
  rcases mm_in10 h with rfl | rfl | rfl | rfl | rfl | rfl <;> rfl
def mm_is7 (r : Nat) : Bool := r == 65 || r == 67 || r == 69 || r == 71
theorem mm_in7 {r : Nat} (h : mm_is7 r = true) : r = 65 ∨ r = 67 ∨ r = 69 ∨ r = 71 := by
  simpa [mm_is7, Bool.or_eq_true, or_assoc] using h
theorem mm_cl7 {r : Nat} (h : mm_is7 r = true) : mm_SH[r]? = some (.inl 7) := by
  rcases mm_in7 h with rfl | rfl | rfl | rfl <;> rfl
theorem mm_rf7_2 {p r : Nat} (h : mm_is7 r = true) : mm_R p r 2 = some (r + 1) := by
  rcases mm_in7 h with rfl | rfl | rfl | rfl <;> rfl
theorem mm_ar7_2 {r : Nat} (h : mm_is7 r = true) : mm_SH[r + 1]? = some (.inr (0, 40)) := by
  rcases mm_in7 h with rfl | rfl | rfl | rfl <;> rfl
def mm_kc (r : Nat) : Option Nat := match mm_SH[r]? with
  | some (.inl c) => some c
  | _ => none
theorem mm_kc_at {r c : Nat} (h : mm_kc r = some c) : mm_SH[r]? = some (.inl c) := by
  unfold mm_kc at h
  split at h
  · rename_i e
    cases h
    exact e
  · cases h
def mm_ia (r : Nat) : Option Nat := match mm_SH[r]? with
  | some (.inr (0, n)) => some n
  | _ => none
theorem mm_ia_at {r n : Nat} (h : mm_ia r = some n) : mm_SH[r]? = some (.inr (0, n)) := by
  unfold mm_ia at h
  split at h
  · rename_i e
    cases h
    exact e
  · cases h
theorem mm_el_tx {p : Nat} {i : Int32} (h : ak_inb i 6 = true) : mm_R p 27 i.toNatClampNeg = some (37 + 3 * i.toNatClampNeg) := by
  have h1 := ak_inb_lt h
  generalize i.toNatClampNeg = j at h1 ⊢
  have h2 : j = 0 ∨ j = 1 ∨ j = 2 ∨ j = 3 ∨ j = 4 ∨ j = 5 := by omega
  rcases h2 with rfl | rfl | rfl | rfl | rfl | rfl <;> rfl
theorem mm_ei_tx {i : Int32} (h : ak_inb i 6 = true) : mm_is10 (37 + 3 * i.toNatClampNeg) = true := by
  have h1 := ak_inb_lt h
  generalize i.toNatClampNeg = j at h1 ⊢
  have h2 : j = 0 ∨ j = 1 ∨ j = 2 ∨ j = 3 ∨ j = 4 ∨ j = 5 := by omega
  rcases h2 with rfl | rfl | rfl | rfl | rfl | rfl <;> rfl
theorem mm_el_kd {p : Nat} {i : Int32} (h : ak_inb i 6 = true) : mm_R p 28 i.toNatClampNeg = some (29 + 1 * i.toNatClampNeg) := by
  have h1 := ak_inb_lt h
  generalize i.toNatClampNeg = j at h1 ⊢
  have h2 : j = 0 ∨ j = 1 ∨ j = 2 ∨ j = 3 ∨ j = 4 ∨ j = 5 := by omega
  rcases h2 with rfl | rfl | rfl | rfl | rfl | rfl <;> rfl
theorem mm_el_sh {p : Nat} {i : Int32} (h : ak_inb i 4 = true) : mm_R p 64 i.toNatClampNeg = some (65 + 2 * i.toNatClampNeg) := by
  have h1 := ak_inb_lt h
  generalize i.toNatClampNeg = j at h1 ⊢
  have h2 : j = 0 ∨ j = 1 ∨ j = 2 ∨ j = 3 := by omega
  rcases h2 with rfl | rfl | rfl | rfl <;> rfl
theorem mm_ei_sh {i : Int32} (h : ak_inb i 4 = true) : mm_is7 (65 + 2 * i.toNatClampNeg) = true := by
  have h1 := ak_inb_lt h
  generalize i.toNatClampNeg = j at h1 ⊢
  have h2 : j = 0 ∨ j = 1 ∨ j = 2 ∨ j = 3 := by omega
  rcases h2 with rfl | rfl | rfl | rfl <;> rfl
theorem kc_bipush_m100 : (Int8.ofInt (-100)).toInt32 = (-100 : Int32) := by decide
theorem kc_bipush_m99 : (Int8.ofInt (-99)).toInt32 = (-99 : Int32) := by decide
theorem kc_bipush_m15 : (Int8.ofInt (-15)).toInt32 = (-15 : Int32) := by decide
theorem kc_bipush_m14 : (Int8.ofInt (-14)).toInt32 = (-14 : Int32) := by decide
theorem kc_bipush_m13 : (Int8.ofInt (-13)).toInt32 = (-13 : Int32) := by decide
theorem kc_bipush_m12 : (Int8.ofInt (-12)).toInt32 = (-12 : Int32) := by decide
theorem kc_bipush_m11 : (Int8.ofInt (-11)).toInt32 = (-11 : Int32) := by decide
theorem kc_bipush_m10 : (Int8.ofInt (-10)).toInt32 = (-10 : Int32) := by decide
theorem kc_bipush_m9 : (Int8.ofInt (-9)).toInt32 = (-9 : Int32) := by decide
theorem kc_bipush_m8 : (Int8.ofInt (-8)).toInt32 = (-8 : Int32) := by decide
theorem kc_bipush_m7 : (Int8.ofInt (-7)).toInt32 = (-7 : Int32) := by decide
theorem kc_bipush_m4 : (Int8.ofInt (-4)).toInt32 = (-4 : Int32) := by decide
theorem kc_bipush_m3 : (Int8.ofInt (-3)).toInt32 = (-3 : Int32) := by decide
theorem kc_bipush_m2 : (Int8.ofInt (-2)).toInt32 = (-2 : Int32) := by decide
theorem kc_bipush_6 : (Int8.ofInt (6)).toInt32 = (6 : Int32) := by decide
theorem kc_bipush_7 : (Int8.ofInt (7)).toInt32 = (7 : Int32) := by decide
theorem kc_bipush_8 : (Int8.ofInt (8)).toInt32 = (8 : Int32) := by decide
theorem kc_bipush_9 : (Int8.ofInt (9)).toInt32 = (9 : Int32) := by decide
theorem kc_bipush_10 : (Int8.ofInt (10)).toInt32 = (10 : Int32) := by decide
theorem kc_bipush_15 : (Int8.ofInt (15)).toInt32 = (15 : Int32) := by decide
theorem kc_bipush_16 : (Int8.ofInt (16)).toInt32 = (16 : Int32) := by decide
theorem kc_bipush_20 : (Int8.ofInt (20)).toInt32 = (20 : Int32) := by decide
theorem kc_bipush_24 : (Int8.ofInt (24)).toInt32 = (24 : Int32) := by decide
theorem kc_bipush_30 : (Int8.ofInt (30)).toInt32 = (30 : Int32) := by decide
theorem kc_bipush_31 : (Int8.ofInt (31)).toInt32 = (31 : Int32) := by decide
theorem kc_bipush_32 : (Int8.ofInt (32)).toInt32 = (32 : Int32) := by decide
theorem kc_bipush_36 : (Int8.ofInt (36)).toInt32 = (36 : Int32) := by decide
theorem kc_bipush_40 : (Int8.ofInt (40)).toInt32 = (40 : Int32) := by decide
theorem kc_bipush_41 : (Int8.ofInt (41)).toInt32 = (41 : Int32) := by decide
theorem kc_bipush_42 : (Int8.ofInt (42)).toInt32 = (42 : Int32) := by decide
theorem kc_bipush_43 : (Int8.ofInt (43)).toInt32 = (43 : Int32) := by decide
theorem kc_bipush_45 : (Int8.ofInt (45)).toInt32 = (45 : Int32) := by decide
theorem kc_bipush_48 : (Int8.ofInt (48)).toInt32 = (48 : Int32) := by decide
theorem kc_bipush_49 : (Int8.ofInt (49)).toInt32 = (49 : Int32) := by decide
theorem kc_bipush_51 : (Int8.ofInt (51)).toInt32 = (51 : Int32) := by decide
theorem kc_bipush_57 : (Int8.ofInt (57)).toInt32 = (57 : Int32) := by decide
theorem kc_bipush_59 : (Int8.ofInt (59)).toInt32 = (59 : Int32) := by decide
theorem kc_bipush_60 : (Int8.ofInt (60)).toInt32 = (60 : Int32) := by decide
theorem kc_bipush_61 : (Int8.ofInt (61)).toInt32 = (61 : Int32) := by decide
theorem kc_bipush_63 : (Int8.ofInt (63)).toInt32 = (63 : Int32) := by decide
theorem kc_bipush_97 : (Int8.ofInt (97)).toInt32 = (97 : Int32) := by decide
theorem kc_bipush_98 : (Int8.ofInt (98)).toInt32 = (98 : Int32) := by decide
theorem kc_bipush_99 : (Int8.ofInt (99)).toInt32 = (99 : Int32) := by decide
theorem kc_bipush_100 : (Int8.ofInt (100)).toInt32 = (100 : Int32) := by decide
theorem kc_bipush_101 : (Int8.ofInt (101)).toInt32 = (101 : Int32) := by decide
theorem kc_bipush_103 : (Int8.ofInt (103)).toInt32 = (103 : Int32) := by decide
theorem kc_bipush_104 : (Int8.ofInt (104)).toInt32 = (104 : Int32) := by decide
theorem kc_bipush_105 : (Int8.ofInt (105)).toInt32 = (105 : Int32) := by decide
theorem kc_bipush_106 : (Int8.ofInt (106)).toInt32 = (106 : Int32) := by decide
theorem kc_bipush_107 : (Int8.ofInt (107)).toInt32 = (107 : Int32) := by decide
theorem kc_bipush_108 : (Int8.ofInt (108)).toInt32 = (108 : Int32) := by decide
theorem kc_bipush_109 : (Int8.ofInt (109)).toInt32 = (109 : Int32) := by decide
theorem kc_bipush_110 : (Int8.ofInt (110)).toInt32 = (110 : Int32) := by decide
theorem kc_bipush_111 : (Int8.ofInt (111)).toInt32 = (111 : Int32) := by decide
theorem kc_bipush_112 : (Int8.ofInt (112)).toInt32 = (112 : Int32) := by decide
theorem kc_bipush_114 : (Int8.ofInt (114)).toInt32 = (114 : Int32) := by decide
theorem kc_bipush_115 : (Int8.ofInt (115)).toInt32 = (115 : Int32) := by decide
theorem kc_bipush_116 : (Int8.ofInt (116)).toInt32 = (116 : Int32) := by decide
theorem kc_bipush_117 : (Int8.ofInt (117)).toInt32 = (117 : Int32) := by decide
theorem kc_bipush_119 : (Int8.ofInt (119)).toInt32 = (119 : Int32) := by decide
theorem kc_bipush_121 : (Int8.ofInt (121)).toInt32 = (121 : Int32) := by decide
theorem kc_bipush_122 : (Int8.ofInt (122)).toInt32 = (122 : Int32) := by decide
theorem kc_iconst_m1 : Int32.ofInt (-1) = (-1 : Int32) := by decide
theorem kc_iconst_0 : Int32.ofInt (0) = (0 : Int32) := by decide
theorem kc_iconst_1 : Int32.ofInt (1) = (1 : Int32) := by decide
theorem kc_iconst_2 : Int32.ofInt (2) = (2 : Int32) := by decide
theorem kc_iconst_3 : Int32.ofInt (3) = (3 : Int32) := by decide
theorem kc_iconst_4 : Int32.ofInt (4) = (4 : Int32) := by decide
theorem kc_iconst_5 : Int32.ofInt (5) = (5 : Int32) := by decide
theorem kc_iinc_m1 : Int32.ofInt (-1) = (-1 : Int32) := by decide
theorem kc_iinc_1 : Int32.ofInt (1) = (1 : Int32) := by decide
theorem kc_iinc_6 : Int32.ofInt (6) = (6 : Int32) := by decide
theorem kc_ldc_m100000 : Int32.ofInt (-100000) = (-100000 : Int32) := by decide
theorem kc_ldc_100000 : Int32.ofInt (100000) = (100000 : Int32) := by decide
theorem kc_ldc_252645135 : Int32.ofInt (252645135) = (252645135 : Int32) := by decide
theorem kc_ldc_858993459 : Int32.ofInt (858993459) = (858993459 : Int32) := by decide
theorem kc_ldc_1103515245 : Int32.ofInt (1103515245) = (1103515245 : Int32) := by decide
theorem kc_ldc_1431655765 : Int32.ofInt (1431655765) = (1431655765 : Int32) := by decide
theorem kc_ldc2_m4611686018427387904 : Int64.ofInt (-4611686018427387904) = (-4611686018427387904 : Int64) := by decide
theorem kc_ldc2_m1 : Int64.ofInt (-1) = (-1 : Int64) := by decide
theorem kc_ldc2_2 : Int64.ofInt (2) = (2 : Int64) := by decide
theorem kc_ldc2_3 : Int64.ofInt (3) = (3 : Int64) := by decide
theorem kc_ldc2_4 : Int64.ofInt (4) = (4 : Int64) := by decide
theorem kc_ldc2_5 : Int64.ofInt (5) = (5 : Int64) := by decide
theorem kc_ldc2_6 : Int64.ofInt (6) = (6 : Int64) := by decide
theorem kc_ldc2_7 : Int64.ofInt (7) = (7 : Int64) := by decide
theorem kc_ldc2_9 : Int64.ofInt (9) = (9 : Int64) := by decide
theorem kc_ldc2_10 : Int64.ofInt (10) = (10 : Int64) := by decide
theorem kc_ldc2_17 : Int64.ofInt (17) = (17 : Int64) := by decide
theorem kc_ldc2_20 : Int64.ofInt (20) = (20 : Int64) := by decide
theorem kc_ldc2_27 : Int64.ofInt (27) = (27 : Int64) := by decide
theorem kc_ldc2_30 : Int64.ofInt (30) = (30 : Int64) := by decide
theorem kc_ldc2_37 : Int64.ofInt (37) = (37 : Int64) := by decide
theorem kc_ldc2_43 : Int64.ofInt (43) = (43 : Int64) := by decide
theorem kc_ldc2_48 : Int64.ofInt (48) = (48 : Int64) := by decide
theorem kc_ldc2_57 : Int64.ofInt (57) = (57 : Int64) := by decide
theorem kc_ldc2_60 : Int64.ofInt (60) = (60 : Int64) := by decide
theorem kc_ldc2_97 : Int64.ofInt (97) = (97 : Int64) := by decide
theorem kc_ldc2_122 : Int64.ofInt (122) = (122 : Int64) := by decide
theorem kc_ldc2_255 : Int64.ofInt (255) = (255 : Int64) := by decide
theorem kc_sipush_m1000 : (Int16.ofInt (-1000)).toInt32 = (-1000 : Int32) := by decide
theorem kc_sipush_160 : (Int16.ofInt (160)).toInt32 = (160 : Int32) := by decide
theorem kc_sipush_255 : (Int16.ofInt (255)).toInt32 = (255 : Int32) := by decide
theorem kc_sipush_256 : (Int16.ofInt (256)).toInt32 = (256 : Int32) := by decide
theorem kc_sipush_257 : (Int16.ofInt (257)).toInt32 = (257 : Int32) := by decide
theorem kc_sipush_258 : (Int16.ofInt (258)).toInt32 = (258 : Int32) := by decide
theorem kc_sipush_259 : (Int16.ofInt (259)).toInt32 = (259 : Int32) := by decide
theorem kc_sipush_260 : (Int16.ofInt (260)).toInt32 = (260 : Int32) := by decide
theorem kc_sipush_261 : (Int16.ofInt (261)).toInt32 = (261 : Int32) := by decide
theorem kc_sipush_262 : (Int16.ofInt (262)).toInt32 = (262 : Int32) := by decide
theorem kc_sipush_263 : (Int16.ofInt (263)).toInt32 = (263 : Int32) := by decide
theorem kc_sipush_264 : (Int16.ofInt (264)).toInt32 = (264 : Int32) := by decide
theorem kc_sipush_265 : (Int16.ofInt (265)).toInt32 = (265 : Int32) := by decide
theorem kc_sipush_960 : (Int16.ofInt (960)).toInt32 = (960 : Int32) := by decide
theorem kc_sipush_999 : (Int16.ofInt (999)).toInt32 = (999 : Int32) := by decide
theorem kc_sipush_12345 : (Int16.ofInt (12345)).toInt32 = (12345 : Int32) := by decide
theorem hm_0 : ak_M[0]? = some q_0 := rfl
theorem hm_1 : ak_M[1]? = some q_1 := rfl
theorem hm_2 : ak_M[2]? = some q_2 := rfl
theorem hm_3 : ak_M[3]? = some q_3 := rfl
theorem hm_4 : ak_M[4]? = some q_4 := rfl
theorem hm_5 : ak_M[5]? = some q_5 := rfl
theorem hm_6 : ak_M[6]? = some q_6 := rfl
theorem hm_7 : ak_M[7]? = some q_7 := rfl
theorem hm_8 : ak_M[8]? = some q_8 := rfl
theorem hm_9 : ak_M[9]? = some q_9 := rfl
theorem hm_10 : ak_M[10]? = some q_10 := rfl
theorem hm_11 : ak_M[11]? = some q_11 := rfl
theorem hm_12 : ak_M[12]? = some q_12 := rfl
theorem hm_13 : ak_M[13]? = some q_13 := rfl
theorem hm_14 : ak_M[14]? = some q_14 := rfl
theorem hm_15 : ak_M[15]? = some q_15 := rfl
theorem hm_16 : ak_M[16]? = some q_16 := rfl
theorem hm_17 : ak_M[17]? = some q_17 := rfl
theorem hm_18 : ak_M[18]? = some q_18 := rfl
theorem hm_19 : ak_M[19]? = some q_19 := rfl
theorem hm_20 : ak_M[20]? = some q_20 := rfl
theorem hm_21 : ak_M[21]? = some q_21 := rfl
theorem hm_22 : ak_M[22]? = some q_22 := rfl
theorem hm_23 : ak_M[23]? = some q_23 := rfl
theorem hm_24 : ak_M[24]? = some q_24 := rfl
theorem hm_25 : ak_M[25]? = some q_25 := rfl
theorem hm_26 : ak_M[26]? = some q_26 := rfl
theorem hm_27 : ak_M[27]? = some q_27 := rfl
theorem hm_28 : ak_M[28]? = some q_28 := rfl
theorem hm_29 : ak_M[29]? = some q_29 := rfl
theorem hm_30 : ak_M[30]? = some q_30 := rfl
theorem hm_31 : ak_M[31]? = some q_31 := rfl
theorem hm_32 : ak_M[32]? = some q_32 := rfl
theorem hm_33 : ak_M[33]? = some q_33 := rfl
theorem hm_34 : ak_M[34]? = some q_34 := rfl
theorem hm_35 : ak_M[35]? = some q_35 := rfl
theorem hm_36 : ak_M[36]? = some q_36 := rfl
theorem hm_37 : ak_M[37]? = some q_37 := rfl
theorem hm_38 : ak_M[38]? = some q_38 := rfl
theorem hm_39 : ak_M[39]? = some q_39 := rfl
theorem hm_40 : ak_M[40]? = some q_40 := rfl
theorem hm_41 : ak_M[41]? = some q_41 := rfl
theorem hm_42 : ak_M[42]? = some q_42 := rfl
theorem hm_43 : ak_M[43]? = some q_43 := rfl
theorem hm_44 : ak_M[44]? = some q_44 := rfl
theorem hm_45 : ak_M[45]? = some q_45 := rfl
theorem hm_46 : ak_M[46]? = some q_46 := rfl
theorem hm_47 : ak_M[47]? = some q_47 := rfl
theorem hm_48 : ak_M[48]? = some q_48 := rfl
theorem hm_49 : ak_M[49]? = some q_49 := rfl
theorem hm_50 : ak_M[50]? = some q_50 := rfl
theorem hm_51 : ak_M[51]? = some q_51 := rfl
theorem hm_52 : ak_M[52]? = some q_52 := rfl
theorem hm_53 : ak_M[53]? = some q_53 := rfl
theorem hm_54 : ak_M[54]? = some q_54 := rfl
theorem hm_55 : ak_M[55]? = some q_55 := rfl
theorem hm_56 : ak_M[56]? = some q_56 := rfl
theorem hm_57 : ak_M[57]? = some q_57 := rfl
theorem hm_58 : ak_M[58]? = some q_58 := rfl
theorem hm_59 : ak_M[59]? = some q_59 := rfl
theorem hm_60 : ak_M[60]? = some q_60 := rfl
theorem hm_61 : ak_M[61]? = some q_61 := rfl
theorem hm_62 : ak_M[62]? = some q_62 := rfl
theorem hm_63 : ak_M[63]? = some q_63 := rfl
theorem hm_64 : ak_M[64]? = some q_64 := rfl
theorem hm_65 : ak_M[65]? = some q_65 := rfl
theorem hm_66 : ak_M[66]? = some q_66 := rfl
theorem hm_67 : ak_M[67]? = some q_67 := rfl
theorem hm_68 : ak_M[68]? = some q_68 := rfl
theorem hm_69 : ak_M[69]? = some q_69 := rfl
theorem hm_70 : ak_M[70]? = some q_70 := rfl
theorem hm_71 : ak_M[71]? = some q_71 := rfl
theorem hm_72 : ak_M[72]? = some q_72 := rfl
theorem hm_73 : ak_M[73]? = some q_73 := rfl
theorem hm_74 : ak_M[74]? = some q_74 := rfl
theorem hm_75 : ak_M[75]? = some q_75 := rfl
theorem hm_76 : ak_M[76]? = some q_76 := rfl
theorem hm_77 : ak_M[77]? = some q_77 := rfl
theorem hm_78 : ak_M[78]? = some q_78 := rfl
theorem hm_79 : ak_M[79]? = some q_79 := rfl
theorem hm_80 : ak_M[80]? = some q_80 := rfl
theorem hm_81 : ak_M[81]? = some q_81 := rfl
theorem hm_82 : ak_M[82]? = some q_82 := rfl
theorem hm_83 : ak_M[83]? = some q_83 := rfl
theorem hm_84 : ak_M[84]? = some q_84 := rfl
theorem hm_85 : ak_M[85]? = some q_85 := rfl
theorem hm_86 : ak_M[86]? = some q_86 := rfl
theorem hm_87 : ak_M[87]? = some q_87 := rfl
theorem hm_88 : ak_M[88]? = some q_88 := rfl
theorem hm_89 : ak_M[89]? = some q_89 := rfl
theorem hm_90 : ak_M[90]? = some q_90 := rfl
theorem hm_91 : ak_M[91]? = some q_91 := rfl
theorem hm_92 : ak_M[92]? = some q_92 := rfl
theorem hm_93 : ak_M[93]? = some q_93 := rfl
theorem hm_94 : ak_M[94]? = some q_94 := rfl
theorem hm_95 : ak_M[95]? = some q_95 := rfl
theorem hm_96 : ak_M[96]? = some q_96 := rfl
theorem hm_97 : ak_M[97]? = some q_97 := rfl
theorem hm_98 : ak_M[98]? = some q_98 := rfl
theorem hm_99 : ak_M[99]? = some q_99 := rfl
theorem hm_100 : ak_M[100]? = some q_100 := rfl
theorem hm_101 : ak_M[101]? = some q_101 := rfl
theorem hm_102 : ak_M[102]? = some q_102 := rfl
theorem hm_103 : ak_M[103]? = some q_103 := rfl
theorem hm_104 : ak_M[104]? = some q_104 := rfl
theorem hm_105 : ak_M[105]? = some q_105 := rfl
theorem hm_106 : ak_M[106]? = some q_106 := rfl
theorem hm_107 : ak_M[107]? = some q_107 := rfl
theorem hm_108 : ak_M[108]? = some q_108 := rfl
theorem hm_109 : ak_M[109]? = some q_109 := rfl
theorem hm_110 : ak_M[110]? = some q_110 := rfl
theorem hm_111 : ak_M[111]? = some q_111 := rfl
theorem hm_112 : ak_M[112]? = some q_112 := rfl
theorem hm_113 : ak_M[113]? = some q_113 := rfl
theorem hm_114 : ak_M[114]? = some q_114 := rfl
theorem hm_115 : ak_M[115]? = some q_115 := rfl
theorem hm_116 : ak_M[116]? = some q_116 := rfl
theorem hm_117 : ak_M[117]? = some q_117 := rfl
theorem hm_118 : ak_M[118]? = some q_118 := rfl
theorem hm_119 : ak_M[119]? = some q_119 := rfl
theorem hm_120 : ak_M[120]? = some q_120 := rfl
theorem hm_121 : ak_M[121]? = some q_121 := rfl
theorem hm_122 : ak_M[122]? = some q_122 := rfl
theorem hm_123 : ak_M[123]? = some q_123 := rfl
theorem hm_124 : ak_M[124]? = some q_124 := rfl
theorem hm_125 : ak_M[125]? = some q_125 := rfl
theorem hm_126 : ak_M[126]? = some q_126 := rfl
theorem hm_127 : ak_M[127]? = some q_127 := rfl
theorem hm_128 : ak_M[128]? = some q_128 := rfl
theorem hm_129 : ak_M[129]? = some q_129 := rfl
theorem hm_130 : ak_M[130]? = some q_130 := rfl
theorem hm_131 : ak_M[131]? = some q_131 := rfl
theorem hm_132 : ak_M[132]? = some q_132 := rfl
theorem hm_133 : ak_M[133]? = some q_133 := rfl
theorem hm_134 : ak_M[134]? = some q_134 := rfl
theorem hm_135 : ak_M[135]? = some q_135 := rfl
theorem hm_136 : ak_M[136]? = some q_136 := rfl
theorem hm_137 : ak_M[137]? = some q_137 := rfl
theorem hm_138 : ak_M[138]? = some q_138 := rfl
theorem hm_139 : ak_M[139]? = some q_139 := rfl
theorem hm_140 : ak_M[140]? = some q_140 := rfl
theorem hm_141 : ak_M[141]? = some q_141 := rfl
theorem hm_142 : ak_M[142]? = some q_142 := rfl
theorem hm_143 : ak_M[143]? = some q_143 := rfl
theorem hm_144 : ak_M[144]? = some q_144 := rfl
theorem hm_145 : ak_M[145]? = some q_145 := rfl
theorem hm_146 : ak_M[146]? = some q_146 := rfl
theorem hm_147 : ak_M[147]? = some q_147 := rfl
theorem hm_148 : ak_M[148]? = some q_148 := rfl
theorem hm_149 : ak_M[149]? = some q_149 := rfl
theorem hm_150 : ak_M[150]? = some q_150 := rfl
theorem hm_151 : ak_M[151]? = some q_151 := rfl
theorem hm_152 : ak_M[152]? = some q_152 := rfl
theorem hm_153 : ak_M[153]? = some q_153 := rfl
theorem hm_154 : ak_M[154]? = some q_154 := rfl
theorem hm_155 : ak_M[155]? = some q_155 := rfl
theorem hm_156 : ak_M[156]? = some q_156 := rfl
theorem hm_157 : ak_M[157]? = some q_157 := rfl
theorem hm_158 : ak_M[158]? = some q_158 := rfl
theorem hm_159 : ak_M[159]? = some q_159 := rfl
theorem hm_160 : ak_M[160]? = some q_160 := rfl
theorem hm_161 : ak_M[161]? = some q_161 := rfl
theorem hm_162 : ak_M[162]? = some q_162 := rfl
theorem hm_163 : ak_M[163]? = some q_163 := rfl
theorem hm_164 : ak_M[164]? = some q_164 := rfl
theorem hm_165 : ak_M[165]? = some q_165 := rfl
theorem hm_166 : ak_M[166]? = some q_166 := rfl
theorem hm_167 : ak_M[167]? = some q_167 := rfl
theorem hm_168 : ak_M[168]? = some q_168 := rfl
theorem hm_169 : ak_M[169]? = some q_169 := rfl
theorem hm_170 : ak_M[170]? = some q_170 := rfl
theorem hm_171 : ak_M[171]? = some q_171 := rfl
theorem hm_172 : ak_M[172]? = some q_172 := rfl
theorem hm_173 : ak_M[173]? = some q_173 := rfl
theorem hm_174 : ak_M[174]? = some q_174 := rfl
theorem hm_175 : ak_M[175]? = some q_175 := rfl
theorem hm_176 : ak_M[176]? = some q_176 := rfl
theorem hm_177 : ak_M[177]? = some q_177 := rfl
theorem hm_178 : ak_M[178]? = some q_178 := rfl
theorem hm_179 : ak_M[179]? = some q_179 := rfl
theorem hm_180 : ak_M[180]? = some q_180 := rfl
theorem hm_181 : ak_M[181]? = some q_181 := rfl
theorem hm_182 : ak_M[182]? = some q_182 := rfl
theorem hm_183 : ak_M[183]? = some q_183 := rfl
theorem hm_184 : ak_M[184]? = some q_184 := rfl
theorem hm_185 : ak_M[185]? = some q_185 := rfl
theorem hm_186 : ak_M[186]? = some q_186 := rfl
theorem hm_187 : ak_M[187]? = some q_187 := rfl
theorem hm_188 : ak_M[188]? = some q_188 := rfl
theorem hm_189 : ak_M[189]? = some q_189 := rfl
theorem hm_190 : ak_M[190]? = some q_190 := rfl
theorem hm_191 : ak_M[191]? = some q_191 := rfl
theorem hm_192 : ak_M[192]? = some q_192 := rfl
theorem hm_193 : ak_M[193]? = some q_193 := rfl
theorem hm_194 : ak_M[194]? = some q_194 := rfl
theorem hm_195 : ak_M[195]? = some q_195 := rfl
theorem hm_196 : ak_M[196]? = some q_196 := rfl
theorem hm_197 : ak_M[197]? = some q_197 := rfl
theorem hm_198 : ak_M[198]? = some q_198 := rfl
theorem hm_199 : ak_M[199]? = some q_199 := rfl
theorem hm_200 : ak_M[200]? = some q_200 := rfl
theorem hm_201 : ak_M[201]? = some q_201 := rfl
theorem hm_202 : ak_M[202]? = some q_202 := rfl
theorem hm_203 : ak_M[203]? = some q_203 := rfl
theorem hm_204 : ak_M[204]? = some q_204 := rfl
theorem hm_205 : ak_M[205]? = some q_205 := rfl
theorem hm_206 : ak_M[206]? = some q_206 := rfl
theorem hm_207 : ak_M[207]? = some q_207 := rfl
theorem hm_208 : ak_M[208]? = some q_208 := rfl
theorem hm_209 : ak_M[209]? = some q_209 := rfl
theorem hm_210 : ak_M[210]? = some q_210 := rfl
theorem hm_211 : ak_M[211]? = some q_211 := rfl
theorem hm_212 : ak_M[212]? = some q_212 := rfl
theorem hm_213 : ak_M[213]? = some q_213 := rfl
theorem hm_214 : ak_M[214]? = some q_214 := rfl
theorem hm_215 : ak_M[215]? = some q_215 := rfl
theorem hm_216 : ak_M[216]? = some q_216 := rfl
theorem hm_217 : ak_M[217]? = some q_217 := rfl
theorem hm_218 : ak_M[218]? = some q_218 := rfl
theorem hm_219 : ak_M[219]? = some q_219 := rfl
theorem hm_220 : ak_M[220]? = some q_220 := rfl
theorem hm_221 : ak_M[221]? = some q_221 := rfl
theorem hm_222 : ak_M[222]? = some q_222 := rfl
theorem hm_223 : ak_M[223]? = some q_223 := rfl
theorem hm_224 : ak_M[224]? = some q_224 := rfl
theorem hm_225 : ak_M[225]? = some q_225 := rfl
theorem hm_226 : ak_M[226]? = some q_226 := rfl
theorem hm_227 : ak_M[227]? = some q_227 := rfl
theorem hm_228 : ak_M[228]? = some q_228 := rfl
theorem hm_229 : ak_M[229]? = some q_229 := rfl
theorem hm_230 : ak_M[230]? = some q_230 := rfl
theorem hm_231 : ak_M[231]? = some q_231 := rfl
theorem hm_232 : ak_M[232]? = some q_232 := rfl
theorem hm_233 : ak_M[233]? = some q_233 := rfl
theorem hm_234 : ak_M[234]? = some q_234 := rfl
theorem hm_235 : ak_M[235]? = some q_235 := rfl
theorem hm_236 : ak_M[236]? = some q_236 := rfl
theorem hm_237 : ak_M[237]? = some q_237 := rfl
theorem hm_238 : ak_M[238]? = some q_238 := rfl
theorem hm_239 : ak_M[239]? = some q_239 := rfl
theorem hm_240 : ak_M[240]? = some q_240 := rfl
theorem hm_241 : ak_M[241]? = some q_241 := rfl
theorem hm_242 : ak_M[242]? = some q_242 := rfl
theorem hm_243 : ak_M[243]? = some q_243 := rfl
theorem hm_244 : ak_M[244]? = some q_244 := rfl
theorem hm_245 : ak_M[245]? = some q_245 := rfl
