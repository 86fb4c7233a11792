/-! what the small machine's heap is in the machine's own -/
/-- the classes' numbers and slots; the array classes; where our cells begin; where the others stand; what the one static of the JDK holds -/
abbrev ak_E : Type := va_G × (Nat → ClassId) × Nat × (Nat → Nat) × Value
def ak_ad (E : ak_E) (i : Nat) : Nat := if i < 1000000 then E.2.2.1 + i else E.2.2.2.1 i
def ak_cv (E : ak_E) (v : Value) : Value := match v with
  | .ref i => .ref (ak_ad E i)
  | .retAddr _ => E.2.2.2.2
  | v => v
def ak_fvc (E : ak_E) (h : ak_H) (ci i j : Nat) : Value := match ak_fv h ci i j with
  | some v => ak_cv E v
  | none => .null
def ak_fs (E : ak_E) (h : ak_H) (ci i : Nat) : List Value := (List.range (ak_F.getD ci []).length).map (fun j => ak_fvc E h ci i j)
def ak_as (E : ak_E) (h : ak_H) (i t n : Nat) : vp_A := if ak_arr t = true then (n, .inr (.inr (.inr (.inr (fun j => (h.2.2.2 i j).map (ak_ad E)))))) else (n, .inl (h.2.1 i))
def ak_cell (E : ak_E) (h : ak_H) (i : Nat) (k : ak_K) : va_E := match k with
  | .inl ci => .inr (ci, ak_fs E h ci i)
  | .inr q => .inl (E.2.1 q.1, ak_as E h i q.1 q.2)
def ak_ws (E : ak_E) (h : ak_H) : va_W := h.1.mapIdx (fun i k => (ak_ad E i, ak_cell E h i k))
theorem ak_ws_at (E : ak_E) (h : ak_H) (i : Nat) : (ak_ws E h)[i]? = (h.1[i]?).map (fun k => (ak_ad E i, ak_cell E h i k)) := by
  unfold ak_ws
  rw [List.getElem?_mapIdx]
theorem ak_ws_obj {E : ak_E} {h : ak_H} {i ci : Nat} (hi : h.1[i]? = some (.inl ci)) : (ak_ws E h)[i]? = some (ak_ad E i, .inr (ci, ak_fs E h ci i)) := by
  rw [ak_ws_at, hi]; rfl
theorem ak_ws_arr {E : ak_E} {h : ak_H} {i t n : Nat} (hi : h.1[i]? = some (.inr (t, n))) : (ak_ws E h)[i]? = some (ak_ad E i, .inl (E.2.1 t, ak_as E h i t n)) := by
  rw [ak_ws_at, hi]; rfl
theorem ak_ws_len (E : ak_E) (h : ak_H) : (ak_ws E h).length = h.1.length := by
  unfold ak_ws
  simp
theorem ak_fs_at {E : ak_E} {h : ak_H} {ci i k : Nat} {v : Value} (hv : ak_fv h ci i k = some v) (hk : k < (ak_F.getD ci []).length) : (ak_fs E h ci i)[k]? = some (ak_cv E v) := by
  unfold ak_fs
  rw [List.getElem?_map, List.getElem?_range hk]
  show some (ak_fvc E h ci i k) = _
  unfold ak_fvc
  rw [hv]
theorem ak_fs_len (E : ak_E) (h : ak_H) (ci i : Nat) : (ak_fs E h ci i).length = (ak_F.getD ci []).length := by
  unfold ak_fs
  simp
/-- the addresses are apart, and ours -/
theorem ak_D (E : ak_E) (h : ak_H) (hl : h.1.length ≤ 1000000) : va_D (fun a => E.2.2.1 ≤ a) (ak_ws E h) := by
  have key : ∀ (k : Nat) (q : Nat × va_E), (ak_ws E h)[k]? = some q → k < h.1.length ∧ q.1 = E.2.2.1 + k := by
    intro k q hq
    rw [ak_ws_at] at hq
    cases hk : h.1[k]? with
    | none => rw [hk] at hq; cases hq
    | some x =>
      rw [hk] at hq
      have hlt := (List.getElem?_eq_some_iff.mp hk).1
      cases hq
      refine ⟨hlt, ?_⟩
      show ak_ad E k = _
      unfold ak_ad
      rw [if_pos (by omega)]
  refine ⟨fun i j p q hp hq he => ?_, fun k q hq => ?_⟩
  · have h1 := key i p hp
    have h2 := key j q hq
    have h3 := h1.2
    have h4 := h2.2
    omega
  · have h1 := (key k q hq).2
    show E.2.2.1 ≤ q.1
    omega
/-- a heap that differs in one cell alone -/
theorem ak_ws_set {E : ak_E} {h h' : ak_H} {r : Nat} {e : va_E} (h1 : h'.1 = h.1) (hr : ∀ k, h.1[r]? = some k → ak_cell E h' r k = e) (ho : ∀ i k, i ≠ r → ak_cell E h' i k = ak_cell E h i k) : (ak_ws E h).set r (ak_ad E r, e) = ak_ws E h' := by
  apply List.ext_getElem?
  intro i
  by_cases hi : i = r
  · subst hi
    rw [List.getElem?_set_self', ak_ws_at, ak_ws_at, h1]
    cases hk : h.1[i]? with
    | none => rfl
    | some k => simp [hr k hk]
  · rw [List.getElem?_set_ne (Ne.symm hi), ak_ws_at, ak_ws_at, h1]
    cases hk : h.1[i]? with
    | none => rfl
    | some k => simp [ho i k hi]
theorem ak_fvc_eq {E : ak_E} {h h' : ak_H} {ci i j : Nat} (e1 : h'.2.1 i j = h.2.1 i j) (e2 : h'.2.2.1 i j = h.2.2.1 i j) (e3 : h'.2.2.2 i j = h.2.2.2 i j) : ak_fvc E h' ci i j = ak_fvc E h ci i j := by
  unfold ak_fvc ak_fv
  rw [e1, e2, e3]
theorem ak_cell_eq {E : ak_E} {h h' : ak_H} {i : Nat} {k : ak_K} (e1 : h'.2.1 i = h.2.1 i) (e2 : h'.2.2.1 i = h.2.2.1 i) (e3 : h'.2.2.2 i = h.2.2.2 i) : ak_cell E h' i k = ak_cell E h i k := by
  cases k with
  | inl ci =>
    show Sum.inr (ci, ak_fs E h' ci i) = Sum.inr (ci, ak_fs E h ci i)
    unfold ak_fs
    congr 2
    refine List.map_congr_left fun j _ => ak_fvc_eq (by rw [e1]) (by rw [e2]) (by rw [e3])
  | inr q =>
    show Sum.inl (E.2.1 q.1, ak_as E h' i q.1 q.2) = Sum.inl (E.2.1 q.1, ak_as E h i q.1 q.2)
    unfold ak_as
    rw [e1, e3]
theorem ak_up_ne {α : Type} {f : Nat → Nat → α} {i j a : Nat} {v : α} (h : a ≠ i) : ak_up f i j v a = f a := by
  funext b
  unfold ak_up
  rw [if_neg (fun z => h z.1)]
theorem ak_up_row {f : Nat → Nat → Int32} {i j : Nat} {v : Int32} : ak_up f i j v i = upd (f i) j v := by
  funext b
  unfold ak_up upd
  by_cases hb : b = j
  · rw [if_pos ⟨rfl, hb⟩, if_pos hb]
  · rw [if_neg (fun z => hb z.2), if_neg hb]
theorem ak_up_same {α : Type} {f : Nat → Nat → α} {i j : Nat} {v : α} : ak_up f i j v i j = v := by
  unfold ak_up
  rw [if_pos ⟨rfl, rfl⟩]
theorem ak_up_oth {α : Type} {f : Nat → Nat → α} {i j a b : Nat} {v : α} (h : b ≠ j) : ak_up f i j v a b = f a b := by
  unfold ak_up
  rw [if_neg (fun z => h z.2)]
theorem ak_fp_1 {h h' : ak_H} {ci r k : Nat} {v : Value} (hp : ak_fp h ci r k v = some h') : h'.1 = h.1 := by
  unfold ak_fp at hp
  split at hp
  · cases hp; rfl
  · split at hp
    · cases hp; rfl
    · cases hp
  · cases hp; rfl
  · cases hp; rfl
  · cases hp
/-- a field laid is the field's place in the cell set -/
theorem ak_ws_fp {E : ak_E} {h h' : ak_H} {ci r k : Nat} {v : Value} (hp : ak_fp h ci r k v = some h') (hr : h.1[r]? = some (.inl ci)) (hk : k < (ak_F.getD ci []).length) : (ak_ws E h).set r (ak_ad E r, .inr (ci, (ak_fs E h ci r).set k (ak_cv E v))) = ak_ws E h' := by
  have key : h'.1 = h.1 ∧ ak_fvc E h' ci r k = ak_cv E v ∧ (∀ j, j ≠ k → ak_fvc E h' ci r j = ak_fvc E h ci r j) ∧ ∀ i kk, i ≠ r → ak_cell E h' i kk = ak_cell E h i kk := by
    unfold ak_fp at hp
    split at hp
    · rename_i e
      cases hp
      refine ⟨rfl, ?_, fun j hj => ak_fvc_eq (ak_up_oth hj) rfl rfl, fun i kk hi => ak_cell_eq (ak_up_ne hi) rfl rfl⟩
      unfold ak_fvc ak_fv
      rw [e]
      show ak_cv E (.int (ak_up _ r k _ r k)) = _
      rw [ak_up_same]
    · rename_i e
      split at hp
      · cases hp
        refine ⟨rfl, ?_, fun j hj => ak_fvc_eq (ak_up_oth hj) rfl rfl, fun i kk hi => ak_cell_eq (ak_up_ne hi) rfl rfl⟩
        unfold ak_fvc ak_fv
        rw [e]
        show ak_cv E (.int (ak_up _ r k _ r k)) = _
        rw [ak_up_same]
      · cases hp
    · rename_i e
      cases hp
      refine ⟨rfl, ?_, fun j hj => ak_fvc_eq rfl (ak_up_oth hj) rfl, fun i kk hi => ak_cell_eq rfl (ak_up_ne hi) rfl⟩
      unfold ak_fvc ak_fv
      rw [e]
      show ak_cv E (.long (ak_up _ r k _ r k)) = _
      rw [ak_up_same]
    · rename_i e
      cases hp
      refine ⟨rfl, ?_, fun j hj => ak_fvc_eq rfl rfl (ak_up_oth hj), fun i kk hi => ak_cell_eq rfl rfl (ak_up_ne hi)⟩
      unfold ak_fvc ak_fv
      rw [e]
      show ak_cv E (va_rf (ak_up _ r k _ r k)) = _
      rw [ak_up_same]
      rfl
    · cases hp
  obtain ⟨k1, k2, k3, k4⟩ := key
  refine ak_ws_set k1 (fun kk hkk => ?_) k4
  cases hr.symm.trans hkk
  show Sum.inr (ci, ak_fs E h' ci r) = Sum.inr (ci, _)
  congr 2
  apply List.ext_getElem?
  intro j
  by_cases hj : j = k
  · subst hj
    rw [List.getElem?_set_self (by rw [ak_fs_len]; exact hk)]
    unfold ak_fs
    rw [List.getElem?_map, List.getElem?_range hk]
    exact congrArg some k2
  · rw [List.getElem?_set_ne (Ne.symm hj)]
    unfold ak_fs
    rw [List.getElem?_map, List.getElem?_map]
    by_cases hl : j < (ak_F.getD ci []).length
    · rw [List.getElem?_range hl]
      exact congrArg some (k3 j hj)
    · rw [List.getElem?_eq_none (by simpa using hl)]
      rfl
/-- locals -/
def ak_fl (E : ak_E) : Nat → ak_L → List (Nat × Value)
  | _, [] => []
  | i, none :: t => ak_fl E (i + 1) t
  | i, some v :: t => (i, ak_cv E v) :: ak_fl E (i + 1) t
theorem ak_fl_of {E : ak_E} : ∀ {L : ak_L} {i : Nat} {q : Nat × Value}, q ∈ ak_fl E i L → ∃ (j : Nat) (u : Value), q = (i + j, ak_cv E u) ∧ L[j]? = some (some u)
  | none :: t, i, q, h => by
    obtain ⟨j, u, h1, h2⟩ := ak_fl_of (L := t) (i := i + 1) h
    exact ⟨j + 1, u, by rw [h1]; congr 1; omega, by rw [List.getElem?_cons_succ]; exact h2⟩
  | some v :: t, i, q, h => by
    rcases List.mem_cons.mp h with h | h
    · exact ⟨0, v, by rw [h]; rfl, rfl⟩
    · obtain ⟨j, u, h1, h2⟩ := ak_fl_of (L := t) (i := i + 1) h
      exact ⟨j + 1, u, by rw [h1]; congr 1; omega, by rw [List.getElem?_cons_succ]; exact h2⟩
theorem ak_fl_in {E : ak_E} : ∀ {L : ak_L} {i j : Nat} {u : Value}, L[j]? = some (some u) → (i + j, ak_cv E u) ∈ ak_fl E i L
  | a :: t, i, 0, u, h => by
    rw [List.getElem?_cons_zero] at h
    cases h
    exact List.mem_cons_self
  | none :: t, i, j + 1, u, h => by
    rw [List.getElem?_cons_succ] at h
    have := ak_fl_in (E := E) (i := i + 1) h
    rw [show i + 1 + j = i + (j + 1) by omega] at this
    exact this
  | some v :: t, i, j + 1, u, h => by
    rw [List.getElem?_cons_succ] at h
    have := ak_fl_in (E := E) (i := i + 1) h
    rw [show i + 1 + j = i + (j + 1) by omega] at this
    exact List.mem_cons_of_mem _ this
/-- the machine's locals hold L -/
def ak_ls (E : ak_E) (ls : Array Slot) (n : Nat) (L : ak_L) : Prop := lv_has ls n (ak_fl E 0 L) ∧ L.length = n
theorem ak_ls_at {E : ak_E} {ls : Array Slot} {n : Nat} {L : ak_L} {k : Nat} {u : Value} (h : ak_ls E ls n L) (hk : L[k]? = some (some u)) : ls[k]? = some (.val (ak_cv E u)) := by
  have := ak_fl_in (E := E) (i := 0) hk
  rw [Nat.zero_add] at this
  exact h.1.2.2 _ this
theorem ak_cat {E : ak_E} (hz : E.2.2.2.2.category = 1) (u : Value) : (ak_cv E u).category = u.category := by
  cases u <;> first | rfl | exact hz
theorem ak_ls_of {E : ak_E} {ls : Array Slot} {n : Nat} {l : List (Nat × Value)} {L : ak_L} (h : lv_has ls n l) (hl : L.length = n) (hm : ∀ j u, L[j]? = some (some u) → (j, ak_cv E u) ∈ l) : ak_ls E ls n L := by
  refine ⟨⟨h.1, h.2.1, fun q hq => ?_⟩, hl⟩
  obtain ⟨j, u, h1, h2⟩ := ak_fl_of hq
  rw [Nat.zero_add] at h1
  rw [h1]
  exact h.2.2 _ (hm j u h2)
theorem ak_kill_len (L : ak_L) (k : Nat) : (ak_kill L k).length = L.length := by
  cases k with
  | zero => rfl
  | succ k =>
    unfold ak_kill
    dsimp only
    split
    · split <;> simp
    · rfl
theorem ak_kill_at {L : ak_L} {k i : Nat} {u : Value} : (ak_kill L k)[i]? = some (some u) ↔ L[i]? = some (some u) ∧ ¬ (i + 1 = k ∧ u.category = 2) := by
  cases k with
  | zero => exact ⟨fun h => ⟨h, fun z => by omega⟩, fun h => h.1⟩
  | succ k =>
    unfold ak_kill
    dsimp only
    split
    · rename_i w hw
      split
      · rename_i hc
        by_cases hi : i = k
        · subst hi
          rw [List.getElem?_set_self (List.getElem?_eq_some_iff.mp hw).1]
          refine ⟨fun h => (by cases h), fun h => ?_⟩
          rw [hw] at h
          obtain ⟨h1, h2⟩ := h
          cases h1
          exact absurd ⟨rfl, hc⟩ h2
        · rw [List.getElem?_set_ne (Ne.symm hi)]
          exact ⟨fun h => ⟨h, fun z => hi (by omega)⟩, fun h => h.1⟩
      · rename_i hc
        refine ⟨fun h => ⟨h, fun z => ?_⟩, fun h => h.1⟩
        have hi : i = k := by omega
        subst hi
        rw [hw] at h
        cases h
        exact hc z.2
    · rename_i hw
      refine ⟨fun h => ⟨h, fun z => ?_⟩, fun h => h.1⟩
      have hi : i = k := by omega
      subst hi
      exact hw u h
theorem ak_kill_in {E : ak_E} (hz : E.2.2.2.2.category = 1) {L : ak_L} {k j : Nat} {u : Value} (h : (ak_kill L k)[j]? = some (some u)) : (j, ak_cv E u) ∈ ak_fl E 0 L ∧ ¬ (j + 1 = k ∧ (ak_cv E u).category = 2) := by
  obtain ⟨h1, h2⟩ := ak_kill_at.mp h
  refine ⟨by have := ak_fl_in (E := E) (i := 0) h1; rwa [Nat.zero_add] at this, ?_⟩
  rw [ak_cat hz]
  exact h2
theorem ak_st1_ok {E : ak_E} (hz : E.2.2.2.2.category = 1) {L L' : ak_L} {k : Nat} {v : Value} (h : ak_st1 L k v = some L') : k < L.length ∧ L'.length = L.length ∧ ∀ j u, L'[j]? = some (some u) → (j, ak_cv E u) ∈ (k, ak_cv E v) :: (ak_fl E 0 L).filter (fun q => !(q.1 == k) && !(q.1 + 1 == k && q.2.category == 2)) := by
  unfold ak_st1 at h
  split at h
  · rename_i hc
    cases h
    refine ⟨hc, by simp [ak_kill_len], fun j u hj => ?_⟩
    by_cases hjk : j = k
    · subst hjk
      rw [List.getElem?_set_self (by rw [ak_kill_len]; exact hc)] at hj
      cases hj
      exact List.mem_cons_self
    · rw [List.getElem?_set_ne (Ne.symm hjk)] at hj
      obtain ⟨h1, h2⟩ := ak_kill_in hz hj
      refine List.mem_cons_of_mem _ (List.mem_filter.mpr ⟨h1, ?_⟩)
      simp only [Bool.and_eq_true, Bool.not_eq_true', beq_eq_false_iff_ne, ne_eq, Bool.and_eq_false_iff]
      refine ⟨hjk, ?_⟩
      by_cases h3 : j + 1 = k
      · exact Or.inr (fun h4 => h2 ⟨h3, h4⟩)
      · exact Or.inl h3
  · cases h
theorem ak_st2_ok {E : ak_E} (hz : E.2.2.2.2.category = 1) {L L' : ak_L} {k : Nat} {v : Value} (h : ak_st2 L k v = some L') : k + 1 < L.length ∧ L'.length = L.length ∧ ∀ j u, L'[j]? = some (some u) → (j, ak_cv E u) ∈ (k, ak_cv E v) :: (ak_fl E 0 L).filter (fun q => !(q.1 == k) && (!(q.1 == k + 1) && !(q.1 + 1 == k && q.2.category == 2))) := by
  unfold ak_st2 at h
  split at h
  · rename_i hc
    cases h
    refine ⟨hc, by simp [ak_kill_len], fun j u hj => ?_⟩
    by_cases hj2 : j = k + 1
    · subst hj2
      rw [List.getElem?_set_self (by simp [ak_kill_len]; exact hc)] at hj
      cases hj
    rw [List.getElem?_set_ne (Ne.symm hj2)] at hj
    by_cases hjk : j = k
    · subst hjk
      rw [List.getElem?_set_self (by rw [ak_kill_len]; omega)] at hj
      cases hj
      exact List.mem_cons_self
    · rw [List.getElem?_set_ne (Ne.symm hjk)] at hj
      obtain ⟨h1, h2⟩ := ak_kill_in hz hj
      refine List.mem_cons_of_mem _ (List.mem_filter.mpr ⟨h1, ?_⟩)
      simp only [Bool.and_eq_true, Bool.not_eq_true', beq_eq_false_iff_ne, ne_eq, Bool.and_eq_false_iff]
      refine ⟨hjk, hj2, ?_⟩
      by_cases h3 : j + 1 = k
      · exact Or.inr (fun h4 => h2 ⟨h3, h4⟩)
      · exact Or.inl h3
  · cases h
