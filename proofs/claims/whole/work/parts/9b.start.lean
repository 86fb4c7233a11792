/-! the start: what the constructors make bears the relation -/
def zi_F : Option (ak_L × List Value × ak_H) := zi_G 20 73 0 [some (.ref 4000000), none, none, none] [] zi_h0
def zi_h : ak_H := match zi_F with
  | some (_, _, h) => h
  | none => zi_h0
def zi_fl : Bool := match zi_F with
  | some ([some (.ref x), some (.ref 0), some (.ref 73), none], [], h) => decide (x = 4000000) && (decide (h.1 = mm_SH) && (List.range 93).all (fun a => (List.range 45).all (fun b => decide (h.2.2.2 a b = mm_R 1 a b) && decide (h.2.2.1 a b = 0))))
  | _ => false
set_option maxRecDepth 1000000 in
theorem zi_chk : zi_fl = true := by decide +kernel
theorem zi_F_eq : zi_F = some ([some (.ref 4000000), some (.ref 0), some (.ref 73), none], [], zi_h) ∧ zi_h.1 = mm_SH ∧ ∀ a b, a < 93 → b < 45 → zi_h.2.2.2 a b = mm_R 1 a b ∧ zi_h.2.2.1 a b = 0 := by
  have h := zi_chk
  unfold zi_fl at h
  split at h
  · rename_i x h1 e
    have e2 : zi_h = h1 := by unfold zi_h; rw [e]
    simp only [Bool.and_eq_true, decide_eq_true_eq, List.all_eq_true, List.mem_range] at h
    obtain ⟨h2, h3, h4⟩ := h
    rw [e2, e, h2]
    exact ⟨rfl, h3, fun a b ha hb => h4 a ha b hb⟩
  · cases h
theorem zi_len93 : zi_h.1.length = 93 := by rw [zi_F_eq.2.1]; rfl
theorem zi_hB : zi_B zi_h := (zi_G_ev (Z := zi_Z0) (Q := fun _ _ => True) _ _ _ _ _ _ _ _ _ zi_B0 zi_F_eq.1).1
theorem zi_row : ∀ row ∈ mm_RT, row.length ≤ 45 := by decide +kernel
theorem zi_R_out {a b : Nat} (h : 93 ≤ a ∨ 45 ≤ b) : mm_R 1 a b = none := by
  unfold mm_R ak_up
  rw [if_neg (by omega)]
  show (mm_RT.getD a []).getD b none = none
  have hl : mm_RT.length = 93 := by decide +kernel
  by_cases ha : a < 93
  · have hb : 45 ≤ b := by omega
    rw [List.getD_eq_getElem?_getD (l := mm_RT), List.getElem?_eq_getElem (by omega)]
    have := zi_row _ (List.getElem_mem (l := mm_RT) (n := a) (by omega))
    show (mm_RT[a]).getD b none = none
    rw [List.getD_eq_getElem?_getD, List.getElem?_eq_none (by omega)]
    rfl
  · rw [List.getD_eq_getElem?_getD (l := mm_RT), List.getElem?_eq_none (by omega)]
    rfl
theorem zi_gen (H : ak_H) (h1 : H.1 = mm_SH) (h2 : ∀ a b, a < 93 → b < 45 → H.2.2.2 a b = mm_R 1 a b ∧ H.2.2.1 a b = 0) (hB : (∀ a b, (93 ≤ a ∨ 45 ≤ b) → H.2.2.2 a b = none) ∧ ∀ a b, (93 ≤ a ∨ 45 ≤ b) → H.2.2.1 a b = 0) : H = mm_H (H.2.1, 1, 0) := by
  refine Prod.ext h1 (Prod.ext rfl (Prod.ext ?_ ?_))
  · funext a b
    have e : mm_J 0 a b = 0 := by unfold mm_J; split <;> rfl
    show H.2.2.1 a b = mm_J 0 a b
    rw [e]
    by_cases c : a < 93 ∧ b < 45
    · exact (h2 a b c.1 c.2).2
    · exact hB.2 a b (by omega)
  · funext a b
    show H.2.2.2 a b = mm_R 1 a b
    by_cases c : a < 93 ∧ b < 45
    · exact (h2 a b c.1 c.2).1
    · rw [zi_R_out (by omega)]
      exact hB.1 a b (by omega)
theorem zi_eq : zi_h = mm_H (zi_h.2.1, 1, 0) := by
  obtain ⟨-, h1, h2⟩ := zi_F_eq
  have hB := zi_hB
  unfold zi_B at hB
  rw [zi_len93] at hB
  exact zi_gen zi_h h1 h2 hB
def zi_b : List Nat := [106, 111, 121, 115, 32, 49, 48, 32, 59, 32, 101, 97, 114, 110, 115, 32, 51, 32, 59, 32, 109, 97, 121, 32, 49, 32, 59, 32, 32, 32, 32, 32]
def zi_T : zT3 := ([10], [3], [1])
def zi_v : zV := (fun i => if i = 1 then 2 else 0, fun _ _ => 0)
def zi_il : List (Nat × Nat × Int32) := [(1, 0, 0), (1, 1, 2), (1, 2, 0), (1, 3, 0), (1, 4, 0), (26, 0, 1), (37, 2, 3), (37, 3, 3), (39, 0, 1), (39, 1, 2), (39, 2, 3), (38, 0, 10), (38, 1, 3), (38, 2, 1), (0, 5, 0), (0, 3, 0), (73, 11, 0), (77, 0, 0), (77, 1, 2), (77, 2, 0), (73, 4, 0), (73, 3, 1), (75, 0, 32), (73, 6, 0), (73, 38, -1)]
set_option maxRecDepth 1000000 in
theorem zi_i : ∀ q ∈ zi_il, zi_h.2.1 q.1 q.2.1 = q.2.2 := by decide +kernel
set_option maxRecDepth 1000000 in
theorem zi_i4 : ∀ p < 4, zi_h.2.1 8 p = 0 ∧ zi_h.2.1 80 p = 0 ∧ zi_h.2.1 (65 + 2 * p) 0 = -1 ∧ zi_h.2.1 89 p = 0 := by decide +kernel
set_option maxRecDepth 1000000 in
theorem zi_i32 : ∀ i < 32, zi_h.2.1 74 i = nI (zi_b.getD i 0) ∧ zi_b.getD i 0 < 256 := by decide +kernel
set_option maxRecDepth 1000000 in
theorem zi_rd : zrdT (fun i => zi_b.getD i 0) 32 = some (.inr zi_T) := by decide +kernel
theorem zi_vB : zB zi_v := ⟨by decide, by decide, by decide, by decide, by decide, fun p hp => absurd hp (by decide +revert), fun p hp => absurd hp (by decide +revert), fun p hp => absurd hp (by decide +revert), fun p hp => absurd hp (by decide +revert), fun p hp => absurd hp (by decide +revert), fun p hp => absurd hp (by decide +revert), fun p hp => by show (0 : Nat) < 16; decide, fun p hp _ => rfl, fun p q _ _ => by show (0 : Nat).testBit q = (0 : Nat).testBit p; rw [Nat.zero_testBit, Nat.zero_testBit], fun p _ => Nat.zero_testBit p⟩
section
variable {σ : Nat → Nat → Int32}
theorem zi_at (hi : ∀ q ∈ zi_il, σ q.1 q.2.1 = q.2.2) (r c : Nat) (x : Int32) (h : (r, c, x) ∈ zi_il) : σ r c = x := hi (r, c, x) h
theorem zi_n0 {p : Nat} {α : Prop} (h : p < zi_v.n) : α := by
  have h2 : p < 0 := h
  omega
theorem zi_ShC (hi : ∀ q ∈ zi_il, σ q.1 q.2.1 = q.2.2) (h4 : ∀ p, p < 4 → σ 8 p = 0 ∧ σ 80 p = 0 ∧ σ (65 + 2 * p) 0 = -1 ∧ σ 89 p = 0) : ShC 1 σ zi_v := ⟨zi_at hi 1 4 0 (by decide), zi_at hi 1 0 0 (by decide), zi_at hi 1 1 2 (by decide), zi_at hi 1 2 0 (by decide), zi_at hi 1 3 0 (by decide), fun p hp => zi_n0 hp, fun p hp => zi_n0 hp, fun p hp => zi_n0 hp, fun p hp => zi_n0 hp, fun p hp => zi_n0 hp, fun p hp => zi_n0 hp, fun p hp => (h4 p hp).1⟩
theorem zi_ShM (hi : ∀ q ∈ zi_il, σ q.1 q.2.1 = q.2.2) (h4 : ∀ p, p < 4 → σ 8 p = 0 ∧ σ 80 p = 0 ∧ σ (65 + 2 * p) 0 = -1 ∧ σ 89 p = 0) : ShM σ zi_v := ⟨zi_at hi 73 11 0 (by decide), zi_at hi 77 0 0 (by decide), zi_at hi 77 1 2 (by decide), zi_at hi 77 2 0 (by decide), zi_at hi 73 4 0 (by decide), fun p hp => zi_n0 hp, fun p hp => zi_n0 hp, fun p hp => zi_n0 hp, fun p hp => zi_n0 hp, fun p hp => zi_n0 hp, fun p hp => zi_n0 hp, fun p hp => (h4 p hp).2.1⟩
theorem zi_TX (hi : ∀ q ∈ zi_il, σ q.1 q.2.1 = q.2.2) : zTX 37 zi_T σ := by
  refine ⟨zi_at hi 37 3 3 (by decide), zi_at hi 39 0 1 (by decide), zi_at hi 39 1 2 (by decide), zi_at hi 39 2 3 (by decide), by decide, zi_at hi 37 2 3 (by decide), fun i hj => ?_⟩
  have hi2 : i < 3 := hj
  have hc : i = 0 ∨ i = 1 ∨ i = 2 := by omega
  rcases hc with rfl | rfl | rfl
  · exact zi_at hi 38 0 10 (by decide)
  · exact zi_at hi 38 1 3 (by decide)
  · exact zi_at hi 38 2 1 (by decide)
theorem zi_TM (hi : ∀ q ∈ zi_il, σ q.1 q.2.1 = q.2.2) (h32 : ∀ i, i < 32 → σ 74 i = nI (zi_b.getD i 0) ∧ zi_b.getD i 0 < 256) : zTMx 0 zi_T σ := by
  refine ⟨32, fun i => zi_b.getD i 0, ⟨by decide, zi_at hi 75 0 32 (by decide), fun i hj => ?_⟩, zi_rd⟩
  rw [Nat.mul_zero, Nat.zero_add]
  exact h32 i hj
theorem zi_rel_of (hi : ∀ q ∈ zi_il, σ q.1 q.2.1 = q.2.2) (h4 : ∀ p, p < 4 → σ 8 p = 0 ∧ σ 80 p = 0 ∧ σ (65 + 2 * p) 0 = -1 ∧ σ 89 p = 0) (h32 : ∀ i, i < 32 → σ 74 i = nI (zi_b.getD i 0) ∧ zi_b.getD i 0 < 256) : zRel ((σ, 1, 0) : mm_M) := by
  refine ⟨zi_v, 1, fun _ => zi_T, 0, fun _ => 0, (fun _ => 0, fun _ => 0, fun _ _ => 0), none, ⟨zi_vB, by decide, by decide, by decide, fun kv e => by cases e⟩, ⟨zi_ShC hi h4, ⟨zi_at hi 26 0 1 (by decide), fun c hc => ?_⟩, ⟨zi_at hi 0 5 0 (by decide), by decide, fun i hi => absurd hi (Nat.not_lt_zero i)⟩, fun s hs => ⟨(h4 s hs).2.2.1, Nat.zero_le _, fun h => absurd rfl h⟩, ⟨fun _ => zi_at hi 0 3 0 (by decide), fun kv e => (by cases e)⟩⟩, ⟨zi_ShM hi h4, ⟨zi_at hi 73 3 1 (by decide), fun c hc => ?_⟩, ⟨zi_at hi 73 6 0 (by decide), by decide, fun i hi => absurd hi (Nat.not_lt_zero i)⟩, fun s hs => ⟨?_, Nat.zero_le _, fun h => absurd rfl h⟩, ⟨fun _ => zi_at hi 73 38 (-1) (by decide), fun kv e => (by cases e)⟩⟩⟩
  · obtain rfl : c = 0 := by omega
    exact ⟨zi_TX hi, zTMx.gt (zi_TM hi h32)⟩
  · obtain rfl : c = 0 := by omega
    exact zi_TM hi h32
  · have := (h4 s hs).2.2.2
    exact this
end
theorem zi_Rel : zRel ((zi_h.2.1, 1, 0) : mm_M) := zi_rel_of zi_i zi_i4 zi_i32
/-- THE LAW, AS THE SMALL MACHINE RUNS IT: for every script it comes to 1 -/
theorem zi_law {Z : ak_Z} (hZ : Z.1 ≤ 3072) : ∃ (n : Nat) (M : mm_M), ak_run Z n 73 245 0 [some (.ref 4000000), none, none, none] [] zi_h0 = some (some (.int 1), mm_H M) := by
  obtain ⟨y, hy, h1⟩ := law_ok hZ zi_Rel
  have ev : Ev Z 73 245 0 [some (.ref 4000000), none, none, none] [] zi_h0 (fun r h => r = some (.int 1) ∧ ∃ M, h = mm_H M) := by
    refine (zi_G_ev _ _ _ _ _ _ _ _ _ zi_B0 zi_F_eq.1).2 ?_
    rw [zi_eq]
    exact c_law (d := 0) (zi_h.2.1, 1, 0) hy ⟨by rw [h1], y.2, rfl⟩
  obtain ⟨n, r, h', e1, rfl, M, rfl⟩ := ev
  exact ⟨n, M, e1⟩
