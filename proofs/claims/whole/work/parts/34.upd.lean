/-! level 2: set -/
def zs (v : zV) (j x : Nat) : zV := (fun i => if i = j then x else v.1 i, v.2)
def zr (v : zV) (k p x : Nat) : zV := (v.1, fun i q => if i = k ∧ q = p then x else v.2 i q)
theorem zr_same (v : zV) (k p x : Nat) : (zr v k p x).2 k p = x := if_pos ⟨rfl, rfl⟩
theorem zr_oth (v : zV) (k p x : Nat) {q : Nat} (h : q ≠ p) : (zr v k p x).2 k q = v.2 k q := if_neg (fun z => h z.2)
theorem up_self {f : Nat → Nat → Int32} {i j : Nat} {v : Int32} (h : f i j = v) : ak_up f i j v = f := by
  funext a b
  rw [up_ap]
  split
  · rename_i e
    rw [e.1, e.2, h]
  · rfl
theorem ShC_r0 {b : Nat} {σ : Nat → Nat → Int32} {v : zV} {p x : Nat} (h : ShC b σ v) : ShC b (ak_up σ (b + 1) p (nI x)) (zr v 0 p x) := by
  refine ⟨?_, ?_, ?_, ?_, ?_, ?_, ?_, ?_, ?_, ?_, ?_, ?_⟩
  · show ak_up σ (b + 1) p _ b 4 = nI v.n
    rw [ak_up_ne (by omega)]; exact h.n
  · show ak_up σ (b + 1) p _ b 0 = nI v.yr
    rw [ak_up_ne (by omega)]; exact h.yr
  · show ak_up σ (b + 1) p _ b 1 = nI v.nd
    rw [ak_up_ne (by omega)]; exact h.nd
  · show ak_up σ (b + 1) p _ b 2 = nI v.ky
    rw [ak_up_ne (by omega)]; exact h.ky
  · show ak_up σ (b + 1) p _ b 3 = nI v.ru
    rw [ak_up_ne (by omega)]; exact h.ru
  · intro q hq
    show (if b + 1 = b + 1 ∧ q = p then (nI x) else σ (b + 1) q) = nI (if 0 = 0 ∧ q = p then x else v.kd q)
    by_cases e : q = p
    · rw [if_pos ⟨rfl, e⟩, if_pos ⟨rfl, e⟩]
    · rw [if_neg (fun z => e z.2), if_neg (fun z => e z.2)]; exact h.kd q hq
  · intro q hq
    show ak_up σ (b + 1) p _ (b + 2) q = nI (v.nu q)
    rw [ak_up_ne (by omega)]; exact h.nu q hq
  · intro q hq
    show ak_up σ (b + 1) p _ (b + 3) q = nI (v.le q)
    rw [ak_up_ne (by omega)]; exact h.le q hq
  · intro q hq
    show ak_up σ (b + 1) p _ (b + 4) q = nI (v.wi q)
    rw [ak_up_ne (by omega)]; exact h.wi q hq
  · intro q hq
    show ak_up σ (b + 1) p _ (b + 5) q = nI (v.po q)
    rw [ak_up_ne (by omega)]; exact h.po q hq
  · intro q hq
    show ak_up σ (b + 1) p _ (b + 6) q = nI (v.bl q) - 1
    rw [ak_up_ne (by omega)]; exact h.bl q hq
  · intro q hq
    show ak_up σ (b + 1) p _ (b + 7) q = nI (v.ap q)
    rw [ak_up_ne (by omega)]; exact h.ap q hq
theorem ShC_r1 {b : Nat} {σ : Nat → Nat → Int32} {v : zV} {p x : Nat} (h : ShC b σ v) : ShC b (ak_up σ (b + 2) p (nI x)) (zr v 1 p x) := by
  refine ⟨?_, ?_, ?_, ?_, ?_, ?_, ?_, ?_, ?_, ?_, ?_, ?_⟩
  · show ak_up σ (b + 2) p _ b 4 = nI v.n
    rw [ak_up_ne (by omega)]; exact h.n
  · show ak_up σ (b + 2) p _ b 0 = nI v.yr
    rw [ak_up_ne (by omega)]; exact h.yr
  · show ak_up σ (b + 2) p _ b 1 = nI v.nd
    rw [ak_up_ne (by omega)]; exact h.nd
  · show ak_up σ (b + 2) p _ b 2 = nI v.ky
    rw [ak_up_ne (by omega)]; exact h.ky
  · show ak_up σ (b + 2) p _ b 3 = nI v.ru
    rw [ak_up_ne (by omega)]; exact h.ru
  · intro q hq
    show ak_up σ (b + 2) p _ (b + 1) q = nI (v.kd q)
    rw [ak_up_ne (by omega)]; exact h.kd q hq
  · intro q hq
    show (if b + 2 = b + 2 ∧ q = p then (nI x) else σ (b + 2) q) = nI (if 1 = 1 ∧ q = p then x else v.nu q)
    by_cases e : q = p
    · rw [if_pos ⟨rfl, e⟩, if_pos ⟨rfl, e⟩]
    · rw [if_neg (fun z => e z.2), if_neg (fun z => e z.2)]; exact h.nu q hq
  · intro q hq
    show ak_up σ (b + 2) p _ (b + 3) q = nI (v.le q)
    rw [ak_up_ne (by omega)]; exact h.le q hq
  · intro q hq
    show ak_up σ (b + 2) p _ (b + 4) q = nI (v.wi q)
    rw [ak_up_ne (by omega)]; exact h.wi q hq
  · intro q hq
    show ak_up σ (b + 2) p _ (b + 5) q = nI (v.po q)
    rw [ak_up_ne (by omega)]; exact h.po q hq
  · intro q hq
    show ak_up σ (b + 2) p _ (b + 6) q = nI (v.bl q) - 1
    rw [ak_up_ne (by omega)]; exact h.bl q hq
  · intro q hq
    show ak_up σ (b + 2) p _ (b + 7) q = nI (v.ap q)
    rw [ak_up_ne (by omega)]; exact h.ap q hq
theorem ShC_r2 {b : Nat} {σ : Nat → Nat → Int32} {v : zV} {p x : Nat} (h : ShC b σ v) : ShC b (ak_up σ (b + 3) p (nI x)) (zr v 2 p x) := by
  refine ⟨?_, ?_, ?_, ?_, ?_, ?_, ?_, ?_, ?_, ?_, ?_, ?_⟩
  · show ak_up σ (b + 3) p _ b 4 = nI v.n
    rw [ak_up_ne (by omega)]; exact h.n
  · show ak_up σ (b + 3) p _ b 0 = nI v.yr
    rw [ak_up_ne (by omega)]; exact h.yr
  · show ak_up σ (b + 3) p _ b 1 = nI v.nd
    rw [ak_up_ne (by omega)]; exact h.nd
  · show ak_up σ (b + 3) p _ b 2 = nI v.ky
    rw [ak_up_ne (by omega)]; exact h.ky
  · show ak_up σ (b + 3) p _ b 3 = nI v.ru
    rw [ak_up_ne (by omega)]; exact h.ru
  · intro q hq
    show ak_up σ (b + 3) p _ (b + 1) q = nI (v.kd q)
    rw [ak_up_ne (by omega)]; exact h.kd q hq
  · intro q hq
    show ak_up σ (b + 3) p _ (b + 2) q = nI (v.nu q)
    rw [ak_up_ne (by omega)]; exact h.nu q hq
  · intro q hq
    show (if b + 3 = b + 3 ∧ q = p then (nI x) else σ (b + 3) q) = nI (if 2 = 2 ∧ q = p then x else v.le q)
    by_cases e : q = p
    · rw [if_pos ⟨rfl, e⟩, if_pos ⟨rfl, e⟩]
    · rw [if_neg (fun z => e z.2), if_neg (fun z => e z.2)]; exact h.le q hq
  · intro q hq
    show ak_up σ (b + 3) p _ (b + 4) q = nI (v.wi q)
    rw [ak_up_ne (by omega)]; exact h.wi q hq
  · intro q hq
    show ak_up σ (b + 3) p _ (b + 5) q = nI (v.po q)
    rw [ak_up_ne (by omega)]; exact h.po q hq
  · intro q hq
    show ak_up σ (b + 3) p _ (b + 6) q = nI (v.bl q) - 1
    rw [ak_up_ne (by omega)]; exact h.bl q hq
  · intro q hq
    show ak_up σ (b + 3) p _ (b + 7) q = nI (v.ap q)
    rw [ak_up_ne (by omega)]; exact h.ap q hq
theorem ShC_r3 {b : Nat} {σ : Nat → Nat → Int32} {v : zV} {p x : Nat} (h : ShC b σ v) : ShC b (ak_up σ (b + 4) p (nI x)) (zr v 3 p x) := by
  refine ⟨?_, ?_, ?_, ?_, ?_, ?_, ?_, ?_, ?_, ?_, ?_, ?_⟩
  · show ak_up σ (b + 4) p _ b 4 = nI v.n
    rw [ak_up_ne (by omega)]; exact h.n
  · show ak_up σ (b + 4) p _ b 0 = nI v.yr
    rw [ak_up_ne (by omega)]; exact h.yr
  · show ak_up σ (b + 4) p _ b 1 = nI v.nd
    rw [ak_up_ne (by omega)]; exact h.nd
  · show ak_up σ (b + 4) p _ b 2 = nI v.ky
    rw [ak_up_ne (by omega)]; exact h.ky
  · show ak_up σ (b + 4) p _ b 3 = nI v.ru
    rw [ak_up_ne (by omega)]; exact h.ru
  · intro q hq
    show ak_up σ (b + 4) p _ (b + 1) q = nI (v.kd q)
    rw [ak_up_ne (by omega)]; exact h.kd q hq
  · intro q hq
    show ak_up σ (b + 4) p _ (b + 2) q = nI (v.nu q)
    rw [ak_up_ne (by omega)]; exact h.nu q hq
  · intro q hq
    show ak_up σ (b + 4) p _ (b + 3) q = nI (v.le q)
    rw [ak_up_ne (by omega)]; exact h.le q hq
  · intro q hq
    show (if b + 4 = b + 4 ∧ q = p then (nI x) else σ (b + 4) q) = nI (if 3 = 3 ∧ q = p then x else v.wi q)
    by_cases e : q = p
    · rw [if_pos ⟨rfl, e⟩, if_pos ⟨rfl, e⟩]
    · rw [if_neg (fun z => e z.2), if_neg (fun z => e z.2)]; exact h.wi q hq
  · intro q hq
    show ak_up σ (b + 4) p _ (b + 5) q = nI (v.po q)
    rw [ak_up_ne (by omega)]; exact h.po q hq
  · intro q hq
    show ak_up σ (b + 4) p _ (b + 6) q = nI (v.bl q) - 1
    rw [ak_up_ne (by omega)]; exact h.bl q hq
  · intro q hq
    show ak_up σ (b + 4) p _ (b + 7) q = nI (v.ap q)
    rw [ak_up_ne (by omega)]; exact h.ap q hq
theorem ShC_r4 {b : Nat} {σ : Nat → Nat → Int32} {v : zV} {p x : Nat} (h : ShC b σ v) : ShC b (ak_up σ (b + 5) p (nI x)) (zr v 4 p x) := by
  refine ⟨?_, ?_, ?_, ?_, ?_, ?_, ?_, ?_, ?_, ?_, ?_, ?_⟩
  · show ak_up σ (b + 5) p _ b 4 = nI v.n
    rw [ak_up_ne (by omega)]; exact h.n
  · show ak_up σ (b + 5) p _ b 0 = nI v.yr
    rw [ak_up_ne (by omega)]; exact h.yr
  · show ak_up σ (b + 5) p _ b 1 = nI v.nd
    rw [ak_up_ne (by omega)]; exact h.nd
  · show ak_up σ (b + 5) p _ b 2 = nI v.ky
    rw [ak_up_ne (by omega)]; exact h.ky
  · show ak_up σ (b + 5) p _ b 3 = nI v.ru
    rw [ak_up_ne (by omega)]; exact h.ru
  · intro q hq
    show ak_up σ (b + 5) p _ (b + 1) q = nI (v.kd q)
    rw [ak_up_ne (by omega)]; exact h.kd q hq
  · intro q hq
    show ak_up σ (b + 5) p _ (b + 2) q = nI (v.nu q)
    rw [ak_up_ne (by omega)]; exact h.nu q hq
  · intro q hq
    show ak_up σ (b + 5) p _ (b + 3) q = nI (v.le q)
    rw [ak_up_ne (by omega)]; exact h.le q hq
  · intro q hq
    show ak_up σ (b + 5) p _ (b + 4) q = nI (v.wi q)
    rw [ak_up_ne (by omega)]; exact h.wi q hq
  · intro q hq
    show (if b + 5 = b + 5 ∧ q = p then (nI x) else σ (b + 5) q) = nI (if 4 = 4 ∧ q = p then x else v.po q)
    by_cases e : q = p
    · rw [if_pos ⟨rfl, e⟩, if_pos ⟨rfl, e⟩]
    · rw [if_neg (fun z => e z.2), if_neg (fun z => e z.2)]; exact h.po q hq
  · intro q hq
    show ak_up σ (b + 5) p _ (b + 6) q = nI (v.bl q) - 1
    rw [ak_up_ne (by omega)]; exact h.bl q hq
  · intro q hq
    show ak_up σ (b + 5) p _ (b + 7) q = nI (v.ap q)
    rw [ak_up_ne (by omega)]; exact h.ap q hq
theorem ShC_r5 {b : Nat} {σ : Nat → Nat → Int32} {v : zV} {p x : Nat} (h : ShC b σ v) : ShC b (ak_up σ (b + 6) p (nI x - 1)) (zr v 5 p x) := by
  refine ⟨?_, ?_, ?_, ?_, ?_, ?_, ?_, ?_, ?_, ?_, ?_, ?_⟩
  · show ak_up σ (b + 6) p _ b 4 = nI v.n
    rw [ak_up_ne (by omega)]; exact h.n
  · show ak_up σ (b + 6) p _ b 0 = nI v.yr
    rw [ak_up_ne (by omega)]; exact h.yr
  · show ak_up σ (b + 6) p _ b 1 = nI v.nd
    rw [ak_up_ne (by omega)]; exact h.nd
  · show ak_up σ (b + 6) p _ b 2 = nI v.ky
    rw [ak_up_ne (by omega)]; exact h.ky
  · show ak_up σ (b + 6) p _ b 3 = nI v.ru
    rw [ak_up_ne (by omega)]; exact h.ru
  · intro q hq
    show ak_up σ (b + 6) p _ (b + 1) q = nI (v.kd q)
    rw [ak_up_ne (by omega)]; exact h.kd q hq
  · intro q hq
    show ak_up σ (b + 6) p _ (b + 2) q = nI (v.nu q)
    rw [ak_up_ne (by omega)]; exact h.nu q hq
  · intro q hq
    show ak_up σ (b + 6) p _ (b + 3) q = nI (v.le q)
    rw [ak_up_ne (by omega)]; exact h.le q hq
  · intro q hq
    show ak_up σ (b + 6) p _ (b + 4) q = nI (v.wi q)
    rw [ak_up_ne (by omega)]; exact h.wi q hq
  · intro q hq
    show ak_up σ (b + 6) p _ (b + 5) q = nI (v.po q)
    rw [ak_up_ne (by omega)]; exact h.po q hq
  · intro q hq
    show (if b + 6 = b + 6 ∧ q = p then (nI x - 1) else σ (b + 6) q) = nI (if 5 = 5 ∧ q = p then x else v.bl q) - 1
    by_cases e : q = p
    · rw [if_pos ⟨rfl, e⟩, if_pos ⟨rfl, e⟩]
    · rw [if_neg (fun z => e z.2), if_neg (fun z => e z.2)]; exact h.bl q hq
  · intro q hq
    show ak_up σ (b + 6) p _ (b + 7) q = nI (v.ap q)
    rw [ak_up_ne (by omega)]; exact h.ap q hq
theorem ShC_s0 {b : Nat} {σ : Nat → Nat → Int32} {v : zV} {x : Nat} (h : ShC b σ v) : ShC b (ak_up σ b 0 (nI x)) (zs v 0 x) := by
  refine ⟨?_, ?_, ?_, ?_, ?_, ?_, ?_, ?_, ?_, ?_, ?_, ?_⟩
  · show ak_up σ b 0 _ b 4 = nI v.n
    rw [ak_up_oth (by decide)]; exact h.n
  · show ak_up σ b 0 _ b 0 = nI x
    rw [ak_up_same]
  · show ak_up σ b 0 _ b 1 = nI v.nd
    rw [ak_up_oth (by decide)]; exact h.nd
  · show ak_up σ b 0 _ b 2 = nI v.ky
    rw [ak_up_oth (by decide)]; exact h.ky
  · show ak_up σ b 0 _ b 3 = nI v.ru
    rw [ak_up_oth (by decide)]; exact h.ru
  · intro q hq
    show ak_up σ b 0 _ (b + 1) q = nI (v.kd q)
    rw [ak_up_ne (by omega)]; exact h.kd q hq
  · intro q hq
    show ak_up σ b 0 _ (b + 2) q = nI (v.nu q)
    rw [ak_up_ne (by omega)]; exact h.nu q hq
  · intro q hq
    show ak_up σ b 0 _ (b + 3) q = nI (v.le q)
    rw [ak_up_ne (by omega)]; exact h.le q hq
  · intro q hq
    show ak_up σ b 0 _ (b + 4) q = nI (v.wi q)
    rw [ak_up_ne (by omega)]; exact h.wi q hq
  · intro q hq
    show ak_up σ b 0 _ (b + 5) q = nI (v.po q)
    rw [ak_up_ne (by omega)]; exact h.po q hq
  · intro q hq
    show ak_up σ b 0 _ (b + 6) q = nI (v.bl q) - 1
    rw [ak_up_ne (by omega)]; exact h.bl q hq
  · intro q hq
    show ak_up σ b 0 _ (b + 7) q = nI (v.ap q)
    rw [ak_up_ne (by omega)]; exact h.ap q hq
theorem ShC_s1 {b : Nat} {σ : Nat → Nat → Int32} {v : zV} {x : Nat} (h : ShC b σ v) : ShC b (ak_up σ b 1 (nI x)) (zs v 1 x) := by
  refine ⟨?_, ?_, ?_, ?_, ?_, ?_, ?_, ?_, ?_, ?_, ?_, ?_⟩
  · show ak_up σ b 1 _ b 4 = nI v.n
    rw [ak_up_oth (by decide)]; exact h.n
  · show ak_up σ b 1 _ b 0 = nI v.yr
    rw [ak_up_oth (by decide)]; exact h.yr
  · show ak_up σ b 1 _ b 1 = nI x
    rw [ak_up_same]
  · show ak_up σ b 1 _ b 2 = nI v.ky
    rw [ak_up_oth (by decide)]; exact h.ky
  · show ak_up σ b 1 _ b 3 = nI v.ru
    rw [ak_up_oth (by decide)]; exact h.ru
  · intro q hq
    show ak_up σ b 1 _ (b + 1) q = nI (v.kd q)
    rw [ak_up_ne (by omega)]; exact h.kd q hq
  · intro q hq
    show ak_up σ b 1 _ (b + 2) q = nI (v.nu q)
    rw [ak_up_ne (by omega)]; exact h.nu q hq
  · intro q hq
    show ak_up σ b 1 _ (b + 3) q = nI (v.le q)
    rw [ak_up_ne (by omega)]; exact h.le q hq
  · intro q hq
    show ak_up σ b 1 _ (b + 4) q = nI (v.wi q)
    rw [ak_up_ne (by omega)]; exact h.wi q hq
  · intro q hq
    show ak_up σ b 1 _ (b + 5) q = nI (v.po q)
    rw [ak_up_ne (by omega)]; exact h.po q hq
  · intro q hq
    show ak_up σ b 1 _ (b + 6) q = nI (v.bl q) - 1
    rw [ak_up_ne (by omega)]; exact h.bl q hq
  · intro q hq
    show ak_up σ b 1 _ (b + 7) q = nI (v.ap q)
    rw [ak_up_ne (by omega)]; exact h.ap q hq
theorem ShC_s2 {b : Nat} {σ : Nat → Nat → Int32} {v : zV} {x : Nat} (h : ShC b σ v) : ShC b (ak_up σ b 2 (nI x)) (zs v 2 x) := by
  refine ⟨?_, ?_, ?_, ?_, ?_, ?_, ?_, ?_, ?_, ?_, ?_, ?_⟩
  · show ak_up σ b 2 _ b 4 = nI v.n
    rw [ak_up_oth (by decide)]; exact h.n
  · show ak_up σ b 2 _ b 0 = nI v.yr
    rw [ak_up_oth (by decide)]; exact h.yr
  · show ak_up σ b 2 _ b 1 = nI v.nd
    rw [ak_up_oth (by decide)]; exact h.nd
  · show ak_up σ b 2 _ b 2 = nI x
    rw [ak_up_same]
  · show ak_up σ b 2 _ b 3 = nI v.ru
    rw [ak_up_oth (by decide)]; exact h.ru
  · intro q hq
    show ak_up σ b 2 _ (b + 1) q = nI (v.kd q)
    rw [ak_up_ne (by omega)]; exact h.kd q hq
  · intro q hq
    show ak_up σ b 2 _ (b + 2) q = nI (v.nu q)
    rw [ak_up_ne (by omega)]; exact h.nu q hq
  · intro q hq
    show ak_up σ b 2 _ (b + 3) q = nI (v.le q)
    rw [ak_up_ne (by omega)]; exact h.le q hq
  · intro q hq
    show ak_up σ b 2 _ (b + 4) q = nI (v.wi q)
    rw [ak_up_ne (by omega)]; exact h.wi q hq
  · intro q hq
    show ak_up σ b 2 _ (b + 5) q = nI (v.po q)
    rw [ak_up_ne (by omega)]; exact h.po q hq
  · intro q hq
    show ak_up σ b 2 _ (b + 6) q = nI (v.bl q) - 1
    rw [ak_up_ne (by omega)]; exact h.bl q hq
  · intro q hq
    show ak_up σ b 2 _ (b + 7) q = nI (v.ap q)
    rw [ak_up_ne (by omega)]; exact h.ap q hq
theorem ShC_s3 {b : Nat} {σ : Nat → Nat → Int32} {v : zV} {x : Nat} (h : ShC b σ v) : ShC b (ak_up σ b 3 (nI x)) (zs v 3 x) := by
  refine ⟨?_, ?_, ?_, ?_, ?_, ?_, ?_, ?_, ?_, ?_, ?_, ?_⟩
  · show ak_up σ b 3 _ b 4 = nI v.n
    rw [ak_up_oth (by decide)]; exact h.n
  · show ak_up σ b 3 _ b 0 = nI v.yr
    rw [ak_up_oth (by decide)]; exact h.yr
  · show ak_up σ b 3 _ b 1 = nI v.nd
    rw [ak_up_oth (by decide)]; exact h.nd
  · show ak_up σ b 3 _ b 2 = nI v.ky
    rw [ak_up_oth (by decide)]; exact h.ky
  · show ak_up σ b 3 _ b 3 = nI x
    rw [ak_up_same]
  · intro q hq
    show ak_up σ b 3 _ (b + 1) q = nI (v.kd q)
    rw [ak_up_ne (by omega)]; exact h.kd q hq
  · intro q hq
    show ak_up σ b 3 _ (b + 2) q = nI (v.nu q)
    rw [ak_up_ne (by omega)]; exact h.nu q hq
  · intro q hq
    show ak_up σ b 3 _ (b + 3) q = nI (v.le q)
    rw [ak_up_ne (by omega)]; exact h.le q hq
  · intro q hq
    show ak_up σ b 3 _ (b + 4) q = nI (v.wi q)
    rw [ak_up_ne (by omega)]; exact h.wi q hq
  · intro q hq
    show ak_up σ b 3 _ (b + 5) q = nI (v.po q)
    rw [ak_up_ne (by omega)]; exact h.po q hq
  · intro q hq
    show ak_up σ b 3 _ (b + 6) q = nI (v.bl q) - 1
    rw [ak_up_ne (by omega)]; exact h.bl q hq
  · intro q hq
    show ak_up σ b 3 _ (b + 7) q = nI (v.ap q)
    rw [ak_up_ne (by omega)]; exact h.ap q hq
theorem ShM_r0 {σ : Nat → Nat → Int32} {v : zV} {p x : Nat} (h : ShM σ v) : ShM (ak_up σ 78 p (nI x)) (zr v 0 p x) := by
  refine ⟨?_, ?_, ?_, ?_, ?_, ?_, ?_, ?_, ?_, ?_, ?_, ?_⟩
  · show ak_up σ 78 p _ 73 11 = nI v.n
    rw [ak_up_ne (by decide)]; exact h.n
  · show ak_up σ 78 p _ 77 0 = nI v.yr
    rw [ak_up_ne (by decide)]; exact h.yr
  · show ak_up σ 78 p _ 77 1 = nI v.nd
    rw [ak_up_ne (by decide)]; exact h.nd
  · show ak_up σ 78 p _ 77 2 = nI v.ky
    rw [ak_up_ne (by decide)]; exact h.ky
  · show ak_up σ 78 p _ 73 4 = nI v.ru
    rw [ak_up_ne (by decide)]; exact h.ru
  · intro q hq
    show (if 78 = 78 ∧ q = p then (nI x) else σ 78 q) = nI (if 0 = 0 ∧ q = p then x else v.kd q)
    by_cases e : q = p
    · rw [if_pos ⟨rfl, by omega⟩, if_pos ⟨rfl, e⟩]
    · rw [if_neg (fun z => e (by omega)), if_neg (fun z => e z.2)]; exact h.kd q hq
  · intro q hq
    show ak_up σ 78 p _ 79 (5 * q) = nI (v.nu q)
    rw [ak_up_ne (by decide)]; exact h.nu q hq
  · intro q hq
    show ak_up σ 78 p _ 79 (5 * q + 1) = nI (v.le q)
    rw [ak_up_ne (by decide)]; exact h.le q hq
  · intro q hq
    show ak_up σ 78 p _ 79 (5 * q + 2) = nI (v.wi q)
    rw [ak_up_ne (by decide)]; exact h.wi q hq
  · intro q hq
    show ak_up σ 78 p _ 79 (5 * q + 3) = nI (v.po q)
    rw [ak_up_ne (by decide)]; exact h.po q hq
  · intro q hq
    show ak_up σ 78 p _ 79 (5 * q + 4) = nI (v.bl q) - 1
    rw [ak_up_ne (by decide)]; exact h.bl q hq
  · intro q hq
    show ak_up σ 78 p _ 80 q = nI (v.ap q)
    rw [ak_up_ne (by decide)]; exact h.ap q hq
theorem ShM_r1 {σ : Nat → Nat → Int32} {v : zV} {p x : Nat} (h : ShM σ v) : ShM (ak_up σ 79 (5 * p) (nI x)) (zr v 1 p x) := by
  refine ⟨?_, ?_, ?_, ?_, ?_, ?_, ?_, ?_, ?_, ?_, ?_, ?_⟩
  · show ak_up σ 79 (5 * p) _ 73 11 = nI v.n
    rw [ak_up_ne (by decide)]; exact h.n
  · show ak_up σ 79 (5 * p) _ 77 0 = nI v.yr
    rw [ak_up_ne (by decide)]; exact h.yr
  · show ak_up σ 79 (5 * p) _ 77 1 = nI v.nd
    rw [ak_up_ne (by decide)]; exact h.nd
  · show ak_up σ 79 (5 * p) _ 77 2 = nI v.ky
    rw [ak_up_ne (by decide)]; exact h.ky
  · show ak_up σ 79 (5 * p) _ 73 4 = nI v.ru
    rw [ak_up_ne (by decide)]; exact h.ru
  · intro q hq
    show ak_up σ 79 (5 * p) _ 78 q = nI (v.kd q)
    rw [ak_up_ne (by decide)]; exact h.kd q hq
  · intro q hq
    show (if 79 = 79 ∧ (5 * q) = (5 * p) then (nI x) else σ 79 (5 * q)) = nI (if 1 = 1 ∧ q = p then x else v.nu q)
    by_cases e : q = p
    · rw [if_pos ⟨rfl, by omega⟩, if_pos ⟨rfl, e⟩]
    · rw [if_neg (fun z => e (by omega)), if_neg (fun z => e z.2)]; exact h.nu q hq
  · intro q hq
    show ak_up σ 79 (5 * p) _ 79 (5 * q + 1) = nI (v.le q)
    rw [ak_up_oth (by omega)]; exact h.le q hq
  · intro q hq
    show ak_up σ 79 (5 * p) _ 79 (5 * q + 2) = nI (v.wi q)
    rw [ak_up_oth (by omega)]; exact h.wi q hq
  · intro q hq
    show ak_up σ 79 (5 * p) _ 79 (5 * q + 3) = nI (v.po q)
    rw [ak_up_oth (by omega)]; exact h.po q hq
  · intro q hq
    show ak_up σ 79 (5 * p) _ 79 (5 * q + 4) = nI (v.bl q) - 1
    rw [ak_up_oth (by omega)]; exact h.bl q hq
  · intro q hq
    show ak_up σ 79 (5 * p) _ 80 q = nI (v.ap q)
    rw [ak_up_ne (by decide)]; exact h.ap q hq
theorem ShM_r2 {σ : Nat → Nat → Int32} {v : zV} {p x : Nat} (h : ShM σ v) : ShM (ak_up σ 79 (5 * p + 1) (nI x)) (zr v 2 p x) := by
  refine ⟨?_, ?_, ?_, ?_, ?_, ?_, ?_, ?_, ?_, ?_, ?_, ?_⟩
  · show ak_up σ 79 (5 * p + 1) _ 73 11 = nI v.n
    rw [ak_up_ne (by decide)]; exact h.n
  · show ak_up σ 79 (5 * p + 1) _ 77 0 = nI v.yr
    rw [ak_up_ne (by decide)]; exact h.yr
  · show ak_up σ 79 (5 * p + 1) _ 77 1 = nI v.nd
    rw [ak_up_ne (by decide)]; exact h.nd
  · show ak_up σ 79 (5 * p + 1) _ 77 2 = nI v.ky
    rw [ak_up_ne (by decide)]; exact h.ky
  · show ak_up σ 79 (5 * p + 1) _ 73 4 = nI v.ru
    rw [ak_up_ne (by decide)]; exact h.ru
  · intro q hq
    show ak_up σ 79 (5 * p + 1) _ 78 q = nI (v.kd q)
    rw [ak_up_ne (by decide)]; exact h.kd q hq
  · intro q hq
    show ak_up σ 79 (5 * p + 1) _ 79 (5 * q) = nI (v.nu q)
    rw [ak_up_oth (by omega)]; exact h.nu q hq
  · intro q hq
    show (if 79 = 79 ∧ (5 * q + 1) = (5 * p + 1) then (nI x) else σ 79 (5 * q + 1)) = nI (if 2 = 2 ∧ q = p then x else v.le q)
    by_cases e : q = p
    · rw [if_pos ⟨rfl, by omega⟩, if_pos ⟨rfl, e⟩]
    · rw [if_neg (fun z => e (by omega)), if_neg (fun z => e z.2)]; exact h.le q hq
  · intro q hq
    show ak_up σ 79 (5 * p + 1) _ 79 (5 * q + 2) = nI (v.wi q)
    rw [ak_up_oth (by omega)]; exact h.wi q hq
  · intro q hq
    show ak_up σ 79 (5 * p + 1) _ 79 (5 * q + 3) = nI (v.po q)
    rw [ak_up_oth (by omega)]; exact h.po q hq
  · intro q hq
    show ak_up σ 79 (5 * p + 1) _ 79 (5 * q + 4) = nI (v.bl q) - 1
    rw [ak_up_oth (by omega)]; exact h.bl q hq
  · intro q hq
    show ak_up σ 79 (5 * p + 1) _ 80 q = nI (v.ap q)
    rw [ak_up_ne (by decide)]; exact h.ap q hq
theorem ShM_r3 {σ : Nat → Nat → Int32} {v : zV} {p x : Nat} (h : ShM σ v) : ShM (ak_up σ 79 (5 * p + 2) (nI x)) (zr v 3 p x) := by
  refine ⟨?_, ?_, ?_, ?_, ?_, ?_, ?_, ?_, ?_, ?_, ?_, ?_⟩
  · show ak_up σ 79 (5 * p + 2) _ 73 11 = nI v.n
    rw [ak_up_ne (by decide)]; exact h.n
  · show ak_up σ 79 (5 * p + 2) _ 77 0 = nI v.yr
    rw [ak_up_ne (by decide)]; exact h.yr
  · show ak_up σ 79 (5 * p + 2) _ 77 1 = nI v.nd
    rw [ak_up_ne (by decide)]; exact h.nd
  · show ak_up σ 79 (5 * p + 2) _ 77 2 = nI v.ky
    rw [ak_up_ne (by decide)]; exact h.ky
  · show ak_up σ 79 (5 * p + 2) _ 73 4 = nI v.ru
    rw [ak_up_ne (by decide)]; exact h.ru
  · intro q hq
    show ak_up σ 79 (5 * p + 2) _ 78 q = nI (v.kd q)
    rw [ak_up_ne (by decide)]; exact h.kd q hq
  · intro q hq
    show ak_up σ 79 (5 * p + 2) _ 79 (5 * q) = nI (v.nu q)
    rw [ak_up_oth (by omega)]; exact h.nu q hq
  · intro q hq
    show ak_up σ 79 (5 * p + 2) _ 79 (5 * q + 1) = nI (v.le q)
    rw [ak_up_oth (by omega)]; exact h.le q hq
  · intro q hq
    show (if 79 = 79 ∧ (5 * q + 2) = (5 * p + 2) then (nI x) else σ 79 (5 * q + 2)) = nI (if 3 = 3 ∧ q = p then x else v.wi q)
    by_cases e : q = p
    · rw [if_pos ⟨rfl, by omega⟩, if_pos ⟨rfl, e⟩]
    · rw [if_neg (fun z => e (by omega)), if_neg (fun z => e z.2)]; exact h.wi q hq
  · intro q hq
    show ak_up σ 79 (5 * p + 2) _ 79 (5 * q + 3) = nI (v.po q)
    rw [ak_up_oth (by omega)]; exact h.po q hq
  · intro q hq
    show ak_up σ 79 (5 * p + 2) _ 79 (5 * q + 4) = nI (v.bl q) - 1
    rw [ak_up_oth (by omega)]; exact h.bl q hq
  · intro q hq
    show ak_up σ 79 (5 * p + 2) _ 80 q = nI (v.ap q)
    rw [ak_up_ne (by decide)]; exact h.ap q hq
theorem ShM_r4 {σ : Nat → Nat → Int32} {v : zV} {p x : Nat} (h : ShM σ v) : ShM (ak_up σ 79 (5 * p + 3) (nI x)) (zr v 4 p x) := by
  refine ⟨?_, ?_, ?_, ?_, ?_, ?_, ?_, ?_, ?_, ?_, ?_, ?_⟩
  · show ak_up σ 79 (5 * p + 3) _ 73 11 = nI v.n
    rw [ak_up_ne (by decide)]; exact h.n
  · show ak_up σ 79 (5 * p + 3) _ 77 0 = nI v.yr
    rw [ak_up_ne (by decide)]; exact h.yr
  · show ak_up σ 79 (5 * p + 3) _ 77 1 = nI v.nd
    rw [ak_up_ne (by decide)]; exact h.nd
  · show ak_up σ 79 (5 * p + 3) _ 77 2 = nI v.ky
    rw [ak_up_ne (by decide)]; exact h.ky
  · show ak_up σ 79 (5 * p + 3) _ 73 4 = nI v.ru
    rw [ak_up_ne (by decide)]; exact h.ru
  · intro q hq
    show ak_up σ 79 (5 * p + 3) _ 78 q = nI (v.kd q)
    rw [ak_up_ne (by decide)]; exact h.kd q hq
  · intro q hq
    show ak_up σ 79 (5 * p + 3) _ 79 (5 * q) = nI (v.nu q)
    rw [ak_up_oth (by omega)]; exact h.nu q hq
  · intro q hq
    show ak_up σ 79 (5 * p + 3) _ 79 (5 * q + 1) = nI (v.le q)
    rw [ak_up_oth (by omega)]; exact h.le q hq
  · intro q hq
    show ak_up σ 79 (5 * p + 3) _ 79 (5 * q + 2) = nI (v.wi q)
    rw [ak_up_oth (by omega)]; exact h.wi q hq
  · intro q hq
    show (if 79 = 79 ∧ (5 * q + 3) = (5 * p + 3) then (nI x) else σ 79 (5 * q + 3)) = nI (if 4 = 4 ∧ q = p then x else v.po q)
    by_cases e : q = p
    · rw [if_pos ⟨rfl, by omega⟩, if_pos ⟨rfl, e⟩]
    · rw [if_neg (fun z => e (by omega)), if_neg (fun z => e z.2)]; exact h.po q hq
  · intro q hq
    show ak_up σ 79 (5 * p + 3) _ 79 (5 * q + 4) = nI (v.bl q) - 1
    rw [ak_up_oth (by omega)]; exact h.bl q hq
  · intro q hq
    show ak_up σ 79 (5 * p + 3) _ 80 q = nI (v.ap q)
    rw [ak_up_ne (by decide)]; exact h.ap q hq
theorem ShM_r5 {σ : Nat → Nat → Int32} {v : zV} {p x : Nat} (h : ShM σ v) : ShM (ak_up σ 79 (5 * p + 4) (nI x - 1)) (zr v 5 p x) := by
  refine ⟨?_, ?_, ?_, ?_, ?_, ?_, ?_, ?_, ?_, ?_, ?_, ?_⟩
  · show ak_up σ 79 (5 * p + 4) _ 73 11 = nI v.n
    rw [ak_up_ne (by decide)]; exact h.n
  · show ak_up σ 79 (5 * p + 4) _ 77 0 = nI v.yr
    rw [ak_up_ne (by decide)]; exact h.yr
  · show ak_up σ 79 (5 * p + 4) _ 77 1 = nI v.nd
    rw [ak_up_ne (by decide)]; exact h.nd
  · show ak_up σ 79 (5 * p + 4) _ 77 2 = nI v.ky
    rw [ak_up_ne (by decide)]; exact h.ky
  · show ak_up σ 79 (5 * p + 4) _ 73 4 = nI v.ru
    rw [ak_up_ne (by decide)]; exact h.ru
  · intro q hq
    show ak_up σ 79 (5 * p + 4) _ 78 q = nI (v.kd q)
    rw [ak_up_ne (by decide)]; exact h.kd q hq
  · intro q hq
    show ak_up σ 79 (5 * p + 4) _ 79 (5 * q) = nI (v.nu q)
    rw [ak_up_oth (by omega)]; exact h.nu q hq
  · intro q hq
    show ak_up σ 79 (5 * p + 4) _ 79 (5 * q + 1) = nI (v.le q)
    rw [ak_up_oth (by omega)]; exact h.le q hq
  · intro q hq
    show ak_up σ 79 (5 * p + 4) _ 79 (5 * q + 2) = nI (v.wi q)
    rw [ak_up_oth (by omega)]; exact h.wi q hq
  · intro q hq
    show ak_up σ 79 (5 * p + 4) _ 79 (5 * q + 3) = nI (v.po q)
    rw [ak_up_oth (by omega)]; exact h.po q hq
  · intro q hq
    show (if 79 = 79 ∧ (5 * q + 4) = (5 * p + 4) then (nI x - 1) else σ 79 (5 * q + 4)) = nI (if 5 = 5 ∧ q = p then x else v.bl q) - 1
    by_cases e : q = p
    · rw [if_pos ⟨rfl, by omega⟩, if_pos ⟨rfl, e⟩]
    · rw [if_neg (fun z => e (by omega)), if_neg (fun z => e z.2)]; exact h.bl q hq
  · intro q hq
    show ak_up σ 79 (5 * p + 4) _ 80 q = nI (v.ap q)
    rw [ak_up_ne (by decide)]; exact h.ap q hq
theorem ShM_s0 {σ : Nat → Nat → Int32} {v : zV} {x : Nat} (h : ShM σ v) : ShM (ak_up σ 77 0 (nI x)) (zs v 0 x) := by
  refine ⟨?_, ?_, ?_, ?_, ?_, ?_, ?_, ?_, ?_, ?_, ?_, ?_⟩
  · show ak_up σ 77 0 _ 73 11 = nI v.n
    rw [ak_up_ne (by decide)]; exact h.n
  · show ak_up σ 77 0 _ 77 0 = nI x
    rw [ak_up_same]
  · show ak_up σ 77 0 _ 77 1 = nI v.nd
    rw [ak_up_oth (by decide)]; exact h.nd
  · show ak_up σ 77 0 _ 77 2 = nI v.ky
    rw [ak_up_oth (by decide)]; exact h.ky
  · show ak_up σ 77 0 _ 73 4 = nI v.ru
    rw [ak_up_ne (by decide)]; exact h.ru
  · intro q hq
    show ak_up σ 77 0 _ 78 q = nI (v.kd q)
    rw [ak_up_ne (by decide)]; exact h.kd q hq
  · intro q hq
    show ak_up σ 77 0 _ 79 (5 * q) = nI (v.nu q)
    rw [ak_up_ne (by decide)]; exact h.nu q hq
  · intro q hq
    show ak_up σ 77 0 _ 79 (5 * q + 1) = nI (v.le q)
    rw [ak_up_ne (by decide)]; exact h.le q hq
  · intro q hq
    show ak_up σ 77 0 _ 79 (5 * q + 2) = nI (v.wi q)
    rw [ak_up_ne (by decide)]; exact h.wi q hq
  · intro q hq
    show ak_up σ 77 0 _ 79 (5 * q + 3) = nI (v.po q)
    rw [ak_up_ne (by decide)]; exact h.po q hq
  · intro q hq
    show ak_up σ 77 0 _ 79 (5 * q + 4) = nI (v.bl q) - 1
    rw [ak_up_ne (by decide)]; exact h.bl q hq
  · intro q hq
    show ak_up σ 77 0 _ 80 q = nI (v.ap q)
    rw [ak_up_ne (by decide)]; exact h.ap q hq
theorem ShM_s1 {σ : Nat → Nat → Int32} {v : zV} {x : Nat} (h : ShM σ v) : ShM (ak_up σ 77 1 (nI x)) (zs v 1 x) := by
  refine ⟨?_, ?_, ?_, ?_, ?_, ?_, ?_, ?_, ?_, ?_, ?_, ?_⟩
  · show ak_up σ 77 1 _ 73 11 = nI v.n
    rw [ak_up_ne (by decide)]; exact h.n
  · show ak_up σ 77 1 _ 77 0 = nI v.yr
    rw [ak_up_oth (by decide)]; exact h.yr
  · show ak_up σ 77 1 _ 77 1 = nI x
    rw [ak_up_same]
  · show ak_up σ 77 1 _ 77 2 = nI v.ky
    rw [ak_up_oth (by decide)]; exact h.ky
  · show ak_up σ 77 1 _ 73 4 = nI v.ru
    rw [ak_up_ne (by decide)]; exact h.ru
  · intro q hq
    show ak_up σ 77 1 _ 78 q = nI (v.kd q)
    rw [ak_up_ne (by decide)]; exact h.kd q hq
  · intro q hq
    show ak_up σ 77 1 _ 79 (5 * q) = nI (v.nu q)
    rw [ak_up_ne (by decide)]; exact h.nu q hq
  · intro q hq
    show ak_up σ 77 1 _ 79 (5 * q + 1) = nI (v.le q)
    rw [ak_up_ne (by decide)]; exact h.le q hq
  · intro q hq
    show ak_up σ 77 1 _ 79 (5 * q + 2) = nI (v.wi q)
    rw [ak_up_ne (by decide)]; exact h.wi q hq
  · intro q hq
    show ak_up σ 77 1 _ 79 (5 * q + 3) = nI (v.po q)
    rw [ak_up_ne (by decide)]; exact h.po q hq
  · intro q hq
    show ak_up σ 77 1 _ 79 (5 * q + 4) = nI (v.bl q) - 1
    rw [ak_up_ne (by decide)]; exact h.bl q hq
  · intro q hq
    show ak_up σ 77 1 _ 80 q = nI (v.ap q)
    rw [ak_up_ne (by decide)]; exact h.ap q hq
theorem ShM_s2 {σ : Nat → Nat → Int32} {v : zV} {x : Nat} (h : ShM σ v) : ShM (ak_up σ 77 2 (nI x)) (zs v 2 x) := by
  refine ⟨?_, ?_, ?_, ?_, ?_, ?_, ?_, ?_, ?_, ?_, ?_, ?_⟩
  · show ak_up σ 77 2 _ 73 11 = nI v.n
    rw [ak_up_ne (by decide)]; exact h.n
  · show ak_up σ 77 2 _ 77 0 = nI v.yr
    rw [ak_up_oth (by decide)]; exact h.yr
  · show ak_up σ 77 2 _ 77 1 = nI v.nd
    rw [ak_up_oth (by decide)]; exact h.nd
  · show ak_up σ 77 2 _ 77 2 = nI x
    rw [ak_up_same]
  · show ak_up σ 77 2 _ 73 4 = nI v.ru
    rw [ak_up_ne (by decide)]; exact h.ru
  · intro q hq
    show ak_up σ 77 2 _ 78 q = nI (v.kd q)
    rw [ak_up_ne (by decide)]; exact h.kd q hq
  · intro q hq
    show ak_up σ 77 2 _ 79 (5 * q) = nI (v.nu q)
    rw [ak_up_ne (by decide)]; exact h.nu q hq
  · intro q hq
    show ak_up σ 77 2 _ 79 (5 * q + 1) = nI (v.le q)
    rw [ak_up_ne (by decide)]; exact h.le q hq
  · intro q hq
    show ak_up σ 77 2 _ 79 (5 * q + 2) = nI (v.wi q)
    rw [ak_up_ne (by decide)]; exact h.wi q hq
  · intro q hq
    show ak_up σ 77 2 _ 79 (5 * q + 3) = nI (v.po q)
    rw [ak_up_ne (by decide)]; exact h.po q hq
  · intro q hq
    show ak_up σ 77 2 _ 79 (5 * q + 4) = nI (v.bl q) - 1
    rw [ak_up_ne (by decide)]; exact h.bl q hq
  · intro q hq
    show ak_up σ 77 2 _ 80 q = nI (v.ap q)
    rw [ak_up_ne (by decide)]; exact h.ap q hq
theorem ShM_s3 {σ : Nat → Nat → Int32} {v : zV} {x : Nat} (h : ShM σ v) : ShM (ak_up σ 73 4 (nI x)) (zs v 3 x) := by
  refine ⟨?_, ?_, ?_, ?_, ?_, ?_, ?_, ?_, ?_, ?_, ?_, ?_⟩
  · show ak_up σ 73 4 _ 73 11 = nI v.n
    rw [ak_up_oth (by decide)]; exact h.n
  · show ak_up σ 73 4 _ 77 0 = nI v.yr
    rw [ak_up_ne (by decide)]; exact h.yr
  · show ak_up σ 73 4 _ 77 1 = nI v.nd
    rw [ak_up_ne (by decide)]; exact h.nd
  · show ak_up σ 73 4 _ 77 2 = nI v.ky
    rw [ak_up_ne (by decide)]; exact h.ky
  · show ak_up σ 73 4 _ 73 4 = nI x
    rw [ak_up_same]
  · intro q hq
    show ak_up σ 73 4 _ 78 q = nI (v.kd q)
    rw [ak_up_ne (by decide)]; exact h.kd q hq
  · intro q hq
    show ak_up σ 73 4 _ 79 (5 * q) = nI (v.nu q)
    rw [ak_up_ne (by decide)]; exact h.nu q hq
  · intro q hq
    show ak_up σ 73 4 _ 79 (5 * q + 1) = nI (v.le q)
    rw [ak_up_ne (by decide)]; exact h.le q hq
  · intro q hq
    show ak_up σ 73 4 _ 79 (5 * q + 2) = nI (v.wi q)
    rw [ak_up_ne (by decide)]; exact h.wi q hq
  · intro q hq
    show ak_up σ 73 4 _ 79 (5 * q + 3) = nI (v.po q)
    rw [ak_up_ne (by decide)]; exact h.po q hq
  · intro q hq
    show ak_up σ 73 4 _ 79 (5 * q + 4) = nI (v.bl q) - 1
    rw [ak_up_ne (by decide)]; exact h.bl q hq
  · intro q hq
    show ak_up σ 73 4 _ 80 q = nI (v.ap q)
    rw [ak_up_ne (by decide)]; exact h.ap q hq
