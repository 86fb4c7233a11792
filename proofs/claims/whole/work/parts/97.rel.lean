/-! level 2: both states bear one another: the relation of all -/
/-- the model's image, its kinds aside -/
def zKM (σ : Nat → Nat → Int32) (kv : zV) : Prop := ∃ τ : Nat → Nat → Int32, ShK τ kv ∧ ∀ r c, ((r = 73 ∧ (c = 38 ∨ c = 39)) ∨ (86 ≤ r ∧ r ≤ 88)) → σ r c = τ r c
theorem zKM.fx {σ σ' : Nat → Nat → Int32} {kv : zV} (h : zKM σ kv) {P : Nat → Nat → Prop} (hf : zfx P σ σ') (hp : ∀ r c, ((r = 73 ∧ (c = 38 ∨ c = 39)) ∨ (86 ≤ r ∧ r ≤ 88)) → ¬ P r c) : zKM σ' kv := by
  obtain ⟨τ, h1, h2⟩ := h
  exact ⟨τ, h1, fun r c a => (hf r c (hp r c a)).trans (h2 r c a)⟩
theorem zKM.sh {σ : Nat → Nat → Int32} {v kv : zV} (h : zKM σ kv) (hS : ShM σ v) (hn : kv.n ≤ v.n) (hk : ∀ p, p < kv.n → v.kd p = kv.kd p) : ShK σ kv := by
  obtain ⟨τ, ⟨k1, k2, k3, k4, k5, k6, k7, k8, k9, k10, k11, k12⟩, h2⟩ := h
  obtain ⟨s1, s2, s3, s4, s5, s6, -⟩ := hS
  refine ⟨(h2 _ _ (Or.inl ⟨rfl, Or.inl rfl⟩)).trans k1, (h2 _ _ (Or.inr (by decide))).trans k2, (h2 _ _ (Or.inr (by decide))).trans k3, (h2 _ _ (Or.inr (by decide))).trans k4, (h2 _ _ (Or.inl ⟨rfl, Or.inr rfl⟩)).trans k5, fun p hp => ?_, fun p hp => (h2 _ _ (Or.inr (by decide))).trans (k7 p hp), fun p hp => (h2 _ _ (Or.inr (by decide))).trans (k8 p hp), fun p hp => (h2 _ _ (Or.inr (by decide))).trans (k9 p hp), fun p hp => (h2 _ _ (Or.inr (by decide))).trans (k10 p hp), fun p hp => (h2 _ _ (Or.inr (by decide))).trans (k11 p hp), fun p hp => (h2 _ _ (Or.inr (by decide))).trans (k12 p hp)⟩
  rw [s6 p (by omega), hk p hp]
def zKC (k : Option zV) (σ : Nat → Nat → Int32) : Prop := (k = none → σ 0 3 = 0) ∧ ∀ kv, k = some kv → σ 0 3 = 1 ∧ ShC 9 σ kv
def zKD (k : Option zV) (σ : Nat → Nat → Int32) : Prop := (k = none → σ 73 38 = -1) ∧ ∀ kv, k = some kv → zKM σ kv
def zStC (v : zV) (cnt : Nat) (Ts : Nat → zT3) (f : Nat) (t : Nat → Nat) (z : zT) (k : Option zV) (σ : Nat → Nat → Int32) : Prop := ShC 1 σ v ∧ (σ 26 0 = nI cnt ∧ zTC Ts cnt σ) ∧ TpC σ f t ∧ StC σ z ∧ zKC k σ
def zStM (v : zV) (cnt : Nat) (Ts : Nat → zT3) (f : Nat) (t : Nat → Nat) (z : zT) (k : Option zV) (σ : Nat → Nat → Int32) : Prop := ShM σ v ∧ (σ 73 3 = nI cnt ∧ zTD Ts cnt σ) ∧ TpM σ f t ∧ StM σ z ∧ zKD k σ
/-- what stands of both -/
def zle (kv v : zV) : Prop := kv.n ≤ v.n ∧ ∀ p, p < kv.n → v.kd p = kv.kd p
def zRG (v : zV) (cnt : Nat) (k : Option zV) : Prop := zB v ∧ 1 ≤ cnt ∧ cnt ≤ 6 ∧ v.ru < cnt ∧ ∀ kv, k = some kv → zB kv ∧ kv.ru < cnt ∧ zle kv v
theorem zRG.to {v v' : zV} {cnt : Nat} {k : Option zV} (h : zRG v cnt k) (hB : zB v') (hr : v'.ru < cnt) (hl : zle v v') : zRG v' cnt k := by
  obtain ⟨h1, h2, h3, h4, h5⟩ := h
  refine ⟨hB, h2, h3, hr, fun kv e => ?_⟩
  obtain ⟨a1, a2, a3, a4⟩ := h5 kv e
  exact ⟨a1, a2, Nat.le_trans a3 hl.1, fun p hp => (hl.2 p (by omega)).trans (a4 p hp)⟩
theorem TpC.fx {σ σ' : Nat → Nat → Int32} {f : Nat} {t : Nat → Nat} (h : TpC σ f t) {P : Nat → Nat → Prop} (hf : zfx P σ σ') (p1 : ¬ P 0 5) (p2 : ∀ c, ¬ P 25 c) : TpC σ' f t := ⟨(hf _ _ p1).trans h.1, h.2.1, fun i hi => ⟨(hf _ _ (p2 i)).trans (h.2.2 i hi).1, (h.2.2 i hi).2⟩⟩
theorem TpM.fx {σ σ' : Nat → Nat → Int32} {f : Nat} {t : Nat → Nat} (h : TpM σ f t) {P : Nat → Nat → Prop} (hf : zfx P σ σ') (p1 : ¬ P 73 6) (p2 : ∀ c, ¬ P 76 c) : TpM σ' f t := ⟨(hf _ _ p1).trans h.1, h.2.1, fun i hi => ⟨(hf _ _ (p2 i)).trans (h.2.2 i hi).1, (h.2.2 i hi).2⟩⟩
theorem zKC.fx {k : Option zV} {σ σ' : Nat → Nat → Int32} (h : zKC k σ) {P : Nat → Nat → Prop} (hf : zfx P σ σ') (p1 : ¬ P 0 3) (p2 : ∀ r c, 9 ≤ r → r ≤ 16 → ¬ P r c) : zKC k σ' := ⟨fun e => (hf _ _ p1).trans (h.1 e), fun kv e => ⟨(hf _ _ p1).trans (h.2 kv e).1, (h.2 kv e).2.fx hf (fun r c a b => p2 r c (by omega) (by omega))⟩⟩
theorem zKD.fx {k : Option zV} {σ σ' : Nat → Nat → Int32} (h : zKD k σ) {P : Nat → Nat → Prop} (hf : zfx P σ σ') (p : ∀ r c, ((r = 73 ∧ (c = 38 ∨ c = 39)) ∨ (86 ≤ r ∧ r ≤ 88)) → ¬ P r c) : zKD k σ' := ⟨fun e => (hf _ _ (p _ _ (Or.inl ⟨rfl, Or.inl rfl⟩))).trans (h.1 e), fun kv e => (h.2 kv e).fx hf p⟩
section
variable {v v' : zV} {cnt cnt' : Nat} {Ts Ts' : Nat → zT3} {f f' : Nat} {t t' : Nat → Nat} {z z' : zT} {k k' : Option zV} {σ σ' : Nat → Nat → Int32}
abbrev zLo : Nat → Nat → Prop := fun r _ => r < 73
abbrev zHi : Nat → Nat → Prop := fun r _ => 73 ≤ r
/-- cells of no standing: the class's, the model's -/
def zSc (r : Nat) : Prop := (17 ≤ r ∧ r ≤ 24) ∨ r = 35 ∨ r = 36 ∨ (55 ≤ r ∧ r ≤ 64)
def zSd (r c : Nat) : Prop := (81 ≤ r ∧ r ≤ 85) ∨ (r = 73 ∧ 12 ≤ c ∧ c ≤ 33)
theorem zStC.hi (h : zStC v cnt Ts f t z k σ) (hc : cnt ≤ 6) (hf : zfx zHi σ σ') : zStC v cnt Ts f t z k σ' := by
  have n : ∀ r c, r < 73 → ¬ zHi r c := fun r c a u => by have u2 : 73 ≤ r := u; omega
  obtain ⟨h1, ⟨h2, h3⟩, h4, h5, h6⟩ := h
  exact ⟨h1.fx hf (fun r c a b => n r c (by omega)), ⟨(hf _ _ (n _ _ (by decide))).trans h2, h3.fx hc hf (fun r c a b => n r c (by omega))⟩, h4.fx hf (n _ _ (by decide)) (fun c => n _ _ (by decide)), h5.fx hf (fun r c a b => n r c (by omega)), h6.fx hf (n _ _ (by decide)) (fun r c a b => n r c (by omega))⟩
theorem zStM.lo (h : zStM v cnt Ts f t z k σ) (hf : zfx zLo σ σ') : zStM v cnt Ts f t z k σ' := by
  have n : ∀ r c, 73 ≤ r → ¬ zLo r c := fun r c a u => by have u2 : r < 73 := u; omega
  obtain ⟨h1, ⟨h2, h3⟩, h4, h5, h6⟩ := h
  exact ⟨h1.fx hf (n _ _ (by decide)) (n _ _ (by decide)) (fun r c a b => n r c (by omega)), ⟨(hf _ _ (n _ _ (by decide))).trans h2, h3.fx hf (fun r c a b => n r c (by omega))⟩, h4.fx hf (n _ _ (by decide)) (fun c => n _ _ (by decide)), h5.fx hf (fun r c a b => n r c (by omega)), h6.fx hf (fun r c a => n r c (by omega))⟩
theorem zStC.mv (h : zStC v cnt Ts f t z k σ) (hc : cnt ≤ 6) {P : Nat → Nat → Prop} (hf : zfx P σ σ') (hp : ∀ r c, P r c → (1 ≤ r ∧ r ≤ 8) ∨ zSc r) (hS : ShC 1 σ' v') : zStC v' cnt Ts f t z k σ' := by
  have n : ∀ r c, ¬ ((1 ≤ r ∧ r ≤ 8) ∨ zSc r) → ¬ P r c := fun r c a u => a (hp r c u)
  obtain ⟨h1, ⟨h2, h3⟩, h4, h5, h6⟩ := h
  unfold zSc at n
  exact ⟨hS, ⟨(hf _ _ (n _ _ (by omega))).trans h2, h3.fx hc hf (fun r c a b => n r c (by omega))⟩, h4.fx hf (n _ _ (by omega)) (fun c => n _ _ (by omega)), h5.fx hf (fun r c a b => n r c (by omega)), h6.fx hf (n _ _ (by omega)) (fun r c a b => n r c (by omega))⟩
theorem zStM.mv (h : zStM v cnt Ts f t z k σ) {P : Nat → Nat → Prop} (hf : zfx P σ σ') (hp : ∀ r c, P r c → (77 ≤ r ∧ r ≤ 80) ∨ (r = 73 ∧ (c = 4 ∨ c = 11)) ∨ zSd r c) (hS : ShM σ' v') : zStM v' cnt Ts f t z k σ' := by
  have n : ∀ r c, ¬ ((77 ≤ r ∧ r ≤ 80) ∨ (r = 73 ∧ (c = 4 ∨ c = 11)) ∨ zSd r c) → ¬ P r c := fun r c a u => a (hp r c u)
  obtain ⟨h1, ⟨h2, h3⟩, h4, h5, h6⟩ := h
  unfold zSd at n
  exact ⟨hS, ⟨(hf _ _ (n _ _ (by omega))).trans h2, h3.fx hf (fun r c a b => n r c (by omega))⟩, h4.fx hf (n _ _ (by omega)) (fun c => n _ _ (by omega)), h5.fx hf (fun r c a b => n r c (by omega)), h6.fx hf (fun r c a => n r c (by omega))⟩
theorem zStC.sc (h : zStC v cnt Ts f t z k σ) (hc : cnt ≤ 6) {P : Nat → Nat → Prop} (hf : zfx P σ σ') (hp : ∀ r c, P r c → zSc r) : zStC v cnt Ts f t z k σ' := h.mv hc hf (fun r c u => Or.inr (hp r c u)) (h.1.fx hf (fun r c a b u => by have := hp r c u; unfold zSc at this; omega))
theorem zStM.sc (h : zStM v cnt Ts f t z k σ) {P : Nat → Nat → Prop} (hf : zfx P σ σ') (hp : ∀ r c, P r c → zSd r c) : zStM v cnt Ts f t z k σ' := h.mv hf (fun r c u => Or.inr (Or.inr (hp r c u))) (h.1.fx hf (fun u => by have := hp _ _ u; unfold zSd at this; omega) (fun u => by have := hp _ _ u; unfold zSd at this; omega) (fun r c a b u => by have := hp r c u; unfold zSd at this; omega))
theorem zStC.mz (h : zStC v cnt Ts f t z k σ) (hc : cnt ≤ 6) {P : Nat → Nat → Prop} (hf : zfx P σ σ') (hp : ∀ r c, P r c → (65 ≤ r ∧ r ≤ 72) ∨ zSc r) (hS : StC σ' z') : zStC v cnt Ts f t z' k σ' := by
  have n : ∀ r c, ¬ ((65 ≤ r ∧ r ≤ 72) ∨ zSc r) → ¬ P r c := fun r c a u => a (hp r c u)
  obtain ⟨h1, ⟨h2, h3⟩, h4, h5, h6⟩ := h
  unfold zSc at n
  exact ⟨h1.fx hf (fun r c a b => n r c (by omega)), ⟨(hf _ _ (n _ _ (by omega))).trans h2, h3.fx hc hf (fun r c a b => n r c (by omega))⟩, h4.fx hf (n _ _ (by omega)) (fun c => n _ _ (by omega)), hS, h6.fx hf (n _ _ (by omega)) (fun r c a b => n r c (by omega))⟩
theorem zStM.mz (h : zStM v cnt Ts f t z k σ) {P : Nat → Nat → Prop} (hf : zfx P σ σ') (hp : ∀ r c, P r c → (89 ≤ r ∧ r ≤ 92) ∨ zSd r c) (hS : StM σ' z') : zStM v cnt Ts f t z' k σ' := by
  have n : ∀ r c, ¬ ((89 ≤ r ∧ r ≤ 92) ∨ zSd r c) → ¬ P r c := fun r c a u => a (hp r c u)
  obtain ⟨h1, ⟨h2, h3⟩, h4, h5, h6⟩ := h
  unfold zSd at n
  exact ⟨h1.fx hf (n _ _ (by omega)) (n _ _ (by omega)) (fun r c a b => n r c (by omega)), ⟨(hf _ _ (n _ _ (by omega))).trans h2, h3.fx hf (fun r c a b => n r c (by omega))⟩, h4.fx hf (n _ _ (by omega)) (fun c => n _ _ (by omega)), hS, h6.fx hf (fun r c a => n r c (by omega))⟩
theorem zStC.mt (h : zStC v cnt Ts f t z k σ) (hc : cnt ≤ 6) {P : Nat → Nat → Prop} (hf : zfx P σ σ') (hp : ∀ r c, P r c → (r = 0 ∧ c = 5) ∨ r = 25) (hS : TpC σ' f' t') : zStC v cnt Ts f' t' z k σ' := by
  have n : ∀ r c, ¬ ((r = 0 ∧ c = 5) ∨ r = 25) → ¬ P r c := fun r c a u => a (hp r c u)
  obtain ⟨h1, ⟨h2, h3⟩, h4, h5, h6⟩ := h
  exact ⟨h1.fx hf (fun r c a b => n r c (by omega)), ⟨(hf _ _ (n _ _ (by omega))).trans h2, h3.fx hc hf (fun r c a b => n r c (by omega))⟩, hS, h5.fx hf (fun r c a b => n r c (by omega)), h6.fx hf (n _ _ (by omega)) (fun r c a b => n r c (by omega))⟩
theorem zStM.mt (h : zStM v cnt Ts f t z k σ) {P : Nat → Nat → Prop} (hf : zfx P σ σ') (hp : ∀ r c, P r c → (r = 73 ∧ c = 6) ∨ r = 76) (hS : TpM σ' f' t') : zStM v cnt Ts f' t' z k σ' := by
  have n : ∀ r c, ¬ ((r = 73 ∧ c = 6) ∨ r = 76) → ¬ P r c := fun r c a u => a (hp r c u)
  obtain ⟨h1, ⟨h2, h3⟩, h4, h5, h6⟩ := h
  exact ⟨h1.fx hf (n _ _ (by omega)) (n _ _ (by omega)) (fun r c a b => n r c (by omega)), ⟨(hf _ _ (n _ _ (by omega))).trans h2, h3.fx hf (fun r c a b => n r c (by omega))⟩, hS, h5.fx hf (fun r c a b => n r c (by omega)), h6.fx hf (fun r c a => n r c (by omega))⟩
end
/-- both states bear one another -/
def zRel (M : mm_M) : Prop := ∃ (v : zV) (cnt : Nat) (Ts : Nat → zT3) (f : Nat) (t : Nat → Nat) (z : zT) (k : Option zV), zRG v cnt k ∧ zStC v cnt Ts f t z k M.1 ∧ zStM v cnt Ts f t z k M.1
def zSame {α : Type} (f g : mm_M → Option (α × mm_M)) : Prop := ∀ M, zRel M → Ok (f M) (fun y => Ok (g y.2) (fun y' => y.1 = y'.1 ∧ zRel y'.2))
theorem sm_mk {α : Type} {F G : mm_M → Option (α × mm_M)} {v v' : zV} {cnt cnt' : Nat} {Ts Ts' : Nat → zT3} {f f' : Nat} {t t' : Nat → Nat} {z z' : zT} {k k' : Option zV} {ans : α} {M : mm_M} (hM : zStM v cnt Ts f t z k M.1) (hg : zRG v' cnt' k') (h1 : Ok (F M) (fun y => y.1 = ans ∧ zStC v' cnt' Ts' f' t' z' k' y.2.1 ∧ zfx zLo M.1 y.2.1)) (h2 : ∀ M2 : mm_M, zStM v cnt Ts f t z k M2.1 → Ok (G M2) (fun y => y.1 = ans ∧ zStM v' cnt' Ts' f' t' z' k' y.2.1 ∧ zfx zHi M2.1 y.2.1)) : Ok (F M) (fun y => Ok (G y.2) (fun y' => y.1 = y'.1 ∧ zRel y'.2)) := by
  refine ok_mono h1 (fun y hy => ok_mono (h2 y.2 (hM.lo hy.2.2)) (fun y' hy' => ?_))
  exact ⟨hy.1.trans hy'.1.symm, v', cnt', Ts', f', t', z', k', hg, hy.2.1.hi hg.2.2.1 hy'.2.2, hy'.2.1⟩
