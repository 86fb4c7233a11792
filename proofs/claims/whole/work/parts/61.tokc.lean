/-! level 2: texts: the class's tokens -/
theorem up_up {f : Nat → Nat → Int32} {i j : Nat} {a b : Int32} : ak_up (ak_up f i j a) i j b = ak_up f i j b := by
  funext x y
  simp only [up_ap]
  split <;> rfl
/-- the same but for the cells of P -/
def zfx (P : Nat → Nat → Prop) (a b : Nat → Nat → Int32) : Prop := ∀ r c, ¬ P r c → b r c = a r c
theorem zfx.rf {P : Nat → Nat → Prop} {a : Nat → Nat → Int32} : zfx P a a := fun _ _ _ => rfl
theorem zfx.tr {P : Nat → Nat → Prop} {a b c : Nat → Nat → Int32} (h1 : zfx P a b) (h2 : zfx P b c) : zfx P a c := fun r k h => (h2 r k h).trans (h1 r k h)
theorem zfx.up {P : Nat → Nat → Prop} {a b : Nat → Nat → Int32} {i j : Nat} {v : Int32} (h : zfx P a b) (hp : P i j) : zfx P a (ak_up b i j v) := by
  intro r k hr
  show (if r = i ∧ k = j then v else b r k) = a r k
  rw [if_neg (fun e => hr (by rw [e.1, e.2]; exact hp))]
  exact h r k hr
theorem zfx.wk {P Q : Nat → Nat → Prop} {a b : Nat → Nat → Int32} (h : zfx P a b) (hq : ∀ r c, P r c → Q r c) : zfx Q a b := fun r k hr => h r k (fun z => hr (hq r k z))
abbrev zLx (t : Nat) : Nat → Nat → Prop := fun r c => r = t ∧ (c = 6 ∨ c = 7 ∨ c = 8 ∨ c = 9 ∨ c = 11)
/-- a text's bytes -/
def zTB (t n : Nat) (B : Nat → Nat) (σ : Nat → Nat → Int32) : Prop := n ≤ 160 ∧ σ t 5 = nI n ∧ ∀ i, i < n → σ 25 i = nI (B i) ∧ B i < 256
theorem zTB.fx {t n : Nat} {B : Nat → Nat} {σ σ' : Nat → Nat → Int32} (h : zTB t n B σ) (ht : 37 ≤ t) {P : Nat → Nat → Prop} (hf : zfx P σ σ') (h1 : ¬ P t 5) (h2 : ∀ c, ¬ P 25 c) : zTB t n B σ' :=
  ⟨h.1, by rw [hf t 5 h1]; exact h.2.1, fun i hi => by rw [hf 25 i (h2 i)]; exact h.2.2 i hi⟩
theorem zLx_5 {t : Nat} : ¬ zLx t t 5 := by
  intro h
  have := h.2
  omega
theorem zLx_25 {t : Nat} (ht : 37 ≤ t) : ∀ c, ¬ zLx t 25 c := by
  intro c h
  have := h.1
  omega
theorem isBlankC_eq {t n : Nat} {B : Nat → Nat} {M : mm_M} (h : zTB t n B M.1) {i : Nat} (hi : i < n) : tx_isBlank t (nI i) M = some (bI (zbla (B i) = true), M) := by
  obtain ⟨h1, h2, h3⟩ := h
  obtain ⟨h4, h5⟩ := h3 i hi
  unfold tx_isBlank
  simp only [if_pos (zI_inb (show i < 2147483648 by omega) (show i < 160 by omega)), zI_nat (show i < 2147483648 by omega), h4]
  unfold bI zbla
  simp only [i_eq, zI_int (show B i < 2147483648 by omega), show (32 : Int32).toInt = 32 from rfl, show (10 : Int32).toInt = 10 from rfl, decide_eq_true_eq]
  repeat' split
  all_goals first | rfl | omega
theorem isLetterC_eq {t n : Nat} {B : Nat → Nat} {M : mm_M} (h : zTB t n B M.1) {i : Nat} (hi : i < n) : tx_isLetter t (nI i) M = some (bI (zlet (B i) = true), M) := by
  obtain ⟨h1, h2, h3⟩ := h
  obtain ⟨h4, h5⟩ := h3 i hi
  unfold tx_isLetter
  simp only [if_pos (zI_inb (show i < 2147483648 by omega) (show i < 160 by omega)), zI_nat (show i < 2147483648 by omega), h4]
  unfold bI zlet
  simp only [i_lt, zI_int (show B i < 2147483648 by omega), show (97 : Int32).toInt = 97 from rfl, show (122 : Int32).toInt = 122 from rfl, decide_eq_true_eq]
  repeat' split
  all_goals first | rfl | omega
theorem isNumeralC_eq {t n : Nat} {B : Nat → Nat} {M : mm_M} (h : zTB t n B M.1) {i : Nat} (hi : i < n) : tx_isNumeral t (nI i) M = some (bI (zdgt (B i) = true), M) := by
  obtain ⟨h1, h2, h3⟩ := h
  obtain ⟨h4, h5⟩ := h3 i hi
  unfold tx_isNumeral
  simp only [if_pos (zI_inb (show i < 2147483648 by omega) (show i < 160 by omega)), zI_nat (show i < 2147483648 by omega), h4]
  unfold bI zdgt
  simp only [i_lt, zI_int (show B i < 2147483648 by omega), show (48 : Int32).toInt = 48 from rfl, show (57 : Int32).toInt = 57 from rfl, decide_eq_true_eq]
  repeat' split
  all_goals first | rfl | omega
theorem isSignC_eq {t n : Nat} {B : Nat → Nat} {M : mm_M} (h : zTB t n B M.1) {i : Nat} (hi : i < n) : tx_isSign t (nI i) M = some (bI (zsig (B i) = true), M) := by
  obtain ⟨h1, h2, h3⟩ := h
  obtain ⟨h4, h5⟩ := h3 i hi
  unfold tx_isSign
  simp only [if_pos (zI_inb (show i < 2147483648 by omega) (show i < 160 by omega)), zI_nat (show i < 2147483648 by omega), h4]
  unfold bI zsig
  simp only [i_eq, zI_int (show B i < 2147483648 by omega), show (40 : Int32).toInt = 40 from rfl, show (41 : Int32).toInt = 41 from rfl, show (59 : Int32).toInt = 59 from rfl, show (43 : Int32).toInt = 43 from rfl, show (45 : Int32).toInt = 45 from rfl, show (42 : Int32).toInt = 42 from rfl, show (60 : Int32).toInt = 60 from rfl, show (61 : Int32).toInt = 61 from rfl, decide_eq_true_eq]
  repeat' split
  all_goals first | rfl | omega
theorem isWordC_l {t n : Nat} {B : Nat → Nat} {M : mm_M} (h : zTB t n B M.1) {x : Nat} {l : List Nat} (hx : str_l x = l.map nI) (hl : l.length ≤ 8) (hb : ∀ c ∈ l, c < 256) {i : Nat} (h7 : M.1 t 7 = nI i) (he : i + l.length ≤ n) : ∀ j k m, k + j = l.length → j < m → tx_isWord_l20 m t x (nI k) M = some (if zmw B (i + k) (l.drop k) = true then .inr ((), M) else .inl (0, M)) := by
  have hn := h.1
  intro j
  induction j with
  | zero =>
    intro k m hk hj
    obtain ⟨m, rfl, -⟩ := z_suc hj
    unfold tx_isWord_l20 js_length str_len
    rw [hx, List.length_map]
    simp only [Option.bind_some]
    have e : Int32.ofNat l.length = nI l.length := rfl
    rw [e, if_neg (nI_nlt (by omega) (by omega)), List.drop_of_length_le (by omega)]
    rfl
  | succ j ih =>
    intro k m hk hj
    obtain ⟨m, rfl, hm⟩ := z_suc hj
    have hk1 : k < l.length := by omega
    have e := ih (k + 1) m (by omega) (by omega)
    unfold tx_isWord_l20 js_length str_len js_charAt str_at
    rw [hx, List.length_map]
    simp only [Option.bind_some]
    have e1 : Int32.ofNat l.length = nI l.length := rfl
    rw [e1, if_pos (nI_lt hk1 (by omega)), h7, nI_add, if_pos (zI_inb (by omega) (by omega)), if_pos (zI_inb (by omega) hk1)]
    simp only [Option.bind_some]
    rw [zI_nat (by omega), zI_nat (by omega), (h.2.2 (i + k) (by omega)).1, nI_1]
    have e2 : (l.map nI).getD k 0 = nI l[k] := by simp [List.getD, hk1]
    rw [e2, e, List.drop_eq_getElem_cons hk1]
    show _ = some (if (decide (B (i + k) = l[k]) && zmw B (i + k + 1) (l.drop (k + 1))) = true then _ else _)
    have hbb := hb _ (List.getElem_mem hk1)
    have hB := (h.2.2 (i + k) (by omega)).2
    by_cases c : B (i + k) = l[k]
    · rw [if_pos (by rw [c])]
      simp [c, Nat.add_assoc]
    · rw [if_neg (fun z => c ((nI_eq (by omega) (by omega)).mp z))]
      simp [c]
theorem isWordC_eq {t n : Nat} {B : Nat → Nat} {M : mm_M} (h : zTB t n B M.1) {x : Nat} {l : List Nat} (hx : str_l x = l.map nI) (hl : l.length ≤ 8) (hb : ∀ c ∈ l, c < 256) {i e : Nat} (h6 : M.1 t 6 = nI e) (h7 : M.1 t 7 = nI i) (hi : i ≤ e) (he : e ≤ n) : tx_isWord t x M = some (bI (zis B i e l = true), M) := by
  have hn := h.1
  unfold tx_isWord js_length str_len
  rw [hx, List.length_map]
  simp only [Option.bind_some]
  have e1 : Int32.ofNat l.length = nI l.length := rfl
  rw [e1, h6, h7, zI_sub hi]
  by_cases c : e = i + l.length
  · rw [if_pos (by rw [c]; congr 1; omega), show (0 : Int32) = nI 0 from rfl, isWordC_l h hx hl hb h7 (by omega) l.length 0 300 (by omega) (by omega)]
    simp only [Option.bind_some, Nat.add_zero, List.drop_zero]
    by_cases d : zmw B i l = true
    · rw [if_pos d, bI_t (by unfold zis; simp [c, d])]
    · rw [if_neg d, bI_f (by unfold zis; simp [d])]
  · rw [if_neg (fun z => c (by have := (nI_eq (by omega) (by omega)).mp z; omega)), bI_f (by unfold zis; simp [c])]
theorem bI_if {p : Prop} [Decidable p] {α : Type} {a b : α} : (if bI p = 0 then a else b) = if p then b else a := by
  by_cases h : p
  · rw [if_pos h, if_neg (fun e => bI_0.mp e h)]
  · rw [if_neg h, if_pos (bI_0.mpr h)]
theorem keyC_eq {t n : Nat} {B : Nat → Nat} {M : mm_M} (h : zTB t n B M.1) {i e : Nat} (h6 : M.1 t 6 = nI e) (h7 : M.1 t 7 = nI i) (hi : i ≤ e) (he : e ≤ n) : tx_key t M = some (nI (zkey B i e), M) := by
  unfold tx_key
  simp only [isWordC_eq h (show str_l (1000000 + 0) = [106, 111, 121, 115].map nI from rfl) (by decide) (by decide) h6 h7 hi he, isWordC_eq h (show str_l (1000000 + 1) = [101, 97, 114, 110, 115].map nI from rfl) (by decide) (by decide) h6 h7 hi he, isWordC_eq h (show str_l (1000000 + 2) = [109, 97, 121].map nI from rfl) (by decide) (by decide) h6 h7 hi he, isWordC_eq h (show str_l (1000000 + 3) = [111, 114].map nI from rfl) (by decide) (by decide) h6 h7 hi he, isWordC_eq h (show str_l (1000000 + 4) = [97, 110, 100].map nI from rfl) (by decide) (by decide) h6 h7 hi he, isWordC_eq h (show str_l (1000000 + 5) = [110, 111, 116].map nI from rfl) (by decide) (by decide) h6 h7 hi he, Option.bind_some, bI_if]
  unfold zkey
  repeat' split
  all_goals rfl
theorem nameC_eq {t n : Nat} {B : Nat → Nat} {M : mm_M} (h : zTB t n B M.1) {i e : Nat} (h6 : M.1 t 6 = nI e) (h7 : M.1 t 7 = nI i) (hi : i ≤ e) (he : e ≤ n) : tx_name t M = some (if znam B i e = 6 then -1 else nI (znam B i e), M) := by
  unfold tx_name
  simp only [isWordC_eq h (show str_l (1000000 + 6) = [119, 101, 101, 107].map nI from rfl) (by decide) (by decide) h6 h7 hi he, isWordC_eq h (show str_l (1000000 + 7) = [119, 105, 115, 104, 101, 100].map nI from rfl) (by decide) (by decide) h6 h7 hi he, isWordC_eq h (show str_l (1000000 + 8) = [110, 117, 109, 98, 101, 114].map nI from rfl) (by decide) (by decide) h6 h7 hi he, isWordC_eq h (show str_l (1000000 + 9) = [108, 101, 110, 103, 116, 104].map nI from rfl) (by decide) (by decide) h6 h7 hi he, isWordC_eq h (show str_l (1000000 + 10) = [112, 111, 105, 110, 116, 115].map nI from rfl) (by decide) (by decide) h6 h7 hi he, isWordC_eq h (show str_l (1000000 + 11) = [97, 119, 97, 121].map nI from rfl) (by decide) (by decide) h6 h7 hi he, Option.bind_some, bI_if]
  unfold znam
  repeat' split
  all_goals first | rfl | omega
/-- the token that a text holds -/
def zTS (t : Nat) (S : zTk) (σ : Nat → Nat → Int32) : Prop := S.k ≤ 265 ∧ σ t 6 = nI S.e ∧ σ t 7 = nI S.p ∧ σ t 8 = nI S.k ∧ (S.k = 262 ∨ S.k = 263 → σ t 9 = nI S.v) ∧ σ t 11 = if S.k = 265 then nI S.p else -1
theorem failC_ok {t p : Nat} {M : mm_M} (h7 : M.1 t 7 = nI p) (h11 : M.1 t 11 = -1 ∨ M.1 t 11 = nI p) (hp : p < 2147483648) : Ok (tx_fail t M) (fun y => y.2.1 t 8 = nI 265 ∧ y.2.1 t 11 = nI p ∧ zfx (fun r c => r = t ∧ (c = 8 ∨ c = 11)) M.1 y.2.1 ∧ y.2.2 = M.2) := by
  unfold tx_fail
  refine ok_ite (fun c => ok_ret ⟨?_, ?_, (zfx.rf.up ⟨rfl, Or.inr rfl⟩).up ⟨rfl, Or.inl rfl⟩, rfl⟩) (fun c => ok_ret ⟨?_, ?_, zfx.rf.up ⟨rfl, Or.inl rfl⟩, rfl⟩)
  · exact ak_up_same
  · show ak_up (ak_up M.1 t 11 (M.1 t 7)) t 8 265 t 11 = _
    rw [ak_up_oth (by decide), ak_up_same, h7]
  · exact ak_up_same
  · show ak_up M.1 t 8 265 t 11 = _
    rw [ak_up_oth (by decide)]
    exact h11.resolve_left c
theorem advC_l0 {t n : Nat} {B : Nat → Nat} (ht : 37 ≤ t) : ∀ j i m (M : mm_M), zTB t n B M.1 → M.1 t 6 = nI i → i + j = n → j < m → tx_advance_l0 m t M = some ((), (ak_up M.1 t 6 (nI (zrun (fun k => zbla (B k)) j i)), M.2)) := by
  intro j
  induction j with
  | zero =>
    intro i m M h h6 hi hj
    have hn := h.1
    obtain ⟨m, rfl, -⟩ := z_suc hj
    unfold tx_advance_l0
    rw [h6, h.2.1, if_neg (nI_nlt (by omega) (by omega))]
    show some ((), M) = some ((), (ak_up M.1 t 6 (nI i), M.2))
    rw [up_self h6]
  | succ j ih =>
    intro i m M h h6 hi hj
    have hn := h.1
    obtain ⟨m, rfl, hm⟩ := z_suc hj
    unfold tx_advance_l0 zrun
    rw [h6, h.2.1, if_pos (nI_lt (by omega) (by omega)), isBlankC_eq h (by omega)]
    simp only [Option.bind_some, bI_if, h6, nI_1]
    by_cases c : zbla (B i) = true
    · rw [if_pos c, if_pos c, ih (i + 1) m _ (h.fx ht (P := zLx t) (zfx.rf.up ⟨rfl, Or.inl rfl⟩) zLx_5 (zLx_25 ht)) ak_up_same (by omega) (by omega)]
      show some ((), (ak_up (ak_up M.1 t 6 (nI (i + 1))) t 6 _, M.2)) = _
      rw [up_up]
    · rw [if_neg c, if_neg c, up_self h6]
theorem advWordC_l0 {t n : Nat} {B : Nat → Nat} (ht : 37 ≤ t) : ∀ j i m (M : mm_M), zTB t n B M.1 → M.1 t 6 = nI i → i + j = n → j < m → tx_advanceOverWord_l0 m t M = some ((), (ak_up M.1 t 6 (nI (zrun (fun k => zlet (B k)) j i)), M.2)) := by
  intro j
  induction j with
  | zero =>
    intro i m M h h6 hi hj
    have hn := h.1
    obtain ⟨m, rfl, -⟩ := z_suc hj
    unfold tx_advanceOverWord_l0
    rw [h6, h.2.1, if_neg (nI_nlt (by omega) (by omega))]
    show some ((), M) = some ((), (ak_up M.1 t 6 (nI i), M.2))
    rw [up_self h6]
  | succ j ih =>
    intro i m M h h6 hi hj
    have hn := h.1
    obtain ⟨m, rfl, hm⟩ := z_suc hj
    unfold tx_advanceOverWord_l0 zrun
    rw [h6, h.2.1, if_pos (nI_lt (by omega) (by omega)), isLetterC_eq h (by omega)]
    simp only [Option.bind_some, bI_if, h6, nI_1]
    by_cases c : zlet (B i) = true
    · rw [if_pos c, if_pos c, ih (i + 1) m _ (h.fx ht (P := zLx t) (zfx.rf.up ⟨rfl, Or.inl rfl⟩) zLx_5 (zLx_25 ht)) ak_up_same (by omega) (by omega)]
      show some ((), (ak_up (ak_up M.1 t 6 (nI (i + 1))) t 6 _, M.2)) = _
      rw [up_up]
    · rw [if_neg c, if_neg c, up_self h6]
theorem advNumC_l5 {t n s : Nat} {B : Nat → Nat} (ht : 37 ≤ t) : ∀ j i m (M : mm_M), zTB t n B M.1 → M.1 t 6 = nI i → M.1 t 9 = nI (zdig B s (i - s)) → s ≤ i → i + j = n → j < m → Ok (tx_advanceOverNumber_l5 m t M) (fun y => y.2.1 t 6 = nI (zrun (fun k => zdgt (B k)) j i) ∧ y.2.1 t 9 = nI (zdig B s (zrun (fun k => zdgt (B k)) j i - s)) ∧ zfx (fun r c => r = t ∧ (c = 6 ∨ c = 9)) M.1 y.2.1 ∧ y.2.2 = M.2) := by
  intro j
  induction j with
  | zero =>
    intro i m M h h6 h9 hs hi hj
    have hn := h.1
    obtain ⟨m, rfl, -⟩ := z_suc hj
    unfold tx_advanceOverNumber_l5
    rw [h6, h.2.1, if_neg (nI_nlt (by omega) (by omega))]
    exact ok_ret ⟨h6, h9, zfx.rf, rfl⟩
  | succ j ih =>
    intro i m M h h6 h9 hs hi hj
    have hn := h.1
    obtain ⟨m, rfl, hm⟩ := z_suc hj
    unfold tx_advanceOverNumber_l5 zrun
    rw [h6, h.2.1, if_pos (nI_lt (by omega) (by omega)), isNumeralC_eq h (by omega)]
    simp only [Option.bind_some, bI_if, h6]
    by_cases c : zdgt (B i) = true
    · have hb := of_decide_eq_true c
      rw [if_pos c, if_pos c]
      refine ok_pos (zI_inb (by omega) (by omega)) ?_
      rw [zI_nat (by omega), (h.2.2 i (by omega)).1, h9, ak_up_oth (show (6 : Nat) ≠ 9 by decide), h6, nI_1]
      have e : nI (zdig B s (i - s)) * 10 + nI (B i) - 48 = nI (zdig B s (i + 1 - s)) := by
        rw [show (10 : Int32) = nI 10 from rfl, show (48 : Int32) = nI 48 from rfl, zI_mul, nI_add, zI_sub (by omega), show i + 1 - s = (i - s) + 1 by omega]
        show _ = nI (10 * zdig B s (i - s) + (B (s + (i - s)) - 48))
        rw [show s + (i - s) = i by omega]
        congr 1
        omega
      rw [e]
      have f : zfx (fun r c => r = t ∧ (c = 6 ∨ c = 9)) M.1 (ak_up (ak_up M.1 t 9 (nI (zdig B s (i + 1 - s)))) t 6 (nI (i + 1))) := (zfx.rf.up ⟨rfl, Or.inr rfl⟩).up ⟨rfl, Or.inl rfl⟩
      obtain ⟨y, ey, y1, y2, y3, y4⟩ := ih (i + 1) m (ak_up (ak_up M.1 t 9 (nI (zdig B s (i + 1 - s)))) t 6 (nI (i + 1)), M.2) (h.fx ht f (fun z => by have := z.2; omega) (fun c z => by have := z.1; omega)) ak_up_same (by
        show ak_up (ak_up M.1 t 9 _) t 6 _ t 9 = _
        rw [ak_up_oth (by decide), ak_up_same]) (by omega) (by omega) (by omega)
      exact ⟨y, ey, y1, y2, f.tr y3, y4⟩
    · rw [if_neg c, if_neg c]
      exact ok_ret ⟨h6, h9, zfx.rf, rfl⟩
theorem advWordC_ok {t n : Nat} {B : Nat → Nat} {M : mm_M} (ht : 37 ≤ t) (h : zTB t n B M.1) {s : Nat} (hs : s < n) (h6 : M.1 t 6 = nI s) (h7 : M.1 t 7 = nI s) (h11 : M.1 t 11 = -1) : Ok (tx_advanceOverWord t M) (fun y => zTS t (s, zwe B n s, (zwd B s (zwe B n s)).1, (zwd B s (zwe B n s)).2) y.2.1 ∧ zfx (zLx t) M.1 y.2.1 ∧ y.2.2 = M.2) := by
  have hn := h.1
  have hk := zwd_k B s (zwe B n s)
  unfold tx_advanceOverWord
  rw [advWordC_l0 ht (n - s) s 300 M h h6 (by omega) (by omega)]
  simp only [Option.bind_some]
  have he : s ≤ zwe B n s ∧ zwe B n s ≤ n := by
    have := zrun_ge (fun k => zlet (B k)) (n - s) s
    unfold zwe
    omega
  rw [show zrun (fun k => zlet (B k)) (n - s) s = zwe B n s from rfl]
  generalize hE : zwe B n s = e at he hk ⊢
  have f1 : zfx (zLx t) M.1 (ak_up M.1 t 6 (nI e)) := zfx.rf.up ⟨rfl, Or.inl rfl⟩
  have h1 := h.fx ht f1 zLx_5 (zLx_25 ht)
  rw [keyC_eq h1 (i := s) (e := e) ak_up_same ((ak_up_oth (by decide)).trans h7) he.1 he.2]
  simp only [Option.bind_some]
  rw [ak_up_same]
  have hkey := zkey_le B s e
  have hnam := znam_le B s e
  have f2 : zfx (zLx t) M.1 (ak_up (ak_up M.1 t 6 (nI e)) t 8 (nI (zkey B s e))) := f1.up ⟨rfl, Or.inr (Or.inr (Or.inl rfl))⟩
  have h2 := h.fx ht f2 zLx_5 (zLx_25 ht)
  refine ok_ite (fun c => ?_) (fun c => ?_)
  · have c1 : zkey B s e = 262 := (nI_eq (b := 262) (by omega) (by decide)).mp c
    rw [nameC_eq h2 (i := s) (e := e) ((ak_up_oth (by decide)).trans ak_up_same) ((ak_up_oth (by decide)).trans ((ak_up_oth (by decide)).trans h7)) he.1 he.2]
    simp only [Option.bind_some]
    rw [ak_up_same]
    have f3 : ∀ v, zfx (zLx t) M.1 (ak_up (ak_up (ak_up M.1 t 6 (nI e)) t 8 (nI (zkey B s e))) t 9 v) := fun v => f2.up ⟨rfl, Or.inr (Or.inr (Or.inr (Or.inl rfl)))⟩
    by_cases d : znam B s e = 6
    · rw [if_pos d]
      refine ok_pos rfl ?_
      refine ok_then (failC_ok (p := s) (by
        show ak_up (ak_up (ak_up M.1 t 6 _) t 8 _) t 9 _ t 7 = _
        rw [ak_up_oth (by decide), ak_up_oth (by decide), ak_up_oth (by decide)]
        exact h7) (Or.inl (by
        show ak_up (ak_up (ak_up M.1 t 6 _) t 8 _) t 9 _ t 11 = _
        rw [ak_up_oth (by decide), ak_up_oth (by decide), ak_up_oth (by decide)]
        exact h11)) (by omega)) (fun y hy => ?_)
      obtain ⟨y1, y2, y3, y4⟩ := hy
      have ez : zwd B s e = (265, 6) := by unfold zwd; rw [if_pos c1, if_pos d]
      refine ok_ret ⟨⟨hk, ?_, ?_, ?_, ?_, ?_⟩, (f3 _).tr (y3.wk (fun r k z => ⟨z.1, by have := z.2; omega⟩)), y4⟩
      · show y.2.1 t 6 = nI e
        rw [y3 t 6 (fun z => by have := z.2; omega)]
        show ak_up (ak_up (ak_up M.1 t 6 _) t 8 _) t 9 _ t 6 = _
        rw [ak_up_oth (by decide), ak_up_oth (by decide), ak_up_same]
      · show y.2.1 t 7 = nI s
        rw [y3 t 7 (fun z => by have := z.2; omega)]
        show ak_up (ak_up (ak_up M.1 t 6 _) t 8 _) t 9 _ t 7 = _
        rw [ak_up_oth (by decide), ak_up_oth (by decide), ak_up_oth (by decide)]
        exact h7
      · show y.2.1 t 8 = nI (zwd B s e).1
        rw [ez]; exact y1
      · intro z
        rw [ez] at z
        exact absurd z (by show ¬ (265 = 262 ∨ 265 = 263); decide)
      · show y.2.1 t 11 = if (zwd B s e).1 = 265 then nI s else -1
        rw [ez]; exact y2
    · rw [if_neg d]
      refine ok_neg (fun z => ?_) ?_
      · have : ∀ k ≤ 6, nI k ≠ (-1 : Int32) := by decide
        exact this _ hnam z
      have ez : zwd B s e = (262, znam B s e) := by unfold zwd; rw [if_pos c1, if_neg d]
      refine ok_ret ⟨⟨hk, ?_, ?_, ?_, ?_, ?_⟩, f3 _, rfl⟩
      · show ak_up (ak_up (ak_up M.1 t 6 _) t 8 _) t 9 _ t 6 = _
        rw [ak_up_oth (by decide), ak_up_oth (by decide), ak_up_same]
        rfl
      · show ak_up (ak_up (ak_up M.1 t 6 _) t 8 _) t 9 _ t 7 = _
        rw [ak_up_oth (by decide), ak_up_oth (by decide), ak_up_oth (by decide)]
        exact h7
      · show ak_up (ak_up (ak_up M.1 t 6 _) t 8 _) t 9 _ t 8 = nI (zwd B s e).1
        rw [ez, ak_up_oth (by decide), ak_up_same, c1]
      · intro z
        show ak_up (ak_up (ak_up M.1 t 6 _) t 8 _) t 9 _ t 9 = nI (zwd B s e).2
        rw [ez, ak_up_same]
      · show ak_up (ak_up (ak_up M.1 t 6 _) t 8 _) t 9 _ t 11 = if (zwd B s e).1 = 265 then nI s else -1
        rw [ez, ak_up_oth (by decide), ak_up_oth (by decide), ak_up_oth (by decide)]
        exact h11
  · have c1 : zkey B s e ≠ 262 := fun z => c (by rw [z]; rfl)
    have ez : zwd B s e = (zkey B s e, 0) := by unfold zwd; rw [if_neg c1]
    refine ok_ret ⟨⟨hk, ?_, ?_, ?_, ?_, ?_⟩, f2, rfl⟩
    · show ak_up (ak_up M.1 t 6 _) t 8 _ t 6 = _
      rw [ak_up_oth (by decide), ak_up_same]
      rfl
    · show ak_up (ak_up M.1 t 6 _) t 8 _ t 7 = _
      rw [ak_up_oth (by decide), ak_up_oth (by decide)]
      exact h7
    · show ak_up (ak_up M.1 t 6 _) t 8 _ t 8 = nI (zwd B s e).1
      rw [ez, ak_up_same]
    · intro z
      rw [ez] at z
      have z2 : zkey B s e = 262 ∨ zkey B s e = 263 := z
      omega
    · show ak_up (ak_up M.1 t 6 _) t 8 _ t 11 = if (zwd B s e).1 = 265 then nI s else -1
      rw [ez, ak_up_oth (by decide), ak_up_oth (by decide), if_neg (by show ¬ zkey B s e = 265; omega)]
      exact h11
theorem advNumC_ok {t n : Nat} {B : Nat → Nat} {M : mm_M} (ht : 37 ≤ t) (h : zTB t n B M.1) {s : Nat} (hs : s < n) (h6 : M.1 t 6 = nI s) (h7 : M.1 t 7 = nI s) (h11 : M.1 t 11 = -1) : Ok (tx_advanceOverNumber t M) (fun y => zTS t (s, zne B n s, if 4 < zne B n s - s then 265 else 263, zdig B s (zne B n s - s)) y.2.1 ∧ zfx (zLx t) M.1 y.2.1 ∧ y.2.2 = M.2) := by
  have hn := h.1
  unfold tx_advanceOverNumber
  have he : s ≤ zne B n s ∧ zne B n s ≤ n := by
    have := zrun_ge (fun k => zdgt (B k)) (n - s) s
    unfold zne
    omega
  have f0 : zfx (zLx t) M.1 (ak_up M.1 t 9 0) := zfx.rf.up ⟨rfl, Or.inr (Or.inr (Or.inr (Or.inl rfl)))⟩
  refine ok_then (advNumC_l5 (s := s) ht (n - s) s 300 (ak_up M.1 t 9 0, M.2) (h.fx ht f0 zLx_5 (zLx_25 ht)) (by
    show ak_up M.1 t 9 0 t 6 = _
    rw [ak_up_oth (by decide)]; exact h6) (by
    show ak_up M.1 t 9 0 t 9 = _
    rw [ak_up_same, Nat.sub_self]; rfl) (by omega) (by omega) (by omega)) (fun y hy => ?_)
  obtain ⟨y1, y2, y3, y4⟩ := hy
  rw [show zrun (fun k => zdgt (B k)) (n - s) s = zne B n s from rfl] at y1 y2
  generalize zne B n s = e at he y1 y2 ⊢
  have y7 : y.2.1 t 7 = nI s := by
    rw [y3 t 7 (fun z => by have := z.2; omega)]
    show ak_up M.1 t 9 0 t 7 = _
    rw [ak_up_oth (by decide)]; exact h7
  have y11 : y.2.1 t 11 = -1 := by
    rw [y3 t 11 (fun z => by have := z.2; omega)]
    show ak_up M.1 t 9 0 t 11 = _
    rw [ak_up_oth (by decide)]; exact h11
  have f1 : zfx (zLx t) M.1 y.2.1 := f0.tr (y3.wk (fun r k z => ⟨z.1, by have := z.2; omega⟩))
  have f2 : zfx (zLx t) M.1 (ak_up y.2.1 t 8 263) := f1.up ⟨rfl, Or.inr (Or.inr (Or.inl rfl))⟩
  rw [ak_up_oth (show (6 : Nat) ≠ 8 by decide), ak_up_oth (show (7 : Nat) ≠ 8 by decide), y1, y7, zI_sub he.1]
  refine ok_ite (fun c => ?_) (fun c => ?_)
  · have c1 : 4 < e - s := (nI_ltI (a := 4) (by decide) (by omega)).mp c
    rw [if_pos c1]
    refine ok_then (failC_ok (p := s) (by
      show ak_up y.2.1 t 8 263 t 7 = _
      rw [ak_up_oth (by decide)]; exact y7) (Or.inl (by
      show ak_up y.2.1 t 8 263 t 11 = _
      rw [ak_up_oth (by decide)]; exact y11)) (by omega)) (fun x hx => ?_)
    obtain ⟨x1, x2, x3, x4⟩ := hx
    refine ok_ret ⟨⟨Nat.le_refl _, ?_, ?_, x1, fun _ => ?_, x2⟩, f2.tr (x3.wk (fun r k z => ⟨z.1, by have := z.2; omega⟩)), x4.trans y4⟩
    · show x.2.1 t 6 = nI e
      rw [x3 t 6 (fun z => by have := z.2; omega)]
      show ak_up y.2.1 t 8 263 t 6 = _
      rw [ak_up_oth (by decide)]; exact y1
    · show x.2.1 t 7 = nI s
      rw [x3 t 7 (fun z => by have := z.2; omega)]
      show ak_up y.2.1 t 8 263 t 7 = _
      rw [ak_up_oth (by decide)]; exact y7
    · show x.2.1 t 9 = nI (zdig B s (e - s))
      rw [x3 t 9 (fun z => by have := z.2; omega)]
      show ak_up y.2.1 t 8 263 t 9 = _
      rw [ak_up_oth (by decide)]; exact y2
  · have c1 : ¬ 4 < e - s := fun z => c ((nI_ltI (a := 4) (by decide) (by omega)).mpr z)
    rw [if_neg c1]
    refine ok_ret ⟨⟨(by decide : 263 ≤ 265), ?_, ?_, ak_up_same, fun _ => ?_, ?_⟩, f2, y4⟩
    · show ak_up y.2.1 t 8 263 t 6 = _
      rw [ak_up_oth (by decide)]; exact y1
    · show ak_up y.2.1 t 8 263 t 7 = _
      rw [ak_up_oth (by decide)]; exact y7
    · show ak_up y.2.1 t 8 263 t 9 = _
      rw [ak_up_oth (by decide)]; exact y2
    · show ak_up y.2.1 t 8 263 t 11 = _
      rw [ak_up_oth (by decide)]; exact y11
theorem advC_ok {t n : Nat} {B : Nat → Nat} {M : mm_M} (ht : 37 ≤ t) (h : zTB t n B M.1) {i : Nat} (hi : i ≤ n) (h6 : M.1 t 6 = nI i) (h11 : M.1 t 11 = -1) : Ok (tx_advance t M) (fun y => zTS t (zlx B n i) y.2.1 ∧ zfx (zLx t) M.1 y.2.1 ∧ y.2.2 = M.2) := by
  have hn := h.1
  unfold tx_advance
  rw [advC_l0 ht (n - i) i 300 M h h6 (by omega) (by omega)]
  simp only [Option.bind_some]
  rw [show zrun (fun k => zbla (B k)) (n - i) i = zskp B n i from rfl]
  unfold zlx
  have hs : i ≤ zskp B n i ∧ zskp B n i ≤ n := by
    have := zrun_ge (fun k => zbla (B k)) (n - i) i
    unfold zskp
    omega
  generalize zskp B n i = s at hs
  rw [ak_up_same]
  have f1 : zfx (zLx t) M.1 (ak_up (ak_up M.1 t 6 (nI s)) t 7 (nI s)) := (zfx.rf.up ⟨rfl, Or.inl rfl⟩).up ⟨rfl, Or.inr (Or.inl rfl)⟩
  have g6 : ak_up (ak_up M.1 t 6 (nI s)) t 7 (nI s) t 6 = nI s := by rw [ak_up_oth (by decide), ak_up_same]
  have g7 : ak_up (ak_up M.1 t 6 (nI s)) t 7 (nI s) t 7 = nI s := ak_up_same
  have g11 : ak_up (ak_up M.1 t 6 (nI s)) t 7 (nI s) t 11 = -1 := by rw [ak_up_oth (by decide), ak_up_oth (by decide)]; exact h11
  have h1 := h.fx ht f1 zLx_5 (zLx_25 ht)
  generalize ak_up (ak_up M.1 t 6 (nI s)) t 7 (nI s) = σ at f1 g6 g7 g11 h1 ⊢
  rw [g6, h1.2.1]
  unfold zlx1
  by_cases c : s < n
  · rw [if_pos c]
    refine ok_pos (nI_lt c (by omega)) ?_
    rw [isLetterC_eq (M := (σ, M.2)) h1 c]
    simp only [Option.bind_some, bI_if]
    by_cases d : zlet (B s) = true
    · rw [if_pos d, if_pos d]
      refine ok_then (advWordC_ok (M := (σ, M.2)) ht h1 c g6 g7 g11) (fun y hy => ok_ret ⟨hy.1, f1.tr hy.2.1, hy.2.2⟩)
    · rw [if_neg d, if_neg d, g6, isNumeralC_eq (M := (σ, M.2)) h1 c]
      simp only [Option.bind_some, bI_if]
      by_cases d2 : zdgt (B s) = true
      · rw [if_pos d2, if_pos d2]
        refine ok_then (advNumC_ok (M := (σ, M.2)) ht h1 c g6 g7 g11) (fun y hy => ok_ret ⟨hy.1, f1.tr hy.2.1, hy.2.2⟩)
      · rw [if_neg d2, if_neg d2, g6, isSignC_eq (M := (σ, M.2)) h1 c]
        simp only [Option.bind_some, bI_if]
        by_cases d3 : zsig (B s) = true
        · rw [if_pos d3, if_pos d3]
          have hb := of_decide_eq_true d3
          rw [g6]
          refine ok_pos (zI_inb (by omega) (by omega)) ?_
          rw [zI_nat (by omega), (h1.2.2 s c).1, ak_up_oth (show (6 : Nat) ≠ 8 by decide), g6, nI_1]
          refine ok_ret ⟨⟨by show B s ≤ 265; omega, ak_up_same, ?_, ?_, ?_, ?_⟩, (f1.up ⟨rfl, Or.inr (Or.inr (Or.inl rfl))⟩).up ⟨rfl, Or.inl rfl⟩, rfl⟩
          · show ak_up (ak_up σ t 8 _) t 6 _ t 7 = _
            rw [ak_up_oth (by decide), ak_up_oth (by decide)]
            exact g7
          · show ak_up (ak_up σ t 8 _) t 6 _ t 8 = _
            rw [ak_up_oth (by decide), ak_up_same]
            rfl
          · intro z
            have z2 : B s = 262 ∨ B s = 263 := z
            omega
          · show ak_up (ak_up σ t 8 _) t 6 _ t 11 = if B s = 265 then nI s else -1
            rw [ak_up_oth (by decide), ak_up_oth (by decide), if_neg (by omega)]
            exact g11
        · rw [if_neg d3, if_neg d3]
          refine ok_then (failC_ok (M := (σ, M.2)) (p := s) g7 (Or.inl g11) (by omega)) (fun y hy => ?_)
          obtain ⟨y1, y2, y3, y4⟩ := hy
          refine ok_ret ⟨⟨Nat.le_refl _, ?_, ?_, y1, fun z => ?_, y2⟩, f1.tr (y3.wk (fun r k z => ⟨z.1, by have := z.2; omega⟩)), y4⟩
          · exact (y3 t 6 (fun z => by have := z.2; omega)).trans g6
          · exact (y3 t 7 (fun z => by have := z.2; omega)).trans g7
          · exact absurd z (by show ¬ (265 = 262 ∨ 265 = 263); decide)
  · rw [if_neg c]
    refine ok_neg (nI_nlt (by omega) (by omega)) ?_
    refine ok_ret ⟨⟨(by decide : 264 ≤ 265), ?_, ?_, ak_up_same, fun z => ?_, ?_⟩, f1.up ⟨rfl, Or.inr (Or.inr (Or.inl rfl))⟩, rfl⟩
    · show ak_up σ t 8 264 t 6 = _
      rw [ak_up_oth (by decide)]
      exact g6
    · show ak_up σ t 8 264 t 7 = _
      rw [ak_up_oth (by decide)]
      exact g7
    · exact absurd z (by show ¬ (264 = 262 ∨ 264 = 263); decide)
    · show ak_up σ t 8 264 t 11 = _
      rw [ak_up_oth (by decide)]
      exact g11
