/-! printed: the functions of the methods, and that the small machine does them -/
def nb_year_l18 : Nat → Int32 → mm_M → Option (((Unit) × mm_M))
  | 0, _, _ => none
  | n + 1, x1, M =>
    if x1 < (M.1 1 4) then
      if ak_inb x1 4 = true then
      (ru_earned 1 x1 M).bind fun y3 =>
      if ak_inb x1 4 = true then
      if ak_inb x1 4 = true then
      nb_year_l18 n (x1 + (1 : Int32)) (ak_up (ak_up y3.2.1 6 x1.toNatClampNeg (i_min (999 : Int32) ((M.1 6 x1.toNatClampNeg) + y3.1))) 7 x1.toNatClampNeg (-1 : Int32), y3.2.2) else none else none else none
    else
      some ((), M)
set_option maxRecDepth 20000 in
set_option maxHeartbeats 4000000 in
theorem lc_110_18 {Z : ak_Z} {d : Nat} : ∀ (n : Nat) (x1 : Int32) (M : mm_M) {y : ((Unit) × mm_M)} (Q : Option Value → ak_H → Prop), nb_year_l18 n x1 M = some y → (Ev Z (d + 6) 110 82 [some (.ref 0), none] [] (mm_H y.2) Q) → Ev Z (d + 6) 110 18 [some (.ref 0), some (.int x1)] [] (mm_H M) Q := by
  intro n
  induction n with
  | zero => intro x1 M y Q hf; cases hf
  | succ n ih =>
    intro x1 M y Q hf hq
    rw [nb_year_l18] at hf
    refine e_iload_n hm_110 rfl rfl ?_
    refine e_aload_n hm_110 rfl rfl ?_
    refine e_getR hm_110 rfl rfl rfl rfl ?_
    refine e_getI hm_110 rfl rfl rfl ?_
    by_cases hc1 : x1 < (M.1 1 4)
    · rw [if_pos hc1] at hf
      refine e_ic_f hm_110 rfl (cf_ge hc1) ?_
      refine e_aload_n hm_110 rfl rfl ?_
      refine e_getR hm_110 rfl rfl rfl rfl ?_
      refine e_getR hm_110 rfl rfl rfl rfl ?_
      refine e_iload_n hm_110 rfl rfl ?_
      refine e_sipush hm_110 rfl kc_sipush_999 ?_
      refine e_aload_n hm_110 rfl rfl ?_
      refine e_getR hm_110 rfl rfl rfl rfl ?_
      refine e_getR hm_110 rfl rfl rfl rfl ?_
      refine e_iload_n hm_110 rfl rfl ?_
      obtain ⟨hi2, hf⟩ := mm_ite hf
      refine e_iald hm_110 rfl rfl hi2 ?_
      refine e_aload_n hm_110 rfl rfl ?_
      refine e_getR hm_110 rfl rfl rfl rfl ?_
      refine e_aload_n hm_110 rfl rfl ?_
      refine e_getR hm_110 rfl rfl rfl rfl ?_
      refine e_iload_n hm_110 rfl rfl ?_
      obtain ⟨y3, hky3, hf⟩ := mm_bd hf
      refine e_virt hm_110 rfl rfl rfl rfl (Nat.le_of_ble_eq_true rfl) hm_55 rfl rfl (c_55 1 x1 M rfl hky3 ?_)
      show Ev Z _ 110 61 [some (.ref 0), some (.int x1)] [.int y3.1, .int (M.1 6 x1.toNatClampNeg), .int (999 : Int32), .int x1, .ref 6] (mm_H y3.2) Q
      refine e_iadd hm_110 rfl ?_
      refine e_min hm_110 rfl (Nat.le_of_ble_eq_true rfl) ?_
      obtain ⟨hi4, hf⟩ := mm_ite hf
      refine e_iast hm_110 rfl rfl hi4 ?_
      refine e_aload_n hm_110 rfl rfl ?_
      refine e_getR hm_110 rfl rfl rfl rfl ?_
      refine e_getR hm_110 rfl rfl rfl rfl ?_
      refine e_iload_n hm_110 rfl rfl ?_
      refine e_iconst hm_110 rfl kc_iconst_m1 ?_
      obtain ⟨hi5, hf⟩ := mm_ite hf
      refine e_iast hm_110 rfl rfl hi5 ?_
      refine e_iinc (L2 := [some (.ref 0), some (.int (x1 + (1 : Int32)))]) hm_110 rfl kc_iinc_1 rfl rfl ?_
      refine e_goto (t := 18) hm_110 rfl rfl ?_
      exact e_forget (L' := [some (.ref 0), some (.int (x1 + (1 : Int32)))]) (lf_k (lf_k lf_0)) (ih (x1 + (1 : Int32)) (ak_up (ak_up y3.2.1 6 x1.toNatClampNeg (i_min (999 : Int32) ((M.1 6 x1.toNatClampNeg) + y3.1))) 7 x1.toNatClampNeg (-1 : Int32), y3.2.2) Q hf hq)
    · rw [if_neg hc1] at hf
      refine e_ic_t (t := 82) hm_110 rfl (ct_ge hc1) rfl ?_
      obtain rfl := Option.some.inj hf
      exact e_forget (L' := [some (.ref 0), none]) (lf_k (lf_d lf_0)) hq
def nb_year (M : mm_M) : Option (Int32 × mm_M) :=
  if (M.1 1 0) < (999 : Int32) then
    (nb_year_l18 300 (0 : Int32) M).bind fun y2 =>
    (sh_pointsOfAll 1 (ak_up y2.2.1 1 0 ((y2.2.1 1 0) + (1 : Int32)), y2.2.2)).bind fun y3 =>
    some (y3.1, y3.2)
  else
    some ((-3 : Int32), M)
set_option maxRecDepth 20000 in
set_option maxHeartbeats 4000000 in
theorem c_110 {Z : ak_Z} {d : Nat} (M : mm_M) {y : Int32 × mm_M} (hf : nb_year M = some y) {Q : Option Value → ak_H → Prop} (hq : Q (some (.int y.1)) (mm_H y.2)) : Ev Z (d + 6) 110 0 [some (.ref 0), none] [] (mm_H M) Q := by
  rw [nb_year] at hf
  refine e_aload_n hm_110 rfl rfl ?_
  refine e_getR hm_110 rfl rfl rfl rfl ?_
  refine e_getI hm_110 rfl rfl rfl ?_
  refine e_sipush hm_110 rfl kc_sipush_999 ?_
  by_cases hc1 : (M.1 1 0) < (999 : Int32)
  · rw [if_pos hc1] at hf
    refine e_ic_t (t := 16) hm_110 rfl (ct_lt hc1) rfl ?_
    refine e_iconst hm_110 rfl kc_iconst_0 ?_
    refine e_istore_n (L2 := [some (.ref 0), some (.int (0 : Int32))]) hm_110 rfl rfl ?_
    obtain ⟨y2, hky2, hf⟩ := mm_bd hf
    refine e_forget (L' := [some (.ref 0), some (.int (0 : Int32))]) (lf_k (lf_k lf_0)) (lc_110_18 (d := _) 300 (0 : Int32) M Q hky2 ?_)
    show Ev Z _ 110 82 [some (.ref 0), none] [] (mm_H y2.2) Q
    refine e_aload_n hm_110 rfl rfl ?_
    refine e_getR hm_110 rfl rfl rfl rfl ?_
    refine e_dupa hm_110 rfl ?_
    refine e_getI hm_110 rfl rfl rfl ?_
    refine e_iconst hm_110 rfl kc_iconst_1 ?_
    refine e_iadd hm_110 rfl ?_
    refine e_putI hm_110 rfl rfl rfl ?_
    refine e_aload_n hm_110 rfl rfl ?_
    refine e_getR hm_110 rfl rfl rfl rfl ?_
    obtain ⟨y3, hky3, hf⟩ := mm_bd hf
    refine e_virt hm_110 rfl rfl rfl rfl (Nat.le_of_ble_eq_true rfl) hm_111 rfl rfl (c_111 1 (ak_up y2.2.1 1 0 ((y2.2.1 1 0) + (1 : Int32)), y2.2.2) rfl hky3 ?_)
    show Ev Z _ 110 102 [some (.ref 0), none] [.int y3.1] (mm_H y3.2) Q
    obtain rfl := Option.some.inj hf
    exact e_iret hm_110 rfl rfl hq
  · rw [if_neg hc1] at hf
    refine e_ic_f hm_110 rfl (cf_lt hc1) ?_
    refine e_bipush hm_110 rfl kc_bipush_m3 ?_
    obtain rfl := Option.some.inj hf
    exact e_iret hm_110 rfl rfl hq
def pl_takeNone_l2 : Nat → Int32 → mm_M → Option (((Unit) × mm_M))
  | 0, _, _ => none
  | n + 1, x1, M =>
    if x1 < (4 : Int32) then
      if ak_inb x1 4 = true then
      pl_takeNone_l2 n (x1 + (1 : Int32)) (ak_up M.1 61 x1.toNatClampNeg (0 : Int32), M.2) else none
    else
      some ((), M)
set_option maxRecDepth 20000 in
set_option maxHeartbeats 4000000 in
theorem lc_114_2 {Z : ak_Z} {d : Nat} : ∀ (n : Nat) (x1 : Int32) (M : mm_M) {y : ((Unit) × mm_M)} (Q : Option Value → ak_H → Prop), pl_takeNone_l2 n x1 M = some y → (Ev Z (d + 0) 114 20 [none, none] [] (mm_H y.2) Q) → Ev Z (d + 0) 114 2 [some (.ref 55), some (.int x1)] [] (mm_H M) Q := by
  intro n
  induction n with
  | zero => intro x1 M y Q hf; cases hf
  | succ n ih =>
    intro x1 M y Q hf hq
    rw [pl_takeNone_l2] at hf
    refine e_iload_n hm_114 rfl rfl ?_
    refine e_iconst hm_114 rfl kc_iconst_4 ?_
    by_cases hc1 : x1 < (4 : Int32)
    · rw [if_pos hc1] at hf
      refine e_ic_f hm_114 rfl (cf_ge hc1) ?_
      refine e_aload_n hm_114 rfl rfl ?_
      refine e_getR hm_114 rfl rfl rfl rfl ?_
      refine e_iload_n hm_114 rfl rfl ?_
      refine e_iconst hm_114 rfl kc_iconst_0 ?_
      obtain ⟨hi2, hf⟩ := mm_ite hf
      refine e_iast hm_114 rfl rfl hi2 ?_
      refine e_iinc (L2 := [some (.ref 55), some (.int (x1 + (1 : Int32)))]) hm_114 rfl kc_iinc_1 rfl rfl ?_
      refine e_goto (t := 2) hm_114 rfl rfl ?_
      exact e_forget (L' := [some (.ref 55), some (.int (x1 + (1 : Int32)))]) (lf_k (lf_k lf_0)) (ih (x1 + (1 : Int32)) (ak_up M.1 61 x1.toNatClampNeg (0 : Int32), M.2) Q hf hq)
    · rw [if_neg hc1] at hf
      refine e_ic_t (t := 20) hm_114 rfl (ct_ge hc1) rfl ?_
      obtain rfl := Option.some.inj hf
      exact e_forget (L' := [none, none]) (lf_d (lf_d lf_0)) hq
def pl_takeNone (M : mm_M) : Option (Unit × mm_M) :=
  (pl_takeNone_l2 300 (0 : Int32) M).bind fun y1 =>
  some ((), y1.2)
set_option maxRecDepth 20000 in
set_option maxHeartbeats 4000000 in
theorem c_114 {Z : ak_Z} {d : Nat} (M : mm_M) {y : Unit × mm_M} (hf : pl_takeNone M = some y) {Q : Option Value → ak_H → Prop} (hq : Q none (mm_H y.2)) : Ev Z (d + 0) 114 0 [some (.ref 55), none] [] (mm_H M) Q := by
  rw [pl_takeNone] at hf
  refine e_iconst hm_114 rfl kc_iconst_0 ?_
  refine e_istore_n (L2 := [some (.ref 55), some (.int (0 : Int32))]) hm_114 rfl rfl ?_
  obtain ⟨y1, hky1, hf⟩ := mm_bd hf
  refine e_forget (L' := [some (.ref 55), some (.int (0 : Int32))]) (lf_k (lf_k lf_0)) (lc_114_2 (d := _) 300 (0 : Int32) M Q hky1 ?_)
  show Ev Z _ 114 20 [none, none] [] (mm_H y1.2) Q
  obtain rfl := Option.some.inj hf
  exact e_vret hm_114 rfl rfl hq
def pl_takeHopes_l34 : Nat → Int32 → Int32 → Int32 → mm_M → Option (((Int32) × mm_M))
  | 0, _, _, _, _ => none
  | n + 1, x1, x2, x3, M =>
    if x3 < ((x1 + (1 : Int32)) * (9 : Int32)) then
      if ak_inb x3 36 = true then
      if (M.1 58 x3.toNatClampNeg) = (0 : Int32) then
        pl_takeHopes_l34 n x1 x2 (x3 + (1 : Int32)) M
      else
        if ak_inb x3 36 = true then
        pl_takeHopes_l34 n x1 (i_max x2 (M.1 57 x3.toNatClampNeg)) (x3 + (1 : Int32)) M else none else none
    else
      some (x2, M)
set_option maxRecDepth 20000 in
set_option maxHeartbeats 4000000 in
theorem lc_115_34 {Z : ak_Z} {d : Nat} : ∀ (n : Nat) (x1 : Int32) (x2 : Int32) (x3 : Int32) (M : mm_M) {y : ((Int32) × mm_M)} (Q : Option Value → ak_H → Prop), pl_takeHopes_l34 n x1 x2 x3 M = some y → (Ev Z (d + 1) 115 74 [some (.ref 55), some (.int x1), some (.int y.1), none] [] (mm_H y.2) Q) → Ev Z (d + 1) 115 34 [some (.ref 55), some (.int x1), some (.int x2), some (.int x3)] [] (mm_H M) Q := by
  intro n
  induction n with
  | zero => intro x1 x2 x3 M y Q hf; cases hf
  | succ n ih =>
    intro x1 x2 x3 M y Q hf hq
    rw [pl_takeHopes_l34] at hf
    refine e_iload_n hm_115 rfl rfl ?_
    refine e_iload_n hm_115 rfl rfl ?_
    refine e_iconst hm_115 rfl kc_iconst_1 ?_
    refine e_iadd hm_115 rfl ?_
    refine e_bipush hm_115 rfl kc_bipush_9 ?_
    refine e_imul hm_115 rfl ?_
    by_cases hc1 : x3 < ((x1 + (1 : Int32)) * (9 : Int32))
    · rw [if_pos hc1] at hf
      refine e_ic_f hm_115 rfl (cf_ge hc1) ?_
      refine e_aload_n hm_115 rfl rfl ?_
      refine e_getR hm_115 rfl rfl rfl rfl ?_
      refine e_iload_n hm_115 rfl rfl ?_
      obtain ⟨hi2, hf⟩ := mm_ite hf
      refine e_zald hm_115 rfl rfl hi2 ?_
      by_cases hc3 : (M.1 58 x3.toNatClampNeg) = (0 : Int32)
      · rw [if_pos hc3] at hf
        refine e_if_t (t := 66) hm_115 rfl (ct_eq hc3) rfl ?_
        refine e_iload_n hm_115 rfl rfl ?_
        refine e_istore_n (L2 := [some (.ref 55), some (.int x1), some (.int x2), some (.int x3)]) hm_115 rfl rfl ?_
        refine e_iinc (L2 := [some (.ref 55), some (.int x1), some (.int x2), some (.int (x3 + (1 : Int32)))]) hm_115 rfl kc_iinc_1 rfl rfl ?_
        refine e_goto (t := 34) hm_115 rfl rfl ?_
        exact e_forget (L' := [some (.ref 55), some (.int x1), some (.int x2), some (.int (x3 + (1 : Int32)))]) (lf_k (lf_k (lf_k (lf_k lf_0)))) (ih x1 x2 (x3 + (1 : Int32)) M Q hf hq)
      · rw [if_neg hc3] at hf
        refine e_if_f hm_115 rfl (cf_eq hc3) ?_
        refine e_iload_n hm_115 rfl rfl ?_
        refine e_aload_n hm_115 rfl rfl ?_
        refine e_getR hm_115 rfl rfl rfl rfl ?_
        refine e_iload_n hm_115 rfl rfl ?_
        obtain ⟨hi4, hf⟩ := mm_ite hf
        refine e_iald hm_115 rfl rfl hi4 ?_
        refine e_max hm_115 rfl (Nat.le_of_ble_eq_true rfl) ?_
        refine e_goto (t := 67) hm_115 rfl rfl ?_
        refine e_istore_n (L2 := [some (.ref 55), some (.int x1), some (.int (i_max x2 (M.1 57 x3.toNatClampNeg))), some (.int x3)]) hm_115 rfl rfl ?_
        refine e_iinc (L2 := [some (.ref 55), some (.int x1), some (.int (i_max x2 (M.1 57 x3.toNatClampNeg))), some (.int (x3 + (1 : Int32)))]) hm_115 rfl kc_iinc_1 rfl rfl ?_
        refine e_goto (t := 34) hm_115 rfl rfl ?_
        exact e_forget (L' := [some (.ref 55), some (.int x1), some (.int (i_max x2 (M.1 57 x3.toNatClampNeg))), some (.int (x3 + (1 : Int32)))]) (lf_k (lf_k (lf_k (lf_k lf_0)))) (ih x1 (i_max x2 (M.1 57 x3.toNatClampNeg)) (x3 + (1 : Int32)) M Q hf hq)
    · rw [if_neg hc1] at hf
      refine e_ic_t (t := 74) hm_115 rfl (ct_ge hc1) rfl ?_
      obtain rfl := Option.some.inj hf
      exact e_forget (L' := [some (.ref 55), some (.int x1), some (.int x2), none]) (lf_k (lf_k (lf_k (lf_d lf_0)))) hq
def pl_takeHopes_l23 : Nat → Int32 → mm_M → Option (((Unit) × mm_M))
  | 0, _, _ => none
  | n + 1, x1, M =>
    if x1 < (0 : Int32) then
      some ((), M)
    else
      (pl_takeHopes_l34 300 x1 (0 : Int32) (x1 * (9 : Int32)) M).bind fun y2 =>
      if ak_inb (x1 + (1 : Int32)) 5 = true then
      if ak_inb x1 5 = true then
      pl_takeHopes_l23 n (x1 + (-1 : Int32)) (ak_up y2.2.1 63 x1.toNatClampNeg ((y2.2.1 63 (x1 + (1 : Int32)).toNatClampNeg) + y2.1), y2.2.2) else none else none
set_option maxRecDepth 20000 in
set_option maxHeartbeats 4000000 in
theorem lc_115_23 {Z : ak_Z} {d : Nat} : ∀ (n : Nat) (x1 : Int32) (M : mm_M) {y : ((Unit) × mm_M)} (Q : Option Value → ak_H → Prop), pl_takeHopes_l23 n x1 M = some y → (Ev Z (d + 1) 115 96 [none, none, none, none] [] (mm_H y.2) Q) → Ev Z (d + 1) 115 23 [some (.ref 55), some (.int x1), none, none] [] (mm_H M) Q := by
  intro n
  induction n with
  | zero => intro x1 M y Q hf; cases hf
  | succ n ih =>
    intro x1 M y Q hf hq
    rw [pl_takeHopes_l23] at hf
    refine e_iload_n hm_115 rfl rfl ?_
    by_cases hc1 : x1 < (0 : Int32)
    · rw [if_pos hc1] at hf
      refine e_if_t (t := 96) hm_115 rfl (ct_lt hc1) rfl ?_
      obtain rfl := Option.some.inj hf
      exact e_forget (L' := [none, none, none, none]) (lf_d (lf_d (lf_k (lf_k lf_0)))) hq
    · rw [if_neg hc1] at hf
      refine e_if_f hm_115 rfl (cf_lt hc1) ?_
      refine e_iconst hm_115 rfl kc_iconst_0 ?_
      refine e_istore_n (L2 := [some (.ref 55), some (.int x1), some (.int (0 : Int32)), none]) hm_115 rfl rfl ?_
      refine e_iload_n hm_115 rfl rfl ?_
      refine e_bipush hm_115 rfl kc_bipush_9 ?_
      refine e_imul hm_115 rfl ?_
      refine e_istore_n (L2 := [some (.ref 55), some (.int x1), some (.int (0 : Int32)), some (.int (x1 * (9 : Int32)))]) hm_115 rfl rfl ?_
      obtain ⟨y2, hky2, hf⟩ := mm_bd hf
      refine e_forget (L' := [some (.ref 55), some (.int x1), some (.int (0 : Int32)), some (.int (x1 * (9 : Int32)))]) (lf_k (lf_k (lf_k (lf_k lf_0)))) (lc_115_34 (d := _) 300 x1 (0 : Int32) (x1 * (9 : Int32)) M Q hky2 ?_)
      show Ev Z _ 115 74 [some (.ref 55), some (.int x1), some (.int y2.1), none] [] (mm_H y2.2) Q
      refine e_aload_n hm_115 rfl rfl ?_
      refine e_getR hm_115 rfl rfl rfl rfl ?_
      refine e_iload_n hm_115 rfl rfl ?_
      refine e_aload_n hm_115 rfl rfl ?_
      refine e_getR hm_115 rfl rfl rfl rfl ?_
      refine e_iload_n hm_115 rfl rfl ?_
      refine e_iconst hm_115 rfl kc_iconst_1 ?_
      refine e_iadd hm_115 rfl ?_
      obtain ⟨hi3, hf⟩ := mm_ite hf
      refine e_iald hm_115 rfl rfl hi3 ?_
      refine e_iload_n hm_115 rfl rfl ?_
      refine e_iadd hm_115 rfl ?_
      obtain ⟨hi4, hf⟩ := mm_ite hf
      refine e_iast hm_115 rfl rfl hi4 ?_
      refine e_iinc (L2 := [some (.ref 55), some (.int (x1 + (-1 : Int32))), some (.int y2.1), none]) hm_115 rfl kc_iinc_m1 rfl rfl ?_
      refine e_goto (t := 23) hm_115 rfl rfl ?_
      exact e_forget (L' := [some (.ref 55), some (.int (x1 + (-1 : Int32))), none, none]) (lf_k (lf_k (lf_d (lf_k lf_0)))) (ih (x1 + (-1 : Int32)) (ak_up y2.2.1 63 x1.toNatClampNeg ((y2.2.1 63 (x1 + (1 : Int32)).toNatClampNeg) + y2.1), y2.2.2) Q hf hq)
def pl_takeHopes (M : mm_M) : Option (Unit × mm_M) :=
  if mm_is8 M.2.1 = true then
  if ak_inb (M.1 M.2.1 4) 5 = true then
  if mm_is8 M.2.1 = true then
  (pl_takeHopes_l23 300 (((ak_up M.1 63 ((M.1 M.2.1 4).toNatClampNeg) (0 : Int32)) M.2.1 4) - (1 : Int32)) (ak_up M.1 63 ((M.1 M.2.1 4).toNatClampNeg) (0 : Int32), M.2)).bind fun y4 =>
  some ((), y4.2) else none else none else none
set_option maxRecDepth 20000 in
set_option maxHeartbeats 4000000 in
theorem c_115 {Z : ak_Z} {d : Nat} (M : mm_M) {y : Unit × mm_M} (hf : pl_takeHopes M = some y) {Q : Option Value → ak_H → Prop} (hq : Q none (mm_H y.2)) : Ev Z (d + 1) 115 0 [some (.ref 55), none, none, none] [] (mm_H M) Q := by
  rw [pl_takeHopes] at hf
  refine e_aload_n hm_115 rfl rfl ?_
  refine e_getR hm_115 rfl rfl rfl rfl ?_
  refine e_aload_n hm_115 rfl rfl ?_
  obtain ⟨hp1, hf⟩ := mm_ite hf
  refine e_getR hm_115 rfl rfl rfl rfl ?_
  refine e_getI hm_115 rfl (mm_cl8 hp1) rfl ?_
  refine e_iconst hm_115 rfl kc_iconst_0 ?_
  obtain ⟨hi2, hf⟩ := mm_ite hf
  refine e_iast hm_115 rfl rfl hi2 ?_
  refine e_aload_n hm_115 rfl rfl ?_
  obtain ⟨hp3, hf⟩ := mm_ite hf
  refine e_getR hm_115 rfl rfl rfl rfl ?_
  refine e_getI hm_115 rfl (mm_cl8 hp3) rfl ?_
  refine e_iconst hm_115 rfl kc_iconst_1 ?_
  refine e_isub hm_115 rfl ?_
  refine e_istore_n (L2 := [some (.ref 55), some (.int (((ak_up M.1 63 ((M.1 M.2.1 4).toNatClampNeg) (0 : Int32)) M.2.1 4) - (1 : Int32))), none, none]) hm_115 rfl rfl ?_
  obtain ⟨y4, hky4, hf⟩ := mm_bd hf
  refine e_forget (L' := [some (.ref 55), some (.int (((ak_up M.1 63 ((M.1 M.2.1 4).toNatClampNeg) (0 : Int32)) M.2.1 4) - (1 : Int32))), none, none]) (lf_k (lf_k (lf_k (lf_k lf_0)))) (lc_115_23 (d := _) 300 (((ak_up M.1 63 ((M.1 M.2.1 4).toNatClampNeg) (0 : Int32)) M.2.1 4) - (1 : Int32)) (ak_up M.1 63 ((M.1 M.2.1 4).toNatClampNeg) (0 : Int32), M.2) Q hky4 ?_)
  show Ev Z _ 115 96 [none, none, none, none] [] (mm_H y4.2) Q
  obtain rfl := Option.some.inj hf
  exact e_vret hm_115 rfl rfl hq
def pl_keep_l7 : Nat → Int32 → mm_M → Option (((Unit) × mm_M))
  | 0, _, _ => none
  | n + 1, x2, M =>
    if x2 < (4 : Int32) then
      if ak_inb x2 4 = true then
      if ak_inb x2 4 = true then
      pl_keep_l7 n (x2 + (1 : Int32)) (ak_up M.1 62 x2.toNatClampNeg (M.1 61 x2.toNatClampNeg), M.2) else none else none
    else
      some ((), M)
set_option maxRecDepth 20000 in
set_option maxHeartbeats 4000000 in
theorem lc_117_7 {Z : ak_Z} {d : Nat} : ∀ (n : Nat) (x2 : Int32) (M : mm_M) {y : ((Unit) × mm_M)} (Q : Option Value → ak_H → Prop), pl_keep_l7 n x2 M = some y → (Ev Z (d + 0) 117 30 [none, none, none] [] (mm_H y.2) Q) → Ev Z (d + 0) 117 7 [some (.ref 55), none, some (.int x2)] [] (mm_H M) Q := by
  intro n
  induction n with
  | zero => intro x2 M y Q hf; cases hf
  | succ n ih =>
    intro x2 M y Q hf hq
    rw [pl_keep_l7] at hf
    refine e_iload_n hm_117 rfl rfl ?_
    refine e_iconst hm_117 rfl kc_iconst_4 ?_
    by_cases hc1 : x2 < (4 : Int32)
    · rw [if_pos hc1] at hf
      refine e_ic_f hm_117 rfl (cf_ge hc1) ?_
      refine e_aload_n hm_117 rfl rfl ?_
      refine e_getR hm_117 rfl rfl rfl rfl ?_
      refine e_iload_n hm_117 rfl rfl ?_
      refine e_aload_n hm_117 rfl rfl ?_
      refine e_getR hm_117 rfl rfl rfl rfl ?_
      refine e_iload_n hm_117 rfl rfl ?_
      obtain ⟨hi2, hf⟩ := mm_ite hf
      refine e_iald hm_117 rfl rfl hi2 ?_
      obtain ⟨hi3, hf⟩ := mm_ite hf
      refine e_iast hm_117 rfl rfl hi3 ?_
      refine e_iinc (L2 := [some (.ref 55), none, some (.int (x2 + (1 : Int32)))]) hm_117 rfl kc_iinc_1 rfl rfl ?_
      refine e_goto (t := 7) hm_117 rfl rfl ?_
      exact e_forget (L' := [some (.ref 55), none, some (.int (x2 + (1 : Int32)))]) (lf_k (lf_k (lf_k lf_0))) (ih (x2 + (1 : Int32)) (ak_up M.1 62 x2.toNatClampNeg (M.1 61 x2.toNatClampNeg), M.2) Q hf hq)
    · rw [if_neg hc1] at hf
      refine e_ic_t (t := 30) hm_117 rfl (ct_ge hc1) rfl ?_
      obtain rfl := Option.some.inj hf
      exact e_forget (L' := [none, none, none]) (lf_d (lf_k (lf_d lf_0))) hq
def pl_keep (a1 : Int32) (M : mm_M) : Option (Unit × mm_M) :=
  (pl_keep_l7 300 (0 : Int32) (ak_up M.1 55 11 a1, M.2)).bind fun y1 =>
  some ((), y1.2)
set_option maxRecDepth 20000 in
set_option maxHeartbeats 4000000 in
theorem c_117 {Z : ak_Z} {d : Nat} (a1 : Int32) (M : mm_M) {y : Unit × mm_M} (hf : pl_keep a1 M = some y) {Q : Option Value → ak_H → Prop} (hq : Q none (mm_H y.2)) : Ev Z (d + 0) 117 0 [some (.ref 55), some (.int a1), none] [] (mm_H M) Q := by
  rw [pl_keep] at hf
  refine e_aload_n hm_117 rfl rfl ?_
  refine e_iload_n hm_117 rfl rfl ?_
  refine e_putI hm_117 rfl rfl rfl ?_
  refine e_iconst hm_117 rfl kc_iconst_0 ?_
  refine e_istore_n (L2 := [some (.ref 55), some (.int a1), some (.int (0 : Int32))]) hm_117 rfl rfl ?_
  obtain ⟨y1, hky1, hf⟩ := mm_bd hf
  refine e_forget (L' := [some (.ref 55), none, some (.int (0 : Int32))]) (lf_k (lf_d (lf_k lf_0))) (lc_117_7 (d := _) 300 (0 : Int32) (ak_up M.1 55 11 a1, M.2) Q hky1 ?_)
  show Ev Z _ 117 30 [none, none, none] [] (mm_H y1.2) Q
  obtain rfl := Option.some.inj hf
  exact e_vret hm_117 rfl rfl hq
def pl_weeksClosedTo_l4 : Nat → Int32 → Int32 → Int32 → mm_M → Option (((Int32) × mm_M))
  | 0, _, _, _, _ => none
  | n + 1, x1, x2, x3, M =>
    if x3 < (8 : Int32) then
      (pl_awayIn x3 M).bind fun y2 =>
      if ak_inb (y2.1 ||| ((1 : Int32) <<< (x1 &&& 31))) 16 = true then
      if (y2.2.1 59 (y2.1 ||| ((1 : Int32) <<< (x1 &&& 31))).toNatClampNeg) = (0 : Int32) then
        pl_weeksClosedTo_l4 n x1 (x2 ||| ((1 : Int32) <<< (x3 &&& 31))) (x3 + (1 : Int32)) y2.2
      else
        pl_weeksClosedTo_l4 n x1 x2 (x3 + (1 : Int32)) y2.2 else none
    else
      some (x2, M)
set_option maxRecDepth 20000 in
set_option maxHeartbeats 4000000 in
theorem lc_118_4 {Z : ak_Z} {d : Nat} : ∀ (n : Nat) (x1 : Int32) (x2 : Int32) (x3 : Int32) (M : mm_M) {y : ((Int32) × mm_M)} (Q : Option Value → ak_H → Prop), pl_weeksClosedTo_l4 n x1 x2 x3 M = some y → (Ev Z (d + 2) 118 39 [none, none, some (.int y.1), none] [] (mm_H y.2) Q) → Ev Z (d + 2) 118 4 [some (.ref 55), some (.int x1), some (.int x2), some (.int x3)] [] (mm_H M) Q := by
  intro n
  induction n with
  | zero => intro x1 x2 x3 M y Q hf; cases hf
  | succ n ih =>
    intro x1 x2 x3 M y Q hf hq
    rw [pl_weeksClosedTo_l4] at hf
    refine e_iload_n hm_118 rfl rfl ?_
    refine e_bipush hm_118 rfl kc_bipush_8 ?_
    by_cases hc1 : x3 < (8 : Int32)
    · rw [if_pos hc1] at hf
      refine e_ic_f hm_118 rfl (cf_ge hc1) ?_
      refine e_aload_n hm_118 rfl rfl ?_
      refine e_getR hm_118 rfl rfl rfl rfl ?_
      refine e_aload_n hm_118 rfl rfl ?_
      refine e_iload_n hm_118 rfl rfl ?_
      obtain ⟨y2, hky2, hf⟩ := mm_bd hf
      refine e_virt hm_118 rfl rfl rfl rfl (Nat.le_of_ble_eq_true rfl) hm_105 rfl rfl (c_105 x3 M hky2 ?_)
      show Ev Z _ 118 19 [some (.ref 55), some (.int x1), some (.int x2), some (.int x3)] [.int y2.1, .ref 59] (mm_H y2.2) Q
      refine e_iconst hm_118 rfl kc_iconst_1 ?_
      refine e_iload_n hm_118 rfl rfl ?_
      refine e_ishl hm_118 rfl ?_
      refine e_ior hm_118 rfl ?_
      obtain ⟨hi3, hf⟩ := mm_ite hf
      refine e_zald hm_118 rfl rfl hi3 ?_
      by_cases hc4 : (y2.2.1 59 (y2.1 ||| ((1 : Int32) <<< (x1 &&& 31))).toNatClampNeg) = (0 : Int32)
      · rw [if_pos hc4] at hf
        refine e_if_f hm_118 rfl (cf_ne hc4) ?_
        refine e_iload_n hm_118 rfl rfl ?_
        refine e_iconst hm_118 rfl kc_iconst_1 ?_
        refine e_iload_n hm_118 rfl rfl ?_
        refine e_ishl hm_118 rfl ?_
        refine e_ior hm_118 rfl ?_
        refine e_istore_n (L2 := [some (.ref 55), some (.int x1), some (.int (x2 ||| ((1 : Int32) <<< (x3 &&& 31)))), some (.int x3)]) hm_118 rfl rfl ?_
        refine e_iinc (L2 := [some (.ref 55), some (.int x1), some (.int (x2 ||| ((1 : Int32) <<< (x3 &&& 31)))), some (.int (x3 + (1 : Int32)))]) hm_118 rfl kc_iinc_1 rfl rfl ?_
        refine e_goto (t := 4) hm_118 rfl rfl ?_
        exact e_forget (L' := [some (.ref 55), some (.int x1), some (.int (x2 ||| ((1 : Int32) <<< (x3 &&& 31)))), some (.int (x3 + (1 : Int32)))]) (lf_k (lf_k (lf_k (lf_k lf_0)))) (ih x1 (x2 ||| ((1 : Int32) <<< (x3 &&& 31))) (x3 + (1 : Int32)) y2.2 Q hf hq)
      · rw [if_neg hc4] at hf
        refine e_if_t (t := 33) hm_118 rfl (ct_ne hc4) rfl ?_
        refine e_iinc (L2 := [some (.ref 55), some (.int x1), some (.int x2), some (.int (x3 + (1 : Int32)))]) hm_118 rfl kc_iinc_1 rfl rfl ?_
        refine e_goto (t := 4) hm_118 rfl rfl ?_
        exact e_forget (L' := [some (.ref 55), some (.int x1), some (.int x2), some (.int (x3 + (1 : Int32)))]) (lf_k (lf_k (lf_k (lf_k lf_0)))) (ih x1 x2 (x3 + (1 : Int32)) y2.2 Q hf hq)
    · rw [if_neg hc1] at hf
      refine e_ic_t (t := 39) hm_118 rfl (ct_ge hc1) rfl ?_
      obtain rfl := Option.some.inj hf
      exact e_forget (L' := [none, none, some (.int x2), none]) (lf_d (lf_d (lf_k (lf_d lf_0)))) hq
def pl_weeksClosedTo (a1 : Int32) (M : mm_M) : Option (Int32 × mm_M) :=
  (pl_weeksClosedTo_l4 300 a1 (0 : Int32) (0 : Int32) M).bind fun y1 =>
  some (y1.1, y1.2)
set_option maxRecDepth 20000 in
set_option maxHeartbeats 4000000 in
theorem c_118 {Z : ak_Z} {d : Nat} (a1 : Int32) (M : mm_M) {y : Int32 × mm_M} (hf : pl_weeksClosedTo a1 M = some y) {Q : Option Value → ak_H → Prop} (hq : Q (some (.int y.1)) (mm_H y.2)) : Ev Z (d + 2) 118 0 [some (.ref 55), some (.int a1), none, none] [] (mm_H M) Q := by
  rw [pl_weeksClosedTo] at hf
  refine e_iconst hm_118 rfl kc_iconst_0 ?_
  refine e_istore_n (L2 := [some (.ref 55), some (.int a1), some (.int (0 : Int32)), none]) hm_118 rfl rfl ?_
  refine e_iconst hm_118 rfl kc_iconst_0 ?_
  refine e_istore_n (L2 := [some (.ref 55), some (.int a1), some (.int (0 : Int32)), some (.int (0 : Int32))]) hm_118 rfl rfl ?_
  obtain ⟨y1, hky1, hf⟩ := mm_bd hf
  refine e_forget (L' := [some (.ref 55), some (.int a1), some (.int (0 : Int32)), some (.int (0 : Int32))]) (lf_k (lf_k (lf_k (lf_k lf_0)))) (lc_118_4 (d := _) 300 a1 (0 : Int32) (0 : Int32) M Q hky1 ?_)
  show Ev Z _ 118 39 [none, none, some (.int y1.1), none] [] (mm_H y1.2) Q
  refine e_iload_n hm_118 rfl rfl ?_
  obtain rfl := Option.some.inj hf
  exact e_iret hm_118 rfl rfl hq
def pl_canAdd (a1 : Int32) (a2 : Int32) (M : mm_M) : Option (Int32 × mm_M) :=
  if ak_inb a1 36 = true then
  if (M.1 58 a1.toNatClampNeg) = (0 : Int32) then
    some ((0 : Int32), M)
  else
    if ak_inb a1 36 = true then
    if ((M.1 56 a1.toNatClampNeg) &&& a2) = (0 : Int32) then
      some ((1 : Int32), M)
    else
      some ((0 : Int32), M) else none else none
set_option maxRecDepth 20000 in
set_option maxHeartbeats 4000000 in
theorem c_119 {Z : ak_Z} {d : Nat} (a1 : Int32) (a2 : Int32) (M : mm_M) {y : Int32 × mm_M} (hf : pl_canAdd a1 a2 M = some y) {Q : Option Value → ak_H → Prop} (hq : Q (some (.int y.1)) (mm_H y.2)) : Ev Z (d + 0) 119 0 [some (.ref 55), some (.int a1), some (.int a2)] [] (mm_H M) Q := by
  rw [pl_canAdd] at hf
  refine e_aload_n hm_119 rfl rfl ?_
  refine e_getR hm_119 rfl rfl rfl rfl ?_
  refine e_iload_n hm_119 rfl rfl ?_
  obtain ⟨hi1, hf⟩ := mm_ite hf
  refine e_zald hm_119 rfl rfl hi1 ?_
  by_cases hc2 : (M.1 58 a1.toNatClampNeg) = (0 : Int32)
  · rw [if_pos hc2] at hf
    refine e_if_t (t := 24) hm_119 rfl (ct_eq hc2) rfl ?_
    refine e_iconst hm_119 rfl kc_iconst_0 ?_
    obtain rfl := Option.some.inj hf
    exact e_zret hm_119 rfl rfl (by decide) hq
  · rw [if_neg hc2] at hf
    refine e_if_f hm_119 rfl (cf_eq hc2) ?_
    refine e_aload_n hm_119 rfl rfl ?_
    refine e_getR hm_119 rfl rfl rfl rfl ?_
    refine e_iload_n hm_119 rfl rfl ?_
    obtain ⟨hi3, hf⟩ := mm_ite hf
    refine e_iald hm_119 rfl rfl hi3 ?_
    refine e_iload_n hm_119 rfl rfl ?_
    refine e_iand hm_119 rfl ?_
    by_cases hc4 : ((M.1 56 a1.toNatClampNeg) &&& a2) = (0 : Int32)
    · rw [if_pos hc4] at hf
      refine e_if_f hm_119 rfl (cf_ne hc4) ?_
      refine e_iconst hm_119 rfl kc_iconst_1 ?_
      refine e_goto (t := 25) hm_119 rfl rfl ?_
      obtain rfl := Option.some.inj hf
      exact e_zret hm_119 rfl rfl (by decide) hq
    · rw [if_neg hc4] at hf
      refine e_if_t (t := 24) hm_119 rfl (ct_ne hc4) rfl ?_
      refine e_iconst hm_119 rfl kc_iconst_0 ?_
      obtain rfl := Option.some.inj hf
      exact e_zret hm_119 rfl rfl (by decide) hq
def pl_extend_l70 (rc : Int32 → Int32 → Int32 → mm_M → Option (Unit × mm_M)) : Nat → Int32 → Int32 → Int32 → Int32 → Int32 → mm_M → Option (((Unit) × mm_M))
  | 0, _, _, _, _, _, _ => none
  | n + 1, x1, x2, x3, x5, x6, M =>
    if x6 < (9 : Int32) then
      (pl_canAdd ((x1 * (9 : Int32)) + x6) x5 M).bind fun y2 =>
      if y2.1 = (0 : Int32) then
        pl_extend_l70 rc n x1 x2 x3 x5 (x6 + (1 : Int32)) y2.2
      else
        if ak_inb x1 4 = true then
        if ak_inb ((x1 * (9 : Int32)) + x6) 36 = true then
        if ak_inb ((x1 * (9 : Int32)) + x6) 36 = true then
        (rc (x1 + (1 : Int32)) (x2 + ((ak_up y2.2.1 61 x1.toNatClampNeg x6) 57 ((x1 * (9 : Int32)) + x6).toNatClampNeg)) (i_min x3 ((ak_up y2.2.1 61 x1.toNatClampNeg x6) 57 ((x1 * (9 : Int32)) + x6).toNatClampNeg)) (ak_up y2.2.1 61 x1.toNatClampNeg x6, y2.2.2)).bind fun y7 =>
        pl_extend_l70 rc n x1 x2 x3 x5 (x6 + (1 : Int32)) y7.2 else none else none else none
    else
      some ((), M)
set_option maxRecDepth 20000 in
set_option maxHeartbeats 4000000 in
theorem lc_116_70 {Z : ak_Z} {d : Nat} (rc : Int32 → Int32 → Int32 → mm_M → Option (Unit × mm_M)) (hrc0 : ∀ (a1 : Int32) (a2 : Int32) (a3 : Int32) (M : mm_M) (y : Unit × mm_M), rc a1 a2 a3 M = some y → ∀ (Q : Option Value → ak_H → Prop), Q none (mm_H y.2) → Ev Z (d + 2) 116 0 [some (.ref 55), some (.int a1), some (.int a2), some (.int a3), none, none, none, none] [] (mm_H M) Q) : ∀ (n : Nat) (x1 : Int32) (x2 : Int32) (x3 : Int32) (x5 : Int32) (x6 : Int32) (M : mm_M) {y : ((Unit) × mm_M)} (Q : Option Value → ak_H → Prop), pl_extend_l70 rc n x1 x2 x3 x5 x6 M = some y → (Ev Z (d + 3) 116 138 [some (.ref 55), some (.int x1), none, none, none, none, none, none] [] (mm_H y.2) Q) → Ev Z (d + 3) 116 70 [some (.ref 55), some (.int x1), some (.int x2), some (.int x3), none, some (.int x5), some (.int x6), none] [] (mm_H M) Q := by
  intro n
  induction n with
  | zero => intro x1 x2 x3 x5 x6 M y Q hf; cases hf
  | succ n ih =>
    intro x1 x2 x3 x5 x6 M y Q hf hq
    rw [pl_extend_l70] at hf
    refine e_iload hm_116 rfl rfl ?_
    refine e_bipush hm_116 rfl kc_bipush_9 ?_
    by_cases hc1 : x6 < (9 : Int32)
    · rw [if_pos hc1] at hf
      refine e_ic_f hm_116 rfl (cf_ge hc1) ?_
      refine e_iload_n hm_116 rfl rfl ?_
      refine e_bipush hm_116 rfl kc_bipush_9 ?_
      refine e_imul hm_116 rfl ?_
      refine e_iload hm_116 rfl rfl ?_
      refine e_iadd hm_116 rfl ?_
      refine e_istore (L2 := [some (.ref 55), some (.int x1), some (.int x2), some (.int x3), none, some (.int x5), some (.int x6), some (.int ((x1 * (9 : Int32)) + x6))]) hm_116 rfl rfl ?_
      refine e_aload_n hm_116 rfl rfl ?_
      refine e_iload hm_116 rfl rfl ?_
      refine e_iload hm_116 rfl rfl ?_
      obtain ⟨y2, hky2, hf⟩ := mm_bd hf
      refine e_virt hm_116 rfl rfl rfl rfl (Nat.le_of_ble_eq_true rfl) hm_119 rfl rfl (c_119 ((x1 * (9 : Int32)) + x6) x5 M hky2 ?_)
      show Ev Z _ 116 94 [some (.ref 55), some (.int x1), some (.int x2), some (.int x3), none, some (.int x5), some (.int x6), some (.int ((x1 * (9 : Int32)) + x6))] [.int y2.1] (mm_H y2.2) Q
      by_cases hc3 : y2.1 = (0 : Int32)
      · rw [if_pos hc3] at hf
        refine e_if_t (t := 132) hm_116 rfl (ct_eq hc3) rfl ?_
        refine e_iinc (L2 := [some (.ref 55), some (.int x1), some (.int x2), some (.int x3), none, some (.int x5), some (.int (x6 + (1 : Int32))), some (.int ((x1 * (9 : Int32)) + x6))]) hm_116 rfl kc_iinc_1 rfl rfl ?_
        refine e_goto (t := 70) hm_116 rfl rfl ?_
        exact e_forget (L' := [some (.ref 55), some (.int x1), some (.int x2), some (.int x3), none, some (.int x5), some (.int (x6 + (1 : Int32))), none]) (lf_k (lf_k (lf_k (lf_k (lf_k (lf_k (lf_k (lf_d lf_0)))))))) (ih x1 x2 x3 x5 (x6 + (1 : Int32)) y2.2 Q hf hq)
      · rw [if_neg hc3] at hf
        refine e_if_f hm_116 rfl (cf_eq hc3) ?_
        refine e_aload_n hm_116 rfl rfl ?_
        refine e_getR hm_116 rfl rfl rfl rfl ?_
        refine e_iload_n hm_116 rfl rfl ?_
        refine e_iload hm_116 rfl rfl ?_
        obtain ⟨hi4, hf⟩ := mm_ite hf
        refine e_iast hm_116 rfl rfl hi4 ?_
        refine e_aload_n hm_116 rfl rfl ?_
        refine e_iload_n hm_116 rfl rfl ?_
        refine e_iconst hm_116 rfl kc_iconst_1 ?_
        refine e_iadd hm_116 rfl ?_
        refine e_iload_n hm_116 rfl rfl ?_
        refine e_aload_n hm_116 rfl rfl ?_
        refine e_getR hm_116 rfl rfl rfl rfl ?_
        refine e_iload hm_116 rfl rfl ?_
        obtain ⟨hi5, hf⟩ := mm_ite hf
        refine e_iald hm_116 rfl rfl hi5 ?_
        refine e_iadd hm_116 rfl ?_
        refine e_iload_n hm_116 rfl rfl ?_
        refine e_aload_n hm_116 rfl rfl ?_
        refine e_getR hm_116 rfl rfl rfl rfl ?_
        refine e_iload hm_116 rfl rfl ?_
        obtain ⟨hi6, hf⟩ := mm_ite hf
        refine e_iald hm_116 rfl rfl hi6 ?_
        refine e_min hm_116 rfl (Nat.le_of_ble_eq_true rfl) ?_
        obtain ⟨y7, hky7, hf⟩ := mm_bd hf
        refine e_virt hm_116 rfl rfl rfl rfl (Nat.le_of_ble_eq_true rfl) hm_116 rfl rfl (hrc0 _ _ _ _ _ hky7 _ ?_)
        show Ev Z _ 116 132 [some (.ref 55), some (.int x1), some (.int x2), some (.int x3), none, some (.int x5), some (.int x6), some (.int ((x1 * (9 : Int32)) + x6))] [] (mm_H y7.2) Q
        refine e_iinc (L2 := [some (.ref 55), some (.int x1), some (.int x2), some (.int x3), none, some (.int x5), some (.int (x6 + (1 : Int32))), some (.int ((x1 * (9 : Int32)) + x6))]) hm_116 rfl kc_iinc_1 rfl rfl ?_
        refine e_goto (t := 70) hm_116 rfl rfl ?_
        exact e_forget (L' := [some (.ref 55), some (.int x1), some (.int x2), some (.int x3), none, some (.int x5), some (.int (x6 + (1 : Int32))), none]) (lf_k (lf_k (lf_k (lf_k (lf_k (lf_k (lf_k (lf_d lf_0)))))))) (ih x1 x2 x3 x5 (x6 + (1 : Int32)) y7.2 Q hf hq)
    · rw [if_neg hc1] at hf
      refine e_ic_t (t := 138) hm_116 rfl (ct_ge hc1) rfl ?_
      obtain rfl := Option.some.inj hf
      exact e_forget (L' := [some (.ref 55), some (.int x1), none, none, none, none, none, none]) (lf_k (lf_k (lf_d (lf_d (lf_k (lf_d (lf_d (lf_k lf_0)))))))) hq
def pl_extend_b (rc : Int32 → Int32 → Int32 → mm_M → Option (Unit × mm_M)) (a1 : Int32) (a2 : Int32) (a3 : Int32) (M : mm_M) : Option (Unit × mm_M) :=
  if (4 : Int32) < a1 then
    some ((), M)
  else
    if (M.1 55 10) = (0 : Int32) then
      if ak_inb a1 5 = true then
      if (M.1 55 11) < (a2 + (M.1 63 a1.toNatClampNeg)) then
        if mm_is8 M.2.1 = true then
        if a1 < (M.1 M.2.1 4) then
          if a1 < (4 : Int32) then
            (pl_weeksClosedTo a1 M).bind fun y8 =>
            (pl_extend_l70 rc 300 a1 a2 a3 y8.1 (0 : Int32) y8.2).bind fun y9 =>
            if ak_inb a1 4 = true then
            some ((), (ak_up y9.2.1 61 a1.toNatClampNeg (0 : Int32), y9.2.2)) else none
          else
            (pl_keep (a2 + (M.1 63 a1.toNatClampNeg)) M).bind fun y11 =>
            some ((), y11.2)
        else
          (pl_keep (a2 + (M.1 63 a1.toNatClampNeg)) M).bind fun y12 =>
          some ((), y12.2) else none
      else
        some ((), M) else none
    else
      if (M.1 55 11) < a3 then
        if mm_is8 M.2.1 = true then
        if a1 < (M.1 M.2.1 4) then
          if a1 < (4 : Int32) then
            (pl_weeksClosedTo a1 M).bind fun y17 =>
            (pl_extend_l70 rc 300 a1 a2 a3 y17.1 (0 : Int32) y17.2).bind fun y18 =>
            if ak_inb a1 4 = true then
            some ((), (ak_up y18.2.1 61 a1.toNatClampNeg (0 : Int32), y18.2.2)) else none
          else
            (pl_keep a3 M).bind fun y20 =>
            some ((), y20.2)
        else
          (pl_keep a3 M).bind fun y21 =>
          some ((), y21.2) else none
      else
        some ((), M)
set_option maxRecDepth 20000 in
set_option maxHeartbeats 4000000 in
theorem cb_116 {Z : ak_Z} {d : Nat} (rc : Int32 → Int32 → Int32 → mm_M → Option (Unit × mm_M)) (hrc0 : ∀ (a1 : Int32) (a2 : Int32) (a3 : Int32) (M : mm_M) (y : Unit × mm_M), rc a1 a2 a3 M = some y → ∀ (Q : Option Value → ak_H → Prop), Q none (mm_H y.2) → Ev Z (d + 2) 116 0 [some (.ref 55), some (.int a1), some (.int a2), some (.int a3), none, none, none, none] [] (mm_H M) Q) (a1 : Int32) (a2 : Int32) (a3 : Int32) (M : mm_M) {y : Unit × mm_M} (hf : pl_extend_b rc a1 a2 a3 M = some y) {Q : Option Value → ak_H → Prop} (hq : Q none (mm_H y.2)) : Ev Z (d + 3) 116 0 [some (.ref 55), some (.int a1), some (.int a2), some (.int a3), none, none, none, none] [] (mm_H M) Q := by
  rw [pl_extend_b] at hf
  refine e_iload_n hm_116 rfl rfl ?_
  refine e_iconst hm_116 rfl kc_iconst_4 ?_
  by_cases hc1 : (4 : Int32) < a1
  · rw [if_pos hc1] at hf
    refine e_ic_f hm_116 rfl (cf_le hc1) ?_
    obtain rfl := Option.some.inj hf
    exact e_vret hm_116 rfl rfl hq
  · rw [if_neg hc1] at hf
    refine e_ic_t (t := 6) hm_116 rfl (ct_le hc1) rfl ?_
    refine e_aload_n hm_116 rfl rfl ?_
    refine e_getZ hm_116 rfl rfl rfl ?_
    by_cases hc2 : (M.1 55 10) = (0 : Int32)
    · rw [if_pos hc2] at hf
      refine e_if_t (t := 17) hm_116 rfl (ct_eq hc2) rfl ?_
      refine e_iload_n hm_116 rfl rfl ?_
      refine e_aload_n hm_116 rfl rfl ?_
      refine e_getR hm_116 rfl rfl rfl rfl ?_
      refine e_iload_n hm_116 rfl rfl ?_
      obtain ⟨hi3, hf⟩ := mm_ite hf
      refine e_iald hm_116 rfl rfl hi3 ?_
      refine e_iadd hm_116 rfl ?_
      refine e_istore (L2 := [some (.ref 55), some (.int a1), some (.int a2), some (.int a3), some (.int (a2 + (M.1 63 a1.toNatClampNeg))), none, none, none]) hm_116 rfl rfl ?_
      refine e_iload hm_116 rfl rfl ?_
      refine e_aload_n hm_116 rfl rfl ?_
      refine e_getI hm_116 rfl rfl rfl ?_
      by_cases hc4 : (M.1 55 11) < (a2 + (M.1 63 a1.toNatClampNeg))
      · rw [if_pos hc4] at hf
        refine e_ic_t (t := 37) hm_116 rfl (ct_gt hc4) rfl ?_
        refine e_iload_n hm_116 rfl rfl ?_
        refine e_aload_n hm_116 rfl rfl ?_
        obtain ⟨hp5, hf⟩ := mm_ite hf
        refine e_getR hm_116 rfl rfl rfl rfl ?_
        refine e_getI hm_116 rfl (mm_cl8 hp5) rfl ?_
        by_cases hc6 : a1 < (M.1 M.2.1 4)
        · rw [if_pos hc6] at hf
          refine e_ic_f hm_116 rfl (cf_ge hc6) ?_
          refine e_iload_n hm_116 rfl rfl ?_
          refine e_iconst hm_116 rfl kc_iconst_4 ?_
          by_cases hc7 : a1 < (4 : Int32)
          · rw [if_pos hc7] at hf
            refine e_ic_t (t := 60) hm_116 rfl (ct_lt hc7) rfl ?_
            refine e_aload_n hm_116 rfl rfl ?_
            refine e_iload_n hm_116 rfl rfl ?_
            obtain ⟨y8, hky8, hf⟩ := mm_bd hf
            refine e_virt hm_116 rfl rfl rfl rfl (Nat.le_of_ble_eq_true rfl) hm_118 rfl rfl (c_118 a1 M hky8 ?_)
            show Ev Z _ 116 65 [some (.ref 55), some (.int a1), some (.int a2), some (.int a3), some (.int (a2 + (M.1 63 a1.toNatClampNeg))), none, none, none] [.int y8.1] (mm_H y8.2) Q
            refine e_istore (L2 := [some (.ref 55), some (.int a1), some (.int a2), some (.int a3), some (.int (a2 + (M.1 63 a1.toNatClampNeg))), some (.int y8.1), none, none]) hm_116 rfl rfl ?_
            refine e_iconst hm_116 rfl kc_iconst_0 ?_
            refine e_istore (L2 := [some (.ref 55), some (.int a1), some (.int a2), some (.int a3), some (.int (a2 + (M.1 63 a1.toNatClampNeg))), some (.int y8.1), some (.int (0 : Int32)), none]) hm_116 rfl rfl ?_
            obtain ⟨y9, hky9, hf⟩ := mm_bd hf
            refine e_forget (L' := [some (.ref 55), some (.int a1), some (.int a2), some (.int a3), none, some (.int y8.1), some (.int (0 : Int32)), none]) (lf_k (lf_k (lf_k (lf_k (lf_d (lf_k (lf_k (lf_k lf_0)))))))) (lc_116_70 rc hrc0 (d := _) 300 a1 a2 a3 y8.1 (0 : Int32) y8.2 Q hky9 ?_)
            show Ev Z _ 116 138 [some (.ref 55), some (.int a1), none, none, none, none, none, none] [] (mm_H y9.2) Q
            refine e_aload_n hm_116 rfl rfl ?_
            refine e_getR hm_116 rfl rfl rfl rfl ?_
            refine e_iload_n hm_116 rfl rfl ?_
            refine e_iconst hm_116 rfl kc_iconst_0 ?_
            obtain ⟨hi10, hf⟩ := mm_ite hf
            refine e_iast hm_116 rfl rfl hi10 ?_
            obtain rfl := Option.some.inj hf
            exact e_vret hm_116 rfl rfl hq
          · rw [if_neg hc7] at hf
            refine e_ic_f hm_116 rfl (cf_lt hc7) ?_
            refine e_aload_n hm_116 rfl rfl ?_
            refine e_iload hm_116 rfl rfl ?_
            obtain ⟨y11, hky11, hf⟩ := mm_bd hf
            refine e_virt hm_116 rfl rfl rfl rfl (Nat.le_of_ble_eq_true rfl) hm_117 rfl rfl (c_117 (a2 + (M.1 63 a1.toNatClampNeg)) M hky11 ?_)
            show Ev Z _ 116 59 [some (.ref 55), some (.int a1), some (.int a2), some (.int a3), some (.int (a2 + (M.1 63 a1.toNatClampNeg))), none, none, none] [] (mm_H y11.2) Q
            obtain rfl := Option.some.inj hf
            exact e_vret hm_116 rfl rfl hq
        · rw [if_neg hc6] at hf
          refine e_ic_t (t := 53) hm_116 rfl (ct_ge hc6) rfl ?_
          refine e_aload_n hm_116 rfl rfl ?_
          refine e_iload hm_116 rfl rfl ?_
          obtain ⟨y12, hky12, hf⟩ := mm_bd hf
          refine e_virt hm_116 rfl rfl rfl rfl (Nat.le_of_ble_eq_true rfl) hm_117 rfl rfl (c_117 (a2 + (M.1 63 a1.toNatClampNeg)) M hky12 ?_)
          show Ev Z _ 116 59 [some (.ref 55), some (.int a1), some (.int a2), some (.int a3), some (.int (a2 + (M.1 63 a1.toNatClampNeg))), none, none, none] [] (mm_H y12.2) Q
          obtain rfl := Option.some.inj hf
          exact e_vret hm_116 rfl rfl hq
      · rw [if_neg hc4] at hf
        refine e_ic_f hm_116 rfl (cf_gt hc4) ?_
        obtain rfl := Option.some.inj hf
        exact e_vret hm_116 rfl rfl hq
    · rw [if_neg hc2] at hf
      refine e_if_f hm_116 rfl (cf_eq hc2) ?_
      refine e_iload_n hm_116 rfl rfl ?_
      refine e_goto (t := 25) hm_116 rfl rfl ?_
      refine e_istore (L2 := [some (.ref 55), some (.int a1), some (.int a2), some (.int a3), some (.int a3), none, none, none]) hm_116 rfl rfl ?_
      refine e_iload hm_116 rfl rfl ?_
      refine e_aload_n hm_116 rfl rfl ?_
      refine e_getI hm_116 rfl rfl rfl ?_
      by_cases hc13 : (M.1 55 11) < a3
      · rw [if_pos hc13] at hf
        refine e_ic_t (t := 37) hm_116 rfl (ct_gt hc13) rfl ?_
        refine e_iload_n hm_116 rfl rfl ?_
        refine e_aload_n hm_116 rfl rfl ?_
        obtain ⟨hp14, hf⟩ := mm_ite hf
        refine e_getR hm_116 rfl rfl rfl rfl ?_
        refine e_getI hm_116 rfl (mm_cl8 hp14) rfl ?_
        by_cases hc15 : a1 < (M.1 M.2.1 4)
        · rw [if_pos hc15] at hf
          refine e_ic_f hm_116 rfl (cf_ge hc15) ?_
          refine e_iload_n hm_116 rfl rfl ?_
          refine e_iconst hm_116 rfl kc_iconst_4 ?_
          by_cases hc16 : a1 < (4 : Int32)
          · rw [if_pos hc16] at hf
            refine e_ic_t (t := 60) hm_116 rfl (ct_lt hc16) rfl ?_
            refine e_aload_n hm_116 rfl rfl ?_
            refine e_iload_n hm_116 rfl rfl ?_
            obtain ⟨y17, hky17, hf⟩ := mm_bd hf
            refine e_virt hm_116 rfl rfl rfl rfl (Nat.le_of_ble_eq_true rfl) hm_118 rfl rfl (c_118 a1 M hky17 ?_)
            show Ev Z _ 116 65 [some (.ref 55), some (.int a1), some (.int a2), some (.int a3), some (.int a3), none, none, none] [.int y17.1] (mm_H y17.2) Q
            refine e_istore (L2 := [some (.ref 55), some (.int a1), some (.int a2), some (.int a3), some (.int a3), some (.int y17.1), none, none]) hm_116 rfl rfl ?_
            refine e_iconst hm_116 rfl kc_iconst_0 ?_
            refine e_istore (L2 := [some (.ref 55), some (.int a1), some (.int a2), some (.int a3), some (.int a3), some (.int y17.1), some (.int (0 : Int32)), none]) hm_116 rfl rfl ?_
            obtain ⟨y18, hky18, hf⟩ := mm_bd hf
            refine e_forget (L' := [some (.ref 55), some (.int a1), some (.int a2), some (.int a3), none, some (.int y17.1), some (.int (0 : Int32)), none]) (lf_k (lf_k (lf_k (lf_k (lf_d (lf_k (lf_k (lf_k lf_0)))))))) (lc_116_70 rc hrc0 (d := _) 300 a1 a2 a3 y17.1 (0 : Int32) y17.2 Q hky18 ?_)
            show Ev Z _ 116 138 [some (.ref 55), some (.int a1), none, none, none, none, none, none] [] (mm_H y18.2) Q
            refine e_aload_n hm_116 rfl rfl ?_
            refine e_getR hm_116 rfl rfl rfl rfl ?_
            refine e_iload_n hm_116 rfl rfl ?_
            refine e_iconst hm_116 rfl kc_iconst_0 ?_
            obtain ⟨hi19, hf⟩ := mm_ite hf
            refine e_iast hm_116 rfl rfl hi19 ?_
            obtain rfl := Option.some.inj hf
            exact e_vret hm_116 rfl rfl hq
          · rw [if_neg hc16] at hf
            refine e_ic_f hm_116 rfl (cf_lt hc16) ?_
            refine e_aload_n hm_116 rfl rfl ?_
            refine e_iload hm_116 rfl rfl ?_
            obtain ⟨y20, hky20, hf⟩ := mm_bd hf
            refine e_virt hm_116 rfl rfl rfl rfl (Nat.le_of_ble_eq_true rfl) hm_117 rfl rfl (c_117 a3 M hky20 ?_)
            show Ev Z _ 116 59 [some (.ref 55), some (.int a1), some (.int a2), some (.int a3), some (.int a3), none, none, none] [] (mm_H y20.2) Q
            obtain rfl := Option.some.inj hf
            exact e_vret hm_116 rfl rfl hq
        · rw [if_neg hc15] at hf
          refine e_ic_t (t := 53) hm_116 rfl (ct_ge hc15) rfl ?_
          refine e_aload_n hm_116 rfl rfl ?_
          refine e_iload hm_116 rfl rfl ?_
          obtain ⟨y21, hky21, hf⟩ := mm_bd hf
          refine e_virt hm_116 rfl rfl rfl rfl (Nat.le_of_ble_eq_true rfl) hm_117 rfl rfl (c_117 a3 M hky21 ?_)
          show Ev Z _ 116 59 [some (.ref 55), some (.int a1), some (.int a2), some (.int a3), some (.int a3), none, none, none] [] (mm_H y21.2) Q
          obtain rfl := Option.some.inj hf
          exact e_vret hm_116 rfl rfl hq
      · rw [if_neg hc13] at hf
        refine e_ic_f hm_116 rfl (cf_gt hc13) ?_
        obtain rfl := Option.some.inj hf
        exact e_vret hm_116 rfl rfl hq
def pl_ex : Nat → Int32 → Int32 → Int32 → mm_M → Option (Unit × mm_M)
  | 0, _, _, _, _ => none
  | k + 1, a1, a2, a3, M => pl_extend_b (fun a1 a2 a3 m => pl_ex k a1 a2 a3 m) a1 a2 a3 M
set_option maxHeartbeats 4000000 in
theorem g_pl_ex {Z : ak_Z} {d : Nat} : ∀ (k : Nat), (∀ (a1 : Int32) (a2 : Int32) (a3 : Int32) (M : mm_M) (y : Unit × mm_M), pl_ex k a1 a2 a3 M = some y → ∀ (Q : Option Value → ak_H → Prop), Q none (mm_H y.2) → Ev Z (d + k + 2) 116 0 [some (.ref 55), some (.int a1), some (.int a2), some (.int a3), none, none, none, none] [] (mm_H M) Q) := by
  intro k
  induction k with
  | zero => exact fun a1 a2 a3 M y h => by simp [pl_ex] at h
  | succ k ih =>
    have i0 := ih
    have e : d + (k + 1) + 2 = (d + k) + 3 := by omega
    rw [e]
    exact fun a1 a2 a3 M y h Q hq => cb_116 (d := d + k) (fun a1 a2 a3 m => pl_ex k a1 a2 a3 m) i0 a1 a2 a3 M (by rw [pl_ex] at h; exact h) hq
def pl_extend (a1 : Int32) (a2 : Int32) (a3 : Int32) (M : mm_M) : Option (Unit × mm_M) := pl_ex 8 a1 a2 a3 M
theorem c_116 {Z : ak_Z} {d : Nat} (a1 : Int32) (a2 : Int32) (a3 : Int32) (M : mm_M) {y : Unit × mm_M} (hf : pl_extend a1 a2 a3 M = some y) {Q : Option Value → ak_H → Prop} (hq : Q none (mm_H y.2)) : Ev Z (d + 10) 116 0 [some (.ref 55), some (.int a1), some (.int a2), some (.int a3), none, none, none, none] [] (mm_H M) Q := by
  have e : d + 10 = d + 8 + 2 := by omega
  rw [e]
  exact (g_pl_ex 8) a1 a2 a3 M y hf Q hq
def pl_search_l12 : Nat → Int32 → mm_M → Option (((Unit) × mm_M))
  | 0, _, _ => none
  | n + 1, x2, M =>
    if x2 < (4 : Int32) then
      if ak_inb x2 4 = true then
      pl_search_l12 n (x2 + (1 : Int32)) (ak_up M.1 62 x2.toNatClampNeg (0 : Int32), M.2) else none
    else
      some ((), M)
set_option maxRecDepth 20000 in
set_option maxHeartbeats 4000000 in
theorem lc_113_12 {Z : ak_Z} {d : Nat} : ∀ (n : Nat) (x2 : Int32) (M : mm_M) {y : ((Unit) × mm_M)} (Q : Option Value → ak_H → Prop), pl_search_l12 n x2 M = some y → (Ev Z (d + 11) 113 30 [some (.ref 55), none, none] [] (mm_H y.2) Q) → Ev Z (d + 11) 113 12 [some (.ref 55), none, some (.int x2)] [] (mm_H M) Q := by
  intro n
  induction n with
  | zero => intro x2 M y Q hf; cases hf
  | succ n ih =>
    intro x2 M y Q hf hq
    rw [pl_search_l12] at hf
    refine e_iload_n hm_113 rfl rfl ?_
    refine e_iconst hm_113 rfl kc_iconst_4 ?_
    by_cases hc1 : x2 < (4 : Int32)
    · rw [if_pos hc1] at hf
      refine e_ic_f hm_113 rfl (cf_ge hc1) ?_
      refine e_aload_n hm_113 rfl rfl ?_
      refine e_getR hm_113 rfl rfl rfl rfl ?_
      refine e_iload_n hm_113 rfl rfl ?_
      refine e_iconst hm_113 rfl kc_iconst_0 ?_
      obtain ⟨hi2, hf⟩ := mm_ite hf
      refine e_iast hm_113 rfl rfl hi2 ?_
      refine e_iinc (L2 := [some (.ref 55), none, some (.int (x2 + (1 : Int32)))]) hm_113 rfl kc_iinc_1 rfl rfl ?_
      refine e_goto (t := 12) hm_113 rfl rfl ?_
      exact e_forget (L' := [some (.ref 55), none, some (.int (x2 + (1 : Int32)))]) (lf_k (lf_k (lf_k lf_0))) (ih (x2 + (1 : Int32)) (ak_up M.1 62 x2.toNatClampNeg (0 : Int32), M.2) Q hf hq)
    · rw [if_neg hc1] at hf
      refine e_ic_t (t := 30) hm_113 rfl (ct_ge hc1) rfl ?_
      obtain rfl := Option.some.inj hf
      exact e_forget (L' := [some (.ref 55), none, none]) (lf_k (lf_k (lf_d lf_0))) hq
def pl_search_l48 : Nat → Int32 → mm_M → Option (((Unit) × mm_M))
  | 0, _, _ => none
  | n + 1, x2, M =>
    if x2 < (4 : Int32) then
      if ak_inb x2 4 = true then
      if ak_inb x2 4 = true then
      pl_search_l48 n (x2 + (1 : Int32)) (ak_up M.1 61 x2.toNatClampNeg (M.1 62 x2.toNatClampNeg), M.2) else none else none
    else
      some ((), M)
set_option maxRecDepth 20000 in
set_option maxHeartbeats 4000000 in
theorem lc_113_48 {Z : ak_Z} {d : Nat} : ∀ (n : Nat) (x2 : Int32) (M : mm_M) {y : ((Unit) × mm_M)} (Q : Option Value → ak_H → Prop), pl_search_l48 n x2 M = some y → (Ev Z (d + 11) 113 71 [none, none, none] [] (mm_H y.2) Q) → Ev Z (d + 11) 113 48 [some (.ref 55), none, some (.int x2)] [] (mm_H M) Q := by
  intro n
  induction n with
  | zero => intro x2 M y Q hf; cases hf
  | succ n ih =>
    intro x2 M y Q hf hq
    rw [pl_search_l48] at hf
    refine e_iload_n hm_113 rfl rfl ?_
    refine e_iconst hm_113 rfl kc_iconst_4 ?_
    by_cases hc1 : x2 < (4 : Int32)
    · rw [if_pos hc1] at hf
      refine e_ic_f hm_113 rfl (cf_ge hc1) ?_
      refine e_aload_n hm_113 rfl rfl ?_
      refine e_getR hm_113 rfl rfl rfl rfl ?_
      refine e_iload_n hm_113 rfl rfl ?_
      refine e_aload_n hm_113 rfl rfl ?_
      refine e_getR hm_113 rfl rfl rfl rfl ?_
      refine e_iload_n hm_113 rfl rfl ?_
      obtain ⟨hi2, hf⟩ := mm_ite hf
      refine e_iald hm_113 rfl rfl hi2 ?_
      obtain ⟨hi3, hf⟩ := mm_ite hf
      refine e_iast hm_113 rfl rfl hi3 ?_
      refine e_iinc (L2 := [some (.ref 55), none, some (.int (x2 + (1 : Int32)))]) hm_113 rfl kc_iinc_1 rfl rfl ?_
      refine e_goto (t := 48) hm_113 rfl rfl ?_
      exact e_forget (L' := [some (.ref 55), none, some (.int (x2 + (1 : Int32)))]) (lf_k (lf_k (lf_k lf_0))) (ih (x2 + (1 : Int32)) (ak_up M.1 61 x2.toNatClampNeg (M.1 62 x2.toNatClampNeg), M.2) Q hf hq)
    · rw [if_neg hc1] at hf
      refine e_ic_t (t := 71) hm_113 rfl (ct_ge hc1) rfl ?_
      obtain rfl := Option.some.inj hf
      exact e_forget (L' := [none, none, none]) (lf_d (lf_k (lf_d lf_0))) hq
def pl_search (a1 : Int32) (M : mm_M) : Option (Unit × mm_M) :=
  if a1 = 0 ∨ a1 = 1 then
  (pl_search_l12 300 (0 : Int32) (ak_up (ak_up M.1 55 10 a1) 55 11 (0 : Int32), M.2)).bind fun y2 =>
  (pl_takeNone y2.2).bind fun y3 =>
  (pl_takeHopes y3.2).bind fun y4 =>
  (pl_extend (0 : Int32) (0 : Int32) (100000 : Int32) y4.2).bind fun y5 =>
  (pl_search_l48 300 (0 : Int32) y5.2).bind fun y6 =>
  some ((), y6.2) else none
set_option maxRecDepth 20000 in
set_option maxHeartbeats 4000000 in
theorem c_113 {Z : ak_Z} {d : Nat} (a1 : Int32) (M : mm_M) {y : Unit × mm_M} (hf : pl_search a1 M = some y) {Q : Option Value → ak_H → Prop} (hq : Q none (mm_H y.2)) : Ev Z (d + 11) 113 0 [some (.ref 55), some (.int a1), none] [] (mm_H M) Q := by
  rw [pl_search] at hf
  refine e_aload_n hm_113 rfl rfl ?_
  refine e_iload_n hm_113 rfl rfl ?_
  obtain ⟨hb1, hf⟩ := mm_ite hf
  refine e_putZ hm_113 rfl rfl rfl hb1 ?_
  refine e_aload_n hm_113 rfl rfl ?_
  refine e_iconst hm_113 rfl kc_iconst_0 ?_
  refine e_putI hm_113 rfl rfl rfl ?_
  refine e_iconst hm_113 rfl kc_iconst_0 ?_
  refine e_istore_n (L2 := [some (.ref 55), some (.int a1), some (.int (0 : Int32))]) hm_113 rfl rfl ?_
  obtain ⟨y2, hky2, hf⟩ := mm_bd hf
  refine e_forget (L' := [some (.ref 55), none, some (.int (0 : Int32))]) (lf_k (lf_d (lf_k lf_0))) (lc_113_12 (d := _) 300 (0 : Int32) (ak_up (ak_up M.1 55 10 a1) 55 11 (0 : Int32), M.2) Q hky2 ?_)
  show Ev Z _ 113 30 [some (.ref 55), none, none] [] (mm_H y2.2) Q
  refine e_aload_n hm_113 rfl rfl ?_
  obtain ⟨y3, hky3, hf⟩ := mm_bd hf
  refine e_virt hm_113 rfl rfl rfl rfl (Nat.le_of_ble_eq_true rfl) hm_114 rfl rfl (c_114 y2.2 hky3 ?_)
  show Ev Z _ 113 34 [some (.ref 55), none, none] [] (mm_H y3.2) Q
  refine e_aload_n hm_113 rfl rfl ?_
  obtain ⟨y4, hky4, hf⟩ := mm_bd hf
  refine e_virt hm_113 rfl rfl rfl rfl (Nat.le_of_ble_eq_true rfl) hm_115 rfl rfl (c_115 y3.2 hky4 ?_)
  show Ev Z _ 113 38 [some (.ref 55), none, none] [] (mm_H y4.2) Q
  refine e_aload_n hm_113 rfl rfl ?_
  refine e_iconst hm_113 rfl kc_iconst_0 ?_
  refine e_iconst hm_113 rfl kc_iconst_0 ?_
  refine e_ldc hm_113 rfl kc_ldc_100000 ?_
  obtain ⟨y5, hky5, hf⟩ := mm_bd hf
  refine e_virt hm_113 rfl rfl rfl rfl (Nat.le_of_ble_eq_true rfl) hm_116 rfl rfl (c_116 (0 : Int32) (0 : Int32) (100000 : Int32) y4.2 hky5 ?_)
  show Ev Z _ 113 46 [some (.ref 55), none, none] [] (mm_H y5.2) Q
  refine e_iconst hm_113 rfl kc_iconst_0 ?_
  refine e_istore_n (L2 := [some (.ref 55), none, some (.int (0 : Int32))]) hm_113 rfl rfl ?_
  obtain ⟨y6, hky6, hf⟩ := mm_bd hf
  refine e_forget (L' := [some (.ref 55), none, some (.int (0 : Int32))]) (lf_k (lf_k (lf_k lf_0))) (lc_113_48 (d := _) 300 (0 : Int32) y5.2 Q hky6 ?_)
  show Ev Z _ 113 71 [none, none, none] [] (mm_H y6.2) Q
  obtain rfl := Option.some.inj hf
  exact e_vret hm_113 rfl rfl hq
def pl_least_l27 : Nat → Int32 → Int32 → mm_M → Option (((Int32) × mm_M))
  | 0, _, _, _ => none
  | n + 1, x1, x2, M =>
    if mm_is8 M.2.1 = true then
    if x2 < (M.1 M.2.1 4) then
      (pl_place x2 M).bind fun y3 =>
      if ak_inb y3.1 36 = true then
      pl_least_l27 n (i_min x1 (y3.2.1 57 y3.1.toNatClampNeg)) (x2 + (1 : Int32)) y3.2 else none
    else
      some (x1, M) else none
set_option maxRecDepth 20000 in
set_option maxHeartbeats 4000000 in
theorem lc_120_27 {Z : ak_Z} {d : Nat} : ∀ (n : Nat) (x1 : Int32) (x2 : Int32) (M : mm_M) {y : ((Int32) × mm_M)} (Q : Option Value → ak_H → Prop), pl_least_l27 n x1 x2 M = some y → (Ev Z (d + 1) 120 59 [none, some (.int y.1), none] [] (mm_H y.2) Q) → Ev Z (d + 1) 120 27 [some (.ref 55), some (.int x1), some (.int x2)] [] (mm_H M) Q := by
  intro n
  induction n with
  | zero => intro x1 x2 M y Q hf; cases hf
  | succ n ih =>
    intro x1 x2 M y Q hf hq
    rw [pl_least_l27] at hf
    refine e_iload_n hm_120 rfl rfl ?_
    refine e_aload_n hm_120 rfl rfl ?_
    obtain ⟨hp1, hf⟩ := mm_ite hf
    refine e_getR hm_120 rfl rfl rfl rfl ?_
    refine e_getI hm_120 rfl (mm_cl8 hp1) rfl ?_
    by_cases hc2 : x2 < (M.1 M.2.1 4)
    · rw [if_pos hc2] at hf
      refine e_ic_f hm_120 rfl (cf_ge hc2) ?_
      refine e_iload_n hm_120 rfl rfl ?_
      refine e_aload_n hm_120 rfl rfl ?_
      refine e_getR hm_120 rfl rfl rfl rfl ?_
      refine e_aload_n hm_120 rfl rfl ?_
      refine e_iload_n hm_120 rfl rfl ?_
      obtain ⟨y3, hky3, hf⟩ := mm_bd hf
      refine e_virt hm_120 rfl rfl rfl rfl (Nat.le_of_ble_eq_true rfl) hm_106 rfl rfl (c_106 x2 M hky3 ?_)
      show Ev Z _ 120 48 [some (.ref 55), some (.int x1), some (.int x2)] [.int y3.1, .ref 57, .int x1] (mm_H y3.2) Q
      obtain ⟨hi4, hf⟩ := mm_ite hf
      refine e_iald hm_120 rfl rfl hi4 ?_
      refine e_min hm_120 rfl (Nat.le_of_ble_eq_true rfl) ?_
      refine e_istore_n (L2 := [some (.ref 55), some (.int (i_min x1 (y3.2.1 57 y3.1.toNatClampNeg))), some (.int x2)]) hm_120 rfl rfl ?_
      refine e_iinc (L2 := [some (.ref 55), some (.int (i_min x1 (y3.2.1 57 y3.1.toNatClampNeg))), some (.int (x2 + (1 : Int32)))]) hm_120 rfl kc_iinc_1 rfl rfl ?_
      refine e_goto (t := 27) hm_120 rfl rfl ?_
      exact e_forget (L' := [some (.ref 55), some (.int (i_min x1 (y3.2.1 57 y3.1.toNatClampNeg))), some (.int (x2 + (1 : Int32)))]) (lf_k (lf_k (lf_k lf_0))) (ih (i_min x1 (y3.2.1 57 y3.1.toNatClampNeg)) (x2 + (1 : Int32)) y3.2 Q hf hq)
    · rw [if_neg hc2] at hf
      refine e_ic_t (t := 59) hm_120 rfl (ct_ge hc2) rfl ?_
      obtain rfl := Option.some.inj hf
      exact e_forget (L' := [none, some (.int x1), none]) (lf_d (lf_k (lf_d lf_0))) hq
def pl_least (M : mm_M) : Option (Int32 × mm_M) :=
  if mm_is8 M.2.1 = true then
  if (0 : Int32) < (M.1 M.2.1 4) then
    (pl_place (0 : Int32) M).bind fun y3 =>
    if ak_inb y3.1 36 = true then
    (pl_least_l27 300 (y3.2.1 57 y3.1.toNatClampNeg) (1 : Int32) y3.2).bind fun y5 =>
    some (y5.1, y5.2) else none
  else
    (pl_least_l27 300 (0 : Int32) (1 : Int32) M).bind fun y6 =>
    some (y6.1, y6.2) else none
set_option maxRecDepth 20000 in
set_option maxHeartbeats 4000000 in
theorem c_120 {Z : ak_Z} {d : Nat} (M : mm_M) {y : Int32 × mm_M} (hf : pl_least M = some y) {Q : Option Value → ak_H → Prop} (hq : Q (some (.int y.1)) (mm_H y.2)) : Ev Z (d + 1) 120 0 [some (.ref 55), none, none] [] (mm_H M) Q := by
  rw [pl_least] at hf
  refine e_aload_n hm_120 rfl rfl ?_
  obtain ⟨hp1, hf⟩ := mm_ite hf
  refine e_getR hm_120 rfl rfl rfl rfl ?_
  refine e_getI hm_120 rfl (mm_cl8 hp1) rfl ?_
  by_cases hc2 : (0 : Int32) < (M.1 M.2.1 4)
  · rw [if_pos hc2] at hf
    refine e_if_f hm_120 rfl (cf_le hc2) ?_
    refine e_aload_n hm_120 rfl rfl ?_
    refine e_getR hm_120 rfl rfl rfl rfl ?_
    refine e_aload_n hm_120 rfl rfl ?_
    refine e_iconst hm_120 rfl kc_iconst_0 ?_
    obtain ⟨y3, hky3, hf⟩ := mm_bd hf
    refine e_virt hm_120 rfl rfl rfl rfl (Nat.le_of_ble_eq_true rfl) hm_106 rfl rfl (c_106 (0 : Int32) M hky3 ?_)
    show Ev Z _ 120 19 [some (.ref 55), none, none] [.int y3.1, .ref 57] (mm_H y3.2) Q
    obtain ⟨hi4, hf⟩ := mm_ite hf
    refine e_iald hm_120 rfl rfl hi4 ?_
    refine e_goto (t := 24) hm_120 rfl rfl ?_
    refine e_istore_n (L2 := [some (.ref 55), some (.int (y3.2.1 57 y3.1.toNatClampNeg)), none]) hm_120 rfl rfl ?_
    refine e_iconst hm_120 rfl kc_iconst_1 ?_
    refine e_istore_n (L2 := [some (.ref 55), some (.int (y3.2.1 57 y3.1.toNatClampNeg)), some (.int (1 : Int32))]) hm_120 rfl rfl ?_
    obtain ⟨y5, hky5, hf⟩ := mm_bd hf
    refine e_forget (L' := [some (.ref 55), some (.int (y3.2.1 57 y3.1.toNatClampNeg)), some (.int (1 : Int32))]) (lf_k (lf_k (lf_k lf_0))) (lc_120_27 (d := _) 300 (y3.2.1 57 y3.1.toNatClampNeg) (1 : Int32) y3.2 Q hky5 ?_)
    show Ev Z _ 120 59 [none, some (.int y5.1), none] [] (mm_H y5.2) Q
    refine e_iload_n hm_120 rfl rfl ?_
    obtain rfl := Option.some.inj hf
    exact e_iret hm_120 rfl rfl hq
  · rw [if_neg hc2] at hf
    refine e_if_t (t := 23) hm_120 rfl (ct_le hc2) rfl ?_
    refine e_iconst hm_120 rfl kc_iconst_0 ?_
    refine e_istore_n (L2 := [some (.ref 55), some (.int (0 : Int32)), none]) hm_120 rfl rfl ?_
    refine e_iconst hm_120 rfl kc_iconst_1 ?_
    refine e_istore_n (L2 := [some (.ref 55), some (.int (0 : Int32)), some (.int (1 : Int32))]) hm_120 rfl rfl ?_
    obtain ⟨y6, hky6, hf⟩ := mm_bd hf
    refine e_forget (L' := [some (.ref 55), some (.int (0 : Int32)), some (.int (1 : Int32))]) (lf_k (lf_k (lf_k lf_0))) (lc_120_27 (d := _) 300 (0 : Int32) (1 : Int32) M Q hky6 ?_)
    show Ev Z _ 120 59 [none, some (.int y6.1), none] [] (mm_H y6.2) Q
    refine e_iload_n hm_120 rfl rfl ?_
    obtain rfl := Option.some.inj hf
    exact e_iret hm_120 rfl rfl hq
def pl_inDigits_l4 : Nat → Int32 → Int32 → mm_M → Option (((Int32) × mm_M))
  | 0, _, _, _ => none
  | n + 1, x1, x2, M =>
    if mm_is8 M.2.1 = true then
    if x2 < (M.1 M.2.1 4) then
      if ak_inb x2 4 = true then
      pl_inDigits_l4 n (((10 : Int32) * x1) + (M.1 61 x2.toNatClampNeg)) (x2 + (1 : Int32)) M else none
    else
      some (x1, M) else none
set_option maxRecDepth 20000 in
set_option maxHeartbeats 4000000 in
theorem lc_121_4 {Z : ak_Z} {d : Nat} : ∀ (n : Nat) (x1 : Int32) (x2 : Int32) (M : mm_M) {y : ((Int32) × mm_M)} (Q : Option Value → ak_H → Prop), pl_inDigits_l4 n x1 x2 M = some y → (Ev Z (d + 0) 121 33 [none, some (.int y.1), none] [] (mm_H y.2) Q) → Ev Z (d + 0) 121 4 [some (.ref 55), some (.int x1), some (.int x2)] [] (mm_H M) Q := by
  intro n
  induction n with
  | zero => intro x1 x2 M y Q hf; cases hf
  | succ n ih =>
    intro x1 x2 M y Q hf hq
    rw [pl_inDigits_l4] at hf
    refine e_iload_n hm_121 rfl rfl ?_
    refine e_aload_n hm_121 rfl rfl ?_
    obtain ⟨hp1, hf⟩ := mm_ite hf
    refine e_getR hm_121 rfl rfl rfl rfl ?_
    refine e_getI hm_121 rfl (mm_cl8 hp1) rfl ?_
    by_cases hc2 : x2 < (M.1 M.2.1 4)
    · rw [if_pos hc2] at hf
      refine e_ic_f hm_121 rfl (cf_ge hc2) ?_
      refine e_bipush hm_121 rfl kc_bipush_10 ?_
      refine e_iload_n hm_121 rfl rfl ?_
      refine e_imul hm_121 rfl ?_
      refine e_aload_n hm_121 rfl rfl ?_
      refine e_getR hm_121 rfl rfl rfl rfl ?_
      refine e_iload_n hm_121 rfl rfl ?_
      obtain ⟨hi3, hf⟩ := mm_ite hf
      refine e_iald hm_121 rfl rfl hi3 ?_
      refine e_iadd hm_121 rfl ?_
      refine e_istore_n (L2 := [some (.ref 55), some (.int (((10 : Int32) * x1) + (M.1 61 x2.toNatClampNeg))), some (.int x2)]) hm_121 rfl rfl ?_
      refine e_iinc (L2 := [some (.ref 55), some (.int (((10 : Int32) * x1) + (M.1 61 x2.toNatClampNeg))), some (.int (x2 + (1 : Int32)))]) hm_121 rfl kc_iinc_1 rfl rfl ?_
      refine e_goto (t := 4) hm_121 rfl rfl ?_
      exact e_forget (L' := [some (.ref 55), some (.int (((10 : Int32) * x1) + (M.1 61 x2.toNatClampNeg))), some (.int (x2 + (1 : Int32)))]) (lf_k (lf_k (lf_k lf_0))) (ih (((10 : Int32) * x1) + (M.1 61 x2.toNatClampNeg)) (x2 + (1 : Int32)) M Q hf hq)
    · rw [if_neg hc2] at hf
      refine e_ic_t (t := 33) hm_121 rfl (ct_ge hc2) rfl ?_
      obtain rfl := Option.some.inj hf
      exact e_forget (L' := [none, some (.int x1), none]) (lf_d (lf_k (lf_d lf_0))) hq
def pl_inDigits (M : mm_M) : Option (Int32 × mm_M) :=
  (pl_inDigits_l4 300 (0 : Int32) (0 : Int32) M).bind fun y1 =>
  some (y1.1, y1.2)
set_option maxRecDepth 20000 in
set_option maxHeartbeats 4000000 in
theorem c_121 {Z : ak_Z} {d : Nat} (M : mm_M) {y : Int32 × mm_M} (hf : pl_inDigits M = some y) {Q : Option Value → ak_H → Prop} (hq : Q (some (.int y.1)) (mm_H y.2)) : Ev Z (d + 0) 121 0 [some (.ref 55), none, none] [] (mm_H M) Q := by
  rw [pl_inDigits] at hf
  refine e_iconst hm_121 rfl kc_iconst_0 ?_
  refine e_istore_n (L2 := [some (.ref 55), some (.int (0 : Int32)), none]) hm_121 rfl rfl ?_
  refine e_iconst hm_121 rfl kc_iconst_0 ?_
  refine e_istore_n (L2 := [some (.ref 55), some (.int (0 : Int32)), some (.int (0 : Int32))]) hm_121 rfl rfl ?_
  obtain ⟨y1, hky1, hf⟩ := mm_bd hf
  refine e_forget (L' := [some (.ref 55), some (.int (0 : Int32)), some (.int (0 : Int32))]) (lf_k (lf_k (lf_k lf_0))) (lc_121_4 (d := _) 300 (0 : Int32) (0 : Int32) M Q hky1 ?_)
  show Ev Z _ 121 33 [none, some (.int y1.1), none] [] (mm_H y1.2) Q
  refine e_iload_n hm_121 rfl rfl ?_
  obtain rfl := Option.some.inj hf
  exact e_iret hm_121 rfl rfl hq
def nb_best (a1 : Int32) (M : mm_M) : Option (Int32 × mm_M) :=
  if a1 < (0 : Int32) then
    some ((-100000 : Int32), M)
  else
    if (3 : Int32) < a1 then
      some ((-100000 : Int32), M)
    else
      (pl_look 1 M).bind fun y3 =>
      if a1 < (2 : Int32) then
        (pl_search (0 : Int32) y3.2).bind fun y5 =>
        if a1 = (1 : Int32) then
          (pl_all y5.2).bind fun y7 =>
          some (y7.1, y7.2)
        else
          if a1 = (3 : Int32) then
            (pl_least y5.2).bind fun y9 =>
            some (y9.1, y9.2)
          else
            (pl_inDigits y5.2).bind fun y10 =>
            some (y10.1, y10.2)
      else
        (pl_search (1 : Int32) y3.2).bind fun y11 =>
        if a1 = (1 : Int32) then
          (pl_all y11.2).bind fun y13 =>
          some (y13.1, y13.2)
        else
          if a1 = (3 : Int32) then
            (pl_least y11.2).bind fun y15 =>
            some (y15.1, y15.2)
          else
            (pl_inDigits y11.2).bind fun y16 =>
            some (y16.1, y16.2)
set_option maxRecDepth 20000 in
set_option maxHeartbeats 4000000 in
theorem c_112 {Z : ak_Z} {d : Nat} (a1 : Int32) (M : mm_M) {y : Int32 × mm_M} (hf : nb_best a1 M = some y) {Q : Option Value → ak_H → Prop} (hq : Q (some (.int y.1)) (mm_H y.2)) : Ev Z (d + 12) 112 0 [some (.ref 0), some (.int a1)] [] (mm_H M) Q := by
  rw [nb_best] at hf
  refine e_iload_n hm_112 rfl rfl ?_
  by_cases hc1 : a1 < (0 : Int32)
  · rw [if_pos hc1] at hf
    refine e_if_t (t := 9) hm_112 rfl (ct_lt hc1) rfl ?_
    refine e_ldc hm_112 rfl kc_ldc_m100000 ?_
    obtain rfl := Option.some.inj hf
    exact e_iret hm_112 rfl rfl hq
  · rw [if_neg hc1] at hf
    refine e_if_f hm_112 rfl (cf_lt hc1) ?_
    refine e_iload_n hm_112 rfl rfl ?_
    refine e_iconst hm_112 rfl kc_iconst_3 ?_
    by_cases hc2 : (3 : Int32) < a1
    · rw [if_pos hc2] at hf
      refine e_ic_f hm_112 rfl (cf_le hc2) ?_
      refine e_ldc hm_112 rfl kc_ldc_m100000 ?_
      obtain rfl := Option.some.inj hf
      exact e_iret hm_112 rfl rfl hq
    · rw [if_neg hc2] at hf
      refine e_ic_t (t := 12) hm_112 rfl (ct_le hc2) rfl ?_
      refine e_aload_n hm_112 rfl rfl ?_
      refine e_getR hm_112 rfl rfl rfl rfl ?_
      refine e_aload_n hm_112 rfl rfl ?_
      refine e_getR hm_112 rfl rfl rfl rfl ?_
      obtain ⟨y3, hky3, hf⟩ := mm_bd hf
      refine e_virt hm_112 rfl rfl rfl rfl (Nat.le_of_ble_eq_true rfl) hm_99 rfl rfl (c_99 1 M rfl hky3 ?_)
      show Ev Z _ 112 23 [some (.ref 0), some (.int a1)] [] (mm_H y3.2) Q
      refine e_aload_n hm_112 rfl rfl ?_
      refine e_getR hm_112 rfl rfl rfl rfl ?_
      refine e_iload_n hm_112 rfl rfl ?_
      refine e_iconst hm_112 rfl kc_iconst_2 ?_
      by_cases hc4 : a1 < (2 : Int32)
      · rw [if_pos hc4] at hf
        refine e_ic_t (t := 36) hm_112 rfl (ct_lt hc4) rfl ?_
        refine e_iconst hm_112 rfl kc_iconst_0 ?_
        obtain ⟨y5, hky5, hf⟩ := mm_bd hf
        refine e_virt hm_112 rfl rfl rfl rfl (Nat.le_of_ble_eq_true rfl) hm_113 rfl rfl (c_113 (0 : Int32) y3.2 hky5 ?_)
        show Ev Z _ 112 40 [some (.ref 0), some (.int a1)] [] (mm_H y5.2) Q
        refine e_iload_n hm_112 rfl rfl ?_
        refine e_iconst hm_112 rfl kc_iconst_1 ?_
        by_cases hc6 : a1 = (1 : Int32)
        · rw [if_pos hc6] at hf
          refine e_ic_f hm_112 rfl (cf_ne hc6) ?_
          refine e_aload_n hm_112 rfl rfl ?_
          refine e_getR hm_112 rfl rfl rfl rfl ?_
          obtain ⟨y7, hky7, hf⟩ := mm_bd hf
          refine e_virt hm_112 rfl rfl rfl rfl (Nat.le_of_ble_eq_true rfl) hm_109 rfl rfl (c_109 y5.2 hky7 ?_)
          show Ev Z _ 112 52 [some (.ref 0), some (.int a1)] [.int y7.1] (mm_H y7.2) Q
          obtain rfl := Option.some.inj hf
          exact e_iret hm_112 rfl rfl hq
        · rw [if_neg hc6] at hf
          refine e_ic_t (t := 53) hm_112 rfl (ct_ne hc6) rfl ?_
          refine e_iload_n hm_112 rfl rfl ?_
          refine e_iconst hm_112 rfl kc_iconst_3 ?_
          by_cases hc8 : a1 = (3 : Int32)
          · rw [if_pos hc8] at hf
            refine e_ic_f hm_112 rfl (cf_ne hc8) ?_
            refine e_aload_n hm_112 rfl rfl ?_
            refine e_getR hm_112 rfl rfl rfl rfl ?_
            obtain ⟨y9, hky9, hf⟩ := mm_bd hf
            refine e_virt hm_112 rfl rfl rfl rfl (Nat.le_of_ble_eq_true rfl) hm_120 rfl rfl (c_120 y5.2 hky9 ?_)
            show Ev Z _ 112 65 [some (.ref 0), some (.int a1)] [.int y9.1] (mm_H y9.2) Q
            refine e_goto (t := 75) hm_112 rfl rfl ?_
            obtain rfl := Option.some.inj hf
            exact e_iret hm_112 rfl rfl hq
          · rw [if_neg hc8] at hf
            refine e_ic_t (t := 68) hm_112 rfl (ct_ne hc8) rfl ?_
            refine e_aload_n hm_112 rfl rfl ?_
            refine e_getR hm_112 rfl rfl rfl rfl ?_
            obtain ⟨y10, hky10, hf⟩ := mm_bd hf
            refine e_virt hm_112 rfl rfl rfl rfl (Nat.le_of_ble_eq_true rfl) hm_121 rfl rfl (c_121 y5.2 hky10 ?_)
            show Ev Z _ 112 75 [some (.ref 0), some (.int a1)] [.int y10.1] (mm_H y10.2) Q
            obtain rfl := Option.some.inj hf
            exact e_iret hm_112 rfl rfl hq
      · rw [if_neg hc4] at hf
        refine e_ic_f hm_112 rfl (cf_lt hc4) ?_
        refine e_iconst hm_112 rfl kc_iconst_1 ?_
        refine e_goto (t := 37) hm_112 rfl rfl ?_
        obtain ⟨y11, hky11, hf⟩ := mm_bd hf
        refine e_virt hm_112 rfl rfl rfl rfl (Nat.le_of_ble_eq_true rfl) hm_113 rfl rfl (c_113 (1 : Int32) y3.2 hky11 ?_)
        show Ev Z _ 112 40 [some (.ref 0), some (.int a1)] [] (mm_H y11.2) Q
        refine e_iload_n hm_112 rfl rfl ?_
        refine e_iconst hm_112 rfl kc_iconst_1 ?_
        by_cases hc12 : a1 = (1 : Int32)
        · rw [if_pos hc12] at hf
          refine e_ic_f hm_112 rfl (cf_ne hc12) ?_
          refine e_aload_n hm_112 rfl rfl ?_
          refine e_getR hm_112 rfl rfl rfl rfl ?_
          obtain ⟨y13, hky13, hf⟩ := mm_bd hf
          refine e_virt hm_112 rfl rfl rfl rfl (Nat.le_of_ble_eq_true rfl) hm_109 rfl rfl (c_109 y11.2 hky13 ?_)
          show Ev Z _ 112 52 [some (.ref 0), some (.int a1)] [.int y13.1] (mm_H y13.2) Q
          obtain rfl := Option.some.inj hf
          exact e_iret hm_112 rfl rfl hq
        · rw [if_neg hc12] at hf
          refine e_ic_t (t := 53) hm_112 rfl (ct_ne hc12) rfl ?_
          refine e_iload_n hm_112 rfl rfl ?_
          refine e_iconst hm_112 rfl kc_iconst_3 ?_
          by_cases hc14 : a1 = (3 : Int32)
          · rw [if_pos hc14] at hf
            refine e_ic_f hm_112 rfl (cf_ne hc14) ?_
            refine e_aload_n hm_112 rfl rfl ?_
            refine e_getR hm_112 rfl rfl rfl rfl ?_
            obtain ⟨y15, hky15, hf⟩ := mm_bd hf
            refine e_virt hm_112 rfl rfl rfl rfl (Nat.le_of_ble_eq_true rfl) hm_120 rfl rfl (c_120 y11.2 hky15 ?_)
            show Ev Z _ 112 65 [some (.ref 0), some (.int a1)] [.int y15.1] (mm_H y15.2) Q
            refine e_goto (t := 75) hm_112 rfl rfl ?_
            obtain rfl := Option.some.inj hf
            exact e_iret hm_112 rfl rfl hq
          · rw [if_neg hc14] at hf
            refine e_ic_t (t := 68) hm_112 rfl (ct_ne hc14) rfl ?_
            refine e_aload_n hm_112 rfl rfl ?_
            refine e_getR hm_112 rfl rfl rfl rfl ?_
            obtain ⟨y16, hky16, hf⟩ := mm_bd hf
            refine e_virt hm_112 rfl rfl rfl rfl (Nat.le_of_ble_eq_true rfl) hm_121 rfl rfl (c_121 y11.2 hky16 ?_)
            show Ev Z _ 112 75 [some (.ref 0), some (.int a1)] [.int y16.1] (mm_H y16.2) Q
            obtain rfl := Option.some.inj hf
            exact e_iret hm_112 rfl rfl hq
def pl_nextInTurn_l4 : Nat → Int32 → Int32 → Int32 → mm_M → Option (((Int32) × mm_M))
  | 0, _, _, _, _ => none
  | n + 1, x1, x2, x3, M =>
    if mm_is8 M.2.1 = true then
    if x3 < (M.1 M.2.1 4) then
      if ((x1 >>> (x3 &&& 31)) &&& (1 : Int32)) = (0 : Int32) then
        if x2 = (-1 : Int32) then
          pl_nextInTurn_l4 n x1 x3 (x3 + (1 : Int32)) M
        else
          if mm_is8 M.2.1 = true then
          if ak_inb x3 4 = true then
          if mm_is8 M.2.1 = true then
          if ak_inb x2 4 = true then
          if (M.1 (M.2.1 + 5) x2.toNatClampNeg) < (M.1 (M.2.1 + 5) x3.toNatClampNeg) then
            pl_nextInTurn_l4 n x1 x3 (x3 + (1 : Int32)) M
          else
            pl_nextInTurn_l4 n x1 x2 (x3 + (1 : Int32)) M else none else none else none else none
      else
        pl_nextInTurn_l4 n x1 x2 (x3 + (1 : Int32)) M
    else
      some (x2, M) else none
set_option maxRecDepth 20000 in
set_option maxHeartbeats 4000000 in
theorem lc_124_4 {Z : ak_Z} {d : Nat} : ∀ (n : Nat) (x1 : Int32) (x2 : Int32) (x3 : Int32) (M : mm_M) {y : ((Int32) × mm_M)} (Q : Option Value → ak_H → Prop), pl_nextInTurn_l4 n x1 x2 x3 M = some y → (Ev Z (d + 0) 124 69 [none, none, some (.int y.1), none, none] [] (mm_H y.2) Q) → Ev Z (d + 0) 124 4 [some (.ref 55), some (.int x1), some (.int x2), some (.int x3), none] [] (mm_H M) Q := by
  intro n
  induction n with
  | zero => intro x1 x2 x3 M y Q hf; cases hf
  | succ n ih =>
    intro x1 x2 x3 M y Q hf hq
    rw [pl_nextInTurn_l4] at hf
    refine e_iload_n hm_124 rfl rfl ?_
    refine e_aload_n hm_124 rfl rfl ?_
    obtain ⟨hp1, hf⟩ := mm_ite hf
    refine e_getR hm_124 rfl rfl rfl rfl ?_
    refine e_getI hm_124 rfl (mm_cl8 hp1) rfl ?_
    by_cases hc2 : x3 < (M.1 M.2.1 4)
    · rw [if_pos hc2] at hf
      refine e_ic_f hm_124 rfl (cf_ge hc2) ?_
      refine e_iload_n hm_124 rfl rfl ?_
      refine e_iload_n hm_124 rfl rfl ?_
      refine e_ishr hm_124 rfl ?_
      refine e_iconst hm_124 rfl kc_iconst_1 ?_
      refine e_iand hm_124 rfl ?_
      by_cases hc3 : ((x1 >>> (x3 &&& 31)) &&& (1 : Int32)) = (0 : Int32)
      · rw [if_pos hc3] at hf
        refine e_if_f hm_124 rfl (cf_ne hc3) ?_
        refine e_iconst hm_124 rfl kc_iconst_1 ?_
        refine e_goto (t := 28) hm_124 rfl rfl ?_
        refine e_istore (L2 := [some (.ref 55), some (.int x1), some (.int x2), some (.int x3), some (.int (1 : Int32))]) hm_124 rfl rfl ?_
        refine e_iload hm_124 rfl rfl ?_
        refine e_if_f hm_124 rfl (by decide) ?_
        refine e_iload_n hm_124 rfl rfl ?_
        refine e_iconst hm_124 rfl kc_iconst_m1 ?_
        by_cases hc4 : x2 = (-1 : Int32)
        · rw [if_pos hc4] at hf
          refine e_ic_t (t := 61) hm_124 rfl (ct_eq hc4) rfl ?_
          refine e_iload_n hm_124 rfl rfl ?_
          refine e_istore_n (L2 := [some (.ref 55), some (.int x1), some (.int x3), some (.int x3), some (.int (1 : Int32))]) hm_124 rfl rfl ?_
          refine e_iinc (L2 := [some (.ref 55), some (.int x1), some (.int x3), some (.int (x3 + (1 : Int32))), some (.int (1 : Int32))]) hm_124 rfl kc_iinc_1 rfl rfl ?_
          refine e_goto (t := 4) hm_124 rfl rfl ?_
          exact e_forget (L' := [some (.ref 55), some (.int x1), some (.int x3), some (.int (x3 + (1 : Int32))), none]) (lf_k (lf_k (lf_k (lf_k (lf_d lf_0))))) (ih x1 x3 (x3 + (1 : Int32)) M Q hf hq)
        · rw [if_neg hc4] at hf
          refine e_ic_f hm_124 rfl (cf_eq hc4) ?_
          refine e_aload_n hm_124 rfl rfl ?_
          obtain ⟨hp5, hf⟩ := mm_ite hf
          refine e_getR hm_124 rfl rfl rfl rfl ?_
          refine e_getR hm_124 rfl (mm_cl8 hp5) rfl (mm_rf8_9 hp5) ?_
          refine e_iload_n hm_124 rfl rfl ?_
          obtain ⟨hi6, hf⟩ := mm_ite hf
          refine e_iald hm_124 rfl (mm_ar8_9 hp5) hi6 ?_
          refine e_aload_n hm_124 rfl rfl ?_
          obtain ⟨hp7, hf⟩ := mm_ite hf
          refine e_getR hm_124 rfl rfl rfl rfl ?_
          refine e_getR hm_124 rfl (mm_cl8 hp7) rfl (mm_rf8_9 hp7) ?_
          refine e_iload_n hm_124 rfl rfl ?_
          obtain ⟨hi8, hf⟩ := mm_ite hf
          refine e_iald hm_124 rfl (mm_ar8_9 hp7) hi8 ?_
          by_cases hc9 : (M.1 (M.2.1 + 5) x2.toNatClampNeg) < (M.1 (M.2.1 + 5) x3.toNatClampNeg)
          · rw [if_pos hc9] at hf
            refine e_ic_f hm_124 rfl (cf_le hc9) ?_
            refine e_iload_n hm_124 rfl rfl ?_
            refine e_istore_n (L2 := [some (.ref 55), some (.int x1), some (.int x3), some (.int x3), some (.int (1 : Int32))]) hm_124 rfl rfl ?_
            refine e_iinc (L2 := [some (.ref 55), some (.int x1), some (.int x3), some (.int (x3 + (1 : Int32))), some (.int (1 : Int32))]) hm_124 rfl kc_iinc_1 rfl rfl ?_
            refine e_goto (t := 4) hm_124 rfl rfl ?_
            exact e_forget (L' := [some (.ref 55), some (.int x1), some (.int x3), some (.int (x3 + (1 : Int32))), none]) (lf_k (lf_k (lf_k (lf_k (lf_d lf_0))))) (ih x1 x3 (x3 + (1 : Int32)) M Q hf hq)
          · rw [if_neg hc9] at hf
            refine e_ic_t (t := 63) hm_124 rfl (ct_le hc9) rfl ?_
            refine e_iinc (L2 := [some (.ref 55), some (.int x1), some (.int x2), some (.int (x3 + (1 : Int32))), some (.int (1 : Int32))]) hm_124 rfl kc_iinc_1 rfl rfl ?_
            refine e_goto (t := 4) hm_124 rfl rfl ?_
            exact e_forget (L' := [some (.ref 55), some (.int x1), some (.int x2), some (.int (x3 + (1 : Int32))), none]) (lf_k (lf_k (lf_k (lf_k (lf_d lf_0))))) (ih x1 x2 (x3 + (1 : Int32)) M Q hf hq)
      · rw [if_neg hc3] at hf
        refine e_if_t (t := 27) hm_124 rfl (ct_ne hc3) rfl ?_
        refine e_iconst hm_124 rfl kc_iconst_0 ?_
        refine e_istore (L2 := [some (.ref 55), some (.int x1), some (.int x2), some (.int x3), some (.int (0 : Int32))]) hm_124 rfl rfl ?_
        refine e_iload hm_124 rfl rfl ?_
        refine e_if_t (t := 63) hm_124 rfl (by decide) rfl ?_
        refine e_iinc (L2 := [some (.ref 55), some (.int x1), some (.int x2), some (.int (x3 + (1 : Int32))), some (.int (0 : Int32))]) hm_124 rfl kc_iinc_1 rfl rfl ?_
        refine e_goto (t := 4) hm_124 rfl rfl ?_
        exact e_forget (L' := [some (.ref 55), some (.int x1), some (.int x2), some (.int (x3 + (1 : Int32))), none]) (lf_k (lf_k (lf_k (lf_k (lf_d lf_0))))) (ih x1 x2 (x3 + (1 : Int32)) M Q hf hq)
    · rw [if_neg hc2] at hf
      refine e_ic_t (t := 69) hm_124 rfl (ct_ge hc2) rfl ?_
      obtain rfl := Option.some.inj hf
      exact e_forget (L' := [none, none, some (.int x2), none, none]) (lf_d (lf_d (lf_k (lf_d (lf_k lf_0))))) hq
def pl_nextInTurn (a1 : Int32) (M : mm_M) : Option (Int32 × mm_M) :=
  (pl_nextInTurn_l4 300 a1 (-1 : Int32) (0 : Int32) M).bind fun y1 =>
  some (y1.1, y1.2)
set_option maxRecDepth 20000 in
set_option maxHeartbeats 4000000 in
theorem c_124 {Z : ak_Z} {d : Nat} (a1 : Int32) (M : mm_M) {y : Int32 × mm_M} (hf : pl_nextInTurn a1 M = some y) {Q : Option Value → ak_H → Prop} (hq : Q (some (.int y.1)) (mm_H y.2)) : Ev Z (d + 0) 124 0 [some (.ref 55), some (.int a1), none, none, none] [] (mm_H M) Q := by
  rw [pl_nextInTurn] at hf
  refine e_iconst hm_124 rfl kc_iconst_m1 ?_
  refine e_istore_n (L2 := [some (.ref 55), some (.int a1), some (.int (-1 : Int32)), none, none]) hm_124 rfl rfl ?_
  refine e_iconst hm_124 rfl kc_iconst_0 ?_
  refine e_istore_n (L2 := [some (.ref 55), some (.int a1), some (.int (-1 : Int32)), some (.int (0 : Int32)), none]) hm_124 rfl rfl ?_
  obtain ⟨y1, hky1, hf⟩ := mm_bd hf
  refine e_forget (L' := [some (.ref 55), some (.int a1), some (.int (-1 : Int32)), some (.int (0 : Int32)), none]) (lf_k (lf_k (lf_k (lf_k (lf_k lf_0))))) (lc_124_4 (d := _) 300 a1 (-1 : Int32) (0 : Int32) M Q hky1 ?_)
  show Ev Z _ 124 69 [none, none, some (.int y1.1), none, none] [] (mm_H y1.2) Q
  refine e_iload_n hm_124 rfl rfl ?_
  obtain rfl := Option.some.inj hf
  exact e_iret hm_124 rfl rfl hq
def pl_gladdest_l17 : Nat → Int32 → Int32 → Int32 → Int32 → mm_M → Option (((Int32) × mm_M))
  | 0, _, _, _, _, _ => none
  | n + 1, x2, x3, x4, x5, M =>
    if x5 < (9 : Int32) then
      (pl_canAdd (x3 + x5) x2 M).bind fun y2 =>
      if y2.1 = (0 : Int32) then
        pl_gladdest_l17 n x2 x3 x4 (x5 + (1 : Int32)) y2.2
      else
        if ak_inb (x3 + x5) 36 = true then
        if ak_inb (x3 + x4) 36 = true then
        if (y2.2.1 57 (x3 + x4).toNatClampNeg) < (y2.2.1 57 (x3 + x5).toNatClampNeg) then
          pl_gladdest_l17 n x2 x3 x5 (x5 + (1 : Int32)) y2.2
        else
          pl_gladdest_l17 n x2 x3 x4 (x5 + (1 : Int32)) y2.2 else none else none
    else
      some (x4, M)
set_option maxRecDepth 20000 in
set_option maxHeartbeats 4000000 in
theorem lc_125_17 {Z : ak_Z} {d : Nat} : ∀ (n : Nat) (x2 : Int32) (x3 : Int32) (x4 : Int32) (x5 : Int32) (M : mm_M) {y : ((Int32) × mm_M)} (Q : Option Value → ak_H → Prop), pl_gladdest_l17 n x2 x3 x4 x5 M = some y → (Ev Z (d + 3) 125 67 [none, none, none, none, some (.int y.1), none] [] (mm_H y.2) Q) → Ev Z (d + 3) 125 17 [some (.ref 55), none, some (.int x2), some (.int x3), some (.int x4), some (.int x5)] [] (mm_H M) Q := by
  intro n
  induction n with
  | zero => intro x2 x3 x4 x5 M y Q hf; cases hf
  | succ n ih =>
    intro x2 x3 x4 x5 M y Q hf hq
    rw [pl_gladdest_l17] at hf
    refine e_iload hm_125 rfl rfl ?_
    refine e_bipush hm_125 rfl kc_bipush_9 ?_
    by_cases hc1 : x5 < (9 : Int32)
    · rw [if_pos hc1] at hf
      refine e_ic_f hm_125 rfl (cf_ge hc1) ?_
      refine e_aload_n hm_125 rfl rfl ?_
      refine e_iload_n hm_125 rfl rfl ?_
      refine e_iload hm_125 rfl rfl ?_
      refine e_iadd hm_125 rfl ?_
      refine e_iload_n hm_125 rfl rfl ?_
      obtain ⟨y2, hky2, hf⟩ := mm_bd hf
      refine e_virt hm_125 rfl rfl rfl rfl (Nat.le_of_ble_eq_true rfl) hm_119 rfl rfl (c_119 (x3 + x5) x2 M hky2 ?_)
      show Ev Z _ 125 33 [some (.ref 55), none, some (.int x2), some (.int x3), some (.int x4), some (.int x5)] [.int y2.1] (mm_H y2.2) Q
      by_cases hc3 : y2.1 = (0 : Int32)
      · rw [if_pos hc3] at hf
        refine e_if_t (t := 61) hm_125 rfl (ct_eq hc3) rfl ?_
        refine e_iinc (L2 := [some (.ref 55), none, some (.int x2), some (.int x3), some (.int x4), some (.int (x5 + (1 : Int32)))]) hm_125 rfl kc_iinc_1 rfl rfl ?_
        refine e_goto (t := 17) hm_125 rfl rfl ?_
        exact e_forget (L' := [some (.ref 55), none, some (.int x2), some (.int x3), some (.int x4), some (.int (x5 + (1 : Int32)))]) (lf_k (lf_k (lf_k (lf_k (lf_k (lf_k lf_0)))))) (ih x2 x3 x4 (x5 + (1 : Int32)) y2.2 Q hf hq)
      · rw [if_neg hc3] at hf
        refine e_if_f hm_125 rfl (cf_eq hc3) ?_
        refine e_aload_n hm_125 rfl rfl ?_
        refine e_getR hm_125 rfl rfl rfl rfl ?_
        refine e_iload_n hm_125 rfl rfl ?_
        refine e_iload hm_125 rfl rfl ?_
        refine e_iadd hm_125 rfl ?_
        obtain ⟨hi4, hf⟩ := mm_ite hf
        refine e_iald hm_125 rfl rfl hi4 ?_
        refine e_aload_n hm_125 rfl rfl ?_
        refine e_getR hm_125 rfl rfl rfl rfl ?_
        refine e_iload_n hm_125 rfl rfl ?_
        refine e_iload hm_125 rfl rfl ?_
        refine e_iadd hm_125 rfl ?_
        obtain ⟨hi5, hf⟩ := mm_ite hf
        refine e_iald hm_125 rfl rfl hi5 ?_
        by_cases hc6 : (y2.2.1 57 (x3 + x4).toNatClampNeg) < (y2.2.1 57 (x3 + x5).toNatClampNeg)
        · rw [if_pos hc6] at hf
          refine e_ic_f hm_125 rfl (cf_le hc6) ?_
          refine e_iload hm_125 rfl rfl ?_
          refine e_istore (L2 := [some (.ref 55), none, some (.int x2), some (.int x3), some (.int x5), some (.int x5)]) hm_125 rfl rfl ?_
          refine e_iinc (L2 := [some (.ref 55), none, some (.int x2), some (.int x3), some (.int x5), some (.int (x5 + (1 : Int32)))]) hm_125 rfl kc_iinc_1 rfl rfl ?_
          refine e_goto (t := 17) hm_125 rfl rfl ?_
          exact e_forget (L' := [some (.ref 55), none, some (.int x2), some (.int x3), some (.int x5), some (.int (x5 + (1 : Int32)))]) (lf_k (lf_k (lf_k (lf_k (lf_k (lf_k lf_0)))))) (ih x2 x3 x5 (x5 + (1 : Int32)) y2.2 Q hf hq)
        · rw [if_neg hc6] at hf
          refine e_ic_t (t := 61) hm_125 rfl (ct_le hc6) rfl ?_
          refine e_iinc (L2 := [some (.ref 55), none, some (.int x2), some (.int x3), some (.int x4), some (.int (x5 + (1 : Int32)))]) hm_125 rfl kc_iinc_1 rfl rfl ?_
          refine e_goto (t := 17) hm_125 rfl rfl ?_
          exact e_forget (L' := [some (.ref 55), none, some (.int x2), some (.int x3), some (.int x4), some (.int (x5 + (1 : Int32)))]) (lf_k (lf_k (lf_k (lf_k (lf_k (lf_k lf_0)))))) (ih x2 x3 x4 (x5 + (1 : Int32)) y2.2 Q hf hq)
    · rw [if_neg hc1] at hf
      refine e_ic_t (t := 67) hm_125 rfl (ct_ge hc1) rfl ?_
      obtain rfl := Option.some.inj hf
      exact e_forget (L' := [none, none, none, none, some (.int x4), none]) (lf_d (lf_k (lf_d (lf_d (lf_k (lf_d lf_0)))))) hq
def pl_gladdest (a1 : Int32) (M : mm_M) : Option (Int32 × mm_M) :=
  (pl_weeksClosedTo a1 M).bind fun y1 =>
  (pl_gladdest_l17 300 y1.1 (a1 * (9 : Int32)) (0 : Int32) (1 : Int32) y1.2).bind fun y2 =>
  some (y2.1, y2.2)
set_option maxRecDepth 20000 in
set_option maxHeartbeats 4000000 in
theorem c_125 {Z : ak_Z} {d : Nat} (a1 : Int32) (M : mm_M) {y : Int32 × mm_M} (hf : pl_gladdest a1 M = some y) {Q : Option Value → ak_H → Prop} (hq : Q (some (.int y.1)) (mm_H y.2)) : Ev Z (d + 3) 125 0 [some (.ref 55), some (.int a1), none, none, none, none] [] (mm_H M) Q := by
  rw [pl_gladdest] at hf
  refine e_aload_n hm_125 rfl rfl ?_
  refine e_iload_n hm_125 rfl rfl ?_
  obtain ⟨y1, hky1, hf⟩ := mm_bd hf
  refine e_virt hm_125 rfl rfl rfl rfl (Nat.le_of_ble_eq_true rfl) hm_118 rfl rfl (c_118 a1 M hky1 ?_)
  show Ev Z _ 125 5 [some (.ref 55), some (.int a1), none, none, none, none] [.int y1.1] (mm_H y1.2) Q
  refine e_istore_n (L2 := [some (.ref 55), some (.int a1), some (.int y1.1), none, none, none]) hm_125 rfl rfl ?_
  refine e_iload_n hm_125 rfl rfl ?_
  refine e_bipush hm_125 rfl kc_bipush_9 ?_
  refine e_imul hm_125 rfl ?_
  refine e_istore_n (L2 := [some (.ref 55), some (.int a1), some (.int y1.1), some (.int (a1 * (9 : Int32))), none, none]) hm_125 rfl rfl ?_
  refine e_iconst hm_125 rfl kc_iconst_0 ?_
  refine e_istore (L2 := [some (.ref 55), some (.int a1), some (.int y1.1), some (.int (a1 * (9 : Int32))), some (.int (0 : Int32)), none]) hm_125 rfl rfl ?_
  refine e_iconst hm_125 rfl kc_iconst_1 ?_
  refine e_istore (L2 := [some (.ref 55), some (.int a1), some (.int y1.1), some (.int (a1 * (9 : Int32))), some (.int (0 : Int32)), some (.int (1 : Int32))]) hm_125 rfl rfl ?_
  obtain ⟨y2, hky2, hf⟩ := mm_bd hf
  refine e_forget (L' := [some (.ref 55), none, some (.int y1.1), some (.int (a1 * (9 : Int32))), some (.int (0 : Int32)), some (.int (1 : Int32))]) (lf_k (lf_d (lf_k (lf_k (lf_k (lf_k lf_0)))))) (lc_125_17 (d := _) 300 y1.1 (a1 * (9 : Int32)) (0 : Int32) (1 : Int32) y1.2 Q hky2 ?_)
  show Ev Z _ 125 67 [none, none, none, none, some (.int y2.1), none] [] (mm_H y2.2) Q
  refine e_iload hm_125 rfl rfl ?_
  obtain rfl := Option.some.inj hf
  exact e_iret hm_125 rfl rfl hq
def pl_takeTurns_l8 : Nat → Int32 → Int32 → mm_M → Option (((Unit) × mm_M))
  | 0, _, _, _ => none
  | n + 1, x1, x2, M =>
    if mm_is8 M.2.1 = true then
    if x2 < (M.1 M.2.1 4) then
      (pl_nextInTurn x1 M).bind fun y3 =>
      if mm_is8 y3.2.2.1 = true then
      (sh_isOne y3.2.2.1 y3.1 y3.2).bind fun y5 =>
      if y5.1 = (0 : Int32) then
        pl_takeTurns_l8 n x1 (x2 + (1 : Int32)) y5.2
      else
        (pl_gladdest y3.1 y5.2).bind fun y7 =>
        if ak_inb y3.1 4 = true then
        pl_takeTurns_l8 n (x1 ||| ((1 : Int32) <<< (y3.1 &&& 31))) (x2 + (1 : Int32)) (ak_up y7.2.1 61 y3.1.toNatClampNeg y7.1, y7.2.2) else none else none
    else
      some ((), M) else none
set_option maxRecDepth 20000 in
set_option maxHeartbeats 4000000 in
theorem lc_123_8 {Z : ak_Z} {d : Nat} : ∀ (n : Nat) (x1 : Int32) (x2 : Int32) (M : mm_M) {y : ((Unit) × mm_M)} (Q : Option Value → ak_H → Prop), pl_takeTurns_l8 n x1 x2 M = some y → (Ev Z (d + 4) 123 59 [none, none, none, none] [] (mm_H y.2) Q) → Ev Z (d + 4) 123 8 [some (.ref 55), some (.int x1), some (.int x2), none] [] (mm_H M) Q := by
  intro n
  induction n with
  | zero => intro x1 x2 M y Q hf; cases hf
  | succ n ih =>
    intro x1 x2 M y Q hf hq
    rw [pl_takeTurns_l8] at hf
    refine e_iload_n hm_123 rfl rfl ?_
    refine e_aload_n hm_123 rfl rfl ?_
    obtain ⟨hp1, hf⟩ := mm_ite hf
    refine e_getR hm_123 rfl rfl rfl rfl ?_
    refine e_getI hm_123 rfl (mm_cl8 hp1) rfl ?_
    by_cases hc2 : x2 < (M.1 M.2.1 4)
    · rw [if_pos hc2] at hf
      refine e_ic_f hm_123 rfl (cf_ge hc2) ?_
      refine e_aload_n hm_123 rfl rfl ?_
      refine e_iload_n hm_123 rfl rfl ?_
      obtain ⟨y3, hky3, hf⟩ := mm_bd hf
      refine e_virt hm_123 rfl rfl rfl rfl (Nat.le_of_ble_eq_true rfl) hm_124 rfl rfl (c_124 x1 M hky3 ?_)
      show Ev Z _ 123 24 [some (.ref 55), some (.int x1), some (.int x2), none] [.int y3.1] (mm_H y3.2) Q
      refine e_istore_n (L2 := [some (.ref 55), some (.int x1), some (.int x2), some (.int y3.1)]) hm_123 rfl rfl ?_
      refine e_aload_n hm_123 rfl rfl ?_
      obtain ⟨hp4, hf⟩ := mm_ite hf
      refine e_getR hm_123 rfl rfl rfl rfl ?_
      refine e_iload_n hm_123 rfl rfl ?_
      obtain ⟨y5, hky5, hf⟩ := mm_bd hf
      refine e_virt hm_123 rfl rfl rfl (mm_cl8 hp4) (Nat.le_of_ble_eq_true rfl) hm_16 rfl rfl (c_16 y3.2.2.1 y3.1 y3.2 hp4 hky5 ?_)
      show Ev Z _ 123 33 [some (.ref 55), some (.int x1), some (.int x2), some (.int y3.1)] [.int y5.1] (mm_H y5.2) Q
      by_cases hc6 : y5.1 = (0 : Int32)
      · rw [if_pos hc6] at hf
        refine e_if_t (t := 53) hm_123 rfl (ct_eq hc6) rfl ?_
        refine e_iinc (L2 := [some (.ref 55), some (.int x1), some (.int (x2 + (1 : Int32))), some (.int y3.1)]) hm_123 rfl kc_iinc_1 rfl rfl ?_
        refine e_goto (t := 8) hm_123 rfl rfl ?_
        exact e_forget (L' := [some (.ref 55), some (.int x1), some (.int (x2 + (1 : Int32))), none]) (lf_k (lf_k (lf_k (lf_d lf_0)))) (ih x1 (x2 + (1 : Int32)) y5.2 Q hf hq)
      · rw [if_neg hc6] at hf
        refine e_if_f hm_123 rfl (cf_eq hc6) ?_
        refine e_aload_n hm_123 rfl rfl ?_
        refine e_getR hm_123 rfl rfl rfl rfl ?_
        refine e_iload_n hm_123 rfl rfl ?_
        refine e_aload_n hm_123 rfl rfl ?_
        refine e_iload_n hm_123 rfl rfl ?_
        obtain ⟨y7, hky7, hf⟩ := mm_bd hf
        refine e_virt hm_123 rfl rfl rfl rfl (Nat.le_of_ble_eq_true rfl) hm_125 rfl rfl (c_125 y3.1 y5.2 hky7 ?_)
        show Ev Z _ 123 46 [some (.ref 55), some (.int x1), some (.int x2), some (.int y3.1)] [.int y7.1, .int y3.1, .ref 61] (mm_H y7.2) Q
        obtain ⟨hi8, hf⟩ := mm_ite hf
        refine e_iast hm_123 rfl rfl hi8 ?_
        refine e_iload_n hm_123 rfl rfl ?_
        refine e_iconst hm_123 rfl kc_iconst_1 ?_
        refine e_iload_n hm_123 rfl rfl ?_
        refine e_ishl hm_123 rfl ?_
        refine e_ior hm_123 rfl ?_
        refine e_istore_n (L2 := [some (.ref 55), some (.int (x1 ||| ((1 : Int32) <<< (y3.1 &&& 31)))), some (.int x2), some (.int y3.1)]) hm_123 rfl rfl ?_
        refine e_iinc (L2 := [some (.ref 55), some (.int (x1 ||| ((1 : Int32) <<< (y3.1 &&& 31)))), some (.int (x2 + (1 : Int32))), some (.int y3.1)]) hm_123 rfl kc_iinc_1 rfl rfl ?_
        refine e_goto (t := 8) hm_123 rfl rfl ?_
        exact e_forget (L' := [some (.ref 55), some (.int (x1 ||| ((1 : Int32) <<< (y3.1 &&& 31)))), some (.int (x2 + (1 : Int32))), none]) (lf_k (lf_k (lf_k (lf_d lf_0)))) (ih (x1 ||| ((1 : Int32) <<< (y3.1 &&& 31))) (x2 + (1 : Int32)) (ak_up y7.2.1 61 y3.1.toNatClampNeg y7.1, y7.2.2) Q hf hq)
    · rw [if_neg hc2] at hf
      refine e_ic_t (t := 59) hm_123 rfl (ct_ge hc2) rfl ?_
      obtain rfl := Option.some.inj hf
      exact e_forget (L' := [none, none, none, none]) (lf_d (lf_d (lf_d (lf_k lf_0)))) hq
def pl_takeTurns (M : mm_M) : Option (Unit × mm_M) :=
  (pl_takeNone M).bind fun y1 =>
  (pl_takeTurns_l8 300 (0 : Int32) (0 : Int32) y1.2).bind fun y2 =>
  some ((), y2.2)
set_option maxRecDepth 20000 in
set_option maxHeartbeats 4000000 in
theorem c_123 {Z : ak_Z} {d : Nat} (M : mm_M) {y : Unit × mm_M} (hf : pl_takeTurns M = some y) {Q : Option Value → ak_H → Prop} (hq : Q none (mm_H y.2)) : Ev Z (d + 4) 123 0 [some (.ref 55), none, none, none] [] (mm_H M) Q := by
  rw [pl_takeTurns] at hf
  refine e_aload_n hm_123 rfl rfl ?_
  obtain ⟨y1, hky1, hf⟩ := mm_bd hf
  refine e_virt hm_123 rfl rfl rfl rfl (Nat.le_of_ble_eq_true rfl) hm_114 rfl rfl (c_114 M hky1 ?_)
  show Ev Z _ 123 4 [some (.ref 55), none, none, none] [] (mm_H y1.2) Q
  refine e_iconst hm_123 rfl kc_iconst_0 ?_
  refine e_istore_n (L2 := [some (.ref 55), some (.int (0 : Int32)), none, none]) hm_123 rfl rfl ?_
  refine e_iconst hm_123 rfl kc_iconst_0 ?_
  refine e_istore_n (L2 := [some (.ref 55), some (.int (0 : Int32)), some (.int (0 : Int32)), none]) hm_123 rfl rfl ?_
  obtain ⟨y2, hky2, hf⟩ := mm_bd hf
  refine e_forget (L' := [some (.ref 55), some (.int (0 : Int32)), some (.int (0 : Int32)), none]) (lf_k (lf_k (lf_k (lf_k lf_0)))) (lc_123_8 (d := _) 300 (0 : Int32) (0 : Int32) y1.2 Q hky2 ?_)
  show Ev Z _ 123 59 [none, none, none, none] [] (mm_H y2.2) Q
  obtain rfl := Option.some.inj hf
  exact e_vret hm_123 rfl rfl hq
def pl_withNone_l4 : Nat → Int32 → Int32 → mm_M → Option (((Int32) × mm_M))
  | 0, _, _, _ => none
  | n + 1, x1, x2, M =>
    if mm_is8 M.2.1 = true then
    if x2 < (M.1 M.2.1 4) then
      if ak_inb x2 4 = true then
      if (M.1 61 x2.toNatClampNeg) = (0 : Int32) then
        pl_withNone_l4 n (x1 + (1 : Int32)) (x2 + (1 : Int32)) M
      else
        pl_withNone_l4 n (x1 + (0 : Int32)) (x2 + (1 : Int32)) M else none
    else
      some (x1, M) else none
set_option maxRecDepth 20000 in
set_option maxHeartbeats 4000000 in
theorem lc_126_4 {Z : ak_Z} {d : Nat} : ∀ (n : Nat) (x1 : Int32) (x2 : Int32) (M : mm_M) {y : ((Int32) × mm_M)} (Q : Option Value → ak_H → Prop), pl_withNone_l4 n x1 x2 M = some y → (Ev Z (d + 0) 126 38 [none, some (.int y.1), none] [] (mm_H y.2) Q) → Ev Z (d + 0) 126 4 [some (.ref 55), some (.int x1), some (.int x2)] [] (mm_H M) Q := by
  intro n
  induction n with
  | zero => intro x1 x2 M y Q hf; cases hf
  | succ n ih =>
    intro x1 x2 M y Q hf hq
    rw [pl_withNone_l4] at hf
    refine e_iload_n hm_126 rfl rfl ?_
    refine e_aload_n hm_126 rfl rfl ?_
    obtain ⟨hp1, hf⟩ := mm_ite hf
    refine e_getR hm_126 rfl rfl rfl rfl ?_
    refine e_getI hm_126 rfl (mm_cl8 hp1) rfl ?_
    by_cases hc2 : x2 < (M.1 M.2.1 4)
    · rw [if_pos hc2] at hf
      refine e_ic_f hm_126 rfl (cf_ge hc2) ?_
      refine e_iload_n hm_126 rfl rfl ?_
      refine e_aload_n hm_126 rfl rfl ?_
      refine e_getR hm_126 rfl rfl rfl rfl ?_
      refine e_iload_n hm_126 rfl rfl ?_
      obtain ⟨hi3, hf⟩ := mm_ite hf
      refine e_iald hm_126 rfl rfl hi3 ?_
      by_cases hc4 : (M.1 61 x2.toNatClampNeg) = (0 : Int32)
      · rw [if_pos hc4] at hf
        refine e_if_f hm_126 rfl (cf_ne hc4) ?_
        refine e_iconst hm_126 rfl kc_iconst_1 ?_
        refine e_goto (t := 30) hm_126 rfl rfl ?_
        refine e_iadd hm_126 rfl ?_
        refine e_istore_n (L2 := [some (.ref 55), some (.int (x1 + (1 : Int32))), some (.int x2)]) hm_126 rfl rfl ?_
        refine e_iinc (L2 := [some (.ref 55), some (.int (x1 + (1 : Int32))), some (.int (x2 + (1 : Int32)))]) hm_126 rfl kc_iinc_1 rfl rfl ?_
        refine e_goto (t := 4) hm_126 rfl rfl ?_
        exact e_forget (L' := [some (.ref 55), some (.int (x1 + (1 : Int32))), some (.int (x2 + (1 : Int32)))]) (lf_k (lf_k (lf_k lf_0))) (ih (x1 + (1 : Int32)) (x2 + (1 : Int32)) M Q hf hq)
      · rw [if_neg hc4] at hf
        refine e_if_t (t := 29) hm_126 rfl (ct_ne hc4) rfl ?_
        refine e_iconst hm_126 rfl kc_iconst_0 ?_
        refine e_iadd hm_126 rfl ?_
        refine e_istore_n (L2 := [some (.ref 55), some (.int (x1 + (0 : Int32))), some (.int x2)]) hm_126 rfl rfl ?_
        refine e_iinc (L2 := [some (.ref 55), some (.int (x1 + (0 : Int32))), some (.int (x2 + (1 : Int32)))]) hm_126 rfl kc_iinc_1 rfl rfl ?_
        refine e_goto (t := 4) hm_126 rfl rfl ?_
        exact e_forget (L' := [some (.ref 55), some (.int (x1 + (0 : Int32))), some (.int (x2 + (1 : Int32)))]) (lf_k (lf_k (lf_k lf_0))) (ih (x1 + (0 : Int32)) (x2 + (1 : Int32)) M Q hf hq)
    · rw [if_neg hc2] at hf
      refine e_ic_t (t := 38) hm_126 rfl (ct_ge hc2) rfl ?_
      obtain rfl := Option.some.inj hf
      exact e_forget (L' := [none, some (.int x1), none]) (lf_d (lf_k (lf_d lf_0))) hq
def pl_withNone (M : mm_M) : Option (Int32 × mm_M) :=
  (pl_withNone_l4 300 (0 : Int32) (0 : Int32) M).bind fun y1 =>
  some (y1.1, y1.2)
set_option maxRecDepth 20000 in
set_option maxHeartbeats 4000000 in
theorem c_126 {Z : ak_Z} {d : Nat} (M : mm_M) {y : Int32 × mm_M} (hf : pl_withNone M = some y) {Q : Option Value → ak_H → Prop} (hq : Q (some (.int y.1)) (mm_H y.2)) : Ev Z (d + 0) 126 0 [some (.ref 55), none, none] [] (mm_H M) Q := by
  rw [pl_withNone] at hf
  refine e_iconst hm_126 rfl kc_iconst_0 ?_
  refine e_istore_n (L2 := [some (.ref 55), some (.int (0 : Int32)), none]) hm_126 rfl rfl ?_
  refine e_iconst hm_126 rfl kc_iconst_0 ?_
  refine e_istore_n (L2 := [some (.ref 55), some (.int (0 : Int32)), some (.int (0 : Int32))]) hm_126 rfl rfl ?_
  obtain ⟨y1, hky1, hf⟩ := mm_bd hf
  refine e_forget (L' := [some (.ref 55), some (.int (0 : Int32)), some (.int (0 : Int32))]) (lf_k (lf_k (lf_k lf_0))) (lc_126_4 (d := _) 300 (0 : Int32) (0 : Int32) M Q hky1 ?_)
  show Ev Z _ 126 38 [none, some (.int y1.1), none] [] (mm_H y1.2) Q
  refine e_iload_n hm_126 rfl rfl ?_
  obtain rfl := Option.some.inj hf
  exact e_iret hm_126 rfl rfl hq
def nb_inTurn (a1 : Int32) (M : mm_M) : Option (Int32 × mm_M) :=
  if a1 < (0 : Int32) then
    some ((-100000 : Int32), M)
  else
    if (2 : Int32) < a1 then
      some ((-100000 : Int32), M)
    else
      (pl_look 1 M).bind fun y3 =>
      (pl_takeTurns y3.2).bind fun y4 =>
      if a1 = (0 : Int32) then
        (pl_inDigits y4.2).bind fun y6 =>
        some (y6.1, y6.2)
      else
        if a1 = (1 : Int32) then
          (pl_all y4.2).bind fun y8 =>
          some (y8.1, y8.2)
        else
          (pl_withNone y4.2).bind fun y9 =>
          some (y9.1, y9.2)
set_option maxRecDepth 20000 in
set_option maxHeartbeats 4000000 in
theorem c_122 {Z : ak_Z} {d : Nat} (a1 : Int32) (M : mm_M) {y : Int32 × mm_M} (hf : nb_inTurn a1 M = some y) {Q : Option Value → ak_H → Prop} (hq : Q (some (.int y.1)) (mm_H y.2)) : Ev Z (d + 6) 122 0 [some (.ref 0), some (.int a1)] [] (mm_H M) Q := by
  rw [nb_inTurn] at hf
  refine e_iload_n hm_122 rfl rfl ?_
  by_cases hc1 : a1 < (0 : Int32)
  · rw [if_pos hc1] at hf
    refine e_if_t (t := 9) hm_122 rfl (ct_lt hc1) rfl ?_
    refine e_ldc hm_122 rfl kc_ldc_m100000 ?_
    obtain rfl := Option.some.inj hf
    exact e_iret hm_122 rfl rfl hq
  · rw [if_neg hc1] at hf
    refine e_if_f hm_122 rfl (cf_lt hc1) ?_
    refine e_iload_n hm_122 rfl rfl ?_
    refine e_iconst hm_122 rfl kc_iconst_2 ?_
    by_cases hc2 : (2 : Int32) < a1
    · rw [if_pos hc2] at hf
      refine e_ic_f hm_122 rfl (cf_le hc2) ?_
      refine e_ldc hm_122 rfl kc_ldc_m100000 ?_
      obtain rfl := Option.some.inj hf
      exact e_iret hm_122 rfl rfl hq
    · rw [if_neg hc2] at hf
      refine e_ic_t (t := 12) hm_122 rfl (ct_le hc2) rfl ?_
      refine e_aload_n hm_122 rfl rfl ?_
      refine e_getR hm_122 rfl rfl rfl rfl ?_
      refine e_aload_n hm_122 rfl rfl ?_
      refine e_getR hm_122 rfl rfl rfl rfl ?_
      obtain ⟨y3, hky3, hf⟩ := mm_bd hf
      refine e_virt hm_122 rfl rfl rfl rfl (Nat.le_of_ble_eq_true rfl) hm_99 rfl rfl (c_99 1 M rfl hky3 ?_)
      show Ev Z _ 122 23 [some (.ref 0), some (.int a1)] [] (mm_H y3.2) Q
      refine e_aload_n hm_122 rfl rfl ?_
      refine e_getR hm_122 rfl rfl rfl rfl ?_
      obtain ⟨y4, hky4, hf⟩ := mm_bd hf
      refine e_virt hm_122 rfl rfl rfl rfl (Nat.le_of_ble_eq_true rfl) hm_123 rfl rfl (c_123 y3.2 hky4 ?_)
      show Ev Z _ 122 30 [some (.ref 0), some (.int a1)] [] (mm_H y4.2) Q
      refine e_iload_n hm_122 rfl rfl ?_
      by_cases hc5 : a1 = (0 : Int32)
      · rw [if_pos hc5] at hf
        refine e_if_f hm_122 rfl (cf_ne hc5) ?_
        refine e_aload_n hm_122 rfl rfl ?_
        refine e_getR hm_122 rfl rfl rfl rfl ?_
        obtain ⟨y6, hky6, hf⟩ := mm_bd hf
        refine e_virt hm_122 rfl rfl rfl rfl (Nat.le_of_ble_eq_true rfl) hm_121 rfl rfl (c_121 y4.2 hky6 ?_)
        show Ev Z _ 122 41 [some (.ref 0), some (.int a1)] [.int y6.1] (mm_H y6.2) Q
        obtain rfl := Option.some.inj hf
        exact e_iret hm_122 rfl rfl hq
      · rw [if_neg hc5] at hf
        refine e_if_t (t := 42) hm_122 rfl (ct_ne hc5) rfl ?_
        refine e_iload_n hm_122 rfl rfl ?_
        refine e_iconst hm_122 rfl kc_iconst_1 ?_
        by_cases hc7 : a1 = (1 : Int32)
        · rw [if_pos hc7] at hf
          refine e_ic_f hm_122 rfl (cf_ne hc7) ?_
          refine e_aload_n hm_122 rfl rfl ?_
          refine e_getR hm_122 rfl rfl rfl rfl ?_
          obtain ⟨y8, hky8, hf⟩ := mm_bd hf
          refine e_virt hm_122 rfl rfl rfl rfl (Nat.le_of_ble_eq_true rfl) hm_109 rfl rfl (c_109 y4.2 hky8 ?_)
          show Ev Z _ 122 54 [some (.ref 0), some (.int a1)] [.int y8.1] (mm_H y8.2) Q
          refine e_goto (t := 64) hm_122 rfl rfl ?_
          obtain rfl := Option.some.inj hf
          exact e_iret hm_122 rfl rfl hq
        · rw [if_neg hc7] at hf
          refine e_ic_t (t := 57) hm_122 rfl (ct_ne hc7) rfl ?_
          refine e_aload_n hm_122 rfl rfl ?_
          refine e_getR hm_122 rfl rfl rfl rfl ?_
          obtain ⟨y9, hky9, hf⟩ := mm_bd hf
          refine e_virt hm_122 rfl rfl rfl rfl (Nat.le_of_ble_eq_true rfl) hm_126 rfl rfl (c_126 y4.2 hky9 ?_)
          show Ev Z _ 122 64 [some (.ref 0), some (.int a1)] [.int y9.1] (mm_H y9.2) Q
          obtain rfl := Option.some.inj hf
          exact e_iret hm_122 rfl rfl hq
def pl_swap (a1 : Int32) (a2 : Int32) (M : mm_M) : Option (Unit × mm_M) :=
  if mm_is8 M.2.1 = true then
  (sh_isOne M.2.1 a1 M).bind fun y2 =>
  if y2.1 = (0 : Int32) then
    some ((), y2.2)
  else
    if mm_is8 y2.2.2.1 = true then
    (sh_isOne y2.2.2.1 a2 y2.2).bind fun y5 =>
    if y5.1 = (0 : Int32) then
      some ((), y5.2)
    else
      if ak_inb a1 4 = true then
      if ak_inb a2 4 = true then
      if ak_inb a1 4 = true then
      if ak_inb a2 4 = true then
      some ((), (ak_up (ak_up y5.2.1 61 a1.toNatClampNeg (y5.2.1 61 a2.toNatClampNeg)) 61 a2.toNatClampNeg (y5.2.1 61 a1.toNatClampNeg), y5.2.2)) else none else none else none else none else none else none
set_option maxRecDepth 20000 in
set_option maxHeartbeats 4000000 in
theorem c_129 {Z : ak_Z} {d : Nat} (a1 : Int32) (a2 : Int32) (M : mm_M) {y : Unit × mm_M} (hf : pl_swap a1 a2 M = some y) {Q : Option Value → ak_H → Prop} (hq : Q none (mm_H y.2)) : Ev Z (d + 1) 129 0 [some (.ref 55), some (.int a1), some (.int a2), none] [] (mm_H M) Q := by
  rw [pl_swap] at hf
  refine e_aload_n hm_129 rfl rfl ?_
  obtain ⟨hp1, hf⟩ := mm_ite hf
  refine e_getR hm_129 rfl rfl rfl rfl ?_
  refine e_iload_n hm_129 rfl rfl ?_
  obtain ⟨y2, hky2, hf⟩ := mm_bd hf
  refine e_virt hm_129 rfl rfl rfl (mm_cl8 hp1) (Nat.le_of_ble_eq_true rfl) hm_16 rfl rfl (c_16 M.2.1 a1 M hp1 hky2 ?_)
  show Ev Z _ 129 8 [some (.ref 55), some (.int a1), some (.int a2), none] [.int y2.1] (mm_H y2.2) Q
  by_cases hc3 : y2.1 = (0 : Int32)
  · rw [if_pos hc3] at hf
    refine e_if_t (t := 48) hm_129 rfl (ct_eq hc3) rfl ?_
    obtain rfl := Option.some.inj hf
    exact e_vret hm_129 rfl rfl hq
  · rw [if_neg hc3] at hf
    refine e_if_f hm_129 rfl (cf_eq hc3) ?_
    refine e_aload_n hm_129 rfl rfl ?_
    obtain ⟨hp4, hf⟩ := mm_ite hf
    refine e_getR hm_129 rfl rfl rfl rfl ?_
    refine e_iload_n hm_129 rfl rfl ?_
    obtain ⟨y5, hky5, hf⟩ := mm_bd hf
    refine e_virt hm_129 rfl rfl rfl (mm_cl8 hp4) (Nat.le_of_ble_eq_true rfl) hm_16 rfl rfl (c_16 y2.2.2.1 a2 y2.2 hp4 hky5 ?_)
    show Ev Z _ 129 19 [some (.ref 55), some (.int a1), some (.int a2), none] [.int y5.1] (mm_H y5.2) Q
    by_cases hc6 : y5.1 = (0 : Int32)
    · rw [if_pos hc6] at hf
      refine e_if_t (t := 48) hm_129 rfl (ct_eq hc6) rfl ?_
      obtain rfl := Option.some.inj hf
      exact e_vret hm_129 rfl rfl hq
    · rw [if_neg hc6] at hf
      refine e_if_f hm_129 rfl (cf_eq hc6) ?_
      refine e_aload_n hm_129 rfl rfl ?_
      refine e_getR hm_129 rfl rfl rfl rfl ?_
      refine e_iload_n hm_129 rfl rfl ?_
      obtain ⟨hi7, hf⟩ := mm_ite hf
      refine e_iald hm_129 rfl rfl hi7 ?_
      refine e_istore_n (L2 := [some (.ref 55), some (.int a1), some (.int a2), some (.int (y5.2.1 61 a1.toNatClampNeg))]) hm_129 rfl rfl ?_
      refine e_aload_n hm_129 rfl rfl ?_
      refine e_getR hm_129 rfl rfl rfl rfl ?_
      refine e_iload_n hm_129 rfl rfl ?_
      refine e_aload_n hm_129 rfl rfl ?_
      refine e_getR hm_129 rfl rfl rfl rfl ?_
      refine e_iload_n hm_129 rfl rfl ?_
      obtain ⟨hi8, hf⟩ := mm_ite hf
      refine e_iald hm_129 rfl rfl hi8 ?_
      obtain ⟨hi9, hf⟩ := mm_ite hf
      refine e_iast hm_129 rfl rfl hi9 ?_
      refine e_aload_n hm_129 rfl rfl ?_
      refine e_getR hm_129 rfl rfl rfl rfl ?_
      refine e_iload_n hm_129 rfl rfl ?_
      refine e_iload_n hm_129 rfl rfl ?_
      obtain ⟨hi10, hf⟩ := mm_ite hf
      refine e_iast hm_129 rfl rfl hi10 ?_
      obtain rfl := Option.some.inj hf
      exact e_vret hm_129 rfl rfl hq
