/-! printed: the functions of the methods, and that the small machine does them -/
def md_chance_l32 : Nat → Int32 → Int32 → Int32 → Int64 → Int32 → mm_M → Option (((Int64) × mm_M))
  | 0, _, _, _, _, _, _ => none
  | n + 1, x1, x2, x3, x4, x6, M =>
    if x6 < x2 then
      (md_draws (x1 + x6) M).bind fun y2 =>
      (md_noneMany y2.2).bind fun y3 =>
      if y3.1 = (0 : Int32) then
        md_chance_l32 n x1 x2 x3 (x4 + (1 : Int64)) (x6 + (1 : Int32)) y3.2
      else
        md_chance_l32 n x1 x2 x3 (x4 + (0 : Int64)) (x6 + (1 : Int32)) y3.2
    else
      some (x4, M)
set_option maxRecDepth 20000 in
set_option maxHeartbeats 4000000 in
theorem lc_236_32 {Z : ak_Z} {d : Nat} : ∀ (n : Nat) (x1 : Int32) (x2 : Int32) (x3 : Int32) (x4 : Int64) (x6 : Int32) (M : mm_M) {y : ((Int64) × mm_M)} (Q : Option Value → ak_H → Prop), md_chance_l32 n x1 x2 x3 x4 x6 M = some y → (Ev Z (d + 72) 236 69 [none, none, some (.int x2), some (.int x3), some (.long y.1), none, none, none, none, none, none, none] [] (mm_H y.2) Q) → Ev Z (d + 72) 236 32 [some (.ref 73), some (.int x1), some (.int x2), some (.int x3), some (.long x4), none, some (.int x6), none, none, none, none, none] [] (mm_H M) Q := by
  intro n
  induction n with
  | zero => intro x1 x2 x3 x4 x6 M y Q hf; cases hf
  | succ n ih =>
    intro x1 x2 x3 x4 x6 M y Q hf hq
    rw [md_chance_l32] at hf
    refine e_iload hm_236 rfl rfl ?_
    refine e_iload_n hm_236 rfl rfl ?_
    by_cases hc1 : x6 < x2
    · rw [if_pos hc1] at hf
      refine e_ic_f hm_236 rfl (cf_ge hc1) ?_
      refine e_aload_n hm_236 rfl rfl ?_
      refine e_iload_n hm_236 rfl rfl ?_
      refine e_iload hm_236 rfl rfl ?_
      refine e_iadd hm_236 rfl ?_
      obtain ⟨y2, hky2, hf⟩ := mm_bd hf
      refine e_virt hm_236 rfl rfl rfl rfl (Nat.le_of_ble_eq_true rfl) hm_235 rfl rfl (c_235 (x1 + x6) M hky2 ?_)
      show Ev Z _ 236 46 [some (.ref 73), some (.int x1), some (.int x2), some (.int x3), some (.long x4), none, some (.int x6), none, none, none, none, none] [] (mm_H y2.2) Q
      refine e_lload hm_236 rfl rfl ?_
      refine e_aload_n hm_236 rfl rfl ?_
      obtain ⟨y3, hky3, hf⟩ := mm_bd hf
      refine e_virt hm_236 rfl rfl rfl rfl (Nat.le_of_ble_eq_true rfl) hm_225 rfl rfl (c_225 y2.2 hky3 ?_)
      show Ev Z _ 236 52 [some (.ref 73), some (.int x1), some (.int x2), some (.int x3), some (.long x4), none, some (.int x6), none, none, none, none, none] [.int y3.1, .long x4] (mm_H y3.2) Q
      by_cases hc4 : y3.1 = (0 : Int32)
      · rw [if_pos hc4] at hf
        refine e_if_f hm_236 rfl (cf_ne hc4) ?_
        refine e_lconst hm_236 rfl rfl ?_
        refine e_goto (t := 60) hm_236 rfl rfl ?_
        refine e_ladd hm_236 rfl ?_
        refine e_lstore (L2 := [some (.ref 73), some (.int x1), some (.int x2), some (.int x3), some (.long (x4 + (1 : Int64))), none, some (.int x6), none, none, none, none, none]) hm_236 rfl rfl ?_
        refine e_iinc (L2 := [some (.ref 73), some (.int x1), some (.int x2), some (.int x3), some (.long (x4 + (1 : Int64))), none, some (.int (x6 + (1 : Int32))), none, none, none, none, none]) hm_236 rfl kc_iinc_1 rfl rfl ?_
        refine e_goto (t := 32) hm_236 rfl rfl ?_
        exact e_forget (L' := [some (.ref 73), some (.int x1), some (.int x2), some (.int x3), some (.long (x4 + (1 : Int64))), none, some (.int (x6 + (1 : Int32))), none, none, none, none, none]) (lf_k (lf_k (lf_k (lf_k (lf_k (lf_k (lf_k (lf_k (lf_k (lf_k (lf_k (lf_k lf_0)))))))))))) (ih x1 x2 x3 (x4 + (1 : Int64)) (x6 + (1 : Int32)) y3.2 Q hf hq)
      · rw [if_neg hc4] at hf
        refine e_if_t (t := 59) hm_236 rfl (ct_ne hc4) rfl ?_
        refine e_lconst hm_236 rfl rfl ?_
        refine e_ladd hm_236 rfl ?_
        refine e_lstore (L2 := [some (.ref 73), some (.int x1), some (.int x2), some (.int x3), some (.long (x4 + (0 : Int64))), none, some (.int x6), none, none, none, none, none]) hm_236 rfl rfl ?_
        refine e_iinc (L2 := [some (.ref 73), some (.int x1), some (.int x2), some (.int x3), some (.long (x4 + (0 : Int64))), none, some (.int (x6 + (1 : Int32))), none, none, none, none, none]) hm_236 rfl kc_iinc_1 rfl rfl ?_
        refine e_goto (t := 32) hm_236 rfl rfl ?_
        exact e_forget (L' := [some (.ref 73), some (.int x1), some (.int x2), some (.int x3), some (.long (x4 + (0 : Int64))), none, some (.int (x6 + (1 : Int32))), none, none, none, none, none]) (lf_k (lf_k (lf_k (lf_k (lf_k (lf_k (lf_k (lf_k (lf_k (lf_k (lf_k (lf_k lf_0)))))))))))) (ih x1 x2 x3 (x4 + (0 : Int64)) (x6 + (1 : Int32)) y3.2 Q hf hq)
    · rw [if_neg hc1] at hf
      refine e_ic_t (t := 69) hm_236 rfl (ct_ge hc1) rfl ?_
      obtain rfl := Option.some.inj hf
      exact e_forget (L' := [none, none, some (.int x2), some (.int x3), some (.long x4), none, none, none, none, none, none, none]) (lf_d (lf_d (lf_k (lf_k (lf_k (lf_k (lf_d (lf_k (lf_k (lf_k (lf_k (lf_k lf_0)))))))))))) hq
def md_chance_l77 : Nat → Int32 → Int32 → Int64 → Int64 → Int64 → mm_M → Option (((Int64) × mm_M))
  | 0, _, _, _, _, _, _ => none
  | n + 1, x2, x3, x4, x6, x8, M =>
    if (lg_cmp x8 (0 : Int64)) = (0 : Int32) then
      some (x6, M)
    else
      if ¬ x8 = 0 then
      md_chance_l77 n x2 x3 x4 x8 (x6 - x6 / x8 * x8) M else none
set_option maxRecDepth 20000 in
set_option maxHeartbeats 4000000 in
theorem lc_236_77 {Z : ak_Z} {d : Nat} : ∀ (n : Nat) (x2 : Int32) (x3 : Int32) (x4 : Int64) (x6 : Int64) (x8 : Int64) (M : mm_M) {y : ((Int64) × mm_M)} (Q : Option Value → ak_H → Prop), md_chance_l77 n x2 x3 x4 x6 x8 M = some y → (Ev Z (d + 72) 236 102 [none, none, some (.int x2), some (.int x3), some (.long x4), none, some (.long y.1), none, none, none, none, none] [] (mm_H y.2) Q) → Ev Z (d + 72) 236 77 [none, none, some (.int x2), some (.int x3), some (.long x4), none, some (.long x6), none, some (.long x8), none, none, none] [] (mm_H M) Q := by
  intro n
  induction n with
  | zero => intro x2 x3 x4 x6 x8 M y Q hf; cases hf
  | succ n ih =>
    intro x2 x3 x4 x6 x8 M y Q hf hq
    rw [md_chance_l77] at hf
    refine e_lload hm_236 rfl rfl ?_
    refine e_lconst hm_236 rfl rfl ?_
    refine e_lcmp hm_236 rfl ?_
    by_cases hc1 : (lg_cmp x8 (0 : Int64)) = (0 : Int32)
    · rw [if_pos hc1] at hf
      refine e_if_t (t := 102) hm_236 rfl (ct_eq hc1) rfl ?_
      obtain rfl := Option.some.inj hf
      exact e_forget (L' := [none, none, some (.int x2), some (.int x3), some (.long x4), none, some (.long x6), none, none, none, none, none]) (lf_k (lf_k (lf_k (lf_k (lf_k (lf_k (lf_k (lf_k (lf_d (lf_k (lf_k (lf_k lf_0)))))))))))) hq
    · rw [if_neg hc1] at hf
      refine e_if_f hm_236 rfl (cf_eq hc1) ?_
      refine e_lload hm_236 rfl rfl ?_
      refine e_lload hm_236 rfl rfl ?_
      obtain ⟨hg2, hf⟩ := mm_ite hf
      refine e_lrem hm_236 rfl hg2 ?_
      refine e_lstore (L2 := [none, none, some (.int x2), some (.int x3), some (.long x4), none, some (.long x6), none, some (.long x8), none, some (.long (x6 - x6 / x8 * x8)), none]) hm_236 rfl rfl ?_
      refine e_lload hm_236 rfl rfl ?_
      refine e_lstore (L2 := [none, none, some (.int x2), some (.int x3), some (.long x4), none, some (.long x8), none, some (.long x8), none, some (.long (x6 - x6 / x8 * x8)), none]) hm_236 rfl rfl ?_
      refine e_lload hm_236 rfl rfl ?_
      refine e_lstore (L2 := [none, none, some (.int x2), some (.int x3), some (.long x4), none, some (.long x8), none, some (.long (x6 - x6 / x8 * x8)), none, some (.long (x6 - x6 / x8 * x8)), none]) hm_236 rfl rfl ?_
      refine e_goto (t := 77) hm_236 rfl rfl ?_
      exact e_forget (L' := [none, none, some (.int x2), some (.int x3), some (.long x4), none, some (.long x8), none, some (.long (x6 - x6 / x8 * x8)), none, none, none]) (lf_k (lf_k (lf_k (lf_k (lf_k (lf_k (lf_k (lf_k (lf_k (lf_k (lf_d (lf_k lf_0)))))))))))) (ih x2 x3 x4 x8 (x6 - x6 / x8 * x8) M Q hf hq)
def md_chance (a1 : Int32) (a2 : Int32) (a3 : Int32) (M : mm_M) : Option (Int64 × mm_M) :=
  (md_in a2.toInt64 (1 : Int64) (20 : Int64) M).bind fun y1 =>
  if y1.1 = (0 : Int32) then
    some ((-4611686018427387904 : Int64), y1.2)
  else
    (md_in a3.toInt64 (0 : Int64) (1 : Int64) y1.2).bind fun y3 =>
    if y3.1 = (0 : Int32) then
      some ((-4611686018427387904 : Int64), y3.2)
    else
      (md_chance_l32 300 a1 a2 a3 (0 : Int64) (0 : Int32) y3.2).bind fun y5 =>
      (md_chance_l77 300 a2 a3 y5.1 y5.1 a2.toInt64 y5.2).bind fun y6 =>
      if a3 = (0 : Int32) then
        if ¬ y6.1 = 0 then
        some (y5.1 / y6.1, y6.2) else none
      else
        if ¬ y6.1 = 0 then
        some (a2.toInt64 / y6.1, y6.2) else none
set_option maxRecDepth 20000 in
set_option maxHeartbeats 4000000 in
theorem c_236 {Z : ak_Z} {d : Nat} (a1 : Int32) (a2 : Int32) (a3 : Int32) (M : mm_M) {y : Int64 × mm_M} (hf : md_chance a1 a2 a3 M = some y) {Q : Option Value → ak_H → Prop} (hq : Q (some (.long y.1)) (mm_H y.2)) : Ev Z (d + 72) 236 0 [some (.ref 73), some (.int a1), some (.int a2), some (.int a3), none, none, none, none, none, none, none, none] [] (mm_H M) Q := by
  rw [md_chance] at hf
  refine e_iload_n hm_236 rfl rfl ?_
  refine e_i2l hm_236 rfl ?_
  refine e_lconst hm_236 rfl rfl ?_
  refine e_ldc2 hm_236 rfl kc_ldc2_20 ?_
  obtain ⟨y1, hky1, hf⟩ := mm_bd hf
  refine e_stat hm_236 rfl (by decide) rfl rfl (Nat.le_of_ble_eq_true rfl) hm_169 rfl rfl (c_169 a2.toInt64 (1 : Int64) (20 : Int64) M hky1 ?_)
  show Ev Z _ 236 9 [some (.ref 73), some (.int a1), some (.int a2), some (.int a3), none, none, none, none, none, none, none, none] [.int y1.1] (mm_H y1.2) Q
  by_cases hc2 : y1.1 = (0 : Int32)
  · rw [if_pos hc2] at hf
    refine e_if_t (t := 22) hm_236 rfl (ct_eq hc2) rfl ?_
    refine e_ldc2 hm_236 rfl kc_ldc2_m4611686018427387904 ?_
    obtain rfl := Option.some.inj hf
    exact e_lret hm_236 rfl rfl hq
  · rw [if_neg hc2] at hf
    refine e_if_f hm_236 rfl (cf_eq hc2) ?_
    refine e_iload_n hm_236 rfl rfl ?_
    refine e_i2l hm_236 rfl ?_
    refine e_lconst hm_236 rfl rfl ?_
    refine e_lconst hm_236 rfl rfl ?_
    obtain ⟨y3, hky3, hf⟩ := mm_bd hf
    refine e_stat hm_236 rfl (by decide) rfl rfl (Nat.le_of_ble_eq_true rfl) hm_169 rfl rfl (c_169 a3.toInt64 (0 : Int64) (1 : Int64) y1.2 hky3 ?_)
    show Ev Z _ 236 19 [some (.ref 73), some (.int a1), some (.int a2), some (.int a3), none, none, none, none, none, none, none, none] [.int y3.1] (mm_H y3.2) Q
    by_cases hc4 : y3.1 = (0 : Int32)
    · rw [if_pos hc4] at hf
      refine e_if_f hm_236 rfl (cf_ne hc4) ?_
      refine e_ldc2 hm_236 rfl kc_ldc2_m4611686018427387904 ?_
      obtain rfl := Option.some.inj hf
      exact e_lret hm_236 rfl rfl hq
    · rw [if_neg hc4] at hf
      refine e_if_t (t := 26) hm_236 rfl (ct_ne hc4) rfl ?_
      refine e_lconst hm_236 rfl rfl ?_
      refine e_lstore (L2 := [some (.ref 73), some (.int a1), some (.int a2), some (.int a3), some (.long (0 : Int64)), none, none, none, none, none, none, none]) hm_236 rfl rfl ?_
      refine e_iconst hm_236 rfl kc_iconst_0 ?_
      refine e_istore (L2 := [some (.ref 73), some (.int a1), some (.int a2), some (.int a3), some (.long (0 : Int64)), none, some (.int (0 : Int32)), none, none, none, none, none]) hm_236 rfl rfl ?_
      obtain ⟨y5, hky5, hf⟩ := mm_bd hf
      refine e_forget (L' := [some (.ref 73), some (.int a1), some (.int a2), some (.int a3), some (.long (0 : Int64)), none, some (.int (0 : Int32)), none, none, none, none, none]) (lf_k (lf_k (lf_k (lf_k (lf_k (lf_k (lf_k (lf_k (lf_k (lf_k (lf_k (lf_k lf_0)))))))))))) (lc_236_32 (d := _) 300 a1 a2 a3 (0 : Int64) (0 : Int32) y3.2 Q hky5 ?_)
      show Ev Z _ 236 69 [none, none, some (.int a2), some (.int a3), some (.long y5.1), none, none, none, none, none, none, none] [] (mm_H y5.2) Q
      refine e_lload hm_236 rfl rfl ?_
      refine e_lstore (L2 := [none, none, some (.int a2), some (.int a3), some (.long y5.1), none, some (.long y5.1), none, none, none, none, none]) hm_236 rfl rfl ?_
      refine e_iload_n hm_236 rfl rfl ?_
      refine e_i2l hm_236 rfl ?_
      refine e_lstore (L2 := [none, none, some (.int a2), some (.int a3), some (.long y5.1), none, some (.long y5.1), none, some (.long a2.toInt64), none, none, none]) hm_236 rfl rfl ?_
      obtain ⟨y6, hky6, hf⟩ := mm_bd hf
      refine e_forget (L' := [none, none, some (.int a2), some (.int a3), some (.long y5.1), none, some (.long y5.1), none, some (.long a2.toInt64), none, none, none]) (lf_k (lf_k (lf_k (lf_k (lf_k (lf_k (lf_k (lf_k (lf_k (lf_k (lf_k (lf_k lf_0)))))))))))) (lc_236_77 (d := _) 300 a2 a3 y5.1 y5.1 a2.toInt64 y5.2 Q hky6 ?_)
      show Ev Z _ 236 102 [none, none, some (.int a2), some (.int a3), some (.long y5.1), none, some (.long y6.1), none, none, none, none, none] [] (mm_H y6.2) Q
      refine e_iload_n hm_236 rfl rfl ?_
      by_cases hc7 : a3 = (0 : Int32)
      · rw [if_pos hc7] at hf
        refine e_if_f hm_236 rfl (cf_ne hc7) ?_
        refine e_lload hm_236 rfl rfl ?_
        refine e_lload hm_236 rfl rfl ?_
        obtain ⟨hg8, hf⟩ := mm_ite hf
        refine e_ldiv hm_236 rfl hg8 ?_
        refine e_goto (t := 119) hm_236 rfl rfl ?_
        obtain rfl := Option.some.inj hf
        exact e_lret hm_236 rfl rfl hq
      · rw [if_neg hc7] at hf
        refine e_if_t (t := 114) hm_236 rfl (ct_ne hc7) rfl ?_
        refine e_iload_n hm_236 rfl rfl ?_
        refine e_i2l hm_236 rfl ?_
        refine e_lload hm_236 rfl rfl ?_
        obtain ⟨hg9, hf⟩ := mm_ite hf
        refine e_ldiv hm_236 rfl hg9 ?_
        obtain rfl := Option.some.inj hf
        exact e_lret hm_236 rfl rfl hq
def md_image_l2 : Nat → Int32 → mm_M → Option (((Unit) × mm_M))
  | 0, _, _ => none
  | n + 1, x1, M =>
    if x1 < (3 : Int32) then
      if ak_inb x1 3 = true then
      if ak_inb x1 3 = true then
      md_image_l2 n (x1 + (1 : Int32)) (ak_up M.1 86 x1.toNatClampNeg (M.1 77 x1.toNatClampNeg), M.2) else none else none
    else
      some ((), M)
set_option maxRecDepth 20000 in
set_option maxHeartbeats 4000000 in
theorem lc_237_2 {Z : ak_Z} {d : Nat} : ∀ (n : Nat) (x1 : Int32) (M : mm_M) {y : ((Unit) × mm_M)} (Q : Option Value → ak_H → Prop), md_image_l2 n x1 M = some y → (Ev Z (d + 0) 237 25 [some (.ref 73), none] [] (mm_H y.2) Q) → Ev Z (d + 0) 237 2 [some (.ref 73), some (.int x1)] [] (mm_H M) Q := by
  intro n
  induction n with
  | zero => intro x1 M y Q hf; cases hf
  | succ n ih =>
    intro x1 M y Q hf hq
    rw [md_image_l2] at hf
    refine e_iload_n hm_237 rfl rfl ?_
    refine e_iconst hm_237 rfl kc_iconst_3 ?_
    by_cases hc1 : x1 < (3 : Int32)
    · rw [if_pos hc1] at hf
      refine e_ic_f hm_237 rfl (cf_ge hc1) ?_
      refine e_aload_n hm_237 rfl rfl ?_
      refine e_getR hm_237 rfl rfl rfl rfl ?_
      refine e_iload_n hm_237 rfl rfl ?_
      refine e_aload_n hm_237 rfl rfl ?_
      refine e_getR hm_237 rfl rfl rfl rfl ?_
      refine e_iload_n hm_237 rfl rfl ?_
      obtain ⟨hi2, hf⟩ := mm_ite hf
      refine e_iald hm_237 rfl rfl hi2 ?_
      obtain ⟨hi3, hf⟩ := mm_ite hf
      refine e_iast hm_237 rfl rfl hi3 ?_
      refine e_iinc (L2 := [some (.ref 73), some (.int (x1 + (1 : Int32)))]) hm_237 rfl kc_iinc_1 rfl rfl ?_
      refine e_goto (t := 2) hm_237 rfl rfl ?_
      exact e_forget (L' := [some (.ref 73), some (.int (x1 + (1 : Int32)))]) (lf_k (lf_k lf_0)) (ih (x1 + (1 : Int32)) (ak_up M.1 86 x1.toNatClampNeg (M.1 77 x1.toNatClampNeg), M.2) Q hf hq)
    · rw [if_neg hc1] at hf
      refine e_ic_t (t := 25) hm_237 rfl (ct_ge hc1) rfl ?_
      obtain rfl := Option.some.inj hf
      exact e_forget (L' := [some (.ref 73), none]) (lf_k (lf_d lf_0)) hq
def md_image_l27 : Nat → Int32 → mm_M → Option (((Unit) × mm_M))
  | 0, _, _ => none
  | n + 1, x1, M =>
    if x1 < (20 : Int32) then
      if ak_inb x1 20 = true then
      if ak_inb x1 20 = true then
      md_image_l27 n (x1 + (1 : Int32)) (ak_up M.1 87 x1.toNatClampNeg (M.1 79 x1.toNatClampNeg), M.2) else none else none
    else
      some ((), M)
set_option maxRecDepth 20000 in
set_option maxHeartbeats 4000000 in
theorem lc_237_27 {Z : ak_Z} {d : Nat} : ∀ (n : Nat) (x1 : Int32) (M : mm_M) {y : ((Unit) × mm_M)} (Q : Option Value → ak_H → Prop), md_image_l27 n x1 M = some y → (Ev Z (d + 0) 237 51 [some (.ref 73), none] [] (mm_H y.2) Q) → Ev Z (d + 0) 237 27 [some (.ref 73), some (.int x1)] [] (mm_H M) Q := by
  intro n
  induction n with
  | zero => intro x1 M y Q hf; cases hf
  | succ n ih =>
    intro x1 M y Q hf hq
    rw [md_image_l27] at hf
    refine e_iload_n hm_237 rfl rfl ?_
    refine e_bipush hm_237 rfl kc_bipush_20 ?_
    by_cases hc1 : x1 < (20 : Int32)
    · rw [if_pos hc1] at hf
      refine e_ic_f hm_237 rfl (cf_ge hc1) ?_
      refine e_aload_n hm_237 rfl rfl ?_
      refine e_getR hm_237 rfl rfl rfl rfl ?_
      refine e_iload_n hm_237 rfl rfl ?_
      refine e_aload_n hm_237 rfl rfl ?_
      refine e_getR hm_237 rfl rfl rfl rfl ?_
      refine e_iload_n hm_237 rfl rfl ?_
      obtain ⟨hi2, hf⟩ := mm_ite hf
      refine e_iald hm_237 rfl rfl hi2 ?_
      obtain ⟨hi3, hf⟩ := mm_ite hf
      refine e_iast hm_237 rfl rfl hi3 ?_
      refine e_iinc (L2 := [some (.ref 73), some (.int (x1 + (1 : Int32)))]) hm_237 rfl kc_iinc_1 rfl rfl ?_
      refine e_goto (t := 27) hm_237 rfl rfl ?_
      exact e_forget (L' := [some (.ref 73), some (.int (x1 + (1 : Int32)))]) (lf_k (lf_k lf_0)) (ih (x1 + (1 : Int32)) (ak_up M.1 87 x1.toNatClampNeg (M.1 79 x1.toNatClampNeg), M.2) Q hf hq)
    · rw [if_neg hc1] at hf
      refine e_ic_t (t := 51) hm_237 rfl (ct_ge hc1) rfl ?_
      obtain rfl := Option.some.inj hf
      exact e_forget (L' := [some (.ref 73), none]) (lf_k (lf_d lf_0)) hq
def md_image_l53 : Nat → Int32 → mm_M → Option (((Unit) × mm_M))
  | 0, _, _ => none
  | n + 1, x1, M =>
    if x1 < (4 : Int32) then
      if ak_inb x1 4 = true then
      if ak_inb x1 4 = true then
      md_image_l53 n (x1 + (1 : Int32)) (ak_up M.1 88 x1.toNatClampNeg (M.1 80 x1.toNatClampNeg), M.2) else none else none
    else
      some ((), M)
set_option maxRecDepth 20000 in
set_option maxHeartbeats 4000000 in
theorem lc_237_53 {Z : ak_Z} {d : Nat} : ∀ (n : Nat) (x1 : Int32) (M : mm_M) {y : ((Unit) × mm_M)} (Q : Option Value → ak_H → Prop), md_image_l53 n x1 M = some y → (Ev Z (d + 0) 237 76 [some (.ref 73), none] [] (mm_H y.2) Q) → Ev Z (d + 0) 237 53 [some (.ref 73), some (.int x1)] [] (mm_H M) Q := by
  intro n
  induction n with
  | zero => intro x1 M y Q hf; cases hf
  | succ n ih =>
    intro x1 M y Q hf hq
    rw [md_image_l53] at hf
    refine e_iload_n hm_237 rfl rfl ?_
    refine e_iconst hm_237 rfl kc_iconst_4 ?_
    by_cases hc1 : x1 < (4 : Int32)
    · rw [if_pos hc1] at hf
      refine e_ic_f hm_237 rfl (cf_ge hc1) ?_
      refine e_aload_n hm_237 rfl rfl ?_
      refine e_getR hm_237 rfl rfl rfl rfl ?_
      refine e_iload_n hm_237 rfl rfl ?_
      refine e_aload_n hm_237 rfl rfl ?_
      refine e_getR hm_237 rfl rfl rfl rfl ?_
      refine e_iload_n hm_237 rfl rfl ?_
      obtain ⟨hi2, hf⟩ := mm_ite hf
      refine e_iald hm_237 rfl rfl hi2 ?_
      obtain ⟨hi3, hf⟩ := mm_ite hf
      refine e_iast hm_237 rfl rfl hi3 ?_
      refine e_iinc (L2 := [some (.ref 73), some (.int (x1 + (1 : Int32)))]) hm_237 rfl kc_iinc_1 rfl rfl ?_
      refine e_goto (t := 53) hm_237 rfl rfl ?_
      exact e_forget (L' := [some (.ref 73), some (.int (x1 + (1 : Int32)))]) (lf_k (lf_k lf_0)) (ih (x1 + (1 : Int32)) (ak_up M.1 88 x1.toNatClampNeg (M.1 80 x1.toNatClampNeg), M.2) Q hf hq)
    · rw [if_neg hc1] at hf
      refine e_ic_t (t := 76) hm_237 rfl (ct_ge hc1) rfl ?_
      obtain rfl := Option.some.inj hf
      exact e_forget (L' := [some (.ref 73), none]) (lf_k (lf_d lf_0)) hq
def md_image (M : mm_M) : Option (Int32 × mm_M) :=
  (md_image_l2 300 (0 : Int32) M).bind fun y1 =>
  (md_image_l27 300 (0 : Int32) y1.2).bind fun y2 =>
  (md_image_l53 300 (0 : Int32) y2.2).bind fun y3 =>
  some ((ak_up (ak_up y3.2.1 73 38 (y3.2.1 73 11)) 73 39 ((ak_up y3.2.1 73 38 (y3.2.1 73 11)) 73 4)) 73 11, (ak_up (ak_up y3.2.1 73 38 (y3.2.1 73 11)) 73 39 ((ak_up y3.2.1 73 38 (y3.2.1 73 11)) 73 4), y3.2.2))
set_option maxRecDepth 20000 in
set_option maxHeartbeats 4000000 in
theorem c_237 {Z : ak_Z} {d : Nat} (M : mm_M) {y : Int32 × mm_M} (hf : md_image M = some y) {Q : Option Value → ak_H → Prop} (hq : Q (some (.int y.1)) (mm_H y.2)) : Ev Z (d + 0) 237 0 [some (.ref 73), none] [] (mm_H M) Q := by
  rw [md_image] at hf
  refine e_iconst hm_237 rfl kc_iconst_0 ?_
  refine e_istore_n (L2 := [some (.ref 73), some (.int (0 : Int32))]) hm_237 rfl rfl ?_
  obtain ⟨y1, hky1, hf⟩ := mm_bd hf
  refine e_forget (L' := [some (.ref 73), some (.int (0 : Int32))]) (lf_k (lf_k lf_0)) (lc_237_2 (d := _) 300 (0 : Int32) M Q hky1 ?_)
  show Ev Z _ 237 25 [some (.ref 73), none] [] (mm_H y1.2) Q
  refine e_iconst hm_237 rfl kc_iconst_0 ?_
  refine e_istore_n (L2 := [some (.ref 73), some (.int (0 : Int32))]) hm_237 rfl rfl ?_
  obtain ⟨y2, hky2, hf⟩ := mm_bd hf
  refine e_forget (L' := [some (.ref 73), some (.int (0 : Int32))]) (lf_k (lf_k lf_0)) (lc_237_27 (d := _) 300 (0 : Int32) y1.2 Q hky2 ?_)
  show Ev Z _ 237 51 [some (.ref 73), none] [] (mm_H y2.2) Q
  refine e_iconst hm_237 rfl kc_iconst_0 ?_
  refine e_istore_n (L2 := [some (.ref 73), some (.int (0 : Int32))]) hm_237 rfl rfl ?_
  obtain ⟨y3, hky3, hf⟩ := mm_bd hf
  refine e_forget (L' := [some (.ref 73), some (.int (0 : Int32))]) (lf_k (lf_k lf_0)) (lc_237_53 (d := _) 300 (0 : Int32) y2.2 Q hky3 ?_)
  show Ev Z _ 237 76 [some (.ref 73), none] [] (mm_H y3.2) Q
  refine e_aload_n hm_237 rfl rfl ?_
  refine e_aload_n hm_237 rfl rfl ?_
  refine e_getI hm_237 rfl rfl rfl ?_
  refine e_putI hm_237 rfl rfl rfl ?_
  refine e_aload_n hm_237 rfl rfl ?_
  refine e_aload_n hm_237 rfl rfl ?_
  refine e_getI hm_237 rfl rfl rfl ?_
  refine e_putI hm_237 rfl rfl rfl ?_
  refine e_aload_n hm_237 rfl rfl ?_
  refine e_getI hm_237 rfl rfl rfl ?_
  obtain rfl := Option.some.inj hf
  exact e_iret hm_237 rfl rfl hq
def md_back_l13 : Nat → Int32 → mm_M → Option (((Unit) × mm_M))
  | 0, _, _ => none
  | n + 1, x1, M =>
    if x1 < (3 : Int32) then
      if ak_inb x1 3 = true then
      if ak_inb x1 3 = true then
      md_back_l13 n (x1 + (1 : Int32)) (ak_up M.1 77 x1.toNatClampNeg (M.1 86 x1.toNatClampNeg), M.2) else none else none
    else
      some ((), M)
set_option maxRecDepth 20000 in
set_option maxHeartbeats 4000000 in
theorem lc_238_13 {Z : ak_Z} {d : Nat} : ∀ (n : Nat) (x1 : Int32) (M : mm_M) {y : ((Unit) × mm_M)} (Q : Option Value → ak_H → Prop), md_back_l13 n x1 M = some y → (Ev Z (d + 0) 238 36 [some (.ref 73), none] [] (mm_H y.2) Q) → Ev Z (d + 0) 238 13 [some (.ref 73), some (.int x1)] [] (mm_H M) Q := by
  intro n
  induction n with
  | zero => intro x1 M y Q hf; cases hf
  | succ n ih =>
    intro x1 M y Q hf hq
    rw [md_back_l13] at hf
    refine e_iload_n hm_238 rfl rfl ?_
    refine e_iconst hm_238 rfl kc_iconst_3 ?_
    by_cases hc1 : x1 < (3 : Int32)
    · rw [if_pos hc1] at hf
      refine e_ic_f hm_238 rfl (cf_ge hc1) ?_
      refine e_aload_n hm_238 rfl rfl ?_
      refine e_getR hm_238 rfl rfl rfl rfl ?_
      refine e_iload_n hm_238 rfl rfl ?_
      refine e_aload_n hm_238 rfl rfl ?_
      refine e_getR hm_238 rfl rfl rfl rfl ?_
      refine e_iload_n hm_238 rfl rfl ?_
      obtain ⟨hi2, hf⟩ := mm_ite hf
      refine e_iald hm_238 rfl rfl hi2 ?_
      obtain ⟨hi3, hf⟩ := mm_ite hf
      refine e_iast hm_238 rfl rfl hi3 ?_
      refine e_iinc (L2 := [some (.ref 73), some (.int (x1 + (1 : Int32)))]) hm_238 rfl kc_iinc_1 rfl rfl ?_
      refine e_goto (t := 13) hm_238 rfl rfl ?_
      exact e_forget (L' := [some (.ref 73), some (.int (x1 + (1 : Int32)))]) (lf_k (lf_k lf_0)) (ih (x1 + (1 : Int32)) (ak_up M.1 77 x1.toNatClampNeg (M.1 86 x1.toNatClampNeg), M.2) Q hf hq)
    · rw [if_neg hc1] at hf
      refine e_ic_t (t := 36) hm_238 rfl (ct_ge hc1) rfl ?_
      obtain rfl := Option.some.inj hf
      exact e_forget (L' := [some (.ref 73), none]) (lf_k (lf_d lf_0)) hq
def md_back_l38 : Nat → Int32 → mm_M → Option (((Unit) × mm_M))
  | 0, _, _ => none
  | n + 1, x1, M =>
    if x1 < (20 : Int32) then
      if ak_inb x1 20 = true then
      if ak_inb x1 20 = true then
      md_back_l38 n (x1 + (1 : Int32)) (ak_up M.1 79 x1.toNatClampNeg (M.1 87 x1.toNatClampNeg), M.2) else none else none
    else
      some ((), M)
set_option maxRecDepth 20000 in
set_option maxHeartbeats 4000000 in
theorem lc_238_38 {Z : ak_Z} {d : Nat} : ∀ (n : Nat) (x1 : Int32) (M : mm_M) {y : ((Unit) × mm_M)} (Q : Option Value → ak_H → Prop), md_back_l38 n x1 M = some y → (Ev Z (d + 0) 238 62 [some (.ref 73), none] [] (mm_H y.2) Q) → Ev Z (d + 0) 238 38 [some (.ref 73), some (.int x1)] [] (mm_H M) Q := by
  intro n
  induction n with
  | zero => intro x1 M y Q hf; cases hf
  | succ n ih =>
    intro x1 M y Q hf hq
    rw [md_back_l38] at hf
    refine e_iload_n hm_238 rfl rfl ?_
    refine e_bipush hm_238 rfl kc_bipush_20 ?_
    by_cases hc1 : x1 < (20 : Int32)
    · rw [if_pos hc1] at hf
      refine e_ic_f hm_238 rfl (cf_ge hc1) ?_
      refine e_aload_n hm_238 rfl rfl ?_
      refine e_getR hm_238 rfl rfl rfl rfl ?_
      refine e_iload_n hm_238 rfl rfl ?_
      refine e_aload_n hm_238 rfl rfl ?_
      refine e_getR hm_238 rfl rfl rfl rfl ?_
      refine e_iload_n hm_238 rfl rfl ?_
      obtain ⟨hi2, hf⟩ := mm_ite hf
      refine e_iald hm_238 rfl rfl hi2 ?_
      obtain ⟨hi3, hf⟩ := mm_ite hf
      refine e_iast hm_238 rfl rfl hi3 ?_
      refine e_iinc (L2 := [some (.ref 73), some (.int (x1 + (1 : Int32)))]) hm_238 rfl kc_iinc_1 rfl rfl ?_
      refine e_goto (t := 38) hm_238 rfl rfl ?_
      exact e_forget (L' := [some (.ref 73), some (.int (x1 + (1 : Int32)))]) (lf_k (lf_k lf_0)) (ih (x1 + (1 : Int32)) (ak_up M.1 79 x1.toNatClampNeg (M.1 87 x1.toNatClampNeg), M.2) Q hf hq)
    · rw [if_neg hc1] at hf
      refine e_ic_t (t := 62) hm_238 rfl (ct_ge hc1) rfl ?_
      obtain rfl := Option.some.inj hf
      exact e_forget (L' := [some (.ref 73), none]) (lf_k (lf_d lf_0)) hq
def md_back_l64 : Nat → Int32 → mm_M → Option (((Unit) × mm_M))
  | 0, _, _ => none
  | n + 1, x1, M =>
    if x1 < (4 : Int32) then
      if ak_inb x1 4 = true then
      if ak_inb x1 4 = true then
      md_back_l64 n (x1 + (1 : Int32)) (ak_up M.1 80 x1.toNatClampNeg (M.1 88 x1.toNatClampNeg), M.2) else none else none
    else
      some ((), M)
set_option maxRecDepth 20000 in
set_option maxHeartbeats 4000000 in
theorem lc_238_64 {Z : ak_Z} {d : Nat} : ∀ (n : Nat) (x1 : Int32) (M : mm_M) {y : ((Unit) × mm_M)} (Q : Option Value → ak_H → Prop), md_back_l64 n x1 M = some y → (Ev Z (d + 0) 238 87 [some (.ref 73), none] [] (mm_H y.2) Q) → Ev Z (d + 0) 238 64 [some (.ref 73), some (.int x1)] [] (mm_H M) Q := by
  intro n
  induction n with
  | zero => intro x1 M y Q hf; cases hf
  | succ n ih =>
    intro x1 M y Q hf hq
    rw [md_back_l64] at hf
    refine e_iload_n hm_238 rfl rfl ?_
    refine e_iconst hm_238 rfl kc_iconst_4 ?_
    by_cases hc1 : x1 < (4 : Int32)
    · rw [if_pos hc1] at hf
      refine e_ic_f hm_238 rfl (cf_ge hc1) ?_
      refine e_aload_n hm_238 rfl rfl ?_
      refine e_getR hm_238 rfl rfl rfl rfl ?_
      refine e_iload_n hm_238 rfl rfl ?_
      refine e_aload_n hm_238 rfl rfl ?_
      refine e_getR hm_238 rfl rfl rfl rfl ?_
      refine e_iload_n hm_238 rfl rfl ?_
      obtain ⟨hi2, hf⟩ := mm_ite hf
      refine e_iald hm_238 rfl rfl hi2 ?_
      obtain ⟨hi3, hf⟩ := mm_ite hf
      refine e_iast hm_238 rfl rfl hi3 ?_
      refine e_iinc (L2 := [some (.ref 73), some (.int (x1 + (1 : Int32)))]) hm_238 rfl kc_iinc_1 rfl rfl ?_
      refine e_goto (t := 64) hm_238 rfl rfl ?_
      exact e_forget (L' := [some (.ref 73), some (.int (x1 + (1 : Int32)))]) (lf_k (lf_k lf_0)) (ih (x1 + (1 : Int32)) (ak_up M.1 80 x1.toNatClampNeg (M.1 88 x1.toNatClampNeg), M.2) Q hf hq)
    · rw [if_neg hc1] at hf
      refine e_ic_t (t := 87) hm_238 rfl (ct_ge hc1) rfl ?_
      obtain rfl := Option.some.inj hf
      exact e_forget (L' := [some (.ref 73), none]) (lf_k (lf_d lf_0)) hq
def md_back (M : mm_M) : Option (Int32 × mm_M) :=
  if (M.1 73 38) = (-1 : Int32) then
    some ((-3 : Int32), M)
  else
    (md_back_l13 300 (0 : Int32) M).bind fun y2 =>
    (md_back_l38 300 (0 : Int32) y2.2).bind fun y3 =>
    (md_back_l64 300 (0 : Int32) y3.2).bind fun y4 =>
    some ((ak_up (ak_up y4.2.1 73 11 (y4.2.1 73 38)) 73 4 ((ak_up y4.2.1 73 11 (y4.2.1 73 38)) 73 39)) 73 11, (ak_up (ak_up y4.2.1 73 11 (y4.2.1 73 38)) 73 4 ((ak_up y4.2.1 73 11 (y4.2.1 73 38)) 73 39), y4.2.2))
set_option maxRecDepth 20000 in
set_option maxHeartbeats 4000000 in
theorem c_238 {Z : ak_Z} {d : Nat} (M : mm_M) {y : Int32 × mm_M} (hf : md_back M = some y) {Q : Option Value → ak_H → Prop} (hq : Q (some (.int y.1)) (mm_H y.2)) : Ev Z (d + 0) 238 0 [some (.ref 73), none] [] (mm_H M) Q := by
  rw [md_back] at hf
  refine e_aload_n hm_238 rfl rfl ?_
  refine e_getI hm_238 rfl rfl rfl ?_
  refine e_iconst hm_238 rfl kc_iconst_m1 ?_
  by_cases hc1 : (M.1 73 38) = (-1 : Int32)
  · rw [if_pos hc1] at hf
    refine e_ic_f hm_238 rfl (cf_ne hc1) ?_
    refine e_bipush hm_238 rfl kc_bipush_m3 ?_
    obtain rfl := Option.some.inj hf
    exact e_iret hm_238 rfl rfl hq
  · rw [if_neg hc1] at hf
    refine e_ic_t (t := 11) hm_238 rfl (ct_ne hc1) rfl ?_
    refine e_iconst hm_238 rfl kc_iconst_0 ?_
    refine e_istore_n (L2 := [some (.ref 73), some (.int (0 : Int32))]) hm_238 rfl rfl ?_
    obtain ⟨y2, hky2, hf⟩ := mm_bd hf
    refine e_forget (L' := [some (.ref 73), some (.int (0 : Int32))]) (lf_k (lf_k lf_0)) (lc_238_13 (d := _) 300 (0 : Int32) M Q hky2 ?_)
    show Ev Z _ 238 36 [some (.ref 73), none] [] (mm_H y2.2) Q
    refine e_iconst hm_238 rfl kc_iconst_0 ?_
    refine e_istore_n (L2 := [some (.ref 73), some (.int (0 : Int32))]) hm_238 rfl rfl ?_
    obtain ⟨y3, hky3, hf⟩ := mm_bd hf
    refine e_forget (L' := [some (.ref 73), some (.int (0 : Int32))]) (lf_k (lf_k lf_0)) (lc_238_38 (d := _) 300 (0 : Int32) y2.2 Q hky3 ?_)
    show Ev Z _ 238 62 [some (.ref 73), none] [] (mm_H y3.2) Q
    refine e_iconst hm_238 rfl kc_iconst_0 ?_
    refine e_istore_n (L2 := [some (.ref 73), some (.int (0 : Int32))]) hm_238 rfl rfl ?_
    obtain ⟨y4, hky4, hf⟩ := mm_bd hf
    refine e_forget (L' := [some (.ref 73), some (.int (0 : Int32))]) (lf_k (lf_k lf_0)) (lc_238_64 (d := _) 300 (0 : Int32) y3.2 Q hky4 ?_)
    show Ev Z _ 238 87 [some (.ref 73), none] [] (mm_H y4.2) Q
    refine e_aload_n hm_238 rfl rfl ?_
    refine e_aload_n hm_238 rfl rfl ?_
    refine e_getI hm_238 rfl rfl rfl ?_
    refine e_putI hm_238 rfl rfl rfl ?_
    refine e_aload_n hm_238 rfl rfl ?_
    refine e_aload_n hm_238 rfl rfl ?_
    refine e_getI hm_238 rfl rfl rfl ?_
    refine e_putI hm_238 rfl rfl rfl ?_
    refine e_aload_n hm_238 rfl rfl ?_
    refine e_getI hm_238 rfl rfl rfl ?_
    obtain rfl := Option.some.inj hf
    exact e_iret hm_238 rfl rfl hq
def md_count_l59 : Nat → Int32 → Int32 → Int32 → Int32 → Int32 → mm_M → Option (((Int32 × Int32 × Int32) × mm_M))
  | 0, _, _, _, _, _, _ => none
  | n + 1, x1, x2, x3, x4, x5, M =>
    if x5 < (M.1 73 11) then
      if ak_inb (((5 : Int32) * x5) + (4 : Int32)) 20 = true then
      if (M.1 79 (((5 : Int32) * x5) + (4 : Int32)).toNatClampNeg) = (-1 : Int32) then
        if ak_inb x5 4 = true then
        (md_bitsOf (M.1 80 x5.toNatClampNeg) M).bind fun y5 =>
        if ak_inb (((5 : Int32) * x5) + (3 : Int32)) 20 = true then
        md_count_l59 n x1 (x2 + (0 : Int32)) (x3 + y5.1) (x4 + (y5.2.1 79 (((5 : Int32) * x5) + (3 : Int32)).toNatClampNeg)) (x5 + (1 : Int32)) y5.2 else none else none
      else
        if ak_inb x5 4 = true then
        (md_bitsOf (M.1 80 x5.toNatClampNeg) M).bind fun y8 =>
        if ak_inb (((5 : Int32) * x5) + (3 : Int32)) 20 = true then
        md_count_l59 n x1 (x2 + (1 : Int32)) (x3 + y8.1) (x4 + (y8.2.1 79 (((5 : Int32) * x5) + (3 : Int32)).toNatClampNeg)) (x5 + (1 : Int32)) y8.2 else none else none else none
    else
      some ((x2, x3, x4), M)
set_option maxRecDepth 20000 in
set_option maxHeartbeats 4000000 in
theorem lc_239_59 {Z : ak_Z} {d : Nat} : ∀ (n : Nat) (x1 : Int32) (x2 : Int32) (x3 : Int32) (x4 : Int32) (x5 : Int32) (M : mm_M) {y : ((Int32 × Int32 × Int32) × mm_M)} (Q : Option Value → ak_H → Prop), md_count_l59 n x1 x2 x3 x4 x5 M = some y → (Ev Z (d + 1) 239 126 [some (.ref 73), some (.int x1), some (.int y.1.1), some (.int y.1.2.1), some (.int y.1.2.2), none] [] (mm_H y.2) Q) → Ev Z (d + 1) 239 59 [some (.ref 73), some (.int x1), some (.int x2), some (.int x3), some (.int x4), some (.int x5)] [] (mm_H M) Q := by
  intro n
  induction n with
  | zero => intro x1 x2 x3 x4 x5 M y Q hf; cases hf
  | succ n ih =>
    intro x1 x2 x3 x4 x5 M y Q hf hq
    rw [md_count_l59] at hf
    refine e_iload hm_239 rfl rfl ?_
    refine e_aload_n hm_239 rfl rfl ?_
    refine e_getI hm_239 rfl rfl rfl ?_
    by_cases hc1 : x5 < (M.1 73 11)
    · rw [if_pos hc1] at hf
      refine e_ic_f hm_239 rfl (cf_ge hc1) ?_
      refine e_iload_n hm_239 rfl rfl ?_
      refine e_aload_n hm_239 rfl rfl ?_
      refine e_getR hm_239 rfl rfl rfl rfl ?_
      refine e_iconst hm_239 rfl kc_iconst_5 ?_
      refine e_iload hm_239 rfl rfl ?_
      refine e_imul hm_239 rfl ?_
      refine e_iconst hm_239 rfl kc_iconst_4 ?_
      refine e_iadd hm_239 rfl ?_
      obtain ⟨hi2, hf⟩ := mm_ite hf
      refine e_iald hm_239 rfl rfl hi2 ?_
      refine e_iconst hm_239 rfl kc_iconst_m1 ?_
      by_cases hc3 : (M.1 79 (((5 : Int32) * x5) + (4 : Int32)).toNatClampNeg) = (-1 : Int32)
      · rw [if_pos hc3] at hf
        refine e_ic_f hm_239 rfl (cf_ne hc3) ?_
        refine e_iconst hm_239 rfl kc_iconst_0 ?_
        refine e_goto (t := 89) hm_239 rfl rfl ?_
        refine e_iadd hm_239 rfl ?_
        refine e_istore_n (L2 := [some (.ref 73), some (.int x1), some (.int (x2 + (0 : Int32))), some (.int x3), some (.int x4), some (.int x5)]) hm_239 rfl rfl ?_
        refine e_iload_n hm_239 rfl rfl ?_
        refine e_aload_n hm_239 rfl rfl ?_
        refine e_getR hm_239 rfl rfl rfl rfl ?_
        refine e_iload hm_239 rfl rfl ?_
        obtain ⟨hi4, hf⟩ := mm_ite hf
        refine e_iald hm_239 rfl rfl hi4 ?_
        obtain ⟨y5, hky5, hf⟩ := mm_bd hf
        refine e_stat hm_239 rfl (by decide) rfl rfl (Nat.le_of_ble_eq_true rfl) hm_214 rfl rfl (c_214 (M.1 80 x5.toNatClampNeg) M hky5 ?_)
        show Ev Z _ 239 102 [some (.ref 73), some (.int x1), some (.int (x2 + (0 : Int32))), some (.int x3), some (.int x4), some (.int x5)] [.int y5.1, .int x3] (mm_H y5.2) Q
        refine e_iadd hm_239 rfl ?_
        refine e_istore_n (L2 := [some (.ref 73), some (.int x1), some (.int (x2 + (0 : Int32))), some (.int (x3 + y5.1)), some (.int x4), some (.int x5)]) hm_239 rfl rfl ?_
        refine e_iload hm_239 rfl rfl ?_
        refine e_aload_n hm_239 rfl rfl ?_
        refine e_getR hm_239 rfl rfl rfl rfl ?_
        refine e_iconst hm_239 rfl kc_iconst_5 ?_
        refine e_iload hm_239 rfl rfl ?_
        refine e_imul hm_239 rfl ?_
        refine e_iconst hm_239 rfl kc_iconst_3 ?_
        refine e_iadd hm_239 rfl ?_
        obtain ⟨hi6, hf⟩ := mm_ite hf
        refine e_iald hm_239 rfl rfl hi6 ?_
        refine e_iadd hm_239 rfl ?_
        refine e_istore (L2 := [some (.ref 73), some (.int x1), some (.int (x2 + (0 : Int32))), some (.int (x3 + y5.1)), some (.int (x4 + (y5.2.1 79 (((5 : Int32) * x5) + (3 : Int32)).toNatClampNeg))), some (.int x5)]) hm_239 rfl rfl ?_
        refine e_iinc (L2 := [some (.ref 73), some (.int x1), some (.int (x2 + (0 : Int32))), some (.int (x3 + y5.1)), some (.int (x4 + (y5.2.1 79 (((5 : Int32) * x5) + (3 : Int32)).toNatClampNeg))), some (.int (x5 + (1 : Int32)))]) hm_239 rfl kc_iinc_1 rfl rfl ?_
        refine e_goto (t := 59) hm_239 rfl rfl ?_
        exact e_forget (L' := [some (.ref 73), some (.int x1), some (.int (x2 + (0 : Int32))), some (.int (x3 + y5.1)), some (.int (x4 + (y5.2.1 79 (((5 : Int32) * x5) + (3 : Int32)).toNatClampNeg))), some (.int (x5 + (1 : Int32)))]) (lf_k (lf_k (lf_k (lf_k (lf_k (lf_k lf_0)))))) (ih x1 (x2 + (0 : Int32)) (x3 + y5.1) (x4 + (y5.2.1 79 (((5 : Int32) * x5) + (3 : Int32)).toNatClampNeg)) (x5 + (1 : Int32)) y5.2 Q hf hq)
      · rw [if_neg hc3] at hf
        refine e_ic_t (t := 88) hm_239 rfl (ct_ne hc3) rfl ?_
        refine e_iconst hm_239 rfl kc_iconst_1 ?_
        refine e_iadd hm_239 rfl ?_
        refine e_istore_n (L2 := [some (.ref 73), some (.int x1), some (.int (x2 + (1 : Int32))), some (.int x3), some (.int x4), some (.int x5)]) hm_239 rfl rfl ?_
        refine e_iload_n hm_239 rfl rfl ?_
        refine e_aload_n hm_239 rfl rfl ?_
        refine e_getR hm_239 rfl rfl rfl rfl ?_
        refine e_iload hm_239 rfl rfl ?_
        obtain ⟨hi7, hf⟩ := mm_ite hf
        refine e_iald hm_239 rfl rfl hi7 ?_
        obtain ⟨y8, hky8, hf⟩ := mm_bd hf
        refine e_stat hm_239 rfl (by decide) rfl rfl (Nat.le_of_ble_eq_true rfl) hm_214 rfl rfl (c_214 (M.1 80 x5.toNatClampNeg) M hky8 ?_)
        show Ev Z _ 239 102 [some (.ref 73), some (.int x1), some (.int (x2 + (1 : Int32))), some (.int x3), some (.int x4), some (.int x5)] [.int y8.1, .int x3] (mm_H y8.2) Q
        refine e_iadd hm_239 rfl ?_
        refine e_istore_n (L2 := [some (.ref 73), some (.int x1), some (.int (x2 + (1 : Int32))), some (.int (x3 + y8.1)), some (.int x4), some (.int x5)]) hm_239 rfl rfl ?_
        refine e_iload hm_239 rfl rfl ?_
        refine e_aload_n hm_239 rfl rfl ?_
        refine e_getR hm_239 rfl rfl rfl rfl ?_
        refine e_iconst hm_239 rfl kc_iconst_5 ?_
        refine e_iload hm_239 rfl rfl ?_
        refine e_imul hm_239 rfl ?_
        refine e_iconst hm_239 rfl kc_iconst_3 ?_
        refine e_iadd hm_239 rfl ?_
        obtain ⟨hi9, hf⟩ := mm_ite hf
        refine e_iald hm_239 rfl rfl hi9 ?_
        refine e_iadd hm_239 rfl ?_
        refine e_istore (L2 := [some (.ref 73), some (.int x1), some (.int (x2 + (1 : Int32))), some (.int (x3 + y8.1)), some (.int (x4 + (y8.2.1 79 (((5 : Int32) * x5) + (3 : Int32)).toNatClampNeg))), some (.int x5)]) hm_239 rfl rfl ?_
        refine e_iinc (L2 := [some (.ref 73), some (.int x1), some (.int (x2 + (1 : Int32))), some (.int (x3 + y8.1)), some (.int (x4 + (y8.2.1 79 (((5 : Int32) * x5) + (3 : Int32)).toNatClampNeg))), some (.int (x5 + (1 : Int32)))]) hm_239 rfl kc_iinc_1 rfl rfl ?_
        refine e_goto (t := 59) hm_239 rfl rfl ?_
        exact e_forget (L' := [some (.ref 73), some (.int x1), some (.int (x2 + (1 : Int32))), some (.int (x3 + y8.1)), some (.int (x4 + (y8.2.1 79 (((5 : Int32) * x5) + (3 : Int32)).toNatClampNeg))), some (.int (x5 + (1 : Int32)))]) (lf_k (lf_k (lf_k (lf_k (lf_k (lf_k lf_0)))))) (ih x1 (x2 + (1 : Int32)) (x3 + y8.1) (x4 + (y8.2.1 79 (((5 : Int32) * x5) + (3 : Int32)).toNatClampNeg)) (x5 + (1 : Int32)) y8.2 Q hf hq)
    · rw [if_neg hc1] at hf
      refine e_ic_t (t := 126) hm_239 rfl (ct_ge hc1) rfl ?_
      obtain rfl := Option.some.inj hf
      exact e_forget (L' := [some (.ref 73), some (.int x1), some (.int x2), some (.int x3), some (.int x4), none]) (lf_k (lf_k (lf_k (lf_k (lf_k (lf_d lf_0)))))) hq
def md_count (a1 : Int32) (M : mm_M) : Option (Int32 × mm_M) :=
  (md_in a1.toInt64 (0 : Int64) (6 : Int64) M).bind fun y1 =>
  if y1.1 = (0 : Int32) then
    some ((-2 : Int32), y1.2)
  else
    if (3 : Int32) < a1 then
      if a1 = (4 : Int32) then
        some (y1.2.1 73 3, y1.2)
      else
        if a1 = (5 : Int32) then
          some (y1.2.1 73 6, y1.2)
        else
          some (y1.2.1 73 4, y1.2)
    else
      (md_count_l59 300 a1 (0 : Int32) (0 : Int32) (0 : Int32) (0 : Int32) y1.2).bind fun y6 =>
      if a1 = (0 : Int32) then
        some (y6.2.1 73 11, y6.2)
      else
        if a1 = (1 : Int32) then
          some (y6.1.1, y6.2)
        else
          if a1 = (2 : Int32) then
            some (y6.1.2.1 / (2 : Int32), y6.2)
          else
            some (y6.1.2.2, y6.2)
set_option maxRecDepth 20000 in
set_option maxHeartbeats 4000000 in
theorem c_239 {Z : ak_Z} {d : Nat} (a1 : Int32) (M : mm_M) {y : Int32 × mm_M} (hf : md_count a1 M = some y) {Q : Option Value → ak_H → Prop} (hq : Q (some (.int y.1)) (mm_H y.2)) : Ev Z (d + 1) 239 0 [some (.ref 73), some (.int a1), none, none, none, none] [] (mm_H M) Q := by
  rw [md_count] at hf
  refine e_iload_n hm_239 rfl rfl ?_
  refine e_i2l hm_239 rfl ?_
  refine e_lconst hm_239 rfl rfl ?_
  refine e_ldc2 hm_239 rfl kc_ldc2_6 ?_
  obtain ⟨y1, hky1, hf⟩ := mm_bd hf
  refine e_stat hm_239 rfl (by decide) rfl rfl (Nat.le_of_ble_eq_true rfl) hm_169 rfl rfl (c_169 a1.toInt64 (0 : Int64) (6 : Int64) M hky1 ?_)
  show Ev Z _ 239 9 [some (.ref 73), some (.int a1), none, none, none, none] [.int y1.1] (mm_H y1.2) Q
  by_cases hc2 : y1.1 = (0 : Int32)
  · rw [if_pos hc2] at hf
    refine e_if_f hm_239 rfl (cf_ne hc2) ?_
    refine e_bipush hm_239 rfl kc_bipush_m2 ?_
    obtain rfl := Option.some.inj hf
    exact e_iret hm_239 rfl rfl hq
  · rw [if_neg hc2] at hf
    refine e_if_t (t := 15) hm_239 rfl (ct_ne hc2) rfl ?_
    refine e_iload_n hm_239 rfl rfl ?_
    refine e_iconst hm_239 rfl kc_iconst_3 ?_
    by_cases hc3 : (3 : Int32) < a1
    · rw [if_pos hc3] at hf
      refine e_ic_f hm_239 rfl (cf_le hc3) ?_
      refine e_iload_n hm_239 rfl rfl ?_
      refine e_iconst hm_239 rfl kc_iconst_4 ?_
      by_cases hc4 : a1 = (4 : Int32)
      · rw [if_pos hc4] at hf
        refine e_ic_f hm_239 rfl (cf_ne hc4) ?_
        refine e_aload_n hm_239 rfl rfl ?_
        refine e_getI hm_239 rfl rfl rfl ?_
        refine e_goto (t := 48) hm_239 rfl rfl ?_
        obtain rfl := Option.some.inj hf
        exact e_iret hm_239 rfl rfl hq
      · rw [if_neg hc4] at hf
        refine e_ic_t (t := 32) hm_239 rfl (ct_ne hc4) rfl ?_
        refine e_iload_n hm_239 rfl rfl ?_
        refine e_iconst hm_239 rfl kc_iconst_5 ?_
        by_cases hc5 : a1 = (5 : Int32)
        · rw [if_pos hc5] at hf
          refine e_ic_f hm_239 rfl (cf_ne hc5) ?_
          refine e_aload_n hm_239 rfl rfl ?_
          refine e_getI hm_239 rfl rfl rfl ?_
          refine e_goto (t := 48) hm_239 rfl rfl ?_
          obtain rfl := Option.some.inj hf
          exact e_iret hm_239 rfl rfl hq
        · rw [if_neg hc5] at hf
          refine e_ic_t (t := 44) hm_239 rfl (ct_ne hc5) rfl ?_
          refine e_aload_n hm_239 rfl rfl ?_
          refine e_getI hm_239 rfl rfl rfl ?_
          obtain rfl := Option.some.inj hf
          exact e_iret hm_239 rfl rfl hq
    · rw [if_neg hc3] at hf
      refine e_ic_t (t := 49) hm_239 rfl (ct_le hc3) rfl ?_
      refine e_iconst hm_239 rfl kc_iconst_0 ?_
      refine e_istore_n (L2 := [some (.ref 73), some (.int a1), some (.int (0 : Int32)), none, none, none]) hm_239 rfl rfl ?_
      refine e_iconst hm_239 rfl kc_iconst_0 ?_
      refine e_istore_n (L2 := [some (.ref 73), some (.int a1), some (.int (0 : Int32)), some (.int (0 : Int32)), none, none]) hm_239 rfl rfl ?_
      refine e_iconst hm_239 rfl kc_iconst_0 ?_
      refine e_istore (L2 := [some (.ref 73), some (.int a1), some (.int (0 : Int32)), some (.int (0 : Int32)), some (.int (0 : Int32)), none]) hm_239 rfl rfl ?_
      refine e_iconst hm_239 rfl kc_iconst_0 ?_
      refine e_istore (L2 := [some (.ref 73), some (.int a1), some (.int (0 : Int32)), some (.int (0 : Int32)), some (.int (0 : Int32)), some (.int (0 : Int32))]) hm_239 rfl rfl ?_
      obtain ⟨y6, hky6, hf⟩ := mm_bd hf
      refine e_forget (L' := [some (.ref 73), some (.int a1), some (.int (0 : Int32)), some (.int (0 : Int32)), some (.int (0 : Int32)), some (.int (0 : Int32))]) (lf_k (lf_k (lf_k (lf_k (lf_k (lf_k lf_0)))))) (lc_239_59 (d := _) 300 a1 (0 : Int32) (0 : Int32) (0 : Int32) (0 : Int32) y1.2 Q hky6 ?_)
      show Ev Z _ 239 126 [some (.ref 73), some (.int a1), some (.int y6.1.1), some (.int y6.1.2.1), some (.int y6.1.2.2), none] [] (mm_H y6.2) Q
      refine e_iload_n hm_239 rfl rfl ?_
      by_cases hc7 : a1 = (0 : Int32)
      · rw [if_pos hc7] at hf
        refine e_if_f hm_239 rfl (cf_ne hc7) ?_
        refine e_aload_n hm_239 rfl rfl ?_
        refine e_getI hm_239 rfl rfl rfl ?_
        refine e_goto (t := 159) hm_239 rfl rfl ?_
        obtain rfl := Option.some.inj hf
        exact e_iret hm_239 rfl rfl hq
      · rw [if_neg hc7] at hf
        refine e_if_t (t := 137) hm_239 rfl (ct_ne hc7) rfl ?_
        refine e_iload_n hm_239 rfl rfl ?_
        refine e_iconst hm_239 rfl kc_iconst_1 ?_
        by_cases hc8 : a1 = (1 : Int32)
        · rw [if_pos hc8] at hf
          refine e_ic_f hm_239 rfl (cf_ne hc8) ?_
          refine e_iload_n hm_239 rfl rfl ?_
          refine e_goto (t := 159) hm_239 rfl rfl ?_
          obtain rfl := Option.some.inj hf
          exact e_iret hm_239 rfl rfl hq
        · rw [if_neg hc8] at hf
          refine e_ic_t (t := 146) hm_239 rfl (ct_ne hc8) rfl ?_
          refine e_iload_n hm_239 rfl rfl ?_
          refine e_iconst hm_239 rfl kc_iconst_2 ?_
          by_cases hc9 : a1 = (2 : Int32)
          · rw [if_pos hc9] at hf
            refine e_ic_f hm_239 rfl (cf_ne hc9) ?_
            refine e_iload_n hm_239 rfl rfl ?_
            refine e_iconst hm_239 rfl kc_iconst_2 ?_
            refine e_idiv hm_239 rfl (by decide) ?_
            refine e_goto (t := 159) hm_239 rfl rfl ?_
            obtain rfl := Option.some.inj hf
            exact e_iret hm_239 rfl rfl hq
          · rw [if_neg hc9] at hf
            refine e_ic_t (t := 157) hm_239 rfl (ct_ne hc9) rfl ?_
            refine e_iload hm_239 rfl rfl ?_
            obtain rfl := Option.some.inj hf
            exact e_iret hm_239 rfl rfl hq
def md_cell (a1 : Int32) (a2 : Int32) (a3 : Int32) (M : mm_M) : Option (Int32 × mm_M) :=
  (md_isSheet a1 M).bind fun y1 =>
  if y1.1 = (0 : Int32) then
    some ((-2 : Int32), y1.2)
  else
    if ak_inb a1 4 = true then
    if (y1.2.1 89 a1.toNatClampNeg) = (0 : Int32) then
      some ((-11 : Int32), y1.2)
    else
      if ak_inb a1 4 = true then
      (md_in a2.toInt64 (0 : Int64) (((y1.2.1 91 a1.toNatClampNeg) - (1 : Int32)).toInt64) y1.2).bind fun y6 =>
      if y6.1 = (0 : Int32) then
        some ((-12 : Int32), y6.2)
      else
        if ak_inb a1 4 = true then
        if (y6.2.1 90 a1.toNatClampNeg) = (0 : Int32) then
          if ak_inb (((40 : Int32) * a1) + a2) 160 = true then
          some ((1 : Int32), (ak_up y6.2.1 92 ((((40 : Int32) * a1) + a2).toNatClampNeg) a3.toInt8.toInt32, y6.2.2)) else none
        else
          if ak_inb a1 4 = true then
          if (y6.2.1 90 a1.toNatClampNeg) = (1 : Int32) then
            if ak_inb (((40 : Int32) * a1) + a2) 160 = true then
            some ((1 : Int32), (ak_up y6.2.1 92 ((((40 : Int32) * a1) + a2).toNatClampNeg) a3.toInt16.toInt32, y6.2.2)) else none
          else
            if ak_inb (((40 : Int32) * a1) + a2) 160 = true then
            some ((1 : Int32), (ak_up y6.2.1 92 ((((40 : Int32) * a1) + a2).toNatClampNeg) a3, y6.2.2)) else none else none else none else none else none
set_option maxRecDepth 20000 in
set_option maxHeartbeats 4000000 in
theorem c_240 {Z : ak_Z} {d : Nat} (a1 : Int32) (a2 : Int32) (a3 : Int32) (M : mm_M) {y : Int32 × mm_M} (hf : md_cell a1 a2 a3 M = some y) {Q : Option Value → ak_H → Prop} (hq : Q (some (.int y.1)) (mm_H y.2)) : Ev Z (d + 2) 240 0 [some (.ref 73), some (.int a1), some (.int a2), some (.int a3)] [] (mm_H M) Q := by
  rw [md_cell] at hf
  refine e_iload_n hm_240 rfl rfl ?_
  obtain ⟨y1, hky1, hf⟩ := mm_bd hf
  refine e_stat hm_240 rfl (by decide) rfl rfl (Nat.le_of_ble_eq_true rfl) hm_230 rfl rfl (c_230 a1 M hky1 ?_)
  show Ev Z _ 240 4 [some (.ref 73), some (.int a1), some (.int a2), some (.int a3)] [.int y1.1] (mm_H y1.2) Q
  by_cases hc2 : y1.1 = (0 : Int32)
  · rw [if_pos hc2] at hf
    refine e_if_f hm_240 rfl (cf_ne hc2) ?_
    refine e_bipush hm_240 rfl kc_bipush_m2 ?_
    obtain rfl := Option.some.inj hf
    exact e_iret hm_240 rfl rfl hq
  · rw [if_neg hc2] at hf
    refine e_if_t (t := 10) hm_240 rfl (ct_ne hc2) rfl ?_
    refine e_aload_n hm_240 rfl rfl ?_
    refine e_getR hm_240 rfl rfl rfl rfl ?_
    refine e_iload_n hm_240 rfl rfl ?_
    obtain ⟨hi3, hf⟩ := mm_ite hf
    refine e_zald hm_240 rfl rfl hi3 ?_
    by_cases hc4 : (y1.2.1 89 a1.toNatClampNeg) = (0 : Int32)
    · rw [if_pos hc4] at hf
      refine e_if_f hm_240 rfl (cf_ne hc4) ?_
      refine e_bipush hm_240 rfl kc_bipush_m11 ?_
      obtain rfl := Option.some.inj hf
      exact e_iret hm_240 rfl rfl hq
    · rw [if_neg hc4] at hf
      refine e_if_t (t := 22) hm_240 rfl (ct_ne hc4) rfl ?_
      refine e_iload_n hm_240 rfl rfl ?_
      refine e_i2l hm_240 rfl ?_
      refine e_lconst hm_240 rfl rfl ?_
      refine e_aload_n hm_240 rfl rfl ?_
      refine e_getR hm_240 rfl rfl rfl rfl ?_
      refine e_iload_n hm_240 rfl rfl ?_
      obtain ⟨hi5, hf⟩ := mm_ite hf
      refine e_iald hm_240 rfl rfl hi5 ?_
      refine e_iconst hm_240 rfl kc_iconst_1 ?_
      refine e_isub hm_240 rfl ?_
      refine e_i2l hm_240 rfl ?_
      obtain ⟨y6, hky6, hf⟩ := mm_bd hf
      refine e_stat hm_240 rfl (by decide) rfl rfl (Nat.le_of_ble_eq_true rfl) hm_169 rfl rfl (c_169 a2.toInt64 (0 : Int64) (((y1.2.1 91 a1.toNatClampNeg) - (1 : Int32)).toInt64) y1.2 hky6 ?_)
      show Ev Z _ 240 37 [some (.ref 73), some (.int a1), some (.int a2), some (.int a3)] [.int y6.1] (mm_H y6.2) Q
      by_cases hc7 : y6.1 = (0 : Int32)
      · rw [if_pos hc7] at hf
        refine e_if_f hm_240 rfl (cf_ne hc7) ?_
        refine e_bipush hm_240 rfl kc_bipush_m12 ?_
        obtain rfl := Option.some.inj hf
        exact e_iret hm_240 rfl rfl hq
      · rw [if_neg hc7] at hf
        refine e_if_t (t := 43) hm_240 rfl (ct_ne hc7) rfl ?_
        refine e_aload_n hm_240 rfl rfl ?_
        refine e_getR hm_240 rfl rfl rfl rfl ?_
        refine e_bipush hm_240 rfl kc_bipush_40 ?_
        refine e_iload_n hm_240 rfl rfl ?_
        refine e_imul hm_240 rfl ?_
        refine e_iload_n hm_240 rfl rfl ?_
        refine e_iadd hm_240 rfl ?_
        refine e_aload_n hm_240 rfl rfl ?_
        refine e_getR hm_240 rfl rfl rfl rfl ?_
        refine e_iload_n hm_240 rfl rfl ?_
        obtain ⟨hi8, hf⟩ := mm_ite hf
        refine e_iald hm_240 rfl rfl hi8 ?_
        by_cases hc9 : (y6.2.1 90 a1.toNatClampNeg) = (0 : Int32)
        · rw [if_pos hc9] at hf
          refine e_if_f hm_240 rfl (cf_ne hc9) ?_
          refine e_iload_n hm_240 rfl rfl ?_
          refine e_i2b hm_240 rfl ?_
          refine e_goto (t := 83) hm_240 rfl rfl ?_
          obtain ⟨hi10, hf⟩ := mm_ite hf
          refine e_iast hm_240 rfl rfl hi10 ?_
          refine e_iconst hm_240 rfl kc_iconst_1 ?_
          obtain rfl := Option.some.inj hf
          exact e_iret hm_240 rfl rfl hq
        · rw [if_neg hc9] at hf
          refine e_if_t (t := 67) hm_240 rfl (ct_ne hc9) rfl ?_
          refine e_aload_n hm_240 rfl rfl ?_
          refine e_getR hm_240 rfl rfl rfl rfl ?_
          refine e_iload_n hm_240 rfl rfl ?_
          obtain ⟨hi11, hf⟩ := mm_ite hf
          refine e_iald hm_240 rfl rfl hi11 ?_
          refine e_iconst hm_240 rfl kc_iconst_1 ?_
          by_cases hc12 : (y6.2.1 90 a1.toNatClampNeg) = (1 : Int32)
          · rw [if_pos hc12] at hf
            refine e_ic_f hm_240 rfl (cf_ne hc12) ?_
            refine e_iload_n hm_240 rfl rfl ?_
            refine e_i2s hm_240 rfl ?_
            refine e_goto (t := 83) hm_240 rfl rfl ?_
            obtain ⟨hi13, hf⟩ := mm_ite hf
            refine e_iast hm_240 rfl rfl hi13 ?_
            refine e_iconst hm_240 rfl kc_iconst_1 ?_
            obtain rfl := Option.some.inj hf
            exact e_iret hm_240 rfl rfl hq
          · rw [if_neg hc12] at hf
            refine e_ic_t (t := 82) hm_240 rfl (ct_ne hc12) rfl ?_
            refine e_iload_n hm_240 rfl rfl ?_
            obtain ⟨hi14, hf⟩ := mm_ite hf
            refine e_iast hm_240 rfl rfl hi14 ?_
            refine e_iconst hm_240 rfl kc_iconst_1 ?_
            obtain rfl := Option.some.inj hf
            exact e_iret hm_240 rfl rfl hq
def md_copy_l121 : Nat → Int32 → Int32 → Int32 → Int32 → Int32 → Int32 → Int32 → mm_M → Option (((Unit) × mm_M))
  | 0, _, _, _, _, _, _, _, _ => none
  | n + 1, x1, x2, x3, x4, x5, x6, x7, M =>
    if x7 < x5 then
      if x6 = (0 : Int32) then
        if ak_inb ((((40 : Int32) * x1) + x2) + x7) 160 = true then
        if ak_inb ((((40 : Int32) * x3) + x4) + x7) 160 = true then
        md_copy_l121 n x1 x2 x3 x4 x5 x6 (x7 + (1 : Int32)) (ak_up M.1 92 (((((40 : Int32) * x3) + x4) + x7).toNatClampNeg) (M.1 92 ((((40 : Int32) * x1) + x2) + x7).toNatClampNeg), M.2) else none else none
      else
        if ak_inb ((((40 : Int32) * x1) + x2) + ((x5 - (1 : Int32)) - x7)) 160 = true then
        if ak_inb ((((40 : Int32) * x3) + x4) + ((x5 - (1 : Int32)) - x7)) 160 = true then
        md_copy_l121 n x1 x2 x3 x4 x5 x6 (x7 + (1 : Int32)) (ak_up M.1 92 (((((40 : Int32) * x3) + x4) + ((x5 - (1 : Int32)) - x7)).toNatClampNeg) (M.1 92 ((((40 : Int32) * x1) + x2) + ((x5 - (1 : Int32)) - x7)).toNatClampNeg), M.2) else none else none
    else
      some ((), M)
set_option maxRecDepth 20000 in
set_option maxHeartbeats 4000000 in
theorem lc_241_121 {Z : ak_Z} {d : Nat} : ∀ (n : Nat) (x1 : Int32) (x2 : Int32) (x3 : Int32) (x4 : Int32) (x5 : Int32) (x6 : Int32) (x7 : Int32) (M : mm_M) {y : ((Unit) × mm_M)} (Q : Option Value → ak_H → Prop), md_copy_l121 n x1 x2 x3 x4 x5 x6 x7 M = some y → (Ev Z (d + 2) 241 182 [none, none, none, none, none, some (.int x5), none, none, none] [] (mm_H y.2) Q) → Ev Z (d + 2) 241 121 [some (.ref 73), some (.int x1), some (.int x2), some (.int x3), some (.int x4), some (.int x5), some (.int x6), some (.int x7), none] [] (mm_H M) Q := by
  intro n
  induction n with
  | zero => intro x1 x2 x3 x4 x5 x6 x7 M y Q hf; cases hf
  | succ n ih =>
    intro x1 x2 x3 x4 x5 x6 x7 M y Q hf hq
    rw [md_copy_l121] at hf
    refine e_iload hm_241 rfl rfl ?_
    refine e_iload hm_241 rfl rfl ?_
    by_cases hc1 : x7 < x5
    · rw [if_pos hc1] at hf
      refine e_ic_f hm_241 rfl (cf_ge hc1) ?_
      refine e_iload hm_241 rfl rfl ?_
      by_cases hc2 : x6 = (0 : Int32)
      · rw [if_pos hc2] at hf
        refine e_if_t (t := 143) hm_241 rfl (ct_eq hc2) rfl ?_
        refine e_iload hm_241 rfl rfl ?_
        refine e_istore (L2 := [some (.ref 73), some (.int x1), some (.int x2), some (.int x3), some (.int x4), some (.int x5), some (.int x6), some (.int x7), some (.int x7)]) hm_241 rfl rfl ?_
        refine e_aload_n hm_241 rfl rfl ?_
        refine e_getR hm_241 rfl rfl rfl rfl ?_
        refine e_bipush hm_241 rfl kc_bipush_40 ?_
        refine e_iload_n hm_241 rfl rfl ?_
        refine e_imul hm_241 rfl ?_
        refine e_iload hm_241 rfl rfl ?_
        refine e_iadd hm_241 rfl ?_
        refine e_iload hm_241 rfl rfl ?_
        refine e_iadd hm_241 rfl ?_
        refine e_aload_n hm_241 rfl rfl ?_
        refine e_getR hm_241 rfl rfl rfl rfl ?_
        refine e_bipush hm_241 rfl kc_bipush_40 ?_
        refine e_iload_n hm_241 rfl rfl ?_
        refine e_imul hm_241 rfl ?_
        refine e_iload_n hm_241 rfl rfl ?_
        refine e_iadd hm_241 rfl ?_
        refine e_iload hm_241 rfl rfl ?_
        refine e_iadd hm_241 rfl ?_
        obtain ⟨hi3, hf⟩ := mm_ite hf
        refine e_iald hm_241 rfl rfl hi3 ?_
        obtain ⟨hi4, hf⟩ := mm_ite hf
        refine e_iast hm_241 rfl rfl hi4 ?_
        refine e_iinc (L2 := [some (.ref 73), some (.int x1), some (.int x2), some (.int x3), some (.int x4), some (.int x5), some (.int x6), some (.int (x7 + (1 : Int32))), some (.int x7)]) hm_241 rfl kc_iinc_1 rfl rfl ?_
        refine e_goto (t := 121) hm_241 rfl rfl ?_
        exact e_forget (L' := [some (.ref 73), some (.int x1), some (.int x2), some (.int x3), some (.int x4), some (.int x5), some (.int x6), some (.int (x7 + (1 : Int32))), none]) (lf_k (lf_k (lf_k (lf_k (lf_k (lf_k (lf_k (lf_k (lf_d lf_0))))))))) (ih x1 x2 x3 x4 x5 x6 (x7 + (1 : Int32)) (ak_up M.1 92 (((((40 : Int32) * x3) + x4) + x7).toNatClampNeg) (M.1 92 ((((40 : Int32) * x1) + x2) + x7).toNatClampNeg), M.2) Q hf hq)
      · rw [if_neg hc2] at hf
        refine e_if_f hm_241 rfl (cf_eq hc2) ?_
        refine e_iload hm_241 rfl rfl ?_
        refine e_iconst hm_241 rfl kc_iconst_1 ?_
        refine e_isub hm_241 rfl ?_
        refine e_iload hm_241 rfl rfl ?_
        refine e_isub hm_241 rfl ?_
        refine e_goto (t := 145) hm_241 rfl rfl ?_
        refine e_istore (L2 := [some (.ref 73), some (.int x1), some (.int x2), some (.int x3), some (.int x4), some (.int x5), some (.int x6), some (.int x7), some (.int ((x5 - (1 : Int32)) - x7))]) hm_241 rfl rfl ?_
        refine e_aload_n hm_241 rfl rfl ?_
        refine e_getR hm_241 rfl rfl rfl rfl ?_
        refine e_bipush hm_241 rfl kc_bipush_40 ?_
        refine e_iload_n hm_241 rfl rfl ?_
        refine e_imul hm_241 rfl ?_
        refine e_iload hm_241 rfl rfl ?_
        refine e_iadd hm_241 rfl ?_
        refine e_iload hm_241 rfl rfl ?_
        refine e_iadd hm_241 rfl ?_
        refine e_aload_n hm_241 rfl rfl ?_
        refine e_getR hm_241 rfl rfl rfl rfl ?_
        refine e_bipush hm_241 rfl kc_bipush_40 ?_
        refine e_iload_n hm_241 rfl rfl ?_
        refine e_imul hm_241 rfl ?_
        refine e_iload_n hm_241 rfl rfl ?_
        refine e_iadd hm_241 rfl ?_
        refine e_iload hm_241 rfl rfl ?_
        refine e_iadd hm_241 rfl ?_
        obtain ⟨hi5, hf⟩ := mm_ite hf
        refine e_iald hm_241 rfl rfl hi5 ?_
        obtain ⟨hi6, hf⟩ := mm_ite hf
        refine e_iast hm_241 rfl rfl hi6 ?_
        refine e_iinc (L2 := [some (.ref 73), some (.int x1), some (.int x2), some (.int x3), some (.int x4), some (.int x5), some (.int x6), some (.int (x7 + (1 : Int32))), some (.int ((x5 - (1 : Int32)) - x7))]) hm_241 rfl kc_iinc_1 rfl rfl ?_
        refine e_goto (t := 121) hm_241 rfl rfl ?_
        exact e_forget (L' := [some (.ref 73), some (.int x1), some (.int x2), some (.int x3), some (.int x4), some (.int x5), some (.int x6), some (.int (x7 + (1 : Int32))), none]) (lf_k (lf_k (lf_k (lf_k (lf_k (lf_k (lf_k (lf_k (lf_d lf_0))))))))) (ih x1 x2 x3 x4 x5 x6 (x7 + (1 : Int32)) (ak_up M.1 92 (((((40 : Int32) * x3) + x4) + ((x5 - (1 : Int32)) - x7)).toNatClampNeg) (M.1 92 ((((40 : Int32) * x1) + x2) + ((x5 - (1 : Int32)) - x7)).toNatClampNeg), M.2) Q hf hq)
    · rw [if_neg hc1] at hf
      refine e_ic_t (t := 182) hm_241 rfl (ct_ge hc1) rfl ?_
      obtain rfl := Option.some.inj hf
      exact e_forget (L' := [none, none, none, none, none, some (.int x5), none, none, none]) (lf_d (lf_d (lf_d (lf_d (lf_d (lf_k (lf_d (lf_d (lf_k lf_0))))))))) hq
def md_copy (a1 : Int32) (a2 : Int32) (a3 : Int32) (a4 : Int32) (a5 : Int32) (M : mm_M) : Option (Int32 × mm_M) :=
  (md_isSheet a1 M).bind fun y1 =>
  if y1.1 = (0 : Int32) then
    some ((-2 : Int32), y1.2)
  else
    (md_isSheet a3 y1.2).bind fun y3 =>
    if y3.1 = (0 : Int32) then
      some ((-2 : Int32), y3.2)
    else
      if ak_inb a1 4 = true then
      if (y3.2.1 89 a1.toNatClampNeg) = (0 : Int32) then
        some ((-11 : Int32), y3.2)
      else
        if ak_inb a3 4 = true then
        if (y3.2.1 89 a3.toNatClampNeg) = (0 : Int32) then
          some ((-11 : Int32), y3.2)
        else
          if ak_inb a1 4 = true then
          if ak_inb a3 4 = true then
          if (y3.2.1 90 a1.toNatClampNeg) = (y3.2.1 90 a3.toNatClampNeg) then
            if a5 < (0 : Int32) then
              some ((-12 : Int32), y3.2)
            else
              if a2 < (0 : Int32) then
                some ((-12 : Int32), y3.2)
              else
                if a4 < (0 : Int32) then
                  some ((-12 : Int32), y3.2)
                else
                  if ak_inb a1 4 = true then
                  if ((y3.2.1 91 a1.toNatClampNeg) - a5) < a2 then
                    some ((-12 : Int32), y3.2)
                  else
                    if ak_inb a3 4 = true then
                    if ((y3.2.1 91 a3.toNatClampNeg) - a5) < a4 then
                      some ((-12 : Int32), y3.2)
                    else
                      if a1 = a3 then
                        if a2 < a4 then
                          (md_copy_l121 300 a1 a2 a3 a4 a5 (1 : Int32) (0 : Int32) y3.2).bind fun y21 =>
                          some (a5, y21.2)
                        else
                          (md_copy_l121 300 a1 a2 a3 a4 a5 (0 : Int32) (0 : Int32) y3.2).bind fun y22 =>
                          some (a5, y22.2)
                      else
                        (md_copy_l121 300 a1 a2 a3 a4 a5 (0 : Int32) (0 : Int32) y3.2).bind fun y23 =>
                        some (a5, y23.2) else none else none
          else
            some ((-13 : Int32), y3.2) else none else none else none else none
set_option maxRecDepth 20000 in
set_option maxHeartbeats 4000000 in
theorem c_241 {Z : ak_Z} {d : Nat} (a1 : Int32) (a2 : Int32) (a3 : Int32) (a4 : Int32) (a5 : Int32) (M : mm_M) {y : Int32 × mm_M} (hf : md_copy a1 a2 a3 a4 a5 M = some y) {Q : Option Value → ak_H → Prop} (hq : Q (some (.int y.1)) (mm_H y.2)) : Ev Z (d + 2) 241 0 [some (.ref 73), some (.int a1), some (.int a2), some (.int a3), some (.int a4), some (.int a5), none, none, none] [] (mm_H M) Q := by
  rw [md_copy] at hf
  refine e_iload_n hm_241 rfl rfl ?_
  obtain ⟨y1, hky1, hf⟩ := mm_bd hf
  refine e_stat hm_241 rfl (by decide) rfl rfl (Nat.le_of_ble_eq_true rfl) hm_230 rfl rfl (c_230 a1 M hky1 ?_)
  show Ev Z _ 241 4 [some (.ref 73), some (.int a1), some (.int a2), some (.int a3), some (.int a4), some (.int a5), none, none, none] [.int y1.1] (mm_H y1.2) Q
  by_cases hc2 : y1.1 = (0 : Int32)
  · rw [if_pos hc2] at hf
    refine e_if_t (t := 14) hm_241 rfl (ct_eq hc2) rfl ?_
    refine e_bipush hm_241 rfl kc_bipush_m2 ?_
    obtain rfl := Option.some.inj hf
    exact e_iret hm_241 rfl rfl hq
  · rw [if_neg hc2] at hf
    refine e_if_f hm_241 rfl (cf_eq hc2) ?_
    refine e_iload_n hm_241 rfl rfl ?_
    obtain ⟨y3, hky3, hf⟩ := mm_bd hf
    refine e_stat hm_241 rfl (by decide) rfl rfl (Nat.le_of_ble_eq_true rfl) hm_230 rfl rfl (c_230 a3 y1.2 hky3 ?_)
    show Ev Z _ 241 11 [some (.ref 73), some (.int a1), some (.int a2), some (.int a3), some (.int a4), some (.int a5), none, none, none] [.int y3.1] (mm_H y3.2) Q
    by_cases hc4 : y3.1 = (0 : Int32)
    · rw [if_pos hc4] at hf
      refine e_if_f hm_241 rfl (cf_ne hc4) ?_
      refine e_bipush hm_241 rfl kc_bipush_m2 ?_
      obtain rfl := Option.some.inj hf
      exact e_iret hm_241 rfl rfl hq
    · rw [if_neg hc4] at hf
      refine e_if_t (t := 17) hm_241 rfl (ct_ne hc4) rfl ?_
      refine e_aload_n hm_241 rfl rfl ?_
      refine e_getR hm_241 rfl rfl rfl rfl ?_
      refine e_iload_n hm_241 rfl rfl ?_
      obtain ⟨hi5, hf⟩ := mm_ite hf
      refine e_zald hm_241 rfl rfl hi5 ?_
      by_cases hc6 : (y3.2.1 89 a1.toNatClampNeg) = (0 : Int32)
      · rw [if_pos hc6] at hf
        refine e_if_t (t := 35) hm_241 rfl (ct_eq hc6) rfl ?_
        refine e_bipush hm_241 rfl kc_bipush_m11 ?_
        obtain rfl := Option.some.inj hf
        exact e_iret hm_241 rfl rfl hq
      · rw [if_neg hc6] at hf
        refine e_if_f hm_241 rfl (cf_eq hc6) ?_
        refine e_aload_n hm_241 rfl rfl ?_
        refine e_getR hm_241 rfl rfl rfl rfl ?_
        refine e_iload_n hm_241 rfl rfl ?_
        obtain ⟨hi7, hf⟩ := mm_ite hf
        refine e_zald hm_241 rfl rfl hi7 ?_
        by_cases hc8 : (y3.2.1 89 a3.toNatClampNeg) = (0 : Int32)
        · rw [if_pos hc8] at hf
          refine e_if_f hm_241 rfl (cf_ne hc8) ?_
          refine e_bipush hm_241 rfl kc_bipush_m11 ?_
          obtain rfl := Option.some.inj hf
          exact e_iret hm_241 rfl rfl hq
        · rw [if_neg hc8] at hf
          refine e_if_t (t := 38) hm_241 rfl (ct_ne hc8) rfl ?_
          refine e_aload_n hm_241 rfl rfl ?_
          refine e_getR hm_241 rfl rfl rfl rfl ?_
          refine e_iload_n hm_241 rfl rfl ?_
          obtain ⟨hi9, hf⟩ := mm_ite hf
          refine e_iald hm_241 rfl rfl hi9 ?_
          refine e_aload_n hm_241 rfl rfl ?_
          refine e_getR hm_241 rfl rfl rfl rfl ?_
          refine e_iload_n hm_241 rfl rfl ?_
          obtain ⟨hi10, hf⟩ := mm_ite hf
          refine e_iald hm_241 rfl rfl hi10 ?_
          by_cases hc11 : (y3.2.1 90 a1.toNatClampNeg) = (y3.2.1 90 a3.toNatClampNeg)
          · rw [if_pos hc11] at hf
            refine e_ic_t (t := 56) hm_241 rfl (ct_eq hc11) rfl ?_
            refine e_iload hm_241 rfl rfl ?_
            by_cases hc12 : a5 < (0 : Int32)
            · rw [if_pos hc12] at hf
              refine e_if_t (t := 97) hm_241 rfl (ct_lt hc12) rfl ?_
              refine e_bipush hm_241 rfl kc_bipush_m12 ?_
              obtain rfl := Option.some.inj hf
              exact e_iret hm_241 rfl rfl hq
            · rw [if_neg hc12] at hf
              refine e_if_f hm_241 rfl (cf_lt hc12) ?_
              refine e_iload_n hm_241 rfl rfl ?_
              by_cases hc13 : a2 < (0 : Int32)
              · rw [if_pos hc13] at hf
                refine e_if_t (t := 97) hm_241 rfl (ct_lt hc13) rfl ?_
                refine e_bipush hm_241 rfl kc_bipush_m12 ?_
                obtain rfl := Option.some.inj hf
                exact e_iret hm_241 rfl rfl hq
              · rw [if_neg hc13] at hf
                refine e_if_f hm_241 rfl (cf_lt hc13) ?_
                refine e_iload hm_241 rfl rfl ?_
                by_cases hc14 : a4 < (0 : Int32)
                · rw [if_pos hc14] at hf
                  refine e_if_t (t := 97) hm_241 rfl (ct_lt hc14) rfl ?_
                  refine e_bipush hm_241 rfl kc_bipush_m12 ?_
                  obtain rfl := Option.some.inj hf
                  exact e_iret hm_241 rfl rfl hq
                · rw [if_neg hc14] at hf
                  refine e_if_f hm_241 rfl (cf_lt hc14) ?_
                  refine e_iload_n hm_241 rfl rfl ?_
                  refine e_aload_n hm_241 rfl rfl ?_
                  refine e_getR hm_241 rfl rfl rfl rfl ?_
                  refine e_iload_n hm_241 rfl rfl ?_
                  obtain ⟨hi15, hf⟩ := mm_ite hf
                  refine e_iald hm_241 rfl rfl hi15 ?_
                  refine e_iload hm_241 rfl rfl ?_
                  refine e_isub hm_241 rfl ?_
                  by_cases hc16 : ((y3.2.1 91 a1.toNatClampNeg) - a5) < a2
                  · rw [if_pos hc16] at hf
                    refine e_ic_t (t := 97) hm_241 rfl (ct_gt hc16) rfl ?_
                    refine e_bipush hm_241 rfl kc_bipush_m12 ?_
                    obtain rfl := Option.some.inj hf
                    exact e_iret hm_241 rfl rfl hq
                  · rw [if_neg hc16] at hf
                    refine e_ic_f hm_241 rfl (cf_gt hc16) ?_
                    refine e_iload hm_241 rfl rfl ?_
                    refine e_aload_n hm_241 rfl rfl ?_
                    refine e_getR hm_241 rfl rfl rfl rfl ?_
                    refine e_iload_n hm_241 rfl rfl ?_
                    obtain ⟨hi17, hf⟩ := mm_ite hf
                    refine e_iald hm_241 rfl rfl hi17 ?_
                    refine e_iload hm_241 rfl rfl ?_
                    refine e_isub hm_241 rfl ?_
                    by_cases hc18 : ((y3.2.1 91 a3.toNatClampNeg) - a5) < a4
                    · rw [if_pos hc18] at hf
                      refine e_ic_f hm_241 rfl (cf_le hc18) ?_
                      refine e_bipush hm_241 rfl kc_bipush_m12 ?_
                      obtain rfl := Option.some.inj hf
                      exact e_iret hm_241 rfl rfl hq
                    · rw [if_neg hc18] at hf
                      refine e_ic_t (t := 100) hm_241 rfl (ct_le hc18) rfl ?_
                      refine e_iload_n hm_241 rfl rfl ?_
                      refine e_iload_n hm_241 rfl rfl ?_
                      by_cases hc19 : a1 = a3
                      · rw [if_pos hc19] at hf
                        refine e_ic_f hm_241 rfl (cf_ne hc19) ?_
                        refine e_iload_n hm_241 rfl rfl ?_
                        refine e_iload hm_241 rfl rfl ?_
                        by_cases hc20 : a2 < a4
                        · rw [if_pos hc20] at hf
                          refine e_ic_f hm_241 rfl (cf_ge hc20) ?_
                          refine e_iconst hm_241 rfl kc_iconst_1 ?_
                          refine e_goto (t := 116) hm_241 rfl rfl ?_
                          refine e_istore (L2 := [some (.ref 73), some (.int a1), some (.int a2), some (.int a3), some (.int a4), some (.int a5), some (.int (1 : Int32)), none, none]) hm_241 rfl rfl ?_
                          refine e_iconst hm_241 rfl kc_iconst_0 ?_
                          refine e_istore (L2 := [some (.ref 73), some (.int a1), some (.int a2), some (.int a3), some (.int a4), some (.int a5), some (.int (1 : Int32)), some (.int (0 : Int32)), none]) hm_241 rfl rfl ?_
                          obtain ⟨y21, hky21, hf⟩ := mm_bd hf
                          refine e_forget (L' := [some (.ref 73), some (.int a1), some (.int a2), some (.int a3), some (.int a4), some (.int a5), some (.int (1 : Int32)), some (.int (0 : Int32)), none]) (lf_k (lf_k (lf_k (lf_k (lf_k (lf_k (lf_k (lf_k (lf_k lf_0))))))))) (lc_241_121 (d := _) 300 a1 a2 a3 a4 a5 (1 : Int32) (0 : Int32) y3.2 Q hky21 ?_)
                          show Ev Z _ 241 182 [none, none, none, none, none, some (.int a5), none, none, none] [] (mm_H y21.2) Q
                          refine e_iload hm_241 rfl rfl ?_
                          obtain rfl := Option.some.inj hf
                          exact e_iret hm_241 rfl rfl hq
                        · rw [if_neg hc20] at hf
                          refine e_ic_t (t := 115) hm_241 rfl (ct_ge hc20) rfl ?_
                          refine e_iconst hm_241 rfl kc_iconst_0 ?_
                          refine e_istore (L2 := [some (.ref 73), some (.int a1), some (.int a2), some (.int a3), some (.int a4), some (.int a5), some (.int (0 : Int32)), none, none]) hm_241 rfl rfl ?_
                          refine e_iconst hm_241 rfl kc_iconst_0 ?_
                          refine e_istore (L2 := [some (.ref 73), some (.int a1), some (.int a2), some (.int a3), some (.int a4), some (.int a5), some (.int (0 : Int32)), some (.int (0 : Int32)), none]) hm_241 rfl rfl ?_
                          obtain ⟨y22, hky22, hf⟩ := mm_bd hf
                          refine e_forget (L' := [some (.ref 73), some (.int a1), some (.int a2), some (.int a3), some (.int a4), some (.int a5), some (.int (0 : Int32)), some (.int (0 : Int32)), none]) (lf_k (lf_k (lf_k (lf_k (lf_k (lf_k (lf_k (lf_k (lf_k lf_0))))))))) (lc_241_121 (d := _) 300 a1 a2 a3 a4 a5 (0 : Int32) (0 : Int32) y3.2 Q hky22 ?_)
                          show Ev Z _ 241 182 [none, none, none, none, none, some (.int a5), none, none, none] [] (mm_H y22.2) Q
                          refine e_iload hm_241 rfl rfl ?_
                          obtain rfl := Option.some.inj hf
                          exact e_iret hm_241 rfl rfl hq
                      · rw [if_neg hc19] at hf
                        refine e_ic_t (t := 115) hm_241 rfl (ct_ne hc19) rfl ?_
                        refine e_iconst hm_241 rfl kc_iconst_0 ?_
                        refine e_istore (L2 := [some (.ref 73), some (.int a1), some (.int a2), some (.int a3), some (.int a4), some (.int a5), some (.int (0 : Int32)), none, none]) hm_241 rfl rfl ?_
                        refine e_iconst hm_241 rfl kc_iconst_0 ?_
                        refine e_istore (L2 := [some (.ref 73), some (.int a1), some (.int a2), some (.int a3), some (.int a4), some (.int a5), some (.int (0 : Int32)), some (.int (0 : Int32)), none]) hm_241 rfl rfl ?_
                        obtain ⟨y23, hky23, hf⟩ := mm_bd hf
                        refine e_forget (L' := [some (.ref 73), some (.int a1), some (.int a2), some (.int a3), some (.int a4), some (.int a5), some (.int (0 : Int32)), some (.int (0 : Int32)), none]) (lf_k (lf_k (lf_k (lf_k (lf_k (lf_k (lf_k (lf_k (lf_k lf_0))))))))) (lc_241_121 (d := _) 300 a1 a2 a3 a4 a5 (0 : Int32) (0 : Int32) y3.2 Q hky23 ?_)
                        show Ev Z _ 241 182 [none, none, none, none, none, some (.int a5), none, none, none] [] (mm_H y23.2) Q
                        refine e_iload hm_241 rfl rfl ?_
                        obtain rfl := Option.some.inj hf
                        exact e_iret hm_241 rfl rfl hq
          · rw [if_neg hc11] at hf
            refine e_ic_f hm_241 rfl (cf_eq hc11) ?_
            refine e_bipush hm_241 rfl kc_bipush_m13 ?_
            obtain rfl := Option.some.inj hf
            exact e_iret hm_241 rfl rfl hq
def md_clerks_l75 : Nat → Int32 → Int32 → Int32 → Int32 → Int32 → mm_M → Option ((Int32 × mm_M) ⊕ ((Int32) × mm_M))
  | 0, _, _, _, _, _, _ => none
  | n + 1, x1, x3, x4, x5, x6, M =>
    if x6 < x4 then
      if x3 < (0 : Int32) then
        some (.inl ((-12 : Int32), M))
      else
        if ak_inb x1 4 = true then
        if (((M.1 91 x1.toNatClampNeg) - ((3 : Int32) * x6)) - (3 : Int32)) < x3 then
          some (.inl ((-12 : Int32), M))
        else
          if ak_inb ((((40 : Int32) * x1) + x3) + ((3 : Int32) * x6)) 160 = true then
          if ak_inb (((((40 : Int32) * x1) + x3) + ((3 : Int32) * x6)) + (1 : Int32)) 160 = true then
          if ak_inb (((((40 : Int32) * x1) + x3) + ((3 : Int32) * x6)) + (2 : Int32)) 160 = true then
          (md_clerk (M.1 92 ((((40 : Int32) * x1) + x3) + ((3 : Int32) * x6)).toNatClampNeg) (M.1 92 (((((40 : Int32) * x1) + x3) + ((3 : Int32) * x6)) + (1 : Int32)).toNatClampNeg) (M.1 92 (((((40 : Int32) * x1) + x3) + ((3 : Int32) * x6)) + (2 : Int32)).toNatClampNeg) M).bind fun y8 =>
          if y8.1 < (0 : Int32) then
            md_clerks_l75 n x1 x3 x4 (x5 + (0 : Int32)) (x6 + (1 : Int32)) y8.2
          else
            md_clerks_l75 n x1 x3 x4 (x5 + (1 : Int32)) (x6 + (1 : Int32)) y8.2 else none else none else none else none
    else
      some (.inr (x5, M))
set_option maxRecDepth 20000 in
set_option maxHeartbeats 4000000 in
theorem lc_242_75 {Z : ak_Z} {d : Nat} : ∀ (n : Nat) (x1 : Int32) (x3 : Int32) (x4 : Int32) (x5 : Int32) (x6 : Int32) (M : mm_M) {y : (Int32 × mm_M) ⊕ ((Int32) × mm_M)} (Q : Option Value → ak_H → Prop), md_clerks_l75 n x1 x3 x4 x5 x6 M = some y → (match y with | .inl yr => Q (some (.int yr.1)) (mm_H yr.2) | .inr yv => Ev Z (d + 2) 242 167 [none, none, none, none, none, some (.int yv.1), none, none] [] (mm_H yv.2) Q) → Ev Z (d + 2) 242 75 [some (.ref 73), some (.int x1), none, some (.int x3), some (.int x4), some (.int x5), some (.int x6), none] [] (mm_H M) Q := by
  intro n
  induction n with
  | zero => intro x1 x3 x4 x5 x6 M y Q hf; cases hf
  | succ n ih =>
    intro x1 x3 x4 x5 x6 M y Q hf hq
    rw [md_clerks_l75] at hf
    refine e_iload hm_242 rfl rfl ?_
    refine e_iload hm_242 rfl rfl ?_
    by_cases hc1 : x6 < x4
    · rw [if_pos hc1] at hf
      refine e_ic_f hm_242 rfl (cf_ge hc1) ?_
      refine e_iload_n hm_242 rfl rfl ?_
      by_cases hc2 : x3 < (0 : Int32)
      · rw [if_pos hc2] at hf
        refine e_if_t (t := 103) hm_242 rfl (ct_lt hc2) rfl ?_
        refine e_bipush hm_242 rfl kc_bipush_m12 ?_
        obtain rfl := Option.some.inj hf
        exact e_iret hm_242 rfl rfl hq
      · rw [if_neg hc2] at hf
        refine e_if_f hm_242 rfl (cf_lt hc2) ?_
        refine e_iload_n hm_242 rfl rfl ?_
        refine e_aload_n hm_242 rfl rfl ?_
        refine e_getR hm_242 rfl rfl rfl rfl ?_
        refine e_iload_n hm_242 rfl rfl ?_
        obtain ⟨hi3, hf⟩ := mm_ite hf
        refine e_iald hm_242 rfl rfl hi3 ?_
        refine e_iconst hm_242 rfl kc_iconst_3 ?_
        refine e_iload hm_242 rfl rfl ?_
        refine e_imul hm_242 rfl ?_
        refine e_isub hm_242 rfl ?_
        refine e_iconst hm_242 rfl kc_iconst_3 ?_
        refine e_isub hm_242 rfl ?_
        by_cases hc4 : (((M.1 91 x1.toNatClampNeg) - ((3 : Int32) * x6)) - (3 : Int32)) < x3
        · rw [if_pos hc4] at hf
          refine e_ic_f hm_242 rfl (cf_le hc4) ?_
          refine e_bipush hm_242 rfl kc_bipush_m12 ?_
          obtain rfl := Option.some.inj hf
          exact e_iret hm_242 rfl rfl hq
        · rw [if_neg hc4] at hf
          refine e_ic_t (t := 106) hm_242 rfl (ct_le hc4) rfl ?_
          refine e_bipush hm_242 rfl kc_bipush_40 ?_
          refine e_iload_n hm_242 rfl rfl ?_
          refine e_imul hm_242 rfl ?_
          refine e_iload_n hm_242 rfl rfl ?_
          refine e_iadd hm_242 rfl ?_
          refine e_iconst hm_242 rfl kc_iconst_3 ?_
          refine e_iload hm_242 rfl rfl ?_
          refine e_imul hm_242 rfl ?_
          refine e_iadd hm_242 rfl ?_
          refine e_istore (L2 := [some (.ref 73), some (.int x1), none, some (.int x3), some (.int x4), some (.int x5), some (.int x6), some (.int ((((40 : Int32) * x1) + x3) + ((3 : Int32) * x6)))]) hm_242 rfl rfl ?_
          refine e_iload hm_242 rfl rfl ?_
          refine e_aload_n hm_242 rfl rfl ?_
          refine e_aload_n hm_242 rfl rfl ?_
          refine e_getR hm_242 rfl rfl rfl rfl ?_
          refine e_iload hm_242 rfl rfl ?_
          obtain ⟨hi5, hf⟩ := mm_ite hf
          refine e_iald hm_242 rfl rfl hi5 ?_
          refine e_aload_n hm_242 rfl rfl ?_
          refine e_getR hm_242 rfl rfl rfl rfl ?_
          refine e_iload hm_242 rfl rfl ?_
          refine e_iconst hm_242 rfl kc_iconst_1 ?_
          refine e_iadd hm_242 rfl ?_
          obtain ⟨hi6, hf⟩ := mm_ite hf
          refine e_iald hm_242 rfl rfl hi6 ?_
          refine e_aload_n hm_242 rfl rfl ?_
          refine e_getR hm_242 rfl rfl rfl rfl ?_
          refine e_iload hm_242 rfl rfl ?_
          refine e_iconst hm_242 rfl kc_iconst_2 ?_
          refine e_iadd hm_242 rfl ?_
          obtain ⟨hi7, hf⟩ := mm_ite hf
          refine e_iald hm_242 rfl rfl hi7 ?_
          obtain ⟨y8, hky8, hf⟩ := mm_bd hf
          refine e_virt hm_242 rfl rfl rfl rfl (Nat.le_of_ble_eq_true rfl) hm_198 rfl rfl (c_198 (M.1 92 ((((40 : Int32) * x1) + x3) + ((3 : Int32) * x6)).toNatClampNeg) (M.1 92 (((((40 : Int32) * x1) + x3) + ((3 : Int32) * x6)) + (1 : Int32)).toNatClampNeg) (M.1 92 (((((40 : Int32) * x1) + x3) + ((3 : Int32) * x6)) + (2 : Int32)).toNatClampNeg) M hky8 ?_)
          show Ev Z _ 242 150 [some (.ref 73), some (.int x1), none, some (.int x3), some (.int x4), some (.int x5), some (.int x6), some (.int ((((40 : Int32) * x1) + x3) + ((3 : Int32) * x6)))] [.int y8.1, .int x5] (mm_H y8.2) Q
          by_cases hc9 : y8.1 < (0 : Int32)
          · rw [if_pos hc9] at hf
            refine e_if_t (t := 157) hm_242 rfl (ct_lt hc9) rfl ?_
            refine e_iconst hm_242 rfl kc_iconst_0 ?_
            refine e_iadd hm_242 rfl ?_
            refine e_istore (L2 := [some (.ref 73), some (.int x1), none, some (.int x3), some (.int x4), some (.int (x5 + (0 : Int32))), some (.int x6), some (.int ((((40 : Int32) * x1) + x3) + ((3 : Int32) * x6)))]) hm_242 rfl rfl ?_
            refine e_iinc (L2 := [some (.ref 73), some (.int x1), none, some (.int x3), some (.int x4), some (.int (x5 + (0 : Int32))), some (.int (x6 + (1 : Int32))), some (.int ((((40 : Int32) * x1) + x3) + ((3 : Int32) * x6)))]) hm_242 rfl kc_iinc_1 rfl rfl ?_
            refine e_goto (t := 75) hm_242 rfl rfl ?_
            exact e_forget (L' := [some (.ref 73), some (.int x1), none, some (.int x3), some (.int x4), some (.int (x5 + (0 : Int32))), some (.int (x6 + (1 : Int32))), none]) (lf_k (lf_k (lf_k (lf_k (lf_k (lf_k (lf_k (lf_d lf_0)))))))) (ih x1 x3 x4 (x5 + (0 : Int32)) (x6 + (1 : Int32)) y8.2 Q hf hq)
          · rw [if_neg hc9] at hf
            refine e_if_f hm_242 rfl (cf_lt hc9) ?_
            refine e_iconst hm_242 rfl kc_iconst_1 ?_
            refine e_goto (t := 158) hm_242 rfl rfl ?_
            refine e_iadd hm_242 rfl ?_
            refine e_istore (L2 := [some (.ref 73), some (.int x1), none, some (.int x3), some (.int x4), some (.int (x5 + (1 : Int32))), some (.int x6), some (.int ((((40 : Int32) * x1) + x3) + ((3 : Int32) * x6)))]) hm_242 rfl rfl ?_
            refine e_iinc (L2 := [some (.ref 73), some (.int x1), none, some (.int x3), some (.int x4), some (.int (x5 + (1 : Int32))), some (.int (x6 + (1 : Int32))), some (.int ((((40 : Int32) * x1) + x3) + ((3 : Int32) * x6)))]) hm_242 rfl kc_iinc_1 rfl rfl ?_
            refine e_goto (t := 75) hm_242 rfl rfl ?_
            exact e_forget (L' := [some (.ref 73), some (.int x1), none, some (.int x3), some (.int x4), some (.int (x5 + (1 : Int32))), some (.int (x6 + (1 : Int32))), none]) (lf_k (lf_k (lf_k (lf_k (lf_k (lf_k (lf_k (lf_d lf_0)))))))) (ih x1 x3 x4 (x5 + (1 : Int32)) (x6 + (1 : Int32)) y8.2 Q hf hq)
    · rw [if_neg hc1] at hf
      refine e_ic_t (t := 167) hm_242 rfl (ct_ge hc1) rfl ?_
      obtain rfl := Option.some.inj hf
      exact e_forget (L' := [none, none, none, none, none, some (.int x5), none, none]) (lf_d (lf_d (lf_k (lf_d (lf_d (lf_k (lf_d (lf_k lf_0)))))))) hq
def md_clerks (a1 : Int32) (a2 : Int32) (a3 : Int32) (a4 : Int32) (M : mm_M) : Option (Int32 × mm_M) :=
  (md_isSheet a1 M).bind fun y1 =>
  if y1.1 = (0 : Int32) then
    some ((-2 : Int32), y1.2)
  else
    (md_in a2.toInt64 (0 : Int64) (2 : Int64) y1.2).bind fun y3 =>
    if y3.1 = (0 : Int32) then
      some ((-2 : Int32), y3.2)
    else
      (md_in a4.toInt64 (0 : Int64) (4 : Int64) y3.2).bind fun y5 =>
      if y5.1 = (0 : Int32) then
        some ((-2 : Int32), y5.2)
      else
        if ak_inb a1 4 = true then
        if (y5.2.1 89 a1.toNatClampNeg) = (0 : Int32) then
          if ak_inb a1 4 = true then
          if (y5.2.1 89 a1.toNatClampNeg) = (0 : Int32) then
            some ((-11 : Int32), y5.2)
          else
            (md_clerks_l75 300 a1 a3 a4 (0 : Int32) (0 : Int32) y5.2).bind fun y11 => match y11 with
            | .inl y11r => some y11r
            | .inr y11v => some (y11v.1, y11v.2) else none
        else
          if ak_inb a1 4 = true then
          if (y5.2.1 90 a1.toNatClampNeg) = a2 then
            if ak_inb a1 4 = true then
            if (y5.2.1 89 a1.toNatClampNeg) = (0 : Int32) then
              some ((-11 : Int32), y5.2)
            else
              (md_clerks_l75 300 a1 a3 a4 (0 : Int32) (0 : Int32) y5.2).bind fun y16 => match y16 with
              | .inl y16r => some y16r
              | .inr y16v => some (y16v.1, y16v.2) else none
          else
            some ((-13 : Int32), y5.2) else none else none
set_option maxRecDepth 20000 in
set_option maxHeartbeats 4000000 in
theorem c_242 {Z : ak_Z} {d : Nat} (a1 : Int32) (a2 : Int32) (a3 : Int32) (a4 : Int32) (M : mm_M) {y : Int32 × mm_M} (hf : md_clerks a1 a2 a3 a4 M = some y) {Q : Option Value → ak_H → Prop} (hq : Q (some (.int y.1)) (mm_H y.2)) : Ev Z (d + 2) 242 0 [some (.ref 73), some (.int a1), some (.int a2), some (.int a3), some (.int a4), none, none, none] [] (mm_H M) Q := by
  rw [md_clerks] at hf
  refine e_iload_n hm_242 rfl rfl ?_
  obtain ⟨y1, hky1, hf⟩ := mm_bd hf
  refine e_stat hm_242 rfl (by decide) rfl rfl (Nat.le_of_ble_eq_true rfl) hm_230 rfl rfl (c_230 a1 M hky1 ?_)
  show Ev Z _ 242 4 [some (.ref 73), some (.int a1), some (.int a2), some (.int a3), some (.int a4), none, none, none] [.int y1.1] (mm_H y1.2) Q
  by_cases hc2 : y1.1 = (0 : Int32)
  · rw [if_pos hc2] at hf
    refine e_if_t (t := 32) hm_242 rfl (ct_eq hc2) rfl ?_
    refine e_bipush hm_242 rfl kc_bipush_m2 ?_
    obtain rfl := Option.some.inj hf
    exact e_iret hm_242 rfl rfl hq
  · rw [if_neg hc2] at hf
    refine e_if_f hm_242 rfl (cf_eq hc2) ?_
    refine e_iload_n hm_242 rfl rfl ?_
    refine e_i2l hm_242 rfl ?_
    refine e_lconst hm_242 rfl rfl ?_
    refine e_ldc2 hm_242 rfl kc_ldc2_2 ?_
    obtain ⟨y3, hky3, hf⟩ := mm_bd hf
    refine e_stat hm_242 rfl (by decide) rfl rfl (Nat.le_of_ble_eq_true rfl) hm_169 rfl rfl (c_169 a2.toInt64 (0 : Int64) (2 : Int64) y1.2 hky3 ?_)
    show Ev Z _ 242 16 [some (.ref 73), some (.int a1), some (.int a2), some (.int a3), some (.int a4), none, none, none] [.int y3.1] (mm_H y3.2) Q
    by_cases hc4 : y3.1 = (0 : Int32)
    · rw [if_pos hc4] at hf
      refine e_if_t (t := 32) hm_242 rfl (ct_eq hc4) rfl ?_
      refine e_bipush hm_242 rfl kc_bipush_m2 ?_
      obtain rfl := Option.some.inj hf
      exact e_iret hm_242 rfl rfl hq
    · rw [if_neg hc4] at hf
      refine e_if_f hm_242 rfl (cf_eq hc4) ?_
      refine e_iload hm_242 rfl rfl ?_
      refine e_i2l hm_242 rfl ?_
      refine e_lconst hm_242 rfl rfl ?_
      refine e_ldc2 hm_242 rfl kc_ldc2_4 ?_
      obtain ⟨y5, hky5, hf⟩ := mm_bd hf
      refine e_stat hm_242 rfl (by decide) rfl rfl (Nat.le_of_ble_eq_true rfl) hm_169 rfl rfl (c_169 a4.toInt64 (0 : Int64) (4 : Int64) y3.2 hky5 ?_)
      show Ev Z _ 242 29 [some (.ref 73), some (.int a1), some (.int a2), some (.int a3), some (.int a4), none, none, none] [.int y5.1] (mm_H y5.2) Q
      by_cases hc6 : y5.1 = (0 : Int32)
      · rw [if_pos hc6] at hf
        refine e_if_f hm_242 rfl (cf_ne hc6) ?_
        refine e_bipush hm_242 rfl kc_bipush_m2 ?_
        obtain rfl := Option.some.inj hf
        exact e_iret hm_242 rfl rfl hq
      · rw [if_neg hc6] at hf
        refine e_if_t (t := 35) hm_242 rfl (ct_ne hc6) rfl ?_
        refine e_aload_n hm_242 rfl rfl ?_
        refine e_getR hm_242 rfl rfl rfl rfl ?_
        refine e_iload_n hm_242 rfl rfl ?_
        obtain ⟨hi7, hf⟩ := mm_ite hf
        refine e_zald hm_242 rfl rfl hi7 ?_
        by_cases hc8 : (y5.2.1 89 a1.toNatClampNeg) = (0 : Int32)
        · rw [if_pos hc8] at hf
          refine e_if_t (t := 57) hm_242 rfl (ct_eq hc8) rfl ?_
          refine e_aload_n hm_242 rfl rfl ?_
          refine e_getR hm_242 rfl rfl rfl rfl ?_
          refine e_iload_n hm_242 rfl rfl ?_
          obtain ⟨hi9, hf⟩ := mm_ite hf
          refine e_zald hm_242 rfl rfl hi9 ?_
          by_cases hc10 : (y5.2.1 89 a1.toNatClampNeg) = (0 : Int32)
          · rw [if_pos hc10] at hf
            refine e_if_f hm_242 rfl (cf_ne hc10) ?_
            refine e_bipush hm_242 rfl kc_bipush_m11 ?_
            obtain rfl := Option.some.inj hf
            exact e_iret hm_242 rfl rfl hq
          · rw [if_neg hc10] at hf
            refine e_if_t (t := 69) hm_242 rfl (ct_ne hc10) rfl ?_
            refine e_iconst hm_242 rfl kc_iconst_0 ?_
            refine e_istore (L2 := [some (.ref 73), some (.int a1), some (.int a2), some (.int a3), some (.int a4), some (.int (0 : Int32)), none, none]) hm_242 rfl rfl ?_
            refine e_iconst hm_242 rfl kc_iconst_0 ?_
            refine e_istore (L2 := [some (.ref 73), some (.int a1), some (.int a2), some (.int a3), some (.int a4), some (.int (0 : Int32)), some (.int (0 : Int32)), none]) hm_242 rfl rfl ?_
            obtain ⟨y11, hky11, hf⟩ := mm_bd hf
            refine e_forget (L' := [some (.ref 73), some (.int a1), none, some (.int a3), some (.int a4), some (.int (0 : Int32)), some (.int (0 : Int32)), none]) (lf_k (lf_k (lf_d (lf_k (lf_k (lf_k (lf_k (lf_k lf_0)))))))) (lc_242_75 (d := _) 300 a1 a3 a4 (0 : Int32) (0 : Int32) y5.2 Q hky11 ?_)
            rcases y11 with y11r | y11v
            · obtain rfl := Option.some.inj hf
              exact hq
            · show Ev Z _ 242 167 [none, none, none, none, none, some (.int y11v.1), none, none] [] (mm_H y11v.2) Q
              refine e_iload hm_242 rfl rfl ?_
              obtain rfl := Option.some.inj hf
              exact e_iret hm_242 rfl rfl hq
        · rw [if_neg hc8] at hf
          refine e_if_f hm_242 rfl (cf_eq hc8) ?_
          refine e_aload_n hm_242 rfl rfl ?_
          refine e_getR hm_242 rfl rfl rfl rfl ?_
          refine e_iload_n hm_242 rfl rfl ?_
          obtain ⟨hi12, hf⟩ := mm_ite hf
          refine e_iald hm_242 rfl rfl hi12 ?_
          refine e_iload_n hm_242 rfl rfl ?_
          by_cases hc13 : (y5.2.1 90 a1.toNatClampNeg) = a2
          · rw [if_pos hc13] at hf
            refine e_ic_t (t := 57) hm_242 rfl (ct_eq hc13) rfl ?_
            refine e_aload_n hm_242 rfl rfl ?_
            refine e_getR hm_242 rfl rfl rfl rfl ?_
            refine e_iload_n hm_242 rfl rfl ?_
            obtain ⟨hi14, hf⟩ := mm_ite hf
            refine e_zald hm_242 rfl rfl hi14 ?_
            by_cases hc15 : (y5.2.1 89 a1.toNatClampNeg) = (0 : Int32)
            · rw [if_pos hc15] at hf
              refine e_if_f hm_242 rfl (cf_ne hc15) ?_
              refine e_bipush hm_242 rfl kc_bipush_m11 ?_
              obtain rfl := Option.some.inj hf
              exact e_iret hm_242 rfl rfl hq
            · rw [if_neg hc15] at hf
              refine e_if_t (t := 69) hm_242 rfl (ct_ne hc15) rfl ?_
              refine e_iconst hm_242 rfl kc_iconst_0 ?_
              refine e_istore (L2 := [some (.ref 73), some (.int a1), some (.int a2), some (.int a3), some (.int a4), some (.int (0 : Int32)), none, none]) hm_242 rfl rfl ?_
              refine e_iconst hm_242 rfl kc_iconst_0 ?_
              refine e_istore (L2 := [some (.ref 73), some (.int a1), some (.int a2), some (.int a3), some (.int a4), some (.int (0 : Int32)), some (.int (0 : Int32)), none]) hm_242 rfl rfl ?_
              obtain ⟨y16, hky16, hf⟩ := mm_bd hf
              refine e_forget (L' := [some (.ref 73), some (.int a1), none, some (.int a3), some (.int a4), some (.int (0 : Int32)), some (.int (0 : Int32)), none]) (lf_k (lf_k (lf_d (lf_k (lf_k (lf_k (lf_k (lf_k lf_0)))))))) (lc_242_75 (d := _) 300 a1 a3 a4 (0 : Int32) (0 : Int32) y5.2 Q hky16 ?_)
              rcases y16 with y16r | y16v
              · obtain rfl := Option.some.inj hf
                exact hq
              · show Ev Z _ 242 167 [none, none, none, none, none, some (.int y16v.1), none, none] [] (mm_H y16v.2) Q
                refine e_iload hm_242 rfl rfl ?_
                obtain rfl := Option.some.inj hf
                exact e_iret hm_242 rfl rfl hq
          · rw [if_neg hc13] at hf
            refine e_ic_f hm_242 rfl (cf_eq hc13) ?_
            refine e_bipush hm_242 rfl kc_bipush_m13 ?_
            obtain rfl := Option.some.inj hf
            exact e_iret hm_242 rfl rfl hq
def md_over (a1 : Int32) (M : mm_M) : Option (Int32 × mm_M) :=
  if a1 = (0 : Int32) then
    some ((-1 : Int32), M)
  else
    if a1 = (3 : Int32) then
      some ((1 : Int32), M)
    else
      if a1 = (4 : Int32) then
        some ((2 : Int32), M)
      else
        some ((0 : Int32), M)
set_option maxRecDepth 20000 in
set_option maxHeartbeats 4000000 in
theorem c_244 {Z : ak_Z} {d : Nat} (a1 : Int32) (M : mm_M) {y : Int32 × mm_M} (hf : md_over a1 M = some y) {Q : Option Value → ak_H → Prop} (hq : Q (some (.int y.1)) (mm_H y.2)) : Ev Z (d + 0) 244 0 [some (.int a1)] [] (mm_H M) Q := by
  rw [md_over] at hf
  refine e_iload_n hm_244 rfl rfl ?_
  by_cases hc1 : a1 = (0 : Int32)
  · rw [if_pos hc1] at hf
    refine e_if_f hm_244 rfl (cf_ne hc1) ?_
    refine e_iconst hm_244 rfl kc_iconst_m1 ?_
    refine e_goto (t := 27) hm_244 rfl rfl ?_
    obtain rfl := Option.some.inj hf
    exact e_iret hm_244 rfl rfl hq
  · rw [if_neg hc1] at hf
    refine e_if_t (t := 8) hm_244 rfl (ct_ne hc1) rfl ?_
    refine e_iload_n hm_244 rfl rfl ?_
    refine e_iconst hm_244 rfl kc_iconst_3 ?_
    by_cases hc2 : a1 = (3 : Int32)
    · rw [if_pos hc2] at hf
      refine e_ic_f hm_244 rfl (cf_ne hc2) ?_
      refine e_iconst hm_244 rfl kc_iconst_1 ?_
      refine e_goto (t := 27) hm_244 rfl rfl ?_
      obtain rfl := Option.some.inj hf
      exact e_iret hm_244 rfl rfl hq
    · rw [if_neg hc2] at hf
      refine e_ic_t (t := 17) hm_244 rfl (ct_ne hc2) rfl ?_
      refine e_iload_n hm_244 rfl rfl ?_
      refine e_iconst hm_244 rfl kc_iconst_4 ?_
      by_cases hc3 : a1 = (4 : Int32)
      · rw [if_pos hc3] at hf
        refine e_ic_f hm_244 rfl (cf_ne hc3) ?_
        refine e_iconst hm_244 rfl kc_iconst_2 ?_
        refine e_goto (t := 27) hm_244 rfl rfl ?_
        obtain rfl := Option.some.inj hf
        exact e_iret hm_244 rfl rfl hq
      · rw [if_neg hc3] at hf
        refine e_ic_t (t := 26) hm_244 rfl (ct_ne hc3) rfl ?_
        refine e_iconst hm_244 rfl kc_iconst_0 ?_
        obtain rfl := Option.some.inj hf
        exact e_iret hm_244 rfl rfl hq
def md_taken_l33 : Nat → Int32 → Int32 → Int32 → mm_M → Option (((Int32) × mm_M))
  | 0, _, _, _, _ => none
  | n + 1, x1, x2, x3, M =>
    if x3 = (-1 : Int32) then
      some (x3, M)
    else
      if x3 = x2 then
        some (x3, M)
      else
        (md_over x3 M).bind fun y3 =>
        md_taken_l33 n x1 x2 y3.1 y3.2
set_option maxRecDepth 20000 in
set_option maxHeartbeats 4000000 in
theorem lc_243_33 {Z : ak_Z} {d : Nat} : ∀ (n : Nat) (x1 : Int32) (x2 : Int32) (x3 : Int32) (M : mm_M) {y : ((Int32) × mm_M)} (Q : Option Value → ak_H → Prop), md_taken_l33 n x1 x2 x3 M = some y → (Ev Z (d + 2) 243 51 [some (.ref 73), some (.int x1), some (.int x2), some (.int y.1)] [] (mm_H y.2) Q) → Ev Z (d + 2) 243 33 [some (.ref 73), some (.int x1), some (.int x2), some (.int x3)] [] (mm_H M) Q := by
  intro n
  induction n with
  | zero => intro x1 x2 x3 M y Q hf; cases hf
  | succ n ih =>
    intro x1 x2 x3 M y Q hf hq
    rw [md_taken_l33] at hf
    refine e_iload_n hm_243 rfl rfl ?_
    refine e_iconst hm_243 rfl kc_iconst_m1 ?_
    by_cases hc1 : x3 = (-1 : Int32)
    · rw [if_pos hc1] at hf
      refine e_ic_t (t := 51) hm_243 rfl (ct_eq hc1) rfl ?_
      obtain rfl := Option.some.inj hf
      exact e_forget (L' := [some (.ref 73), some (.int x1), some (.int x2), some (.int x3)]) (lf_k (lf_k (lf_k (lf_k lf_0)))) hq
    · rw [if_neg hc1] at hf
      refine e_ic_f hm_243 rfl (cf_eq hc1) ?_
      refine e_iload_n hm_243 rfl rfl ?_
      refine e_iload_n hm_243 rfl rfl ?_
      by_cases hc2 : x3 = x2
      · rw [if_pos hc2] at hf
        refine e_ic_t (t := 51) hm_243 rfl (ct_eq hc2) rfl ?_
        obtain rfl := Option.some.inj hf
        exact e_forget (L' := [some (.ref 73), some (.int x1), some (.int x2), some (.int x3)]) (lf_k (lf_k (lf_k (lf_k lf_0)))) hq
      · rw [if_neg hc2] at hf
        refine e_ic_f hm_243 rfl (cf_eq hc2) ?_
        refine e_iload_n hm_243 rfl rfl ?_
        obtain ⟨y3, hky3, hf⟩ := mm_bd hf
        refine e_stat hm_243 rfl (by decide) rfl rfl (Nat.le_of_ble_eq_true rfl) hm_244 rfl rfl (c_244 x3 M hky3 ?_)
        show Ev Z _ 243 47 [some (.ref 73), some (.int x1), some (.int x2), some (.int x3)] [.int y3.1] (mm_H y3.2) Q
        refine e_istore_n (L2 := [some (.ref 73), some (.int x1), some (.int x2), some (.int y3.1)]) hm_243 rfl rfl ?_
        refine e_goto (t := 33) hm_243 rfl rfl ?_
        exact e_forget (L' := [some (.ref 73), some (.int x1), some (.int x2), some (.int y3.1)]) (lf_k (lf_k (lf_k (lf_k lf_0)))) (ih x1 x2 y3.1 y3.2 Q hf hq)
def md_taken (a1 : Int32) (a2 : Int32) (M : mm_M) : Option (Int32 × mm_M) :=
  (md_in a2.toInt64 (0 : Int64) (5 : Int64) M).bind fun y1 =>
  if y1.1 = (0 : Int32) then
    some ((-2 : Int32), y1.2)
  else
    (md_isOne a1 y1.2).bind fun y3 =>
    if y3.1 = (0 : Int32) then
      some ((-11 : Int32), y3.2)
    else
      if ak_inb a1 4 = true then
      (md_taken_l33 300 a1 a2 (y3.2.1 78 a1.toNatClampNeg) y3.2).bind fun y6 =>
      if y6.1 = a2 then
        if ak_inb ((5 : Int32) * a1) 20 = true then
        some (y6.2.1 79 ((5 : Int32) * a1).toNatClampNeg, y6.2) else none
      else
        some ((-13 : Int32), y6.2) else none
set_option maxRecDepth 20000 in
set_option maxHeartbeats 4000000 in
theorem c_243 {Z : ak_Z} {d : Nat} (a1 : Int32) (a2 : Int32) (M : mm_M) {y : Int32 × mm_M} (hf : md_taken a1 a2 M = some y) {Q : Option Value → ak_H → Prop} (hq : Q (some (.int y.1)) (mm_H y.2)) : Ev Z (d + 2) 243 0 [some (.ref 73), some (.int a1), some (.int a2), none] [] (mm_H M) Q := by
  rw [md_taken] at hf
  refine e_iload_n hm_243 rfl rfl ?_
  refine e_i2l hm_243 rfl ?_
  refine e_lconst hm_243 rfl rfl ?_
  refine e_ldc2 hm_243 rfl kc_ldc2_5 ?_
  obtain ⟨y1, hky1, hf⟩ := mm_bd hf
  refine e_stat hm_243 rfl (by decide) rfl rfl (Nat.le_of_ble_eq_true rfl) hm_169 rfl rfl (c_169 a2.toInt64 (0 : Int64) (5 : Int64) M hky1 ?_)
  show Ev Z _ 243 9 [some (.ref 73), some (.int a1), some (.int a2), none] [.int y1.1] (mm_H y1.2) Q
  by_cases hc2 : y1.1 = (0 : Int32)
  · rw [if_pos hc2] at hf
    refine e_if_f hm_243 rfl (cf_ne hc2) ?_
    refine e_bipush hm_243 rfl kc_bipush_m2 ?_
    obtain rfl := Option.some.inj hf
    exact e_iret hm_243 rfl rfl hq
  · rw [if_neg hc2] at hf
    refine e_if_t (t := 15) hm_243 rfl (ct_ne hc2) rfl ?_
    refine e_aload_n hm_243 rfl rfl ?_
    refine e_iload_n hm_243 rfl rfl ?_
    obtain ⟨y3, hky3, hf⟩ := mm_bd hf
    refine e_virt hm_243 rfl rfl rfl rfl (Nat.le_of_ble_eq_true rfl) hm_170 rfl rfl (c_170 a1 y1.2 hky3 ?_)
    show Ev Z _ 243 20 [some (.ref 73), some (.int a1), some (.int a2), none] [.int y3.1] (mm_H y3.2) Q
    by_cases hc4 : y3.1 = (0 : Int32)
    · rw [if_pos hc4] at hf
      refine e_if_f hm_243 rfl (cf_ne hc4) ?_
      refine e_bipush hm_243 rfl kc_bipush_m11 ?_
      obtain rfl := Option.some.inj hf
      exact e_iret hm_243 rfl rfl hq
    · rw [if_neg hc4] at hf
      refine e_if_t (t := 26) hm_243 rfl (ct_ne hc4) rfl ?_
      refine e_aload_n hm_243 rfl rfl ?_
      refine e_getR hm_243 rfl rfl rfl rfl ?_
      refine e_iload_n hm_243 rfl rfl ?_
      obtain ⟨hi5, hf⟩ := mm_ite hf
      refine e_iald hm_243 rfl rfl hi5 ?_
      refine e_istore_n (L2 := [some (.ref 73), some (.int a1), some (.int a2), some (.int (y3.2.1 78 a1.toNatClampNeg))]) hm_243 rfl rfl ?_
      obtain ⟨y6, hky6, hf⟩ := mm_bd hf
      refine e_forget (L' := [some (.ref 73), some (.int a1), some (.int a2), some (.int (y3.2.1 78 a1.toNatClampNeg))]) (lf_k (lf_k (lf_k (lf_k lf_0)))) (lc_243_33 (d := _) 300 a1 a2 (y3.2.1 78 a1.toNatClampNeg) y3.2 Q hky6 ?_)
      show Ev Z _ 243 51 [some (.ref 73), some (.int a1), some (.int a2), some (.int y6.1)] [] (mm_H y6.2) Q
      refine e_iload_n hm_243 rfl rfl ?_
      refine e_iload_n hm_243 rfl rfl ?_
      by_cases hc7 : y6.1 = a2
      · rw [if_pos hc7] at hf
        refine e_ic_f hm_243 rfl (cf_ne hc7) ?_
        refine e_aload_n hm_243 rfl rfl ?_
        refine e_getR hm_243 rfl rfl rfl rfl ?_
        refine e_iconst hm_243 rfl kc_iconst_5 ?_
        refine e_iload_n hm_243 rfl rfl ?_
        refine e_imul hm_243 rfl ?_
        obtain ⟨hi8, hf⟩ := mm_ite hf
        refine e_iald hm_243 rfl rfl hi8 ?_
        refine e_goto (t := 69) hm_243 rfl rfl ?_
        obtain rfl := Option.some.inj hf
        exact e_iret hm_243 rfl rfl hq
      · rw [if_neg hc7] at hf
        refine e_ic_t (t := 67) hm_243 rfl (ct_ne hc7) rfl ?_
        refine e_bipush hm_243 rfl kc_bipush_m13 ?_
        obtain rfl := Option.some.inj hf
        exact e_iret hm_243 rfl rfl hq
