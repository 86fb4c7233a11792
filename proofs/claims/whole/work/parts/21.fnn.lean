/-! printed: the functions of the methods, and that the small machine does them -/
def md_bars_l46 : Nat → Int32 → Int32 → mm_M → Option ((Int32 × mm_M) ⊕ ((Unit) × mm_M))
  | 0, _, _, _ => none
  | n + 1, x1, x3, M =>
    if x3 < (M.1 73 11) then
      if x3 = x1 then
        md_bars_l46 n x1 (x3 + (1 : Int32)) M
      else
        if ak_inb x3 4 = true then
        if (M.1 84 x3.toNatClampNeg) = (0 : Int32) then
          md_bars_l46 n x1 (x3 + (1 : Int32)) M
        else
          if ak_inb x3 4 = true then
          if ak_inb x3 4 = true then
          (md_holds (ak_up M.1 84 x3.toNatClampNeg (0 : Int32), M.2)).bind fun y7 =>
          if ak_inb x3 4 = true then
          if y7.1 = (0 : Int32) then
            md_bars_l46 n x1 (x3 + (1 : Int32)) (ak_up y7.2.1 84 x3.toNatClampNeg (M.1 84 x3.toNatClampNeg), y7.2.2)
          else
            some (.inl (x3, (ak_up y7.2.1 84 x3.toNatClampNeg (M.1 84 x3.toNatClampNeg), y7.2.2))) else none else none else none else none
    else
      some (.inr ((), M))
set_option maxRecDepth 20000 in
set_option maxHeartbeats 4000000 in
theorem lc_228_46 {Z : ak_Z} {d : Nat} : ∀ (n : Nat) (x1 : Int32) (x3 : Int32) (M : mm_M) {y : (Int32 × mm_M) ⊕ ((Unit) × mm_M)} (Q : Option Value → ak_H → Prop), md_bars_l46 n x1 x3 M = some y → (match y with | .inl yr => Q (some (.int yr.1)) (mm_H yr.2) | .inr yv => Ev Z (d + 70) 228 110 [none, none, none, none, none, none] [] (mm_H yv.2) Q) → Ev Z (d + 70) 228 46 [some (.ref 73), some (.int x1), none, some (.int x3), none, none] [] (mm_H M) Q := by
  intro n
  induction n with
  | zero => intro x1 x3 M y Q hf; cases hf
  | succ n ih =>
    intro x1 x3 M y Q hf hq
    rw [md_bars_l46] at hf
    refine e_iload_n hm_228 rfl rfl ?_
    refine e_aload_n hm_228 rfl rfl ?_
    refine e_getI hm_228 rfl rfl rfl ?_
    by_cases hc1 : x3 < (M.1 73 11)
    · rw [if_pos hc1] at hf
      refine e_ic_f hm_228 rfl (cf_ge hc1) ?_
      refine e_iload_n hm_228 rfl rfl ?_
      refine e_iload_n hm_228 rfl rfl ?_
      by_cases hc2 : x3 = x1
      · rw [if_pos hc2] at hf
        refine e_ic_t (t := 104) hm_228 rfl (ct_eq hc2) rfl ?_
        refine e_iinc (L2 := [some (.ref 73), some (.int x1), none, some (.int (x3 + (1 : Int32))), none, none]) hm_228 rfl kc_iinc_1 rfl rfl ?_
        refine e_goto (t := 46) hm_228 rfl rfl ?_
        exact e_forget (L' := [some (.ref 73), some (.int x1), none, some (.int (x3 + (1 : Int32))), none, none]) (lf_k (lf_k (lf_k (lf_k (lf_k (lf_k lf_0)))))) (ih x1 (x3 + (1 : Int32)) M Q hf hq)
      · rw [if_neg hc2] at hf
        refine e_ic_f hm_228 rfl (cf_eq hc2) ?_
        refine e_aload_n hm_228 rfl rfl ?_
        refine e_getR hm_228 rfl rfl rfl rfl ?_
        refine e_iload_n hm_228 rfl rfl ?_
        obtain ⟨hi3, hf⟩ := mm_ite hf
        refine e_iald hm_228 rfl rfl hi3 ?_
        by_cases hc4 : (M.1 84 x3.toNatClampNeg) = (0 : Int32)
        · rw [if_pos hc4] at hf
          refine e_if_t (t := 104) hm_228 rfl (ct_eq hc4) rfl ?_
          refine e_iinc (L2 := [some (.ref 73), some (.int x1), none, some (.int (x3 + (1 : Int32))), none, none]) hm_228 rfl kc_iinc_1 rfl rfl ?_
          refine e_goto (t := 46) hm_228 rfl rfl ?_
          exact e_forget (L' := [some (.ref 73), some (.int x1), none, some (.int (x3 + (1 : Int32))), none, none]) (lf_k (lf_k (lf_k (lf_k (lf_k (lf_k lf_0)))))) (ih x1 (x3 + (1 : Int32)) M Q hf hq)
        · rw [if_neg hc4] at hf
          refine e_if_f hm_228 rfl (cf_eq hc4) ?_
          refine e_aload_n hm_228 rfl rfl ?_
          refine e_getR hm_228 rfl rfl rfl rfl ?_
          refine e_iload_n hm_228 rfl rfl ?_
          obtain ⟨hi5, hf⟩ := mm_ite hf
          refine e_iald hm_228 rfl rfl hi5 ?_
          refine e_istore (L2 := [some (.ref 73), some (.int x1), none, some (.int x3), some (.int (M.1 84 x3.toNatClampNeg)), none]) hm_228 rfl rfl ?_
          refine e_aload_n hm_228 rfl rfl ?_
          refine e_getR hm_228 rfl rfl rfl rfl ?_
          refine e_iload_n hm_228 rfl rfl ?_
          refine e_iconst hm_228 rfl kc_iconst_0 ?_
          obtain ⟨hi6, hf⟩ := mm_ite hf
          refine e_iast hm_228 rfl rfl hi6 ?_
          refine e_aload_n hm_228 rfl rfl ?_
          obtain ⟨y7, hky7, hf⟩ := mm_bd hf
          refine e_virt hm_228 rfl rfl rfl rfl (Nat.le_of_ble_eq_true rfl) hm_210 rfl rfl (c_210 (ak_up M.1 84 x3.toNatClampNeg (0 : Int32), M.2) hky7 ?_)
          show Ev Z _ 228 87 [some (.ref 73), some (.int x1), none, some (.int x3), some (.int (M.1 84 x3.toNatClampNeg)), none] [.int y7.1] (mm_H y7.2) Q
          refine e_istore (L2 := [some (.ref 73), some (.int x1), none, some (.int x3), some (.int (M.1 84 x3.toNatClampNeg)), some (.int y7.1)]) hm_228 rfl rfl ?_
          refine e_aload_n hm_228 rfl rfl ?_
          refine e_getR hm_228 rfl rfl rfl rfl ?_
          refine e_iload_n hm_228 rfl rfl ?_
          refine e_iload hm_228 rfl rfl ?_
          obtain ⟨hi8, hf⟩ := mm_ite hf
          refine e_iast hm_228 rfl rfl hi8 ?_
          refine e_iload hm_228 rfl rfl ?_
          by_cases hc9 : y7.1 = (0 : Int32)
          · rw [if_pos hc9] at hf
            refine e_if_t (t := 104) hm_228 rfl (ct_eq hc9) rfl ?_
            refine e_iinc (L2 := [some (.ref 73), some (.int x1), none, some (.int (x3 + (1 : Int32))), some (.int (M.1 84 x3.toNatClampNeg)), some (.int y7.1)]) hm_228 rfl kc_iinc_1 rfl rfl ?_
            refine e_goto (t := 46) hm_228 rfl rfl ?_
            exact e_forget (L' := [some (.ref 73), some (.int x1), none, some (.int (x3 + (1 : Int32))), none, none]) (lf_k (lf_k (lf_k (lf_k (lf_d (lf_d lf_0)))))) (ih x1 (x3 + (1 : Int32)) (ak_up y7.2.1 84 x3.toNatClampNeg (M.1 84 x3.toNatClampNeg), y7.2.2) Q hf hq)
          · rw [if_neg hc9] at hf
            refine e_if_f hm_228 rfl (cf_eq hc9) ?_
            refine e_iload_n hm_228 rfl rfl ?_
            obtain rfl := Option.some.inj hf
            exact e_iret hm_228 rfl rfl hq
    · rw [if_neg hc1] at hf
      refine e_ic_t (t := 110) hm_228 rfl (ct_ge hc1) rfl ?_
      obtain rfl := Option.some.inj hf
      exact e_forget (L' := [none, none, none, none, none, none]) (lf_d (lf_d (lf_k (lf_d (lf_k (lf_k lf_0)))))) hq
def md_bars (a1 : Int32) (a2 : Int32) (M : mm_M) : Option (Int32 × mm_M) :=
  (md_isOne a1 M).bind fun y1 =>
  if y1.1 = (0 : Int32) then
    some ((-2 : Int32), y1.2)
  else
    (md_isWeek a2 y1.2).bind fun y3 =>
    if y3.1 = (0 : Int32) then
      some ((-2 : Int32), y3.2)
    else
      (md_tables y3.2).bind fun y5 =>
      (md_booked y5.2).bind fun y6 =>
      if ak_inb a1 4 = true then
      (md_holds (ak_up y6.2.1 84 a1.toNatClampNeg (a2 + (1 : Int32)), y6.2.2)).bind fun y8 =>
      if y8.1 = (0 : Int32) then
        (md_bars_l46 300 a1 (0 : Int32) y8.2).bind fun y10 => match y10 with
        | .inl y10r => some y10r
        | .inr y10v => some ((-1 : Int32), y10v.2)
      else
        some ((-1 : Int32), y8.2) else none
set_option maxRecDepth 20000 in
set_option maxHeartbeats 4000000 in
theorem c_228 {Z : ak_Z} {d : Nat} (a1 : Int32) (a2 : Int32) (M : mm_M) {y : Int32 × mm_M} (hf : md_bars a1 a2 M = some y) {Q : Option Value → ak_H → Prop} (hq : Q (some (.int y.1)) (mm_H y.2)) : Ev Z (d + 70) 228 0 [some (.ref 73), some (.int a1), some (.int a2), none, none, none] [] (mm_H M) Q := by
  rw [md_bars] at hf
  refine e_aload_n hm_228 rfl rfl ?_
  refine e_iload_n hm_228 rfl rfl ?_
  obtain ⟨y1, hky1, hf⟩ := mm_bd hf
  refine e_virt hm_228 rfl rfl rfl rfl (Nat.le_of_ble_eq_true rfl) hm_170 rfl rfl (c_170 a1 M hky1 ?_)
  show Ev Z _ 228 5 [some (.ref 73), some (.int a1), some (.int a2), none, none, none] [.int y1.1] (mm_H y1.2) Q
  by_cases hc2 : y1.1 = (0 : Int32)
  · rw [if_pos hc2] at hf
    refine e_if_t (t := 15) hm_228 rfl (ct_eq hc2) rfl ?_
    refine e_bipush hm_228 rfl kc_bipush_m2 ?_
    obtain rfl := Option.some.inj hf
    exact e_iret hm_228 rfl rfl hq
  · rw [if_neg hc2] at hf
    refine e_if_f hm_228 rfl (cf_eq hc2) ?_
    refine e_iload_n hm_228 rfl rfl ?_
    obtain ⟨y3, hky3, hf⟩ := mm_bd hf
    refine e_stat hm_228 rfl (by decide) rfl rfl (Nat.le_of_ble_eq_true rfl) hm_202 rfl rfl (c_202 a2 y1.2 hky3 ?_)
    show Ev Z _ 228 12 [some (.ref 73), some (.int a1), some (.int a2), none, none, none] [.int y3.1] (mm_H y3.2) Q
    by_cases hc4 : y3.1 = (0 : Int32)
    · rw [if_pos hc4] at hf
      refine e_if_f hm_228 rfl (cf_ne hc4) ?_
      refine e_bipush hm_228 rfl kc_bipush_m2 ?_
      obtain rfl := Option.some.inj hf
      exact e_iret hm_228 rfl rfl hq
    · rw [if_neg hc4] at hf
      refine e_if_t (t := 18) hm_228 rfl (ct_ne hc4) rfl ?_
      refine e_aload_n hm_228 rfl rfl ?_
      obtain ⟨y5, hky5, hf⟩ := mm_bd hf
      refine e_virt hm_228 rfl rfl rfl rfl (Nat.le_of_ble_eq_true rfl) hm_208 rfl rfl (c_208 y3.2 hky5 ?_)
      show Ev Z _ 228 22 [some (.ref 73), some (.int a1), some (.int a2), none, none, none] [] (mm_H y5.2) Q
      refine e_aload_n hm_228 rfl rfl ?_
      obtain ⟨y6, hky6, hf⟩ := mm_bd hf
      refine e_virt hm_228 rfl rfl rfl rfl (Nat.le_of_ble_eq_true rfl) hm_209 rfl rfl (c_209 y5.2 hky6 ?_)
      show Ev Z _ 228 26 [some (.ref 73), some (.int a1), some (.int a2), none, none, none] [] (mm_H y6.2) Q
      refine e_aload_n hm_228 rfl rfl ?_
      refine e_getR hm_228 rfl rfl rfl rfl ?_
      refine e_iload_n hm_228 rfl rfl ?_
      refine e_iload_n hm_228 rfl rfl ?_
      refine e_iconst hm_228 rfl kc_iconst_1 ?_
      refine e_iadd hm_228 rfl ?_
      obtain ⟨hi7, hf⟩ := mm_ite hf
      refine e_iast hm_228 rfl rfl hi7 ?_
      refine e_aload_n hm_228 rfl rfl ?_
      obtain ⟨y8, hky8, hf⟩ := mm_bd hf
      refine e_virt hm_228 rfl rfl rfl rfl (Nat.le_of_ble_eq_true rfl) hm_210 rfl rfl (c_210 (ak_up y6.2.1 84 a1.toNatClampNeg (a2 + (1 : Int32)), y6.2.2) hky8 ?_)
      show Ev Z _ 228 39 [some (.ref 73), some (.int a1), some (.int a2), none, none, none] [.int y8.1] (mm_H y8.2) Q
      by_cases hc9 : y8.1 = (0 : Int32)
      · rw [if_pos hc9] at hf
        refine e_if_t (t := 44) hm_228 rfl (ct_eq hc9) rfl ?_
        refine e_iconst hm_228 rfl kc_iconst_0 ?_
        refine e_istore_n (L2 := [some (.ref 73), some (.int a1), some (.int a2), some (.int (0 : Int32)), none, none]) hm_228 rfl rfl ?_
        obtain ⟨y10, hky10, hf⟩ := mm_bd hf
        refine e_forget (L' := [some (.ref 73), some (.int a1), none, some (.int (0 : Int32)), none, none]) (lf_k (lf_k (lf_d (lf_k (lf_k (lf_k lf_0)))))) (lc_228_46 (d := _) 300 a1 (0 : Int32) y8.2 Q hky10 ?_)
        rcases y10 with y10r | y10v
        · obtain rfl := Option.some.inj hf
          exact hq
        · show Ev Z _ 228 110 [none, none, none, none, none, none] [] (mm_H y10v.2) Q
          refine e_iconst hm_228 rfl kc_iconst_m1 ?_
          obtain rfl := Option.some.inj hf
          exact e_iret hm_228 rfl rfl hq
      · rw [if_neg hc9] at hf
        refine e_if_f hm_228 rfl (cf_eq hc9) ?_
        refine e_iconst hm_228 rfl kc_iconst_m1 ?_
        obtain rfl := Option.some.inj hf
        exact e_iret hm_228 rfl rfl hq
def md_isSheet (a1 : Int32) (M : mm_M) : Option (Int32 × mm_M) :=
  (md_in a1.toInt64 (0 : Int64) (3 : Int64) M).bind fun y1 =>
  if y1.1 = 0 ∨ y1.1 = 1 then some (y1.1, y1.2) else none
set_option maxRecDepth 20000 in
set_option maxHeartbeats 4000000 in
theorem c_230 {Z : ak_Z} {d : Nat} (a1 : Int32) (M : mm_M) {y : Int32 × mm_M} (hf : md_isSheet a1 M = some y) {Q : Option Value → ak_H → Prop} (hq : Q (some (.int y.1)) (mm_H y.2)) : Ev Z (d + 1) 230 0 [some (.int a1)] [] (mm_H M) Q := by
  rw [md_isSheet] at hf
  refine e_iload_n hm_230 rfl rfl ?_
  refine e_i2l hm_230 rfl ?_
  refine e_lconst hm_230 rfl rfl ?_
  refine e_ldc2 hm_230 rfl kc_ldc2_3 ?_
  obtain ⟨y1, hky1, hf⟩ := mm_bd hf
  refine e_stat hm_230 rfl (by decide) rfl rfl (Nat.le_of_ble_eq_true rfl) hm_169 rfl rfl (c_169 a1.toInt64 (0 : Int64) (3 : Int64) M hky1 ?_)
  show Ev Z _ 230 9 [some (.int a1)] [.int y1.1] (mm_H y1.2) Q
  obtain ⟨hb2, hf⟩ := mm_ite hf
  obtain rfl := Option.some.inj hf
  exact e_zret hm_230 rfl rfl hb2 hq
def md_firstOther_l2 : Nat → Int32 → Int32 → Int32 → mm_M → Option ((Int32 × mm_M) ⊕ ((Unit) × mm_M))
  | 0, _, _, _, _ => none
  | n + 1, x1, x2, x3, M =>
    if x3 < (8 : Int32) then
      (md_gladOf x2 x3 M).bind fun y2 =>
      if ak_inb (((40 : Int32) * x1) + x3) 160 = true then
      if y2.1 = (y2.2.1 92 (((40 : Int32) * x1) + x3).toNatClampNeg) then
        md_firstOther_l2 n x1 x2 (x3 + (1 : Int32)) y2.2
      else
        some (.inl (x3, y2.2)) else none
    else
      some (.inr ((), M))
set_option maxRecDepth 20000 in
set_option maxHeartbeats 4000000 in
theorem lc_231_2 {Z : ak_Z} {d : Nat} : ∀ (n : Nat) (x1 : Int32) (x2 : Int32) (x3 : Int32) (M : mm_M) {y : (Int32 × mm_M) ⊕ ((Unit) × mm_M)} (Q : Option Value → ak_H → Prop), md_firstOther_l2 n x1 x2 x3 M = some y → (match y with | .inl yr => Q (some (.int yr.1)) (mm_H yr.2) | .inr yv => Ev Z (d + 68) 231 36 [none, none, none, none] [] (mm_H yv.2) Q) → Ev Z (d + 68) 231 2 [some (.ref 73), some (.int x1), some (.int x2), some (.int x3)] [] (mm_H M) Q := by
  intro n
  induction n with
  | zero => intro x1 x2 x3 M y Q hf; cases hf
  | succ n ih =>
    intro x1 x2 x3 M y Q hf hq
    rw [md_firstOther_l2] at hf
    refine e_iload_n hm_231 rfl rfl ?_
    refine e_bipush hm_231 rfl kc_bipush_8 ?_
    by_cases hc1 : x3 < (8 : Int32)
    · rw [if_pos hc1] at hf
      refine e_ic_f hm_231 rfl (cf_ge hc1) ?_
      refine e_aload_n hm_231 rfl rfl ?_
      refine e_iload_n hm_231 rfl rfl ?_
      refine e_iload_n hm_231 rfl rfl ?_
      obtain ⟨y2, hky2, hf⟩ := mm_bd hf
      refine e_virt hm_231 rfl rfl rfl rfl (Nat.le_of_ble_eq_true rfl) hm_173 rfl rfl (c_173 x2 x3 M hky2 ?_)
      show Ev Z _ 231 14 [some (.ref 73), some (.int x1), some (.int x2), some (.int x3)] [.int y2.1] (mm_H y2.2) Q
      refine e_aload_n hm_231 rfl rfl ?_
      refine e_getR hm_231 rfl rfl rfl rfl ?_
      refine e_bipush hm_231 rfl kc_bipush_40 ?_
      refine e_iload_n hm_231 rfl rfl ?_
      refine e_imul hm_231 rfl ?_
      refine e_iload_n hm_231 rfl rfl ?_
      refine e_iadd hm_231 rfl ?_
      obtain ⟨hi3, hf⟩ := mm_ite hf
      refine e_iald hm_231 rfl rfl hi3 ?_
      by_cases hc4 : y2.1 = (y2.2.1 92 (((40 : Int32) * x1) + x3).toNatClampNeg)
      · rw [if_pos hc4] at hf
        refine e_ic_t (t := 30) hm_231 rfl (ct_eq hc4) rfl ?_
        refine e_iinc (L2 := [some (.ref 73), some (.int x1), some (.int x2), some (.int (x3 + (1 : Int32)))]) hm_231 rfl kc_iinc_1 rfl rfl ?_
        refine e_goto (t := 2) hm_231 rfl rfl ?_
        exact e_forget (L' := [some (.ref 73), some (.int x1), some (.int x2), some (.int (x3 + (1 : Int32)))]) (lf_k (lf_k (lf_k (lf_k lf_0)))) (ih x1 x2 (x3 + (1 : Int32)) y2.2 Q hf hq)
      · rw [if_neg hc4] at hf
        refine e_ic_f hm_231 rfl (cf_eq hc4) ?_
        refine e_iload_n hm_231 rfl rfl ?_
        obtain rfl := Option.some.inj hf
        exact e_iret hm_231 rfl rfl hq
    · rw [if_neg hc1] at hf
      refine e_ic_t (t := 36) hm_231 rfl (ct_ge hc1) rfl ?_
      obtain rfl := Option.some.inj hf
      exact e_forget (L' := [none, none, none, none]) (lf_d (lf_d (lf_d (lf_d lf_0)))) hq
def md_firstOther (a1 : Int32) (a2 : Int32) (M : mm_M) : Option (Int32 × mm_M) :=
  (md_firstOther_l2 300 a1 a2 (0 : Int32) M).bind fun y1 => match y1 with
  | .inl y1r => some y1r
  | .inr y1v => some ((-1 : Int32), y1v.2)
set_option maxRecDepth 20000 in
set_option maxHeartbeats 4000000 in
theorem c_231 {Z : ak_Z} {d : Nat} (a1 : Int32) (a2 : Int32) (M : mm_M) {y : Int32 × mm_M} (hf : md_firstOther a1 a2 M = some y) {Q : Option Value → ak_H → Prop} (hq : Q (some (.int y.1)) (mm_H y.2)) : Ev Z (d + 68) 231 0 [some (.ref 73), some (.int a1), some (.int a2), none] [] (mm_H M) Q := by
  rw [md_firstOther] at hf
  refine e_iconst hm_231 rfl kc_iconst_0 ?_
  refine e_istore_n (L2 := [some (.ref 73), some (.int a1), some (.int a2), some (.int (0 : Int32))]) hm_231 rfl rfl ?_
  obtain ⟨y1, hky1, hf⟩ := mm_bd hf
  refine e_forget (L' := [some (.ref 73), some (.int a1), some (.int a2), some (.int (0 : Int32))]) (lf_k (lf_k (lf_k (lf_k lf_0)))) (lc_231_2 (d := _) 300 a1 a2 (0 : Int32) M Q hky1 ?_)
  rcases y1 with y1r | y1v
  · obtain rfl := Option.some.inj hf
    exact hq
  · show Ev Z _ 231 36 [none, none, none, none] [] (mm_H y1v.2) Q
    refine e_iconst hm_231 rfl kc_iconst_m1 ?_
    obtain rfl := Option.some.inj hf
    exact e_iret hm_231 rfl rfl hq
def md_tells_l169 : Nat → Int32 → Int32 → Int32 → Int32 → Int32 → Int32 → Int32 → Int32 → Int32 → mm_M → Option (((Int32 × Int32 × Int32) × mm_M))
  | 0, _, _, _, _, _, _, _, _, _, _ => none
  | n + 1, x1, x2, x3, x4, x5, x7, x8, x9, x10, M =>
    if x10 < (0 : Int32) then
      some ((x7, x8, x9), M)
    else
      (md_lays x4 x2 x10 M).bind fun y2 =>
      (md_firstOther x1 x2 y2.2).bind fun y3 =>
      if y3.1 = (-1 : Int32) then
        if x4 = (5 : Int32) then
          md_tells_l169 n x1 x2 x3 x4 x5 (x7 ||| (0 : Int32)) (x8 + (1 : Int32)) x10 (x10 + (-1 : Int32)) y3.2
        else
          md_tells_l169 n x1 x2 x3 x4 x5 (x7 ||| ((1 : Int32) <<< (x10 &&& 31))) (x8 + (1 : Int32)) x10 (x10 + (-1 : Int32)) y3.2
      else
        md_tells_l169 n x1 x2 x3 x4 x5 x7 x8 x9 (x10 + (-1 : Int32)) y3.2
set_option maxRecDepth 20000 in
set_option maxHeartbeats 4000000 in
theorem lc_229_169 {Z : ak_Z} {d : Nat} : ∀ (n : Nat) (x1 : Int32) (x2 : Int32) (x3 : Int32) (x4 : Int32) (x5 : Int32) (x7 : Int32) (x8 : Int32) (x9 : Int32) (x10 : Int32) (M : mm_M) {y : ((Int32 × Int32 × Int32) × mm_M)} (Q : Option Value → ak_H → Prop), md_tells_l169 n x1 x2 x3 x4 x5 x7 x8 x9 x10 M = some y → (Ev Z (d + 71) 229 225 [some (.ref 73), none, some (.int x2), some (.int x3), some (.int x4), some (.int x5), none, some (.int y.1.1), some (.int y.1.2.1), some (.int y.1.2.2), none] [] (mm_H y.2) Q) → Ev Z (d + 71) 229 169 [some (.ref 73), some (.int x1), some (.int x2), some (.int x3), some (.int x4), some (.int x5), none, some (.int x7), some (.int x8), some (.int x9), some (.int x10)] [] (mm_H M) Q := by
  intro n
  induction n with
  | zero => intro x1 x2 x3 x4 x5 x7 x8 x9 x10 M y Q hf; cases hf
  | succ n ih =>
    intro x1 x2 x3 x4 x5 x7 x8 x9 x10 M y Q hf hq
    rw [md_tells_l169] at hf
    refine e_iload hm_229 rfl rfl ?_
    by_cases hc1 : x10 < (0 : Int32)
    · rw [if_pos hc1] at hf
      refine e_if_t (t := 225) hm_229 rfl (ct_lt hc1) rfl ?_
      obtain rfl := Option.some.inj hf
      exact e_forget (L' := [some (.ref 73), none, some (.int x2), some (.int x3), some (.int x4), some (.int x5), none, some (.int x7), some (.int x8), some (.int x9), none]) (lf_k (lf_d (lf_k (lf_k (lf_k (lf_k (lf_k (lf_k (lf_k (lf_k (lf_d lf_0))))))))))) hq
    · rw [if_neg hc1] at hf
      refine e_if_f hm_229 rfl (cf_lt hc1) ?_
      refine e_aload_n hm_229 rfl rfl ?_
      refine e_iload hm_229 rfl rfl ?_
      refine e_iload_n hm_229 rfl rfl ?_
      refine e_iload hm_229 rfl rfl ?_
      obtain ⟨y2, hky2, hf⟩ := mm_bd hf
      refine e_virt hm_229 rfl rfl rfl rfl (Nat.le_of_ble_eq_true rfl) hm_197 rfl rfl (c_197 x4 x2 x10 M hky2 ?_)
      show Ev Z _ 229 183 [some (.ref 73), some (.int x1), some (.int x2), some (.int x3), some (.int x4), some (.int x5), none, some (.int x7), some (.int x8), some (.int x9), some (.int x10)] [] (mm_H y2.2) Q
      refine e_aload_n hm_229 rfl rfl ?_
      refine e_iload_n hm_229 rfl rfl ?_
      refine e_iload_n hm_229 rfl rfl ?_
      obtain ⟨y3, hky3, hf⟩ := mm_bd hf
      refine e_virt hm_229 rfl rfl rfl rfl (Nat.le_of_ble_eq_true rfl) hm_231 rfl rfl (c_231 x1 x2 y2.2 hky3 ?_)
      show Ev Z _ 229 189 [some (.ref 73), some (.int x1), some (.int x2), some (.int x3), some (.int x4), some (.int x5), none, some (.int x7), some (.int x8), some (.int x9), some (.int x10)] [.int y3.1] (mm_H y3.2) Q
      refine e_iconst hm_229 rfl kc_iconst_m1 ?_
      by_cases hc4 : y3.1 = (-1 : Int32)
      · rw [if_pos hc4] at hf
        refine e_ic_f hm_229 rfl (cf_ne hc4) ?_
        refine e_iload hm_229 rfl rfl ?_
        refine e_iload hm_229 rfl rfl ?_
        refine e_iconst hm_229 rfl kc_iconst_5 ?_
        by_cases hc5 : x4 = (5 : Int32)
        · rw [if_pos hc5] at hf
          refine e_ic_f hm_229 rfl (cf_ne hc5) ?_
          refine e_iconst hm_229 rfl kc_iconst_0 ?_
          refine e_goto (t := 209) hm_229 rfl rfl ?_
          refine e_ior hm_229 rfl ?_
          refine e_istore (L2 := [some (.ref 73), some (.int x1), some (.int x2), some (.int x3), some (.int x4), some (.int x5), none, some (.int (x7 ||| (0 : Int32))), some (.int x8), some (.int x9), some (.int x10)]) hm_229 rfl rfl ?_
          refine e_iinc (L2 := [some (.ref 73), some (.int x1), some (.int x2), some (.int x3), some (.int x4), some (.int x5), none, some (.int (x7 ||| (0 : Int32))), some (.int (x8 + (1 : Int32))), some (.int x9), some (.int x10)]) hm_229 rfl kc_iinc_1 rfl rfl ?_
          refine e_iload hm_229 rfl rfl ?_
          refine e_istore (L2 := [some (.ref 73), some (.int x1), some (.int x2), some (.int x3), some (.int x4), some (.int x5), none, some (.int (x7 ||| (0 : Int32))), some (.int (x8 + (1 : Int32))), some (.int x10), some (.int x10)]) hm_229 rfl rfl ?_
          refine e_iinc (L2 := [some (.ref 73), some (.int x1), some (.int x2), some (.int x3), some (.int x4), some (.int x5), none, some (.int (x7 ||| (0 : Int32))), some (.int (x8 + (1 : Int32))), some (.int x10), some (.int (x10 + (-1 : Int32)))]) hm_229 rfl kc_iinc_m1 rfl rfl ?_
          refine e_goto (t := 169) hm_229 rfl rfl ?_
          exact e_forget (L' := [some (.ref 73), some (.int x1), some (.int x2), some (.int x3), some (.int x4), some (.int x5), none, some (.int (x7 ||| (0 : Int32))), some (.int (x8 + (1 : Int32))), some (.int x10), some (.int (x10 + (-1 : Int32)))]) (lf_k (lf_k (lf_k (lf_k (lf_k (lf_k (lf_k (lf_k (lf_k (lf_k (lf_k lf_0))))))))))) (ih x1 x2 x3 x4 x5 (x7 ||| (0 : Int32)) (x8 + (1 : Int32)) x10 (x10 + (-1 : Int32)) y3.2 Q hf hq)
        · rw [if_neg hc5] at hf
          refine e_ic_t (t := 205) hm_229 rfl (ct_ne hc5) rfl ?_
          refine e_iconst hm_229 rfl kc_iconst_1 ?_
          refine e_iload hm_229 rfl rfl ?_
          refine e_ishl hm_229 rfl ?_
          refine e_ior hm_229 rfl ?_
          refine e_istore (L2 := [some (.ref 73), some (.int x1), some (.int x2), some (.int x3), some (.int x4), some (.int x5), none, some (.int (x7 ||| ((1 : Int32) <<< (x10 &&& 31)))), some (.int x8), some (.int x9), some (.int x10)]) hm_229 rfl rfl ?_
          refine e_iinc (L2 := [some (.ref 73), some (.int x1), some (.int x2), some (.int x3), some (.int x4), some (.int x5), none, some (.int (x7 ||| ((1 : Int32) <<< (x10 &&& 31)))), some (.int (x8 + (1 : Int32))), some (.int x9), some (.int x10)]) hm_229 rfl kc_iinc_1 rfl rfl ?_
          refine e_iload hm_229 rfl rfl ?_
          refine e_istore (L2 := [some (.ref 73), some (.int x1), some (.int x2), some (.int x3), some (.int x4), some (.int x5), none, some (.int (x7 ||| ((1 : Int32) <<< (x10 &&& 31)))), some (.int (x8 + (1 : Int32))), some (.int x10), some (.int x10)]) hm_229 rfl rfl ?_
          refine e_iinc (L2 := [some (.ref 73), some (.int x1), some (.int x2), some (.int x3), some (.int x4), some (.int x5), none, some (.int (x7 ||| ((1 : Int32) <<< (x10 &&& 31)))), some (.int (x8 + (1 : Int32))), some (.int x10), some (.int (x10 + (-1 : Int32)))]) hm_229 rfl kc_iinc_m1 rfl rfl ?_
          refine e_goto (t := 169) hm_229 rfl rfl ?_
          exact e_forget (L' := [some (.ref 73), some (.int x1), some (.int x2), some (.int x3), some (.int x4), some (.int x5), none, some (.int (x7 ||| ((1 : Int32) <<< (x10 &&& 31)))), some (.int (x8 + (1 : Int32))), some (.int x10), some (.int (x10 + (-1 : Int32)))]) (lf_k (lf_k (lf_k (lf_k (lf_k (lf_k (lf_k (lf_k (lf_k (lf_k (lf_k lf_0))))))))))) (ih x1 x2 x3 x4 x5 (x7 ||| ((1 : Int32) <<< (x10 &&& 31))) (x8 + (1 : Int32)) x10 (x10 + (-1 : Int32)) y3.2 Q hf hq)
      · rw [if_neg hc4] at hf
        refine e_ic_t (t := 219) hm_229 rfl (ct_ne hc4) rfl ?_
        refine e_iinc (L2 := [some (.ref 73), some (.int x1), some (.int x2), some (.int x3), some (.int x4), some (.int x5), none, some (.int x7), some (.int x8), some (.int x9), some (.int (x10 + (-1 : Int32)))]) hm_229 rfl kc_iinc_m1 rfl rfl ?_
        refine e_goto (t := 169) hm_229 rfl rfl ?_
        exact e_forget (L' := [some (.ref 73), some (.int x1), some (.int x2), some (.int x3), some (.int x4), some (.int x5), none, some (.int x7), some (.int x8), some (.int x9), some (.int (x10 + (-1 : Int32)))]) (lf_k (lf_k (lf_k (lf_k (lf_k (lf_k (lf_k (lf_k (lf_k (lf_k (lf_k lf_0))))))))))) (ih x1 x2 x3 x4 x5 x7 x8 x9 (x10 + (-1 : Int32)) y3.2 Q hf hq)
def md_tells (a1 : Int32) (a2 : Int32) (a3 : Int32) (M : mm_M) : Option (Int32 × mm_M) :=
  (md_isSheet a1 M).bind fun y1 =>
  if y1.1 = (0 : Int32) then
    some ((-2 : Int32), y1.2)
  else
    (md_isOne a2 y1.2).bind fun y3 =>
    if y3.1 = (0 : Int32) then
      some ((-2 : Int32), y3.2)
    else
      (md_in a3.toInt64 (0 : Int64) (5 : Int64) y3.2).bind fun y5 =>
      if y5.1 = (0 : Int32) then
        some ((-2 : Int32), y5.2)
      else
        if ak_inb a1 4 = true then
        if (y5.2.1 89 a1.toNatClampNeg) = (0 : Int32) then
          some ((-11 : Int32), y5.2)
        else
          if ak_inb a1 4 = true then
          if (y5.2.1 91 a1.toNatClampNeg) = (8 : Int32) then
            if a3 = (0 : Int32) then
              (md_firstOther a1 a2 y5.2).bind fun y12 =>
              some (y12.1, y12.2)
            else
              if a3 = (1 : Int32) then
                (md_told a2 (7 : Int32) y5.2).bind fun y14 =>
                (md_tells_l169 300 a1 a2 a3 (7 : Int32) y14.1 (0 : Int32) (0 : Int32) (-1 : Int32) (5 : Int32) y14.2).bind fun y15 =>
                (md_lays (7 : Int32) a2 y14.1 y15.2).bind fun y16 =>
                if a3 = (3 : Int32) then
                  some (y15.1.2.1, y16.2)
                else
                  if a3 = (4 : Int32) then
                    some (y15.1.2.2, y16.2)
                  else
                    some (y15.1.1, y16.2)
              else
                if a3 = (2 : Int32) then
                  (md_told a2 (3 : Int32) y5.2).bind fun y20 =>
                  (md_mostOf (3 : Int32) y20.2).bind fun y21 =>
                  (md_tells_l169 300 a1 a2 a3 (3 : Int32) y20.1 (0 : Int32) (0 : Int32) (-1 : Int32) y21.1 y21.2).bind fun y22 =>
                  (md_lays (3 : Int32) a2 y20.1 y22.2).bind fun y23 =>
                  if a3 = (3 : Int32) then
                    some (y22.1.2.1, y23.2)
                  else
                    if a3 = (4 : Int32) then
                      some (y22.1.2.2, y23.2)
                    else
                      some (y22.1.1, y23.2)
                else
                  if a3 = (5 : Int32) then
                    (md_tells_l169 300 a1 a2 a3 (8 : Int32) (y5.2.1 73 4) (0 : Int32) (0 : Int32) (-1 : Int32) ((y5.2.1 73 3) - (1 : Int32)) y5.2).bind fun y27 =>
                    (md_lays (8 : Int32) a2 (y5.2.1 73 4) y27.2).bind fun y28 =>
                    if a3 = (3 : Int32) then
                      some (y27.1.2.1, y28.2)
                    else
                      if a3 = (4 : Int32) then
                        some (y27.1.2.2, y28.2)
                      else
                        some (y27.1.1, y28.2)
                  else
                    (md_told a2 (5 : Int32) y5.2).bind fun y31 =>
                    (md_mostOf (5 : Int32) y31.2).bind fun y32 =>
                    (md_tells_l169 300 a1 a2 a3 (5 : Int32) y31.1 (0 : Int32) (0 : Int32) (-1 : Int32) y32.1 y32.2).bind fun y33 =>
                    (md_lays (5 : Int32) a2 y31.1 y33.2).bind fun y34 =>
                    if a3 = (3 : Int32) then
                      some (y33.1.2.1, y34.2)
                    else
                      if a3 = (4 : Int32) then
                        some (y33.1.2.2, y34.2)
                      else
                        some (y33.1.1, y34.2)
          else
            some ((-2 : Int32), y5.2) else none else none
set_option maxRecDepth 20000 in
set_option maxHeartbeats 4000000 in
theorem c_229 {Z : ak_Z} {d : Nat} (a1 : Int32) (a2 : Int32) (a3 : Int32) (M : mm_M) {y : Int32 × mm_M} (hf : md_tells a1 a2 a3 M = some y) {Q : Option Value → ak_H → Prop} (hq : Q (some (.int y.1)) (mm_H y.2)) : Ev Z (d + 71) 229 0 [some (.ref 73), some (.int a1), some (.int a2), some (.int a3), none, none, none, none, none, none, none] [] (mm_H M) Q := by
  rw [md_tells] at hf
  refine e_iload_n hm_229 rfl rfl ?_
  obtain ⟨y1, hky1, hf⟩ := mm_bd hf
  refine e_stat hm_229 rfl (by decide) rfl rfl (Nat.le_of_ble_eq_true rfl) hm_230 rfl rfl (c_230 a1 M hky1 ?_)
  show Ev Z _ 229 4 [some (.ref 73), some (.int a1), some (.int a2), some (.int a3), none, none, none, none, none, none, none] [.int y1.1] (mm_H y1.2) Q
  by_cases hc2 : y1.1 = (0 : Int32)
  · rw [if_pos hc2] at hf
    refine e_if_t (t := 27) hm_229 rfl (ct_eq hc2) rfl ?_
    refine e_bipush hm_229 rfl kc_bipush_m2 ?_
    obtain rfl := Option.some.inj hf
    exact e_iret hm_229 rfl rfl hq
  · rw [if_neg hc2] at hf
    refine e_if_f hm_229 rfl (cf_eq hc2) ?_
    refine e_aload_n hm_229 rfl rfl ?_
    refine e_iload_n hm_229 rfl rfl ?_
    obtain ⟨y3, hky3, hf⟩ := mm_bd hf
    refine e_virt hm_229 rfl rfl rfl rfl (Nat.le_of_ble_eq_true rfl) hm_170 rfl rfl (c_170 a2 y1.2 hky3 ?_)
    show Ev Z _ 229 12 [some (.ref 73), some (.int a1), some (.int a2), some (.int a3), none, none, none, none, none, none, none] [.int y3.1] (mm_H y3.2) Q
    by_cases hc4 : y3.1 = (0 : Int32)
    · rw [if_pos hc4] at hf
      refine e_if_t (t := 27) hm_229 rfl (ct_eq hc4) rfl ?_
      refine e_bipush hm_229 rfl kc_bipush_m2 ?_
      obtain rfl := Option.some.inj hf
      exact e_iret hm_229 rfl rfl hq
    · rw [if_neg hc4] at hf
      refine e_if_f hm_229 rfl (cf_eq hc4) ?_
      refine e_iload_n hm_229 rfl rfl ?_
      refine e_i2l hm_229 rfl ?_
      refine e_lconst hm_229 rfl rfl ?_
      refine e_ldc2 hm_229 rfl kc_ldc2_5 ?_
      obtain ⟨y5, hky5, hf⟩ := mm_bd hf
      refine e_stat hm_229 rfl (by decide) rfl rfl (Nat.le_of_ble_eq_true rfl) hm_169 rfl rfl (c_169 a3.toInt64 (0 : Int64) (5 : Int64) y3.2 hky5 ?_)
      show Ev Z _ 229 24 [some (.ref 73), some (.int a1), some (.int a2), some (.int a3), none, none, none, none, none, none, none] [.int y5.1] (mm_H y5.2) Q
      by_cases hc6 : y5.1 = (0 : Int32)
      · rw [if_pos hc6] at hf
        refine e_if_f hm_229 rfl (cf_ne hc6) ?_
        refine e_bipush hm_229 rfl kc_bipush_m2 ?_
        obtain rfl := Option.some.inj hf
        exact e_iret hm_229 rfl rfl hq
      · rw [if_neg hc6] at hf
        refine e_if_t (t := 30) hm_229 rfl (ct_ne hc6) rfl ?_
        refine e_aload_n hm_229 rfl rfl ?_
        refine e_getR hm_229 rfl rfl rfl rfl ?_
        refine e_iload_n hm_229 rfl rfl ?_
        obtain ⟨hi7, hf⟩ := mm_ite hf
        refine e_zald hm_229 rfl rfl hi7 ?_
        by_cases hc8 : (y5.2.1 89 a1.toNatClampNeg) = (0 : Int32)
        · rw [if_pos hc8] at hf
          refine e_if_f hm_229 rfl (cf_ne hc8) ?_
          refine e_bipush hm_229 rfl kc_bipush_m11 ?_
          obtain rfl := Option.some.inj hf
          exact e_iret hm_229 rfl rfl hq
        · rw [if_neg hc8] at hf
          refine e_if_t (t := 42) hm_229 rfl (ct_ne hc8) rfl ?_
          refine e_aload_n hm_229 rfl rfl ?_
          refine e_getR hm_229 rfl rfl rfl rfl ?_
          refine e_iload_n hm_229 rfl rfl ?_
          obtain ⟨hi9, hf⟩ := mm_ite hf
          refine e_iald hm_229 rfl rfl hi9 ?_
          refine e_bipush hm_229 rfl kc_bipush_8 ?_
          by_cases hc10 : (y5.2.1 91 a1.toNatClampNeg) = (8 : Int32)
          · rw [if_pos hc10] at hf
            refine e_ic_t (t := 56) hm_229 rfl (ct_eq hc10) rfl ?_
            refine e_iload_n hm_229 rfl rfl ?_
            by_cases hc11 : a3 = (0 : Int32)
            · rw [if_pos hc11] at hf
              refine e_if_f hm_229 rfl (cf_ne hc11) ?_
              refine e_aload_n hm_229 rfl rfl ?_
              refine e_iload_n hm_229 rfl rfl ?_
              refine e_iload_n hm_229 rfl rfl ?_
              obtain ⟨y12, hky12, hf⟩ := mm_bd hf
              refine e_virt hm_229 rfl rfl rfl rfl (Nat.le_of_ble_eq_true rfl) hm_231 rfl rfl (c_231 a1 a2 y5.2 hky12 ?_)
              show Ev Z _ 229 66 [some (.ref 73), some (.int a1), some (.int a2), some (.int a3), none, none, none, none, none, none, none] [.int y12.1] (mm_H y12.2) Q
              obtain rfl := Option.some.inj hf
              exact e_iret hm_229 rfl rfl hq
            · rw [if_neg hc11] at hf
              refine e_if_t (t := 67) hm_229 rfl (ct_ne hc11) rfl ?_
              refine e_iload_n hm_229 rfl rfl ?_
              refine e_iconst hm_229 rfl kc_iconst_1 ?_
              by_cases hc13 : a3 = (1 : Int32)
              · rw [if_pos hc13] at hf
                refine e_ic_f hm_229 rfl (cf_ne hc13) ?_
                refine e_bipush hm_229 rfl kc_bipush_7 ?_
                refine e_goto (t := 97) hm_229 rfl rfl ?_
                refine e_istore (L2 := [some (.ref 73), some (.int a1), some (.int a2), some (.int a3), some (.int (7 : Int32)), none, none, none, none, none, none]) hm_229 rfl rfl ?_
                refine e_iload hm_229 rfl rfl ?_
                refine e_bipush hm_229 rfl kc_bipush_8 ?_
                refine e_ic_t (t := 113) hm_229 rfl (by decide) rfl ?_
                refine e_aload_n hm_229 rfl rfl ?_
                refine e_iload_n hm_229 rfl rfl ?_
                refine e_iload hm_229 rfl rfl ?_
                obtain ⟨y14, hky14, hf⟩ := mm_bd hf
                refine e_virt hm_229 rfl rfl rfl rfl (Nat.le_of_ble_eq_true rfl) hm_172 rfl rfl (c_172 a2 (7 : Int32) y5.2 hky14 ?_)
                show Ev Z _ 229 120 [some (.ref 73), some (.int a1), some (.int a2), some (.int a3), some (.int (7 : Int32)), none, none, none, none, none, none] [.int y14.1] (mm_H y14.2) Q
                refine e_istore (L2 := [some (.ref 73), some (.int a1), some (.int a2), some (.int a3), some (.int (7 : Int32)), some (.int y14.1), none, none, none, none, none]) hm_229 rfl rfl ?_
                refine e_iload hm_229 rfl rfl ?_
                refine e_bipush hm_229 rfl kc_bipush_8 ?_
                refine e_ic_t (t := 138) hm_229 rfl (by decide) rfl ?_
                refine e_iload hm_229 rfl rfl ?_
                refine e_bipush hm_229 rfl kc_bipush_7 ?_
                refine e_ic_f hm_229 rfl (by decide) ?_
                refine e_iconst hm_229 rfl kc_iconst_5 ?_
                refine e_goto (t := 154) hm_229 rfl rfl ?_
                refine e_istore (L2 := [some (.ref 73), some (.int a1), some (.int a2), some (.int a3), some (.int (7 : Int32)), some (.int y14.1), some (.int (5 : Int32)), none, none, none, none]) hm_229 rfl rfl ?_
                refine e_iconst hm_229 rfl kc_iconst_0 ?_
                refine e_istore (L2 := [some (.ref 73), some (.int a1), some (.int a2), some (.int a3), some (.int (7 : Int32)), some (.int y14.1), some (.int (5 : Int32)), some (.int (0 : Int32)), none, none, none]) hm_229 rfl rfl ?_
                refine e_iconst hm_229 rfl kc_iconst_0 ?_
                refine e_istore (L2 := [some (.ref 73), some (.int a1), some (.int a2), some (.int a3), some (.int (7 : Int32)), some (.int y14.1), some (.int (5 : Int32)), some (.int (0 : Int32)), some (.int (0 : Int32)), none, none]) hm_229 rfl rfl ?_
                refine e_iconst hm_229 rfl kc_iconst_m1 ?_
                refine e_istore (L2 := [some (.ref 73), some (.int a1), some (.int a2), some (.int a3), some (.int (7 : Int32)), some (.int y14.1), some (.int (5 : Int32)), some (.int (0 : Int32)), some (.int (0 : Int32)), some (.int (-1 : Int32)), none]) hm_229 rfl rfl ?_
                refine e_iload hm_229 rfl rfl ?_
                refine e_istore (L2 := [some (.ref 73), some (.int a1), some (.int a2), some (.int a3), some (.int (7 : Int32)), some (.int y14.1), some (.int (5 : Int32)), some (.int (0 : Int32)), some (.int (0 : Int32)), some (.int (-1 : Int32)), some (.int (5 : Int32))]) hm_229 rfl rfl ?_
                obtain ⟨y15, hky15, hf⟩ := mm_bd hf
                refine e_forget (L' := [some (.ref 73), some (.int a1), some (.int a2), some (.int a3), some (.int (7 : Int32)), some (.int y14.1), none, some (.int (0 : Int32)), some (.int (0 : Int32)), some (.int (-1 : Int32)), some (.int (5 : Int32))]) (lf_k (lf_k (lf_k (lf_k (lf_k (lf_k (lf_d (lf_k (lf_k (lf_k (lf_k lf_0))))))))))) (lc_229_169 (d := _) 300 a1 a2 a3 (7 : Int32) y14.1 (0 : Int32) (0 : Int32) (-1 : Int32) (5 : Int32) y14.2 Q hky15 ?_)
                show Ev Z _ 229 225 [some (.ref 73), none, some (.int a2), some (.int a3), some (.int (7 : Int32)), some (.int y14.1), none, some (.int y15.1.1), some (.int y15.1.2.1), some (.int y15.1.2.2), none] [] (mm_H y15.2) Q
                refine e_aload_n hm_229 rfl rfl ?_
                refine e_iload hm_229 rfl rfl ?_
                refine e_iload_n hm_229 rfl rfl ?_
                refine e_iload hm_229 rfl rfl ?_
                obtain ⟨y16, hky16, hf⟩ := mm_bd hf
                refine e_virt hm_229 rfl rfl rfl rfl (Nat.le_of_ble_eq_true rfl) hm_197 rfl rfl (c_197 (7 : Int32) a2 y14.1 y15.2 hky16 ?_)
                show Ev Z _ 229 234 [some (.ref 73), none, some (.int a2), some (.int a3), some (.int (7 : Int32)), some (.int y14.1), none, some (.int y15.1.1), some (.int y15.1.2.1), some (.int y15.1.2.2), none] [] (mm_H y16.2) Q
                refine e_iload_n hm_229 rfl rfl ?_
                refine e_iconst hm_229 rfl kc_iconst_3 ?_
                by_cases hc17 : a3 = (3 : Int32)
                · rw [if_pos hc17] at hf
                  refine e_ic_f hm_229 rfl (cf_ne hc17) ?_
                  refine e_iload hm_229 rfl rfl ?_
                  refine e_goto (t := 256) hm_229 rfl rfl ?_
                  obtain rfl := Option.some.inj hf
                  exact e_iret hm_229 rfl rfl hq
                · rw [if_neg hc17] at hf
                  refine e_ic_t (t := 244) hm_229 rfl (ct_ne hc17) rfl ?_
                  refine e_iload_n hm_229 rfl rfl ?_
                  refine e_iconst hm_229 rfl kc_iconst_4 ?_
                  by_cases hc18 : a3 = (4 : Int32)
                  · rw [if_pos hc18] at hf
                    refine e_ic_f hm_229 rfl (cf_ne hc18) ?_
                    refine e_iload hm_229 rfl rfl ?_
                    refine e_goto (t := 256) hm_229 rfl rfl ?_
                    obtain rfl := Option.some.inj hf
                    exact e_iret hm_229 rfl rfl hq
                  · rw [if_neg hc18] at hf
                    refine e_ic_t (t := 254) hm_229 rfl (ct_ne hc18) rfl ?_
                    refine e_iload hm_229 rfl rfl ?_
                    obtain rfl := Option.some.inj hf
                    exact e_iret hm_229 rfl rfl hq
              · rw [if_neg hc13] at hf
                refine e_ic_t (t := 77) hm_229 rfl (ct_ne hc13) rfl ?_
                refine e_iload_n hm_229 rfl rfl ?_
                refine e_iconst hm_229 rfl kc_iconst_2 ?_
                by_cases hc19 : a3 = (2 : Int32)
                · rw [if_pos hc19] at hf
                  refine e_ic_f hm_229 rfl (cf_ne hc19) ?_
                  refine e_iconst hm_229 rfl kc_iconst_3 ?_
                  refine e_goto (t := 97) hm_229 rfl rfl ?_
                  refine e_istore (L2 := [some (.ref 73), some (.int a1), some (.int a2), some (.int a3), some (.int (3 : Int32)), none, none, none, none, none, none]) hm_229 rfl rfl ?_
                  refine e_iload hm_229 rfl rfl ?_
                  refine e_bipush hm_229 rfl kc_bipush_8 ?_
                  refine e_ic_t (t := 113) hm_229 rfl (by decide) rfl ?_
                  refine e_aload_n hm_229 rfl rfl ?_
                  refine e_iload_n hm_229 rfl rfl ?_
                  refine e_iload hm_229 rfl rfl ?_
                  obtain ⟨y20, hky20, hf⟩ := mm_bd hf
                  refine e_virt hm_229 rfl rfl rfl rfl (Nat.le_of_ble_eq_true rfl) hm_172 rfl rfl (c_172 a2 (3 : Int32) y5.2 hky20 ?_)
                  show Ev Z _ 229 120 [some (.ref 73), some (.int a1), some (.int a2), some (.int a3), some (.int (3 : Int32)), none, none, none, none, none, none] [.int y20.1] (mm_H y20.2) Q
                  refine e_istore (L2 := [some (.ref 73), some (.int a1), some (.int a2), some (.int a3), some (.int (3 : Int32)), some (.int y20.1), none, none, none, none, none]) hm_229 rfl rfl ?_
                  refine e_iload hm_229 rfl rfl ?_
                  refine e_bipush hm_229 rfl kc_bipush_8 ?_
                  refine e_ic_t (t := 138) hm_229 rfl (by decide) rfl ?_
                  refine e_iload hm_229 rfl rfl ?_
                  refine e_bipush hm_229 rfl kc_bipush_7 ?_
                  refine e_ic_t (t := 149) hm_229 rfl (by decide) rfl ?_
                  refine e_iload hm_229 rfl rfl ?_
                  obtain ⟨y21, hky21, hf⟩ := mm_bd hf
                  refine e_stat hm_229 rfl (by decide) rfl rfl (Nat.le_of_ble_eq_true rfl) hm_171 rfl rfl (c_171 (3 : Int32) y20.2 hky21 ?_)
                  show Ev Z _ 229 154 [some (.ref 73), some (.int a1), some (.int a2), some (.int a3), some (.int (3 : Int32)), some (.int y20.1), none, none, none, none, none] [.int y21.1] (mm_H y21.2) Q
                  refine e_istore (L2 := [some (.ref 73), some (.int a1), some (.int a2), some (.int a3), some (.int (3 : Int32)), some (.int y20.1), some (.int y21.1), none, none, none, none]) hm_229 rfl rfl ?_
                  refine e_iconst hm_229 rfl kc_iconst_0 ?_
                  refine e_istore (L2 := [some (.ref 73), some (.int a1), some (.int a2), some (.int a3), some (.int (3 : Int32)), some (.int y20.1), some (.int y21.1), some (.int (0 : Int32)), none, none, none]) hm_229 rfl rfl ?_
                  refine e_iconst hm_229 rfl kc_iconst_0 ?_
                  refine e_istore (L2 := [some (.ref 73), some (.int a1), some (.int a2), some (.int a3), some (.int (3 : Int32)), some (.int y20.1), some (.int y21.1), some (.int (0 : Int32)), some (.int (0 : Int32)), none, none]) hm_229 rfl rfl ?_
                  refine e_iconst hm_229 rfl kc_iconst_m1 ?_
                  refine e_istore (L2 := [some (.ref 73), some (.int a1), some (.int a2), some (.int a3), some (.int (3 : Int32)), some (.int y20.1), some (.int y21.1), some (.int (0 : Int32)), some (.int (0 : Int32)), some (.int (-1 : Int32)), none]) hm_229 rfl rfl ?_
                  refine e_iload hm_229 rfl rfl ?_
                  refine e_istore (L2 := [some (.ref 73), some (.int a1), some (.int a2), some (.int a3), some (.int (3 : Int32)), some (.int y20.1), some (.int y21.1), some (.int (0 : Int32)), some (.int (0 : Int32)), some (.int (-1 : Int32)), some (.int y21.1)]) hm_229 rfl rfl ?_
                  obtain ⟨y22, hky22, hf⟩ := mm_bd hf
                  refine e_forget (L' := [some (.ref 73), some (.int a1), some (.int a2), some (.int a3), some (.int (3 : Int32)), some (.int y20.1), none, some (.int (0 : Int32)), some (.int (0 : Int32)), some (.int (-1 : Int32)), some (.int y21.1)]) (lf_k (lf_k (lf_k (lf_k (lf_k (lf_k (lf_d (lf_k (lf_k (lf_k (lf_k lf_0))))))))))) (lc_229_169 (d := _) 300 a1 a2 a3 (3 : Int32) y20.1 (0 : Int32) (0 : Int32) (-1 : Int32) y21.1 y21.2 Q hky22 ?_)
                  show Ev Z _ 229 225 [some (.ref 73), none, some (.int a2), some (.int a3), some (.int (3 : Int32)), some (.int y20.1), none, some (.int y22.1.1), some (.int y22.1.2.1), some (.int y22.1.2.2), none] [] (mm_H y22.2) Q
                  refine e_aload_n hm_229 rfl rfl ?_
                  refine e_iload hm_229 rfl rfl ?_
                  refine e_iload_n hm_229 rfl rfl ?_
                  refine e_iload hm_229 rfl rfl ?_
                  obtain ⟨y23, hky23, hf⟩ := mm_bd hf
                  refine e_virt hm_229 rfl rfl rfl rfl (Nat.le_of_ble_eq_true rfl) hm_197 rfl rfl (c_197 (3 : Int32) a2 y20.1 y22.2 hky23 ?_)
                  show Ev Z _ 229 234 [some (.ref 73), none, some (.int a2), some (.int a3), some (.int (3 : Int32)), some (.int y20.1), none, some (.int y22.1.1), some (.int y22.1.2.1), some (.int y22.1.2.2), none] [] (mm_H y23.2) Q
                  refine e_iload_n hm_229 rfl rfl ?_
                  refine e_iconst hm_229 rfl kc_iconst_3 ?_
                  by_cases hc24 : a3 = (3 : Int32)
                  · rw [if_pos hc24] at hf
                    refine e_ic_f hm_229 rfl (cf_ne hc24) ?_
                    refine e_iload hm_229 rfl rfl ?_
                    refine e_goto (t := 256) hm_229 rfl rfl ?_
                    obtain rfl := Option.some.inj hf
                    exact e_iret hm_229 rfl rfl hq
                  · rw [if_neg hc24] at hf
                    refine e_ic_t (t := 244) hm_229 rfl (ct_ne hc24) rfl ?_
                    refine e_iload_n hm_229 rfl rfl ?_
                    refine e_iconst hm_229 rfl kc_iconst_4 ?_
                    by_cases hc25 : a3 = (4 : Int32)
                    · rw [if_pos hc25] at hf
                      refine e_ic_f hm_229 rfl (cf_ne hc25) ?_
                      refine e_iload hm_229 rfl rfl ?_
                      refine e_goto (t := 256) hm_229 rfl rfl ?_
                      obtain rfl := Option.some.inj hf
                      exact e_iret hm_229 rfl rfl hq
                    · rw [if_neg hc25] at hf
                      refine e_ic_t (t := 254) hm_229 rfl (ct_ne hc25) rfl ?_
                      refine e_iload hm_229 rfl rfl ?_
                      obtain rfl := Option.some.inj hf
                      exact e_iret hm_229 rfl rfl hq
                · rw [if_neg hc19] at hf
                  refine e_ic_t (t := 86) hm_229 rfl (ct_ne hc19) rfl ?_
                  refine e_iload_n hm_229 rfl rfl ?_
                  refine e_iconst hm_229 rfl kc_iconst_5 ?_
                  by_cases hc26 : a3 = (5 : Int32)
                  · rw [if_pos hc26] at hf
                    refine e_ic_f hm_229 rfl (cf_ne hc26) ?_
                    refine e_bipush hm_229 rfl kc_bipush_8 ?_
                    refine e_goto (t := 97) hm_229 rfl rfl ?_
                    refine e_istore (L2 := [some (.ref 73), some (.int a1), some (.int a2), some (.int a3), some (.int (8 : Int32)), none, none, none, none, none, none]) hm_229 rfl rfl ?_
                    refine e_iload hm_229 rfl rfl ?_
                    refine e_bipush hm_229 rfl kc_bipush_8 ?_
                    refine e_ic_f hm_229 rfl (by decide) ?_
                    refine e_aload_n hm_229 rfl rfl ?_
                    refine e_getI hm_229 rfl rfl rfl ?_
                    refine e_goto (t := 120) hm_229 rfl rfl ?_
                    refine e_istore (L2 := [some (.ref 73), some (.int a1), some (.int a2), some (.int a3), some (.int (8 : Int32)), some (.int (y5.2.1 73 4)), none, none, none, none, none]) hm_229 rfl rfl ?_
                    refine e_iload hm_229 rfl rfl ?_
                    refine e_bipush hm_229 rfl kc_bipush_8 ?_
                    refine e_ic_f hm_229 rfl (by decide) ?_
                    refine e_aload_n hm_229 rfl rfl ?_
                    refine e_getI hm_229 rfl rfl rfl ?_
                    refine e_iconst hm_229 rfl kc_iconst_1 ?_
                    refine e_isub hm_229 rfl ?_
                    refine e_goto (t := 154) hm_229 rfl rfl ?_
                    refine e_istore (L2 := [some (.ref 73), some (.int a1), some (.int a2), some (.int a3), some (.int (8 : Int32)), some (.int (y5.2.1 73 4)), some (.int ((y5.2.1 73 3) - (1 : Int32))), none, none, none, none]) hm_229 rfl rfl ?_
                    refine e_iconst hm_229 rfl kc_iconst_0 ?_
                    refine e_istore (L2 := [some (.ref 73), some (.int a1), some (.int a2), some (.int a3), some (.int (8 : Int32)), some (.int (y5.2.1 73 4)), some (.int ((y5.2.1 73 3) - (1 : Int32))), some (.int (0 : Int32)), none, none, none]) hm_229 rfl rfl ?_
                    refine e_iconst hm_229 rfl kc_iconst_0 ?_
                    refine e_istore (L2 := [some (.ref 73), some (.int a1), some (.int a2), some (.int a3), some (.int (8 : Int32)), some (.int (y5.2.1 73 4)), some (.int ((y5.2.1 73 3) - (1 : Int32))), some (.int (0 : Int32)), some (.int (0 : Int32)), none, none]) hm_229 rfl rfl ?_
                    refine e_iconst hm_229 rfl kc_iconst_m1 ?_
                    refine e_istore (L2 := [some (.ref 73), some (.int a1), some (.int a2), some (.int a3), some (.int (8 : Int32)), some (.int (y5.2.1 73 4)), some (.int ((y5.2.1 73 3) - (1 : Int32))), some (.int (0 : Int32)), some (.int (0 : Int32)), some (.int (-1 : Int32)), none]) hm_229 rfl rfl ?_
                    refine e_iload hm_229 rfl rfl ?_
                    refine e_istore (L2 := [some (.ref 73), some (.int a1), some (.int a2), some (.int a3), some (.int (8 : Int32)), some (.int (y5.2.1 73 4)), some (.int ((y5.2.1 73 3) - (1 : Int32))), some (.int (0 : Int32)), some (.int (0 : Int32)), some (.int (-1 : Int32)), some (.int ((y5.2.1 73 3) - (1 : Int32)))]) hm_229 rfl rfl ?_
                    obtain ⟨y27, hky27, hf⟩ := mm_bd hf
                    refine e_forget (L' := [some (.ref 73), some (.int a1), some (.int a2), some (.int a3), some (.int (8 : Int32)), some (.int (y5.2.1 73 4)), none, some (.int (0 : Int32)), some (.int (0 : Int32)), some (.int (-1 : Int32)), some (.int ((y5.2.1 73 3) - (1 : Int32)))]) (lf_k (lf_k (lf_k (lf_k (lf_k (lf_k (lf_d (lf_k (lf_k (lf_k (lf_k lf_0))))))))))) (lc_229_169 (d := _) 300 a1 a2 a3 (8 : Int32) (y5.2.1 73 4) (0 : Int32) (0 : Int32) (-1 : Int32) ((y5.2.1 73 3) - (1 : Int32)) y5.2 Q hky27 ?_)
                    show Ev Z _ 229 225 [some (.ref 73), none, some (.int a2), some (.int a3), some (.int (8 : Int32)), some (.int (y5.2.1 73 4)), none, some (.int y27.1.1), some (.int y27.1.2.1), some (.int y27.1.2.2), none] [] (mm_H y27.2) Q
                    refine e_aload_n hm_229 rfl rfl ?_
                    refine e_iload hm_229 rfl rfl ?_
                    refine e_iload_n hm_229 rfl rfl ?_
                    refine e_iload hm_229 rfl rfl ?_
                    obtain ⟨y28, hky28, hf⟩ := mm_bd hf
                    refine e_virt hm_229 rfl rfl rfl rfl (Nat.le_of_ble_eq_true rfl) hm_197 rfl rfl (c_197 (8 : Int32) a2 (y5.2.1 73 4) y27.2 hky28 ?_)
                    show Ev Z _ 229 234 [some (.ref 73), none, some (.int a2), some (.int a3), some (.int (8 : Int32)), some (.int (y5.2.1 73 4)), none, some (.int y27.1.1), some (.int y27.1.2.1), some (.int y27.1.2.2), none] [] (mm_H y28.2) Q
                    refine e_iload_n hm_229 rfl rfl ?_
                    refine e_iconst hm_229 rfl kc_iconst_3 ?_
                    by_cases hc29 : a3 = (3 : Int32)
                    · rw [if_pos hc29] at hf
                      refine e_ic_f hm_229 rfl (cf_ne hc29) ?_
                      refine e_iload hm_229 rfl rfl ?_
                      refine e_goto (t := 256) hm_229 rfl rfl ?_
                      obtain rfl := Option.some.inj hf
                      exact e_iret hm_229 rfl rfl hq
                    · rw [if_neg hc29] at hf
                      refine e_ic_t (t := 244) hm_229 rfl (ct_ne hc29) rfl ?_
                      refine e_iload_n hm_229 rfl rfl ?_
                      refine e_iconst hm_229 rfl kc_iconst_4 ?_
                      by_cases hc30 : a3 = (4 : Int32)
                      · rw [if_pos hc30] at hf
                        refine e_ic_f hm_229 rfl (cf_ne hc30) ?_
                        refine e_iload hm_229 rfl rfl ?_
                        refine e_goto (t := 256) hm_229 rfl rfl ?_
                        obtain rfl := Option.some.inj hf
                        exact e_iret hm_229 rfl rfl hq
                      · rw [if_neg hc30] at hf
                        refine e_ic_t (t := 254) hm_229 rfl (ct_ne hc30) rfl ?_
                        refine e_iload hm_229 rfl rfl ?_
                        obtain rfl := Option.some.inj hf
                        exact e_iret hm_229 rfl rfl hq
                  · rw [if_neg hc26] at hf
                    refine e_ic_t (t := 96) hm_229 rfl (ct_ne hc26) rfl ?_
                    refine e_iconst hm_229 rfl kc_iconst_5 ?_
                    refine e_istore (L2 := [some (.ref 73), some (.int a1), some (.int a2), some (.int a3), some (.int (5 : Int32)), none, none, none, none, none, none]) hm_229 rfl rfl ?_
                    refine e_iload hm_229 rfl rfl ?_
                    refine e_bipush hm_229 rfl kc_bipush_8 ?_
                    refine e_ic_t (t := 113) hm_229 rfl (by decide) rfl ?_
                    refine e_aload_n hm_229 rfl rfl ?_
                    refine e_iload_n hm_229 rfl rfl ?_
                    refine e_iload hm_229 rfl rfl ?_
                    obtain ⟨y31, hky31, hf⟩ := mm_bd hf
                    refine e_virt hm_229 rfl rfl rfl rfl (Nat.le_of_ble_eq_true rfl) hm_172 rfl rfl (c_172 a2 (5 : Int32) y5.2 hky31 ?_)
                    show Ev Z _ 229 120 [some (.ref 73), some (.int a1), some (.int a2), some (.int a3), some (.int (5 : Int32)), none, none, none, none, none, none] [.int y31.1] (mm_H y31.2) Q
                    refine e_istore (L2 := [some (.ref 73), some (.int a1), some (.int a2), some (.int a3), some (.int (5 : Int32)), some (.int y31.1), none, none, none, none, none]) hm_229 rfl rfl ?_
                    refine e_iload hm_229 rfl rfl ?_
                    refine e_bipush hm_229 rfl kc_bipush_8 ?_
                    refine e_ic_t (t := 138) hm_229 rfl (by decide) rfl ?_
                    refine e_iload hm_229 rfl rfl ?_
                    refine e_bipush hm_229 rfl kc_bipush_7 ?_
                    refine e_ic_t (t := 149) hm_229 rfl (by decide) rfl ?_
                    refine e_iload hm_229 rfl rfl ?_
                    obtain ⟨y32, hky32, hf⟩ := mm_bd hf
                    refine e_stat hm_229 rfl (by decide) rfl rfl (Nat.le_of_ble_eq_true rfl) hm_171 rfl rfl (c_171 (5 : Int32) y31.2 hky32 ?_)
                    show Ev Z _ 229 154 [some (.ref 73), some (.int a1), some (.int a2), some (.int a3), some (.int (5 : Int32)), some (.int y31.1), none, none, none, none, none] [.int y32.1] (mm_H y32.2) Q
                    refine e_istore (L2 := [some (.ref 73), some (.int a1), some (.int a2), some (.int a3), some (.int (5 : Int32)), some (.int y31.1), some (.int y32.1), none, none, none, none]) hm_229 rfl rfl ?_
                    refine e_iconst hm_229 rfl kc_iconst_0 ?_
                    refine e_istore (L2 := [some (.ref 73), some (.int a1), some (.int a2), some (.int a3), some (.int (5 : Int32)), some (.int y31.1), some (.int y32.1), some (.int (0 : Int32)), none, none, none]) hm_229 rfl rfl ?_
                    refine e_iconst hm_229 rfl kc_iconst_0 ?_
                    refine e_istore (L2 := [some (.ref 73), some (.int a1), some (.int a2), some (.int a3), some (.int (5 : Int32)), some (.int y31.1), some (.int y32.1), some (.int (0 : Int32)), some (.int (0 : Int32)), none, none]) hm_229 rfl rfl ?_
                    refine e_iconst hm_229 rfl kc_iconst_m1 ?_
                    refine e_istore (L2 := [some (.ref 73), some (.int a1), some (.int a2), some (.int a3), some (.int (5 : Int32)), some (.int y31.1), some (.int y32.1), some (.int (0 : Int32)), some (.int (0 : Int32)), some (.int (-1 : Int32)), none]) hm_229 rfl rfl ?_
                    refine e_iload hm_229 rfl rfl ?_
                    refine e_istore (L2 := [some (.ref 73), some (.int a1), some (.int a2), some (.int a3), some (.int (5 : Int32)), some (.int y31.1), some (.int y32.1), some (.int (0 : Int32)), some (.int (0 : Int32)), some (.int (-1 : Int32)), some (.int y32.1)]) hm_229 rfl rfl ?_
                    obtain ⟨y33, hky33, hf⟩ := mm_bd hf
                    refine e_forget (L' := [some (.ref 73), some (.int a1), some (.int a2), some (.int a3), some (.int (5 : Int32)), some (.int y31.1), none, some (.int (0 : Int32)), some (.int (0 : Int32)), some (.int (-1 : Int32)), some (.int y32.1)]) (lf_k (lf_k (lf_k (lf_k (lf_k (lf_k (lf_d (lf_k (lf_k (lf_k (lf_k lf_0))))))))))) (lc_229_169 (d := _) 300 a1 a2 a3 (5 : Int32) y31.1 (0 : Int32) (0 : Int32) (-1 : Int32) y32.1 y32.2 Q hky33 ?_)
                    show Ev Z _ 229 225 [some (.ref 73), none, some (.int a2), some (.int a3), some (.int (5 : Int32)), some (.int y31.1), none, some (.int y33.1.1), some (.int y33.1.2.1), some (.int y33.1.2.2), none] [] (mm_H y33.2) Q
                    refine e_aload_n hm_229 rfl rfl ?_
                    refine e_iload hm_229 rfl rfl ?_
                    refine e_iload_n hm_229 rfl rfl ?_
                    refine e_iload hm_229 rfl rfl ?_
                    obtain ⟨y34, hky34, hf⟩ := mm_bd hf
                    refine e_virt hm_229 rfl rfl rfl rfl (Nat.le_of_ble_eq_true rfl) hm_197 rfl rfl (c_197 (5 : Int32) a2 y31.1 y33.2 hky34 ?_)
                    show Ev Z _ 229 234 [some (.ref 73), none, some (.int a2), some (.int a3), some (.int (5 : Int32)), some (.int y31.1), none, some (.int y33.1.1), some (.int y33.1.2.1), some (.int y33.1.2.2), none] [] (mm_H y34.2) Q
                    refine e_iload_n hm_229 rfl rfl ?_
                    refine e_iconst hm_229 rfl kc_iconst_3 ?_
                    by_cases hc35 : a3 = (3 : Int32)
                    · rw [if_pos hc35] at hf
                      refine e_ic_f hm_229 rfl (cf_ne hc35) ?_
                      refine e_iload hm_229 rfl rfl ?_
                      refine e_goto (t := 256) hm_229 rfl rfl ?_
                      obtain rfl := Option.some.inj hf
                      exact e_iret hm_229 rfl rfl hq
                    · rw [if_neg hc35] at hf
                      refine e_ic_t (t := 244) hm_229 rfl (ct_ne hc35) rfl ?_
                      refine e_iload_n hm_229 rfl rfl ?_
                      refine e_iconst hm_229 rfl kc_iconst_4 ?_
                      by_cases hc36 : a3 = (4 : Int32)
                      · rw [if_pos hc36] at hf
                        refine e_ic_f hm_229 rfl (cf_ne hc36) ?_
                        refine e_iload hm_229 rfl rfl ?_
                        refine e_goto (t := 256) hm_229 rfl rfl ?_
                        obtain rfl := Option.some.inj hf
                        exact e_iret hm_229 rfl rfl hq
                      · rw [if_neg hc36] at hf
                        refine e_ic_t (t := 254) hm_229 rfl (ct_ne hc36) rfl ?_
                        refine e_iload hm_229 rfl rfl ?_
                        obtain rfl := Option.some.inj hf
                        exact e_iret hm_229 rfl rfl hq
          · rw [if_neg hc10] at hf
            refine e_ic_f hm_229 rfl (cf_eq hc10) ?_
            refine e_bipush hm_229 rfl kc_bipush_m2 ?_
            obtain rfl := Option.some.inj hf
            exact e_iret hm_229 rfl rfl hq
def md_sheet_l77 : Nat → Int32 → Int32 → Int32 → Int32 → mm_M → Option (((Unit) × mm_M))
  | 0, _, _, _, _, _ => none
  | n + 1, x1, x2, x3, x4, M =>
    if x4 < x3 then
      if x2 < (0 : Int32) then
        some ((), M)
      else
        if ak_inb (((40 : Int32) * x1) + x4) 160 = true then
        md_sheet_l77 n x1 x2 x3 (x4 + (1 : Int32)) (ak_up M.1 92 ((((40 : Int32) * x1) + x4).toNatClampNeg) (0 : Int32), M.2) else none
    else
      some ((), M)
set_option maxRecDepth 20000 in
set_option maxHeartbeats 4000000 in
theorem lc_233_77 {Z : ak_Z} {d : Nat} : ∀ (n : Nat) (x1 : Int32) (x2 : Int32) (x3 : Int32) (x4 : Int32) (M : mm_M) {y : ((Unit) × mm_M)} (Q : Option Value → ak_H → Prop), md_sheet_l77 n x1 x2 x3 x4 M = some y → (Ev Z (d + 2) 233 106 [none, none, none, none, none] [] (mm_H y.2) Q) → Ev Z (d + 2) 233 77 [some (.ref 73), some (.int x1), some (.int x2), some (.int x3), some (.int x4)] [] (mm_H M) Q := by
  intro n
  induction n with
  | zero => intro x1 x2 x3 x4 M y Q hf; cases hf
  | succ n ih =>
    intro x1 x2 x3 x4 M y Q hf hq
    rw [md_sheet_l77] at hf
    refine e_iload hm_233 rfl rfl ?_
    refine e_iload_n hm_233 rfl rfl ?_
    by_cases hc1 : x4 < x3
    · rw [if_pos hc1] at hf
      refine e_ic_f hm_233 rfl (cf_ge hc1) ?_
      refine e_iload_n hm_233 rfl rfl ?_
      by_cases hc2 : x2 < (0 : Int32)
      · rw [if_pos hc2] at hf
        refine e_if_t (t := 106) hm_233 rfl (ct_lt hc2) rfl ?_
        obtain rfl := Option.some.inj hf
        exact e_forget (L' := [none, none, none, none, none]) (lf_d (lf_d (lf_d (lf_d (lf_d lf_0))))) hq
      · rw [if_neg hc2] at hf
        refine e_if_f hm_233 rfl (cf_lt hc2) ?_
        refine e_aload_n hm_233 rfl rfl ?_
        refine e_getR hm_233 rfl rfl rfl rfl ?_
        refine e_bipush hm_233 rfl kc_bipush_40 ?_
        refine e_iload_n hm_233 rfl rfl ?_
        refine e_imul hm_233 rfl ?_
        refine e_iload hm_233 rfl rfl ?_
        refine e_iadd hm_233 rfl ?_
        refine e_iconst hm_233 rfl kc_iconst_0 ?_
        obtain ⟨hi3, hf⟩ := mm_ite hf
        refine e_iast hm_233 rfl rfl hi3 ?_
        refine e_iinc (L2 := [some (.ref 73), some (.int x1), some (.int x2), some (.int x3), some (.int (x4 + (1 : Int32)))]) hm_233 rfl kc_iinc_1 rfl rfl ?_
        refine e_goto (t := 77) hm_233 rfl rfl ?_
        exact e_forget (L' := [some (.ref 73), some (.int x1), some (.int x2), some (.int x3), some (.int (x4 + (1 : Int32)))]) (lf_k (lf_k (lf_k (lf_k (lf_k lf_0))))) (ih x1 x2 x3 (x4 + (1 : Int32)) (ak_up M.1 92 ((((40 : Int32) * x1) + x4).toNatClampNeg) (0 : Int32), M.2) Q hf hq)
    · rw [if_neg hc1] at hf
      refine e_ic_t (t := 106) hm_233 rfl (ct_ge hc1) rfl ?_
      obtain rfl := Option.some.inj hf
      exact e_forget (L' := [none, none, none, none, none]) (lf_d (lf_d (lf_d (lf_d (lf_d lf_0))))) hq
def md_sheet (a1 : Int32) (a2 : Int32) (a3 : Int32) (M : mm_M) : Option (Int32 × mm_M) :=
  (md_isSheet a1 M).bind fun y1 =>
  if y1.1 = (0 : Int32) then
    some ((-2 : Int32), y1.2)
  else
    (md_in a2.toInt64 (-1 : Int64) (2 : Int64) y1.2).bind fun y3 =>
    if y3.1 = (0 : Int32) then
      some ((-2 : Int32), y3.2)
    else
      if a2 < (0 : Int32) then
        if a2 < (0 : Int32) then
          if a2 < (0 : Int32) then
            if ak_inb a1 4 = true then
            if ak_inb a1 4 = true then
            if ak_inb a1 4 = true then
            (md_sheet_l77 300 a1 a2 a3 (0 : Int32) (ak_up (ak_up (ak_up y3.2.1 89 a1.toNatClampNeg (0 : Int32)) 90 a1.toNatClampNeg a2) 91 a1.toNatClampNeg a3, y3.2.2)).bind fun y11 =>
            some ((1 : Int32), y11.2) else none else none else none
          else
            if ak_inb a1 4 = true then
            if ak_inb a1 4 = true then
            if ak_inb a1 4 = true then
            (md_sheet_l77 300 a1 a2 a3 (0 : Int32) (ak_up (ak_up (ak_up y3.2.1 89 a1.toNatClampNeg (1 : Int32)) 90 a1.toNatClampNeg a2) 91 a1.toNatClampNeg a3, y3.2.2)).bind fun y15 =>
            some ((1 : Int32), y15.2) else none else none else none
        else
          if a3 < (0 : Int32) then
            some ((-14 : Int32), y3.2)
          else
            if a2 < (0 : Int32) then
              if ak_inb a1 4 = true then
              if ak_inb a1 4 = true then
              if ak_inb a1 4 = true then
              (md_sheet_l77 300 a1 a2 a3 (0 : Int32) (ak_up (ak_up (ak_up y3.2.1 89 a1.toNatClampNeg (0 : Int32)) 90 a1.toNatClampNeg a2) 91 a1.toNatClampNeg a3, y3.2.2)).bind fun y21 =>
              some ((1 : Int32), y21.2) else none else none else none
            else
              if ak_inb a1 4 = true then
              if ak_inb a1 4 = true then
              if ak_inb a1 4 = true then
              (md_sheet_l77 300 a1 a2 a3 (0 : Int32) (ak_up (ak_up (ak_up y3.2.1 89 a1.toNatClampNeg (1 : Int32)) 90 a1.toNatClampNeg a2) 91 a1.toNatClampNeg a3, y3.2.2)).bind fun y25 =>
              some ((1 : Int32), y25.2) else none else none else none
      else
        if (40 : Int32) < a3 then
          some ((-2 : Int32), y3.2)
        else
          if a2 < (0 : Int32) then
            if a2 < (0 : Int32) then
              if ak_inb a1 4 = true then
              if ak_inb a1 4 = true then
              if ak_inb a1 4 = true then
              (md_sheet_l77 300 a1 a2 a3 (0 : Int32) (ak_up (ak_up (ak_up y3.2.1 89 a1.toNatClampNeg (0 : Int32)) 90 a1.toNatClampNeg a2) 91 a1.toNatClampNeg a3, y3.2.2)).bind fun y32 =>
              some ((1 : Int32), y32.2) else none else none else none
            else
              if ak_inb a1 4 = true then
              if ak_inb a1 4 = true then
              if ak_inb a1 4 = true then
              (md_sheet_l77 300 a1 a2 a3 (0 : Int32) (ak_up (ak_up (ak_up y3.2.1 89 a1.toNatClampNeg (1 : Int32)) 90 a1.toNatClampNeg a2) 91 a1.toNatClampNeg a3, y3.2.2)).bind fun y36 =>
              some ((1 : Int32), y36.2) else none else none else none
          else
            if a3 < (0 : Int32) then
              some ((-14 : Int32), y3.2)
            else
              if a2 < (0 : Int32) then
                if ak_inb a1 4 = true then
                if ak_inb a1 4 = true then
                if ak_inb a1 4 = true then
                (md_sheet_l77 300 a1 a2 a3 (0 : Int32) (ak_up (ak_up (ak_up y3.2.1 89 a1.toNatClampNeg (0 : Int32)) 90 a1.toNatClampNeg a2) 91 a1.toNatClampNeg a3, y3.2.2)).bind fun y42 =>
                some ((1 : Int32), y42.2) else none else none else none
              else
                if ak_inb a1 4 = true then
                if ak_inb a1 4 = true then
                if ak_inb a1 4 = true then
                (md_sheet_l77 300 a1 a2 a3 (0 : Int32) (ak_up (ak_up (ak_up y3.2.1 89 a1.toNatClampNeg (1 : Int32)) 90 a1.toNatClampNeg a2) 91 a1.toNatClampNeg a3, y3.2.2)).bind fun y46 =>
                some ((1 : Int32), y46.2) else none else none else none
set_option maxRecDepth 20000 in
set_option maxHeartbeats 4000000 in
theorem c_233 {Z : ak_Z} {d : Nat} (a1 : Int32) (a2 : Int32) (a3 : Int32) (M : mm_M) {y : Int32 × mm_M} (hf : md_sheet a1 a2 a3 M = some y) {Q : Option Value → ak_H → Prop} (hq : Q (some (.int y.1)) (mm_H y.2)) : Ev Z (d + 2) 233 0 [some (.ref 73), some (.int a1), some (.int a2), some (.int a3), none] [] (mm_H M) Q := by
  rw [md_sheet] at hf
  refine e_iload_n hm_233 rfl rfl ?_
  obtain ⟨y1, hky1, hf⟩ := mm_bd hf
  refine e_stat hm_233 rfl (by decide) rfl rfl (Nat.le_of_ble_eq_true rfl) hm_230 rfl rfl (c_230 a1 M hky1 ?_)
  show Ev Z _ 233 4 [some (.ref 73), some (.int a1), some (.int a2), some (.int a3), none] [.int y1.1] (mm_H y1.2) Q
  by_cases hc2 : y1.1 = (0 : Int32)
  · rw [if_pos hc2] at hf
    refine e_if_t (t := 31) hm_233 rfl (ct_eq hc2) rfl ?_
    refine e_bipush hm_233 rfl kc_bipush_m2 ?_
    obtain rfl := Option.some.inj hf
    exact e_iret hm_233 rfl rfl hq
  · rw [if_neg hc2] at hf
    refine e_if_f hm_233 rfl (cf_eq hc2) ?_
    refine e_iload_n hm_233 rfl rfl ?_
    refine e_i2l hm_233 rfl ?_
    refine e_ldc2 hm_233 rfl kc_ldc2_m1 ?_
    refine e_ldc2 hm_233 rfl kc_ldc2_2 ?_
    obtain ⟨y3, hky3, hf⟩ := mm_bd hf
    refine e_stat hm_233 rfl (by decide) rfl rfl (Nat.le_of_ble_eq_true rfl) hm_169 rfl rfl (c_169 a2.toInt64 (-1 : Int64) (2 : Int64) y1.2 hky3 ?_)
    show Ev Z _ 233 18 [some (.ref 73), some (.int a1), some (.int a2), some (.int a3), none] [.int y3.1] (mm_H y3.2) Q
    by_cases hc4 : y3.1 = (0 : Int32)
    · rw [if_pos hc4] at hf
      refine e_if_t (t := 31) hm_233 rfl (ct_eq hc4) rfl ?_
      refine e_bipush hm_233 rfl kc_bipush_m2 ?_
      obtain rfl := Option.some.inj hf
      exact e_iret hm_233 rfl rfl hq
    · rw [if_neg hc4] at hf
      refine e_if_f hm_233 rfl (cf_eq hc4) ?_
      refine e_iload_n hm_233 rfl rfl ?_
      by_cases hc5 : a2 < (0 : Int32)
      · rw [if_pos hc5] at hf
        refine e_if_t (t := 34) hm_233 rfl (ct_lt hc5) rfl ?_
        refine e_iload_n hm_233 rfl rfl ?_
        by_cases hc6 : a2 < (0 : Int32)
        · rw [if_pos hc6] at hf
          refine e_if_t (t := 45) hm_233 rfl (ct_lt hc6) rfl ?_
          refine e_aload_n hm_233 rfl rfl ?_
          refine e_getR hm_233 rfl rfl rfl rfl ?_
          refine e_iload_n hm_233 rfl rfl ?_
          refine e_iload_n hm_233 rfl rfl ?_
          by_cases hc7 : a2 < (0 : Int32)
          · rw [if_pos hc7] at hf
            refine e_if_t (t := 58) hm_233 rfl (ct_lt hc7) rfl ?_
            refine e_iconst hm_233 rfl kc_iconst_0 ?_
            obtain ⟨hi8, hf⟩ := mm_ite hf
            refine e_zast hm_233 rfl rfl hi8 (by decide) ?_
            refine e_aload_n hm_233 rfl rfl ?_
            refine e_getR hm_233 rfl rfl rfl rfl ?_
            refine e_iload_n hm_233 rfl rfl ?_
            refine e_iload_n hm_233 rfl rfl ?_
            obtain ⟨hi9, hf⟩ := mm_ite hf
            refine e_iast hm_233 rfl rfl hi9 ?_
            refine e_aload_n hm_233 rfl rfl ?_
            refine e_getR hm_233 rfl rfl rfl rfl ?_
            refine e_iload_n hm_233 rfl rfl ?_
            refine e_iload_n hm_233 rfl rfl ?_
            obtain ⟨hi10, hf⟩ := mm_ite hf
            refine e_iast hm_233 rfl rfl hi10 ?_
            refine e_iconst hm_233 rfl kc_iconst_0 ?_
            refine e_istore (L2 := [some (.ref 73), some (.int a1), some (.int a2), some (.int a3), some (.int (0 : Int32))]) hm_233 rfl rfl ?_
            obtain ⟨y11, hky11, hf⟩ := mm_bd hf
            refine e_forget (L' := [some (.ref 73), some (.int a1), some (.int a2), some (.int a3), some (.int (0 : Int32))]) (lf_k (lf_k (lf_k (lf_k (lf_k lf_0))))) (lc_233_77 (d := _) 300 a1 a2 a3 (0 : Int32) (ak_up (ak_up (ak_up y3.2.1 89 a1.toNatClampNeg (0 : Int32)) 90 a1.toNatClampNeg a2) 91 a1.toNatClampNeg a3, y3.2.2) Q hky11 ?_)
            show Ev Z _ 233 106 [none, none, none, none, none] [] (mm_H y11.2) Q
            refine e_iconst hm_233 rfl kc_iconst_1 ?_
            obtain rfl := Option.some.inj hf
            exact e_iret hm_233 rfl rfl hq
          · rw [if_neg hc7] at hf
            refine e_if_f hm_233 rfl (cf_lt hc7) ?_
            refine e_iconst hm_233 rfl kc_iconst_1 ?_
            refine e_goto (t := 59) hm_233 rfl rfl ?_
            obtain ⟨hi12, hf⟩ := mm_ite hf
            refine e_zast hm_233 rfl rfl hi12 (by decide) ?_
            refine e_aload_n hm_233 rfl rfl ?_
            refine e_getR hm_233 rfl rfl rfl rfl ?_
            refine e_iload_n hm_233 rfl rfl ?_
            refine e_iload_n hm_233 rfl rfl ?_
            obtain ⟨hi13, hf⟩ := mm_ite hf
            refine e_iast hm_233 rfl rfl hi13 ?_
            refine e_aload_n hm_233 rfl rfl ?_
            refine e_getR hm_233 rfl rfl rfl rfl ?_
            refine e_iload_n hm_233 rfl rfl ?_
            refine e_iload_n hm_233 rfl rfl ?_
            obtain ⟨hi14, hf⟩ := mm_ite hf
            refine e_iast hm_233 rfl rfl hi14 ?_
            refine e_iconst hm_233 rfl kc_iconst_0 ?_
            refine e_istore (L2 := [some (.ref 73), some (.int a1), some (.int a2), some (.int a3), some (.int (0 : Int32))]) hm_233 rfl rfl ?_
            obtain ⟨y15, hky15, hf⟩ := mm_bd hf
            refine e_forget (L' := [some (.ref 73), some (.int a1), some (.int a2), some (.int a3), some (.int (0 : Int32))]) (lf_k (lf_k (lf_k (lf_k (lf_k lf_0))))) (lc_233_77 (d := _) 300 a1 a2 a3 (0 : Int32) (ak_up (ak_up (ak_up y3.2.1 89 a1.toNatClampNeg (1 : Int32)) 90 a1.toNatClampNeg a2) 91 a1.toNatClampNeg a3, y3.2.2) Q hky15 ?_)
            show Ev Z _ 233 106 [none, none, none, none, none] [] (mm_H y15.2) Q
            refine e_iconst hm_233 rfl kc_iconst_1 ?_
            obtain rfl := Option.some.inj hf
            exact e_iret hm_233 rfl rfl hq
        · rw [if_neg hc6] at hf
          refine e_if_f hm_233 rfl (cf_lt hc6) ?_
          refine e_iload_n hm_233 rfl rfl ?_
          by_cases hc16 : a3 < (0 : Int32)
          · rw [if_pos hc16] at hf
            refine e_if_f hm_233 rfl (cf_ge hc16) ?_
            refine e_bipush hm_233 rfl kc_bipush_m14 ?_
            obtain rfl := Option.some.inj hf
            exact e_iret hm_233 rfl rfl hq
          · rw [if_neg hc16] at hf
            refine e_if_t (t := 45) hm_233 rfl (ct_ge hc16) rfl ?_
            refine e_aload_n hm_233 rfl rfl ?_
            refine e_getR hm_233 rfl rfl rfl rfl ?_
            refine e_iload_n hm_233 rfl rfl ?_
            refine e_iload_n hm_233 rfl rfl ?_
            by_cases hc17 : a2 < (0 : Int32)
            · rw [if_pos hc17] at hf
              refine e_if_t (t := 58) hm_233 rfl (ct_lt hc17) rfl ?_
              refine e_iconst hm_233 rfl kc_iconst_0 ?_
              obtain ⟨hi18, hf⟩ := mm_ite hf
              refine e_zast hm_233 rfl rfl hi18 (by decide) ?_
              refine e_aload_n hm_233 rfl rfl ?_
              refine e_getR hm_233 rfl rfl rfl rfl ?_
              refine e_iload_n hm_233 rfl rfl ?_
              refine e_iload_n hm_233 rfl rfl ?_
              obtain ⟨hi19, hf⟩ := mm_ite hf
              refine e_iast hm_233 rfl rfl hi19 ?_
              refine e_aload_n hm_233 rfl rfl ?_
              refine e_getR hm_233 rfl rfl rfl rfl ?_
              refine e_iload_n hm_233 rfl rfl ?_
              refine e_iload_n hm_233 rfl rfl ?_
              obtain ⟨hi20, hf⟩ := mm_ite hf
              refine e_iast hm_233 rfl rfl hi20 ?_
              refine e_iconst hm_233 rfl kc_iconst_0 ?_
              refine e_istore (L2 := [some (.ref 73), some (.int a1), some (.int a2), some (.int a3), some (.int (0 : Int32))]) hm_233 rfl rfl ?_
              obtain ⟨y21, hky21, hf⟩ := mm_bd hf
              refine e_forget (L' := [some (.ref 73), some (.int a1), some (.int a2), some (.int a3), some (.int (0 : Int32))]) (lf_k (lf_k (lf_k (lf_k (lf_k lf_0))))) (lc_233_77 (d := _) 300 a1 a2 a3 (0 : Int32) (ak_up (ak_up (ak_up y3.2.1 89 a1.toNatClampNeg (0 : Int32)) 90 a1.toNatClampNeg a2) 91 a1.toNatClampNeg a3, y3.2.2) Q hky21 ?_)
              show Ev Z _ 233 106 [none, none, none, none, none] [] (mm_H y21.2) Q
              refine e_iconst hm_233 rfl kc_iconst_1 ?_
              obtain rfl := Option.some.inj hf
              exact e_iret hm_233 rfl rfl hq
            · rw [if_neg hc17] at hf
              refine e_if_f hm_233 rfl (cf_lt hc17) ?_
              refine e_iconst hm_233 rfl kc_iconst_1 ?_
              refine e_goto (t := 59) hm_233 rfl rfl ?_
              obtain ⟨hi22, hf⟩ := mm_ite hf
              refine e_zast hm_233 rfl rfl hi22 (by decide) ?_
              refine e_aload_n hm_233 rfl rfl ?_
              refine e_getR hm_233 rfl rfl rfl rfl ?_
              refine e_iload_n hm_233 rfl rfl ?_
              refine e_iload_n hm_233 rfl rfl ?_
              obtain ⟨hi23, hf⟩ := mm_ite hf
              refine e_iast hm_233 rfl rfl hi23 ?_
              refine e_aload_n hm_233 rfl rfl ?_
              refine e_getR hm_233 rfl rfl rfl rfl ?_
              refine e_iload_n hm_233 rfl rfl ?_
              refine e_iload_n hm_233 rfl rfl ?_
              obtain ⟨hi24, hf⟩ := mm_ite hf
              refine e_iast hm_233 rfl rfl hi24 ?_
              refine e_iconst hm_233 rfl kc_iconst_0 ?_
              refine e_istore (L2 := [some (.ref 73), some (.int a1), some (.int a2), some (.int a3), some (.int (0 : Int32))]) hm_233 rfl rfl ?_
              obtain ⟨y25, hky25, hf⟩ := mm_bd hf
              refine e_forget (L' := [some (.ref 73), some (.int a1), some (.int a2), some (.int a3), some (.int (0 : Int32))]) (lf_k (lf_k (lf_k (lf_k (lf_k lf_0))))) (lc_233_77 (d := _) 300 a1 a2 a3 (0 : Int32) (ak_up (ak_up (ak_up y3.2.1 89 a1.toNatClampNeg (1 : Int32)) 90 a1.toNatClampNeg a2) 91 a1.toNatClampNeg a3, y3.2.2) Q hky25 ?_)
              show Ev Z _ 233 106 [none, none, none, none, none] [] (mm_H y25.2) Q
              refine e_iconst hm_233 rfl kc_iconst_1 ?_
              obtain rfl := Option.some.inj hf
              exact e_iret hm_233 rfl rfl hq
      · rw [if_neg hc5] at hf
        refine e_if_f hm_233 rfl (cf_lt hc5) ?_
        refine e_iload_n hm_233 rfl rfl ?_
        refine e_bipush hm_233 rfl kc_bipush_40 ?_
        by_cases hc26 : (40 : Int32) < a3
        · rw [if_pos hc26] at hf
          refine e_ic_f hm_233 rfl (cf_le hc26) ?_
          refine e_bipush hm_233 rfl kc_bipush_m2 ?_
          obtain rfl := Option.some.inj hf
          exact e_iret hm_233 rfl rfl hq
        · rw [if_neg hc26] at hf
          refine e_ic_t (t := 34) hm_233 rfl (ct_le hc26) rfl ?_
          refine e_iload_n hm_233 rfl rfl ?_
          by_cases hc27 : a2 < (0 : Int32)
          · rw [if_pos hc27] at hf
            refine e_if_t (t := 45) hm_233 rfl (ct_lt hc27) rfl ?_
            refine e_aload_n hm_233 rfl rfl ?_
            refine e_getR hm_233 rfl rfl rfl rfl ?_
            refine e_iload_n hm_233 rfl rfl ?_
            refine e_iload_n hm_233 rfl rfl ?_
            by_cases hc28 : a2 < (0 : Int32)
            · rw [if_pos hc28] at hf
              refine e_if_t (t := 58) hm_233 rfl (ct_lt hc28) rfl ?_
              refine e_iconst hm_233 rfl kc_iconst_0 ?_
              obtain ⟨hi29, hf⟩ := mm_ite hf
              refine e_zast hm_233 rfl rfl hi29 (by decide) ?_
              refine e_aload_n hm_233 rfl rfl ?_
              refine e_getR hm_233 rfl rfl rfl rfl ?_
              refine e_iload_n hm_233 rfl rfl ?_
              refine e_iload_n hm_233 rfl rfl ?_
              obtain ⟨hi30, hf⟩ := mm_ite hf
              refine e_iast hm_233 rfl rfl hi30 ?_
              refine e_aload_n hm_233 rfl rfl ?_
              refine e_getR hm_233 rfl rfl rfl rfl ?_
              refine e_iload_n hm_233 rfl rfl ?_
              refine e_iload_n hm_233 rfl rfl ?_
              obtain ⟨hi31, hf⟩ := mm_ite hf
              refine e_iast hm_233 rfl rfl hi31 ?_
              refine e_iconst hm_233 rfl kc_iconst_0 ?_
              refine e_istore (L2 := [some (.ref 73), some (.int a1), some (.int a2), some (.int a3), some (.int (0 : Int32))]) hm_233 rfl rfl ?_
              obtain ⟨y32, hky32, hf⟩ := mm_bd hf
              refine e_forget (L' := [some (.ref 73), some (.int a1), some (.int a2), some (.int a3), some (.int (0 : Int32))]) (lf_k (lf_k (lf_k (lf_k (lf_k lf_0))))) (lc_233_77 (d := _) 300 a1 a2 a3 (0 : Int32) (ak_up (ak_up (ak_up y3.2.1 89 a1.toNatClampNeg (0 : Int32)) 90 a1.toNatClampNeg a2) 91 a1.toNatClampNeg a3, y3.2.2) Q hky32 ?_)
              show Ev Z _ 233 106 [none, none, none, none, none] [] (mm_H y32.2) Q
              refine e_iconst hm_233 rfl kc_iconst_1 ?_
              obtain rfl := Option.some.inj hf
              exact e_iret hm_233 rfl rfl hq
            · rw [if_neg hc28] at hf
              refine e_if_f hm_233 rfl (cf_lt hc28) ?_
              refine e_iconst hm_233 rfl kc_iconst_1 ?_
              refine e_goto (t := 59) hm_233 rfl rfl ?_
              obtain ⟨hi33, hf⟩ := mm_ite hf
              refine e_zast hm_233 rfl rfl hi33 (by decide) ?_
              refine e_aload_n hm_233 rfl rfl ?_
              refine e_getR hm_233 rfl rfl rfl rfl ?_
              refine e_iload_n hm_233 rfl rfl ?_
              refine e_iload_n hm_233 rfl rfl ?_
              obtain ⟨hi34, hf⟩ := mm_ite hf
              refine e_iast hm_233 rfl rfl hi34 ?_
              refine e_aload_n hm_233 rfl rfl ?_
              refine e_getR hm_233 rfl rfl rfl rfl ?_
              refine e_iload_n hm_233 rfl rfl ?_
              refine e_iload_n hm_233 rfl rfl ?_
              obtain ⟨hi35, hf⟩ := mm_ite hf
              refine e_iast hm_233 rfl rfl hi35 ?_
              refine e_iconst hm_233 rfl kc_iconst_0 ?_
              refine e_istore (L2 := [some (.ref 73), some (.int a1), some (.int a2), some (.int a3), some (.int (0 : Int32))]) hm_233 rfl rfl ?_
              obtain ⟨y36, hky36, hf⟩ := mm_bd hf
              refine e_forget (L' := [some (.ref 73), some (.int a1), some (.int a2), some (.int a3), some (.int (0 : Int32))]) (lf_k (lf_k (lf_k (lf_k (lf_k lf_0))))) (lc_233_77 (d := _) 300 a1 a2 a3 (0 : Int32) (ak_up (ak_up (ak_up y3.2.1 89 a1.toNatClampNeg (1 : Int32)) 90 a1.toNatClampNeg a2) 91 a1.toNatClampNeg a3, y3.2.2) Q hky36 ?_)
              show Ev Z _ 233 106 [none, none, none, none, none] [] (mm_H y36.2) Q
              refine e_iconst hm_233 rfl kc_iconst_1 ?_
              obtain rfl := Option.some.inj hf
              exact e_iret hm_233 rfl rfl hq
          · rw [if_neg hc27] at hf
            refine e_if_f hm_233 rfl (cf_lt hc27) ?_
            refine e_iload_n hm_233 rfl rfl ?_
            by_cases hc37 : a3 < (0 : Int32)
            · rw [if_pos hc37] at hf
              refine e_if_f hm_233 rfl (cf_ge hc37) ?_
              refine e_bipush hm_233 rfl kc_bipush_m14 ?_
              obtain rfl := Option.some.inj hf
              exact e_iret hm_233 rfl rfl hq
            · rw [if_neg hc37] at hf
              refine e_if_t (t := 45) hm_233 rfl (ct_ge hc37) rfl ?_
              refine e_aload_n hm_233 rfl rfl ?_
              refine e_getR hm_233 rfl rfl rfl rfl ?_
              refine e_iload_n hm_233 rfl rfl ?_
              refine e_iload_n hm_233 rfl rfl ?_
              by_cases hc38 : a2 < (0 : Int32)
              · rw [if_pos hc38] at hf
                refine e_if_t (t := 58) hm_233 rfl (ct_lt hc38) rfl ?_
                refine e_iconst hm_233 rfl kc_iconst_0 ?_
                obtain ⟨hi39, hf⟩ := mm_ite hf
                refine e_zast hm_233 rfl rfl hi39 (by decide) ?_
                refine e_aload_n hm_233 rfl rfl ?_
                refine e_getR hm_233 rfl rfl rfl rfl ?_
                refine e_iload_n hm_233 rfl rfl ?_
                refine e_iload_n hm_233 rfl rfl ?_
                obtain ⟨hi40, hf⟩ := mm_ite hf
                refine e_iast hm_233 rfl rfl hi40 ?_
                refine e_aload_n hm_233 rfl rfl ?_
                refine e_getR hm_233 rfl rfl rfl rfl ?_
                refine e_iload_n hm_233 rfl rfl ?_
                refine e_iload_n hm_233 rfl rfl ?_
                obtain ⟨hi41, hf⟩ := mm_ite hf
                refine e_iast hm_233 rfl rfl hi41 ?_
                refine e_iconst hm_233 rfl kc_iconst_0 ?_
                refine e_istore (L2 := [some (.ref 73), some (.int a1), some (.int a2), some (.int a3), some (.int (0 : Int32))]) hm_233 rfl rfl ?_
                obtain ⟨y42, hky42, hf⟩ := mm_bd hf
                refine e_forget (L' := [some (.ref 73), some (.int a1), some (.int a2), some (.int a3), some (.int (0 : Int32))]) (lf_k (lf_k (lf_k (lf_k (lf_k lf_0))))) (lc_233_77 (d := _) 300 a1 a2 a3 (0 : Int32) (ak_up (ak_up (ak_up y3.2.1 89 a1.toNatClampNeg (0 : Int32)) 90 a1.toNatClampNeg a2) 91 a1.toNatClampNeg a3, y3.2.2) Q hky42 ?_)
                show Ev Z _ 233 106 [none, none, none, none, none] [] (mm_H y42.2) Q
                refine e_iconst hm_233 rfl kc_iconst_1 ?_
                obtain rfl := Option.some.inj hf
                exact e_iret hm_233 rfl rfl hq
              · rw [if_neg hc38] at hf
                refine e_if_f hm_233 rfl (cf_lt hc38) ?_
                refine e_iconst hm_233 rfl kc_iconst_1 ?_
                refine e_goto (t := 59) hm_233 rfl rfl ?_
                obtain ⟨hi43, hf⟩ := mm_ite hf
                refine e_zast hm_233 rfl rfl hi43 (by decide) ?_
                refine e_aload_n hm_233 rfl rfl ?_
                refine e_getR hm_233 rfl rfl rfl rfl ?_
                refine e_iload_n hm_233 rfl rfl ?_
                refine e_iload_n hm_233 rfl rfl ?_
                obtain ⟨hi44, hf⟩ := mm_ite hf
                refine e_iast hm_233 rfl rfl hi44 ?_
                refine e_aload_n hm_233 rfl rfl ?_
                refine e_getR hm_233 rfl rfl rfl rfl ?_
                refine e_iload_n hm_233 rfl rfl ?_
                refine e_iload_n hm_233 rfl rfl ?_
                obtain ⟨hi45, hf⟩ := mm_ite hf
                refine e_iast hm_233 rfl rfl hi45 ?_
                refine e_iconst hm_233 rfl kc_iconst_0 ?_
                refine e_istore (L2 := [some (.ref 73), some (.int a1), some (.int a2), some (.int a3), some (.int (0 : Int32))]) hm_233 rfl rfl ?_
                obtain ⟨y46, hky46, hf⟩ := mm_bd hf
                refine e_forget (L' := [some (.ref 73), some (.int a1), some (.int a2), some (.int a3), some (.int (0 : Int32))]) (lf_k (lf_k (lf_k (lf_k (lf_k lf_0))))) (lc_233_77 (d := _) 300 a1 a2 a3 (0 : Int32) (ak_up (ak_up (ak_up y3.2.1 89 a1.toNatClampNeg (1 : Int32)) 90 a1.toNatClampNeg a2) 91 a1.toNatClampNeg a3, y3.2.2) Q hky46 ?_)
                show Ev Z _ 233 106 [none, none, none, none, none] [] (mm_H y46.2) Q
                refine e_iconst hm_233 rfl kc_iconst_1 ?_
                obtain rfl := Option.some.inj hf
                exact e_iret hm_233 rfl rfl hq
def md_film_l29 : Nat → Int32 → Int32 → Int32 → mm_M → Option (((Unit) × mm_M))
  | 0, _, _, _, _ => none
  | n + 1, x1, x2, x3, M =>
    if x3 < (8 : Int32) then
      (md_gladOf x2 x3 M).bind fun y2 =>
      if ak_inb (((40 : Int32) * x1) + x3) 160 = true then
      md_film_l29 n x1 x2 (x3 + (1 : Int32)) (ak_up y2.2.1 92 ((((40 : Int32) * x1) + x3).toNatClampNeg) y2.1, y2.2.2) else none
    else
      some ((), M)
set_option maxRecDepth 20000 in
set_option maxHeartbeats 4000000 in
theorem lc_232_29 {Z : ak_Z} {d : Nat} : ∀ (n : Nat) (x1 : Int32) (x2 : Int32) (x3 : Int32) (M : mm_M) {y : ((Unit) × mm_M)} (Q : Option Value → ak_H → Prop), md_film_l29 n x1 x2 x3 M = some y → (Ev Z (d + 68) 232 58 [none, none, none, none] [] (mm_H y.2) Q) → Ev Z (d + 68) 232 29 [some (.ref 73), some (.int x1), some (.int x2), some (.int x3)] [] (mm_H M) Q := by
  intro n
  induction n with
  | zero => intro x1 x2 x3 M y Q hf; cases hf
  | succ n ih =>
    intro x1 x2 x3 M y Q hf hq
    rw [md_film_l29] at hf
    refine e_iload_n hm_232 rfl rfl ?_
    refine e_bipush hm_232 rfl kc_bipush_8 ?_
    by_cases hc1 : x3 < (8 : Int32)
    · rw [if_pos hc1] at hf
      refine e_ic_f hm_232 rfl (cf_ge hc1) ?_
      refine e_aload_n hm_232 rfl rfl ?_
      refine e_getR hm_232 rfl rfl rfl rfl ?_
      refine e_bipush hm_232 rfl kc_bipush_40 ?_
      refine e_iload_n hm_232 rfl rfl ?_
      refine e_imul hm_232 rfl ?_
      refine e_iload_n hm_232 rfl rfl ?_
      refine e_iadd hm_232 rfl ?_
      refine e_aload_n hm_232 rfl rfl ?_
      refine e_iload_n hm_232 rfl rfl ?_
      refine e_iload_n hm_232 rfl rfl ?_
      obtain ⟨y2, hky2, hf⟩ := mm_bd hf
      refine e_virt hm_232 rfl rfl rfl rfl (Nat.le_of_ble_eq_true rfl) hm_173 rfl rfl (c_173 x2 x3 M hky2 ?_)
      show Ev Z _ 232 51 [some (.ref 73), some (.int x1), some (.int x2), some (.int x3)] [.int y2.1, .int (((40 : Int32) * x1) + x3), .ref 92] (mm_H y2.2) Q
      obtain ⟨hi3, hf⟩ := mm_ite hf
      refine e_iast hm_232 rfl rfl hi3 ?_
      refine e_iinc (L2 := [some (.ref 73), some (.int x1), some (.int x2), some (.int (x3 + (1 : Int32)))]) hm_232 rfl kc_iinc_1 rfl rfl ?_
      refine e_goto (t := 29) hm_232 rfl rfl ?_
      exact e_forget (L' := [some (.ref 73), some (.int x1), some (.int x2), some (.int (x3 + (1 : Int32)))]) (lf_k (lf_k (lf_k (lf_k lf_0)))) (ih x1 x2 (x3 + (1 : Int32)) (ak_up y2.2.1 92 ((((40 : Int32) * x1) + x3).toNatClampNeg) y2.1, y2.2.2) Q hf hq)
    · rw [if_neg hc1] at hf
      refine e_ic_t (t := 58) hm_232 rfl (ct_ge hc1) rfl ?_
      obtain rfl := Option.some.inj hf
      exact e_forget (L' := [none, none, none, none]) (lf_d (lf_d (lf_d (lf_d lf_0)))) hq
def md_film (a1 : Int32) (a2 : Int32) (M : mm_M) : Option (Int32 × mm_M) :=
  (md_isSheet a1 M).bind fun y1 =>
  if y1.1 = (0 : Int32) then
    some ((-2 : Int32), y1.2)
  else
    (md_isOne a2 y1.2).bind fun y3 =>
    if y3.1 = (0 : Int32) then
      some ((-2 : Int32), y3.2)
    else
      (md_sheet a1 (1 : Int32) (8 : Int32) y3.2).bind fun y5 =>
      (md_film_l29 300 a1 a2 (0 : Int32) y5.2).bind fun y6 =>
      some ((8 : Int32), y6.2)
set_option maxRecDepth 20000 in
set_option maxHeartbeats 4000000 in
theorem c_232 {Z : ak_Z} {d : Nat} (a1 : Int32) (a2 : Int32) (M : mm_M) {y : Int32 × mm_M} (hf : md_film a1 a2 M = some y) {Q : Option Value → ak_H → Prop} (hq : Q (some (.int y.1)) (mm_H y.2)) : Ev Z (d + 68) 232 0 [some (.ref 73), some (.int a1), some (.int a2), none] [] (mm_H M) Q := by
  rw [md_film] at hf
  refine e_iload_n hm_232 rfl rfl ?_
  obtain ⟨y1, hky1, hf⟩ := mm_bd hf
  refine e_stat hm_232 rfl (by decide) rfl rfl (Nat.le_of_ble_eq_true rfl) hm_230 rfl rfl (c_230 a1 M hky1 ?_)
  show Ev Z _ 232 4 [some (.ref 73), some (.int a1), some (.int a2), none] [.int y1.1] (mm_H y1.2) Q
  by_cases hc2 : y1.1 = (0 : Int32)
  · rw [if_pos hc2] at hf
    refine e_if_t (t := 15) hm_232 rfl (ct_eq hc2) rfl ?_
    refine e_bipush hm_232 rfl kc_bipush_m2 ?_
    obtain rfl := Option.some.inj hf
    exact e_iret hm_232 rfl rfl hq
  · rw [if_neg hc2] at hf
    refine e_if_f hm_232 rfl (cf_eq hc2) ?_
    refine e_aload_n hm_232 rfl rfl ?_
    refine e_iload_n hm_232 rfl rfl ?_
    obtain ⟨y3, hky3, hf⟩ := mm_bd hf
    refine e_virt hm_232 rfl rfl rfl rfl (Nat.le_of_ble_eq_true rfl) hm_170 rfl rfl (c_170 a2 y1.2 hky3 ?_)
    show Ev Z _ 232 12 [some (.ref 73), some (.int a1), some (.int a2), none] [.int y3.1] (mm_H y3.2) Q
    by_cases hc4 : y3.1 = (0 : Int32)
    · rw [if_pos hc4] at hf
      refine e_if_f hm_232 rfl (cf_ne hc4) ?_
      refine e_bipush hm_232 rfl kc_bipush_m2 ?_
      obtain rfl := Option.some.inj hf
      exact e_iret hm_232 rfl rfl hq
    · rw [if_neg hc4] at hf
      refine e_if_t (t := 18) hm_232 rfl (ct_ne hc4) rfl ?_
      refine e_aload_n hm_232 rfl rfl ?_
      refine e_iload_n hm_232 rfl rfl ?_
      refine e_iconst hm_232 rfl kc_iconst_1 ?_
      refine e_bipush hm_232 rfl kc_bipush_8 ?_
      obtain ⟨y5, hky5, hf⟩ := mm_bd hf
      refine e_virt hm_232 rfl rfl rfl rfl (Nat.le_of_ble_eq_true rfl) hm_233 rfl rfl (c_233 a1 (1 : Int32) (8 : Int32) y3.2 hky5 ?_)
      show Ev Z _ 232 26 [some (.ref 73), some (.int a1), some (.int a2), none] [.int y5.1] (mm_H y5.2) Q
      refine e_popi hm_232 rfl ?_
      refine e_iconst hm_232 rfl kc_iconst_0 ?_
      refine e_istore_n (L2 := [some (.ref 73), some (.int a1), some (.int a2), some (.int (0 : Int32))]) hm_232 rfl rfl ?_
      obtain ⟨y6, hky6, hf⟩ := mm_bd hf
      refine e_forget (L' := [some (.ref 73), some (.int a1), some (.int a2), some (.int (0 : Int32))]) (lf_k (lf_k (lf_k (lf_k lf_0)))) (lc_232_29 (d := _) 300 a1 a2 (0 : Int32) y5.2 Q hky6 ?_)
      show Ev Z _ 232 58 [none, none, none, none] [] (mm_H y6.2) Q
      refine e_bipush hm_232 rfl kc_bipush_8 ?_
      obtain rfl := Option.some.inj hf
      exact e_iret hm_232 rfl rfl hq
def md_draws_l4 : Nat → Int32 → Int32 → mm_M → Option (((Unit) × mm_M))
  | 0, _, _, _ => none
  | n + 1, x2, x3, M =>
    if x3 < (M.1 73 11) then
      if ak_inb (((5 : Int32) * x3) + (2 : Int32)) 20 = true then
      if ak_inb x3 4 = true then
      if ak_inb (((5 : Int32) * x3) + (2 : Int32)) 20 = true then
      md_draws_l4 n ((x2 * (1103515245 : Int32)) + (12345 : Int32)) (x3 + (1 : Int32)) (ak_up (ak_up M.1 85 x3.toNatClampNeg (M.1 79 (((5 : Int32) * x3) + (2 : Int32)).toNatClampNeg)) 79 ((((5 : Int32) * x3) + (2 : Int32)).toNatClampNeg) (((((x2 * (1103515245 : Int32)) + (12345 : Int32)).toUInt32 >>> ((9 : Int32).toUInt32 &&& Int32.toUInt32 31)).toInt32) - ((((x2 * (1103515245 : Int32)) + (12345 : Int32)).toUInt32 >>> ((9 : Int32).toUInt32 &&& Int32.toUInt32 31)).toInt32) / (256 : Int32) * (256 : Int32)), M.2) else none else none else none
    else
      some ((), M)
set_option maxRecDepth 20000 in
set_option maxHeartbeats 4000000 in
theorem lc_235_4 {Z : ak_Z} {d : Nat} : ∀ (n : Nat) (x2 : Int32) (x3 : Int32) (M : mm_M) {y : ((Unit) × mm_M)} (Q : Option Value → ak_H → Prop), md_draws_l4 n x2 x3 M = some y → (Ev Z (d + 71) 235 62 [some (.ref 73), none, none, none] [] (mm_H y.2) Q) → Ev Z (d + 71) 235 4 [some (.ref 73), none, some (.int x2), some (.int x3)] [] (mm_H M) Q := by
  intro n
  induction n with
  | zero => intro x2 x3 M y Q hf; cases hf
  | succ n ih =>
    intro x2 x3 M y Q hf hq
    rw [md_draws_l4] at hf
    refine e_iload_n hm_235 rfl rfl ?_
    refine e_aload_n hm_235 rfl rfl ?_
    refine e_getI hm_235 rfl rfl rfl ?_
    by_cases hc1 : x3 < (M.1 73 11)
    · rw [if_pos hc1] at hf
      refine e_ic_f hm_235 rfl (cf_ge hc1) ?_
      refine e_aload_n hm_235 rfl rfl ?_
      refine e_getR hm_235 rfl rfl rfl rfl ?_
      refine e_iload_n hm_235 rfl rfl ?_
      refine e_aload_n hm_235 rfl rfl ?_
      refine e_getR hm_235 rfl rfl rfl rfl ?_
      refine e_iconst hm_235 rfl kc_iconst_5 ?_
      refine e_iload_n hm_235 rfl rfl ?_
      refine e_imul hm_235 rfl ?_
      refine e_iconst hm_235 rfl kc_iconst_2 ?_
      refine e_iadd hm_235 rfl ?_
      obtain ⟨hi2, hf⟩ := mm_ite hf
      refine e_iald hm_235 rfl rfl hi2 ?_
      obtain ⟨hi3, hf⟩ := mm_ite hf
      refine e_iast hm_235 rfl rfl hi3 ?_
      refine e_iload_n hm_235 rfl rfl ?_
      refine e_ldc_w hm_235 rfl kc_ldc_1103515245 ?_
      refine e_imul hm_235 rfl ?_
      refine e_sipush hm_235 rfl kc_sipush_12345 ?_
      refine e_iadd hm_235 rfl ?_
      refine e_istore_n (L2 := [some (.ref 73), none, some (.int ((x2 * (1103515245 : Int32)) + (12345 : Int32))), some (.int x3)]) hm_235 rfl rfl ?_
      refine e_aload_n hm_235 rfl rfl ?_
      refine e_getR hm_235 rfl rfl rfl rfl ?_
      refine e_iconst hm_235 rfl kc_iconst_5 ?_
      refine e_iload_n hm_235 rfl rfl ?_
      refine e_imul hm_235 rfl ?_
      refine e_iconst hm_235 rfl kc_iconst_2 ?_
      refine e_iadd hm_235 rfl ?_
      refine e_iload_n hm_235 rfl rfl ?_
      refine e_bipush hm_235 rfl kc_bipush_9 ?_
      refine e_iushr hm_235 rfl ?_
      refine e_sipush hm_235 rfl kc_sipush_256 ?_
      refine e_irem hm_235 rfl (by decide) ?_
      obtain ⟨hi4, hf⟩ := mm_ite hf
      refine e_iast hm_235 rfl rfl hi4 ?_
      refine e_iinc (L2 := [some (.ref 73), none, some (.int ((x2 * (1103515245 : Int32)) + (12345 : Int32))), some (.int (x3 + (1 : Int32)))]) hm_235 rfl kc_iinc_1 rfl rfl ?_
      refine e_goto (t := 4) hm_235 rfl rfl ?_
      exact e_forget (L' := [some (.ref 73), none, some (.int ((x2 * (1103515245 : Int32)) + (12345 : Int32))), some (.int (x3 + (1 : Int32)))]) (lf_k (lf_k (lf_k (lf_k lf_0)))) (ih ((x2 * (1103515245 : Int32)) + (12345 : Int32)) (x3 + (1 : Int32)) (ak_up (ak_up M.1 85 x3.toNatClampNeg (M.1 79 (((5 : Int32) * x3) + (2 : Int32)).toNatClampNeg)) 79 ((((5 : Int32) * x3) + (2 : Int32)).toNatClampNeg) (((((x2 * (1103515245 : Int32)) + (12345 : Int32)).toUInt32 >>> ((9 : Int32).toUInt32 &&& Int32.toUInt32 31)).toInt32) - ((((x2 * (1103515245 : Int32)) + (12345 : Int32)).toUInt32 >>> ((9 : Int32).toUInt32 &&& Int32.toUInt32 31)).toInt32) / (256 : Int32) * (256 : Int32)), M.2) Q hf hq)
    · rw [if_neg hc1] at hf
      refine e_ic_t (t := 62) hm_235 rfl (ct_ge hc1) rfl ?_
      obtain rfl := Option.some.inj hf
      exact e_forget (L' := [some (.ref 73), none, none, none]) (lf_k (lf_k (lf_d (lf_d lf_0)))) hq
def md_draws_l68 : Nat → Int32 → mm_M → Option (((Unit) × mm_M))
  | 0, _, _ => none
  | n + 1, x3, M =>
    if x3 < (M.1 73 11) then
      if ak_inb x3 4 = true then
      if ak_inb (((5 : Int32) * x3) + (2 : Int32)) 20 = true then
      md_draws_l68 n (x3 + (1 : Int32)) (ak_up M.1 79 ((((5 : Int32) * x3) + (2 : Int32)).toNatClampNeg) (M.1 85 x3.toNatClampNeg), M.2) else none else none
    else
      some ((), M)
set_option maxRecDepth 20000 in
set_option maxHeartbeats 4000000 in
theorem lc_235_68 {Z : ak_Z} {d : Nat} : ∀ (n : Nat) (x3 : Int32) (M : mm_M) {y : ((Unit) × mm_M)} (Q : Option Value → ak_H → Prop), md_draws_l68 n x3 M = some y → (Ev Z (d + 71) 235 98 [none, none, none, none] [] (mm_H y.2) Q) → Ev Z (d + 71) 235 68 [some (.ref 73), none, none, some (.int x3)] [] (mm_H M) Q := by
  intro n
  induction n with
  | zero => intro x3 M y Q hf; cases hf
  | succ n ih =>
    intro x3 M y Q hf hq
    rw [md_draws_l68] at hf
    refine e_iload_n hm_235 rfl rfl ?_
    refine e_aload_n hm_235 rfl rfl ?_
    refine e_getI hm_235 rfl rfl rfl ?_
    by_cases hc1 : x3 < (M.1 73 11)
    · rw [if_pos hc1] at hf
      refine e_ic_f hm_235 rfl (cf_ge hc1) ?_
      refine e_aload_n hm_235 rfl rfl ?_
      refine e_getR hm_235 rfl rfl rfl rfl ?_
      refine e_iconst hm_235 rfl kc_iconst_5 ?_
      refine e_iload_n hm_235 rfl rfl ?_
      refine e_imul hm_235 rfl ?_
      refine e_iconst hm_235 rfl kc_iconst_2 ?_
      refine e_iadd hm_235 rfl ?_
      refine e_aload_n hm_235 rfl rfl ?_
      refine e_getR hm_235 rfl rfl rfl rfl ?_
      refine e_iload_n hm_235 rfl rfl ?_
      obtain ⟨hi2, hf⟩ := mm_ite hf
      refine e_iald hm_235 rfl rfl hi2 ?_
      obtain ⟨hi3, hf⟩ := mm_ite hf
      refine e_iast hm_235 rfl rfl hi3 ?_
      refine e_iinc (L2 := [some (.ref 73), none, none, some (.int (x3 + (1 : Int32)))]) hm_235 rfl kc_iinc_1 rfl rfl ?_
      refine e_goto (t := 68) hm_235 rfl rfl ?_
      exact e_forget (L' := [some (.ref 73), none, none, some (.int (x3 + (1 : Int32)))]) (lf_k (lf_k (lf_k (lf_k lf_0)))) (ih (x3 + (1 : Int32)) (ak_up M.1 79 ((((5 : Int32) * x3) + (2 : Int32)).toNatClampNeg) (M.1 85 x3.toNatClampNeg), M.2) Q hf hq)
    · rw [if_neg hc1] at hf
      refine e_ic_t (t := 98) hm_235 rfl (ct_ge hc1) rfl ?_
      obtain rfl := Option.some.inj hf
      exact e_forget (L' := [none, none, none, none]) (lf_d (lf_k (lf_k (lf_d lf_0)))) hq
def md_draws (a1 : Int32) (M : mm_M) : Option (Unit × mm_M) :=
  (md_draws_l4 300 a1 (0 : Int32) M).bind fun y1 =>
  (md_turnsAll y1.2).bind fun y2 =>
  (md_draws_l68 300 (0 : Int32) y2.2).bind fun y3 =>
  some ((), y3.2)
set_option maxRecDepth 20000 in
set_option maxHeartbeats 4000000 in
theorem c_235 {Z : ak_Z} {d : Nat} (a1 : Int32) (M : mm_M) {y : Unit × mm_M} (hf : md_draws a1 M = some y) {Q : Option Value → ak_H → Prop} (hq : Q none (mm_H y.2)) : Ev Z (d + 71) 235 0 [some (.ref 73), some (.int a1), none, none] [] (mm_H M) Q := by
  rw [md_draws] at hf
  refine e_iload_n hm_235 rfl rfl ?_
  refine e_istore_n (L2 := [some (.ref 73), some (.int a1), some (.int a1), none]) hm_235 rfl rfl ?_
  refine e_iconst hm_235 rfl kc_iconst_0 ?_
  refine e_istore_n (L2 := [some (.ref 73), some (.int a1), some (.int a1), some (.int (0 : Int32))]) hm_235 rfl rfl ?_
  obtain ⟨y1, hky1, hf⟩ := mm_bd hf
  refine e_forget (L' := [some (.ref 73), none, some (.int a1), some (.int (0 : Int32))]) (lf_k (lf_d (lf_k (lf_k lf_0)))) (lc_235_4 (d := _) 300 a1 (0 : Int32) M Q hky1 ?_)
  show Ev Z _ 235 62 [some (.ref 73), none, none, none] [] (mm_H y1.2) Q
  refine e_aload_n hm_235 rfl rfl ?_
  obtain ⟨y2, hky2, hf⟩ := mm_bd hf
  refine e_virt hm_235 rfl rfl rfl rfl (Nat.le_of_ble_eq_true rfl) hm_222 rfl rfl (c_222 y1.2 hky2 ?_)
  show Ev Z _ 235 66 [some (.ref 73), none, none, none] [] (mm_H y2.2) Q
  refine e_iconst hm_235 rfl kc_iconst_0 ?_
  refine e_istore_n (L2 := [some (.ref 73), none, none, some (.int (0 : Int32))]) hm_235 rfl rfl ?_
  obtain ⟨y3, hky3, hf⟩ := mm_bd hf
  refine e_forget (L' := [some (.ref 73), none, none, some (.int (0 : Int32))]) (lf_k (lf_k (lf_k (lf_k lf_0)))) (lc_235_68 (d := _) 300 (0 : Int32) y2.2 Q hky3 ?_)
  show Ev Z _ 235 98 [none, none, none, none] [] (mm_H y3.2) Q
  obtain rfl := Option.some.inj hf
  exact e_vret hm_235 rfl rfl hq
def md_drawn (a1 : Int32) (M : mm_M) : Option (Int32 × mm_M) :=
  (md_draws a1 M).bind fun y1 =>
  (md_allOf y1.2).bind fun y2 =>
  some (y2.1, y2.2)
set_option maxRecDepth 20000 in
set_option maxHeartbeats 4000000 in
theorem c_234 {Z : ak_Z} {d : Nat} (a1 : Int32) (M : mm_M) {y : Int32 × mm_M} (hf : md_drawn a1 M = some y) {Q : Option Value → ak_H → Prop} (hq : Q (some (.int y.1)) (mm_H y.2)) : Ev Z (d + 72) 234 0 [some (.ref 73), some (.int a1)] [] (mm_H M) Q := by
  rw [md_drawn] at hf
  refine e_aload_n hm_234 rfl rfl ?_
  refine e_iload_n hm_234 rfl rfl ?_
  obtain ⟨y1, hky1, hf⟩ := mm_bd hf
  refine e_virt hm_234 rfl rfl rfl rfl (Nat.le_of_ble_eq_true rfl) hm_235 rfl rfl (c_235 a1 M hky1 ?_)
  show Ev Z _ 234 5 [some (.ref 73), some (.int a1)] [] (mm_H y1.2) Q
  refine e_aload_n hm_234 rfl rfl ?_
  obtain ⟨y2, hky2, hf⟩ := mm_bd hf
  refine e_virt hm_234 rfl rfl rfl rfl (Nat.le_of_ble_eq_true rfl) hm_215 rfl rfl (c_215 y1.2 hky2 ?_)
  show Ev Z _ 234 9 [some (.ref 73), some (.int a1)] [.int y2.1] (mm_H y2.2) Q
  obtain rfl := Option.some.inj hf
  exact e_iret hm_234 rfl rfl hq
