/-! printed: the functions of the methods, and that the small machine does them -/
def md_allOf_l4 : Nat → Int32 → Int32 → mm_M → Option (((Int32) × mm_M))
  | 0, _, _, _ => none
  | n + 1, x1, x2, M =>
    if x2 < (M.1 73 11) then
      if ak_inb x2 4 = true then
      if ak_inb (((9 : Int32) * x2) + (M.1 84 x2.toNatClampNeg)) 36 = true then
      md_allOf_l4 n (x1 + (M.1 82 (((9 : Int32) * x2) + (M.1 84 x2.toNatClampNeg)).toNatClampNeg)) (x2 + (1 : Int32)) M else none else none
    else
      some (x1, M)
set_option maxRecDepth 20000 in
set_option maxHeartbeats 4000000 in
theorem lc_215_4 {Z : ak_Z} {d : Nat} : ∀ (n : Nat) (x1 : Int32) (x2 : Int32) (M : mm_M) {y : ((Int32) × mm_M)} (Q : Option Value → ak_H → Prop), md_allOf_l4 n x1 x2 M = some y → (Ev Z (d + 0) 215 37 [none, some (.int y.1), none] [] (mm_H y.2) Q) → Ev Z (d + 0) 215 4 [some (.ref 73), some (.int x1), some (.int x2)] [] (mm_H M) Q := by
  intro n
  induction n with
  | zero => intro x1 x2 M y Q hf; cases hf
  | succ n ih =>
    intro x1 x2 M y Q hf hq
    rw [md_allOf_l4] at hf
    refine e_iload_n hm_215 rfl rfl ?_
    refine e_aload_n hm_215 rfl rfl ?_
    refine e_getI hm_215 rfl rfl rfl ?_
    by_cases hc1 : x2 < (M.1 73 11)
    · rw [if_pos hc1] at hf
      refine e_ic_f hm_215 rfl (cf_ge hc1) ?_
      refine e_iload_n hm_215 rfl rfl ?_
      refine e_aload_n hm_215 rfl rfl ?_
      refine e_getR hm_215 rfl rfl rfl rfl ?_
      refine e_bipush hm_215 rfl kc_bipush_9 ?_
      refine e_iload_n hm_215 rfl rfl ?_
      refine e_imul hm_215 rfl ?_
      refine e_aload_n hm_215 rfl rfl ?_
      refine e_getR hm_215 rfl rfl rfl rfl ?_
      refine e_iload_n hm_215 rfl rfl ?_
      obtain ⟨hi2, hf⟩ := mm_ite hf
      refine e_iald hm_215 rfl rfl hi2 ?_
      refine e_iadd hm_215 rfl ?_
      obtain ⟨hi3, hf⟩ := mm_ite hf
      refine e_iald hm_215 rfl rfl hi3 ?_
      refine e_iadd hm_215 rfl ?_
      refine e_istore_n (L2 := [some (.ref 73), some (.int (x1 + (M.1 82 (((9 : Int32) * x2) + (M.1 84 x2.toNatClampNeg)).toNatClampNeg))), some (.int x2)]) hm_215 rfl rfl ?_
      refine e_iinc (L2 := [some (.ref 73), some (.int (x1 + (M.1 82 (((9 : Int32) * x2) + (M.1 84 x2.toNatClampNeg)).toNatClampNeg))), some (.int (x2 + (1 : Int32)))]) hm_215 rfl kc_iinc_1 rfl rfl ?_
      refine e_goto (t := 4) hm_215 rfl rfl ?_
      exact e_forget (L' := [some (.ref 73), some (.int (x1 + (M.1 82 (((9 : Int32) * x2) + (M.1 84 x2.toNatClampNeg)).toNatClampNeg))), some (.int (x2 + (1 : Int32)))]) (lf_k (lf_k (lf_k lf_0))) (ih (x1 + (M.1 82 (((9 : Int32) * x2) + (M.1 84 x2.toNatClampNeg)).toNatClampNeg)) (x2 + (1 : Int32)) M Q hf hq)
    · rw [if_neg hc1] at hf
      refine e_ic_t (t := 37) hm_215 rfl (ct_ge hc1) rfl ?_
      obtain rfl := Option.some.inj hf
      exact e_forget (L' := [none, some (.int x1), none]) (lf_d (lf_k (lf_d lf_0))) hq
def md_allOf (M : mm_M) : Option (Int32 × mm_M) :=
  (md_allOf_l4 300 (0 : Int32) (0 : Int32) M).bind fun y1 =>
  some (y1.1, y1.2)
set_option maxRecDepth 20000 in
set_option maxHeartbeats 4000000 in
theorem c_215 {Z : ak_Z} {d : Nat} (M : mm_M) {y : Int32 × mm_M} (hf : md_allOf M = some y) {Q : Option Value → ak_H → Prop} (hq : Q (some (.int y.1)) (mm_H y.2)) : Ev Z (d + 0) 215 0 [some (.ref 73), none, none] [] (mm_H M) Q := by
  rw [md_allOf] at hf
  refine e_iconst hm_215 rfl kc_iconst_0 ?_
  refine e_istore_n (L2 := [some (.ref 73), some (.int (0 : Int32)), none]) hm_215 rfl rfl ?_
  refine e_iconst hm_215 rfl kc_iconst_0 ?_
  refine e_istore_n (L2 := [some (.ref 73), some (.int (0 : Int32)), some (.int (0 : Int32))]) hm_215 rfl rfl ?_
  obtain ⟨y1, hky1, hf⟩ := mm_bd hf
  refine e_forget (L' := [some (.ref 73), some (.int (0 : Int32)), some (.int (0 : Int32))]) (lf_k (lf_k (lf_k lf_0))) (lc_215_4 (d := _) 300 (0 : Int32) (0 : Int32) M Q hky1 ?_)
  show Ev Z _ 215 37 [none, some (.int y1.1), none] [] (mm_H y1.2) Q
  refine e_iload_n hm_215 rfl rfl ?_
  obtain rfl := Option.some.inj hf
  exact e_iret hm_215 rfl rfl hq
def md_plan (a1 : Int32) (M : mm_M) : Option (Int32 × mm_M) :=
  (md_in a1.toInt64 (0 : Int64) (2 : Int64) M).bind fun y1 =>
  if y1.1 = (0 : Int32) then
    (md_in a1.toInt64 (10 : Int64) (17 : Int64) y1.2).bind fun y3 =>
    if y3.1 = (0 : Int32) then
      some ((-100000 : Int32), y3.2)
    else
      (md_tables y3.2).bind fun y5 =>
      (md_booked y5.2).bind fun y6 =>
      if a1 = (0 : Int32) then
        (md_holds y6.2).bind fun y8 =>
        if y8.1 = (0 : Int32) then
          some ((0 : Int32), y8.2)
        else
          some ((1 : Int32), y8.2)
      else
        if a1 = (1 : Int32) then
          (md_allOf y6.2).bind fun y11 =>
          some (y11.1, y11.2)
        else
          if a1 = (2 : Int32) then
            (md_firstWrong y6.2).bind fun y13 =>
            some (y13.1, y13.2)
          else
            (md_awayIn (a1 - (10 : Int32)) y6.2).bind fun y14 =>
            some (y14.1, y14.2)
  else
    (md_tables y1.2).bind fun y15 =>
    (md_booked y15.2).bind fun y16 =>
    if a1 = (0 : Int32) then
      (md_holds y16.2).bind fun y18 =>
      if y18.1 = (0 : Int32) then
        some ((0 : Int32), y18.2)
      else
        some ((1 : Int32), y18.2)
    else
      if a1 = (1 : Int32) then
        (md_allOf y16.2).bind fun y21 =>
        some (y21.1, y21.2)
      else
        if a1 = (2 : Int32) then
          (md_firstWrong y16.2).bind fun y23 =>
          some (y23.1, y23.2)
        else
          (md_awayIn (a1 - (10 : Int32)) y16.2).bind fun y24 =>
          some (y24.1, y24.2)
set_option maxRecDepth 20000 in
set_option maxHeartbeats 4000000 in
theorem c_207 {Z : ak_Z} {d : Nat} (a1 : Int32) (M : mm_M) {y : Int32 × mm_M} (hf : md_plan a1 M = some y) {Q : Option Value → ak_H → Prop} (hq : Q (some (.int y.1)) (mm_H y.2)) : Ev Z (d + 70) 207 0 [some (.ref 73), some (.int a1)] [] (mm_H M) Q := by
  rw [md_plan] at hf
  refine e_iload_n hm_207 rfl rfl ?_
  refine e_i2l hm_207 rfl ?_
  refine e_lconst hm_207 rfl rfl ?_
  refine e_ldc2 hm_207 rfl kc_ldc2_2 ?_
  obtain ⟨y1, hky1, hf⟩ := mm_bd hf
  refine e_stat hm_207 rfl (by decide) rfl rfl (Nat.le_of_ble_eq_true rfl) hm_169 rfl rfl (c_169 a1.toInt64 (0 : Int64) (2 : Int64) M hky1 ?_)
  show Ev Z _ 207 9 [some (.ref 73), some (.int a1)] [.int y1.1] (mm_H y1.2) Q
  by_cases hc2 : y1.1 = (0 : Int32)
  · rw [if_pos hc2] at hf
    refine e_if_f hm_207 rfl (cf_ne hc2) ?_
    refine e_iload_n hm_207 rfl rfl ?_
    refine e_i2l hm_207 rfl ?_
    refine e_ldc2 hm_207 rfl kc_ldc2_10 ?_
    refine e_ldc2 hm_207 rfl kc_ldc2_17 ?_
    obtain ⟨y3, hky3, hf⟩ := mm_bd hf
    refine e_stat hm_207 rfl (by decide) rfl rfl (Nat.le_of_ble_eq_true rfl) hm_169 rfl rfl (c_169 a1.toInt64 (10 : Int64) (17 : Int64) y1.2 hky3 ?_)
    show Ev Z _ 207 23 [some (.ref 73), some (.int a1)] [.int y3.1] (mm_H y3.2) Q
    by_cases hc4 : y3.1 = (0 : Int32)
    · rw [if_pos hc4] at hf
      refine e_if_f hm_207 rfl (cf_ne hc4) ?_
      refine e_ldc_w hm_207 rfl kc_ldc_m100000 ?_
      obtain rfl := Option.some.inj hf
      exact e_iret hm_207 rfl rfl hq
    · rw [if_neg hc4] at hf
      refine e_if_t (t := 30) hm_207 rfl (ct_ne hc4) rfl ?_
      refine e_aload_n hm_207 rfl rfl ?_
      obtain ⟨y5, hky5, hf⟩ := mm_bd hf
      refine e_virt hm_207 rfl rfl rfl rfl (Nat.le_of_ble_eq_true rfl) hm_208 rfl rfl (c_208 y3.2 hky5 ?_)
      show Ev Z _ 207 34 [some (.ref 73), some (.int a1)] [] (mm_H y5.2) Q
      refine e_aload_n hm_207 rfl rfl ?_
      obtain ⟨y6, hky6, hf⟩ := mm_bd hf
      refine e_virt hm_207 rfl rfl rfl rfl (Nat.le_of_ble_eq_true rfl) hm_209 rfl rfl (c_209 y5.2 hky6 ?_)
      show Ev Z _ 207 38 [some (.ref 73), some (.int a1)] [] (mm_H y6.2) Q
      refine e_iload_n hm_207 rfl rfl ?_
      by_cases hc7 : a1 = (0 : Int32)
      · rw [if_pos hc7] at hf
        refine e_if_f hm_207 rfl (cf_ne hc7) ?_
        refine e_aload_n hm_207 rfl rfl ?_
        obtain ⟨y8, hky8, hf⟩ := mm_bd hf
        refine e_virt hm_207 rfl rfl rfl rfl (Nat.le_of_ble_eq_true rfl) hm_210 rfl rfl (c_210 y6.2 hky8 ?_)
        show Ev Z _ 207 46 [some (.ref 73), some (.int a1)] [.int y8.1] (mm_H y8.2) Q
        by_cases hc9 : y8.1 = (0 : Int32)
        · rw [if_pos hc9] at hf
          refine e_if_t (t := 53) hm_207 rfl (ct_eq hc9) rfl ?_
          refine e_iconst hm_207 rfl kc_iconst_0 ?_
          refine e_goto (t := 89) hm_207 rfl rfl ?_
          obtain rfl := Option.some.inj hf
          exact e_iret hm_207 rfl rfl hq
        · rw [if_neg hc9] at hf
          refine e_if_f hm_207 rfl (cf_eq hc9) ?_
          refine e_iconst hm_207 rfl kc_iconst_1 ?_
          refine e_goto (t := 89) hm_207 rfl rfl ?_
          obtain rfl := Option.some.inj hf
          exact e_iret hm_207 rfl rfl hq
      · rw [if_neg hc7] at hf
        refine e_if_t (t := 57) hm_207 rfl (ct_ne hc7) rfl ?_
        refine e_iload_n hm_207 rfl rfl ?_
        refine e_iconst hm_207 rfl kc_iconst_1 ?_
        by_cases hc10 : a1 = (1 : Int32)
        · rw [if_pos hc10] at hf
          refine e_ic_f hm_207 rfl (cf_ne hc10) ?_
          refine e_aload_n hm_207 rfl rfl ?_
          obtain ⟨y11, hky11, hf⟩ := mm_bd hf
          refine e_virt hm_207 rfl rfl rfl rfl (Nat.le_of_ble_eq_true rfl) hm_215 rfl rfl (c_215 y6.2 hky11 ?_)
          show Ev Z _ 207 66 [some (.ref 73), some (.int a1)] [.int y11.1] (mm_H y11.2) Q
          refine e_goto (t := 89) hm_207 rfl rfl ?_
          obtain rfl := Option.some.inj hf
          exact e_iret hm_207 rfl rfl hq
        · rw [if_neg hc10] at hf
          refine e_ic_t (t := 69) hm_207 rfl (ct_ne hc10) rfl ?_
          refine e_iload_n hm_207 rfl rfl ?_
          refine e_iconst hm_207 rfl kc_iconst_2 ?_
          by_cases hc12 : a1 = (2 : Int32)
          · rw [if_pos hc12] at hf
            refine e_ic_f hm_207 rfl (cf_ne hc12) ?_
            refine e_aload_n hm_207 rfl rfl ?_
            obtain ⟨y13, hky13, hf⟩ := mm_bd hf
            refine e_virt hm_207 rfl rfl rfl rfl (Nat.le_of_ble_eq_true rfl) hm_211 rfl rfl (c_211 y6.2 hky13 ?_)
            show Ev Z _ 207 78 [some (.ref 73), some (.int a1)] [.int y13.1] (mm_H y13.2) Q
            refine e_goto (t := 89) hm_207 rfl rfl ?_
            obtain rfl := Option.some.inj hf
            exact e_iret hm_207 rfl rfl hq
          · rw [if_neg hc12] at hf
            refine e_ic_t (t := 81) hm_207 rfl (ct_ne hc12) rfl ?_
            refine e_aload_n hm_207 rfl rfl ?_
            refine e_iload_n hm_207 rfl rfl ?_
            refine e_bipush hm_207 rfl kc_bipush_10 ?_
            refine e_isub hm_207 rfl ?_
            obtain ⟨y14, hky14, hf⟩ := mm_bd hf
            refine e_virt hm_207 rfl rfl rfl rfl (Nat.le_of_ble_eq_true rfl) hm_213 rfl rfl (c_213 (a1 - (10 : Int32)) y6.2 hky14 ?_)
            show Ev Z _ 207 89 [some (.ref 73), some (.int a1)] [.int y14.1] (mm_H y14.2) Q
            obtain rfl := Option.some.inj hf
            exact e_iret hm_207 rfl rfl hq
  · rw [if_neg hc2] at hf
    refine e_if_t (t := 30) hm_207 rfl (ct_ne hc2) rfl ?_
    refine e_aload_n hm_207 rfl rfl ?_
    obtain ⟨y15, hky15, hf⟩ := mm_bd hf
    refine e_virt hm_207 rfl rfl rfl rfl (Nat.le_of_ble_eq_true rfl) hm_208 rfl rfl (c_208 y1.2 hky15 ?_)
    show Ev Z _ 207 34 [some (.ref 73), some (.int a1)] [] (mm_H y15.2) Q
    refine e_aload_n hm_207 rfl rfl ?_
    obtain ⟨y16, hky16, hf⟩ := mm_bd hf
    refine e_virt hm_207 rfl rfl rfl rfl (Nat.le_of_ble_eq_true rfl) hm_209 rfl rfl (c_209 y15.2 hky16 ?_)
    show Ev Z _ 207 38 [some (.ref 73), some (.int a1)] [] (mm_H y16.2) Q
    refine e_iload_n hm_207 rfl rfl ?_
    by_cases hc17 : a1 = (0 : Int32)
    · rw [if_pos hc17] at hf
      refine e_if_f hm_207 rfl (cf_ne hc17) ?_
      refine e_aload_n hm_207 rfl rfl ?_
      obtain ⟨y18, hky18, hf⟩ := mm_bd hf
      refine e_virt hm_207 rfl rfl rfl rfl (Nat.le_of_ble_eq_true rfl) hm_210 rfl rfl (c_210 y16.2 hky18 ?_)
      show Ev Z _ 207 46 [some (.ref 73), some (.int a1)] [.int y18.1] (mm_H y18.2) Q
      by_cases hc19 : y18.1 = (0 : Int32)
      · rw [if_pos hc19] at hf
        refine e_if_t (t := 53) hm_207 rfl (ct_eq hc19) rfl ?_
        refine e_iconst hm_207 rfl kc_iconst_0 ?_
        refine e_goto (t := 89) hm_207 rfl rfl ?_
        obtain rfl := Option.some.inj hf
        exact e_iret hm_207 rfl rfl hq
      · rw [if_neg hc19] at hf
        refine e_if_f hm_207 rfl (cf_eq hc19) ?_
        refine e_iconst hm_207 rfl kc_iconst_1 ?_
        refine e_goto (t := 89) hm_207 rfl rfl ?_
        obtain rfl := Option.some.inj hf
        exact e_iret hm_207 rfl rfl hq
    · rw [if_neg hc17] at hf
      refine e_if_t (t := 57) hm_207 rfl (ct_ne hc17) rfl ?_
      refine e_iload_n hm_207 rfl rfl ?_
      refine e_iconst hm_207 rfl kc_iconst_1 ?_
      by_cases hc20 : a1 = (1 : Int32)
      · rw [if_pos hc20] at hf
        refine e_ic_f hm_207 rfl (cf_ne hc20) ?_
        refine e_aload_n hm_207 rfl rfl ?_
        obtain ⟨y21, hky21, hf⟩ := mm_bd hf
        refine e_virt hm_207 rfl rfl rfl rfl (Nat.le_of_ble_eq_true rfl) hm_215 rfl rfl (c_215 y16.2 hky21 ?_)
        show Ev Z _ 207 66 [some (.ref 73), some (.int a1)] [.int y21.1] (mm_H y21.2) Q
        refine e_goto (t := 89) hm_207 rfl rfl ?_
        obtain rfl := Option.some.inj hf
        exact e_iret hm_207 rfl rfl hq
      · rw [if_neg hc20] at hf
        refine e_ic_t (t := 69) hm_207 rfl (ct_ne hc20) rfl ?_
        refine e_iload_n hm_207 rfl rfl ?_
        refine e_iconst hm_207 rfl kc_iconst_2 ?_
        by_cases hc22 : a1 = (2 : Int32)
        · rw [if_pos hc22] at hf
          refine e_ic_f hm_207 rfl (cf_ne hc22) ?_
          refine e_aload_n hm_207 rfl rfl ?_
          obtain ⟨y23, hky23, hf⟩ := mm_bd hf
          refine e_virt hm_207 rfl rfl rfl rfl (Nat.le_of_ble_eq_true rfl) hm_211 rfl rfl (c_211 y16.2 hky23 ?_)
          show Ev Z _ 207 78 [some (.ref 73), some (.int a1)] [.int y23.1] (mm_H y23.2) Q
          refine e_goto (t := 89) hm_207 rfl rfl ?_
          obtain rfl := Option.some.inj hf
          exact e_iret hm_207 rfl rfl hq
        · rw [if_neg hc22] at hf
          refine e_ic_t (t := 81) hm_207 rfl (ct_ne hc22) rfl ?_
          refine e_aload_n hm_207 rfl rfl ?_
          refine e_iload_n hm_207 rfl rfl ?_
          refine e_bipush hm_207 rfl kc_bipush_10 ?_
          refine e_isub hm_207 rfl ?_
          obtain ⟨y24, hky24, hf⟩ := mm_bd hf
          refine e_virt hm_207 rfl rfl rfl rfl (Nat.le_of_ble_eq_true rfl) hm_213 rfl rfl (c_213 (a1 - (10 : Int32)) y16.2 hky24 ?_)
          show Ev Z _ 207 89 [some (.ref 73), some (.int a1)] [.int y24.1] (mm_H y24.2) Q
          obtain rfl := Option.some.inj hf
          exact e_iret hm_207 rfl rfl hq
def md_year_l19 : Nat → Int32 → Int32 → mm_M → Option (((Int32) × mm_M))
  | 0, _, _, _ => none
  | n + 1, x1, x2, M =>
    if x2 < (M.1 73 11) then
      if ak_inb (((5 : Int32) * x2) + (3 : Int32)) 20 = true then
      (md_earnsOf x2 M).bind fun y3 =>
      (md_within ((M.1 79 (((5 : Int32) * x2) + (3 : Int32)).toNatClampNeg) + y3.1) (0 : Int32) (999 : Int32) y3.2).bind fun y4 =>
      if ak_inb (((5 : Int32) * x2) + (3 : Int32)) 20 = true then
      if ak_inb (((5 : Int32) * x2) + (3 : Int32)) 20 = true then
      md_year_l19 n (x1 + ((ak_up y4.2.1 79 ((((5 : Int32) * x2) + (3 : Int32)).toNatClampNeg) y4.1) 79 (((5 : Int32) * x2) + (3 : Int32)).toNatClampNeg)) (x2 + (1 : Int32)) (ak_up y4.2.1 79 ((((5 : Int32) * x2) + (3 : Int32)).toNatClampNeg) y4.1, y4.2.2) else none else none else none
    else
      some (x1, M)
set_option maxRecDepth 20000 in
set_option maxHeartbeats 4000000 in
theorem lc_216_19 {Z : ak_Z} {d : Nat} : ∀ (n : Nat) (x1 : Int32) (x2 : Int32) (M : mm_M) {y : ((Int32) × mm_M)} (Q : Option Value → ak_H → Prop), md_year_l19 n x1 x2 M = some y → (Ev Z (d + 70) 216 79 [some (.ref 73), some (.int y.1), none] [] (mm_H y.2) Q) → Ev Z (d + 70) 216 19 [some (.ref 73), some (.int x1), some (.int x2)] [] (mm_H M) Q := by
  intro n
  induction n with
  | zero => intro x1 x2 M y Q hf; cases hf
  | succ n ih =>
    intro x1 x2 M y Q hf hq
    rw [md_year_l19] at hf
    refine e_iload_n hm_216 rfl rfl ?_
    refine e_aload_n hm_216 rfl rfl ?_
    refine e_getI hm_216 rfl rfl rfl ?_
    by_cases hc1 : x2 < (M.1 73 11)
    · rw [if_pos hc1] at hf
      refine e_ic_f hm_216 rfl (cf_ge hc1) ?_
      refine e_aload_n hm_216 rfl rfl ?_
      refine e_getR hm_216 rfl rfl rfl rfl ?_
      refine e_iconst hm_216 rfl kc_iconst_5 ?_
      refine e_iload_n hm_216 rfl rfl ?_
      refine e_imul hm_216 rfl ?_
      refine e_iconst hm_216 rfl kc_iconst_3 ?_
      refine e_iadd hm_216 rfl ?_
      refine e_aload_n hm_216 rfl rfl ?_
      refine e_getR hm_216 rfl rfl rfl rfl ?_
      refine e_iconst hm_216 rfl kc_iconst_5 ?_
      refine e_iload_n hm_216 rfl rfl ?_
      refine e_imul hm_216 rfl ?_
      refine e_iconst hm_216 rfl kc_iconst_3 ?_
      refine e_iadd hm_216 rfl ?_
      obtain ⟨hi2, hf⟩ := mm_ite hf
      refine e_iald hm_216 rfl rfl hi2 ?_
      refine e_aload_n hm_216 rfl rfl ?_
      refine e_iload_n hm_216 rfl rfl ?_
      obtain ⟨y3, hky3, hf⟩ := mm_bd hf
      refine e_virt hm_216 rfl rfl rfl rfl (Nat.le_of_ble_eq_true rfl) hm_196 rfl rfl (c_196 x2 M hky3 ?_)
      show Ev Z _ 216 51 [some (.ref 73), some (.int x1), some (.int x2)] [.int y3.1, .int (M.1 79 (((5 : Int32) * x2) + (3 : Int32)).toNatClampNeg), .int (((5 : Int32) * x2) + (3 : Int32)), .ref 79] (mm_H y3.2) Q
      refine e_iadd hm_216 rfl ?_
      refine e_iconst hm_216 rfl kc_iconst_0 ?_
      refine e_sipush hm_216 rfl kc_sipush_999 ?_
      obtain ⟨y4, hky4, hf⟩ := mm_bd hf
      refine e_stat hm_216 rfl (by decide) rfl rfl (Nat.le_of_ble_eq_true rfl) hm_192 rfl rfl (c_192 ((M.1 79 (((5 : Int32) * x2) + (3 : Int32)).toNatClampNeg) + y3.1) (0 : Int32) (999 : Int32) y3.2 hky4 ?_)
      show Ev Z _ 216 59 [some (.ref 73), some (.int x1), some (.int x2)] [.int y4.1, .int (((5 : Int32) * x2) + (3 : Int32)), .ref 79] (mm_H y4.2) Q
      obtain ⟨hi5, hf⟩ := mm_ite hf
      refine e_iast hm_216 rfl rfl hi5 ?_
      refine e_iload_n hm_216 rfl rfl ?_
      refine e_aload_n hm_216 rfl rfl ?_
      refine e_getR hm_216 rfl rfl rfl rfl ?_
      refine e_iconst hm_216 rfl kc_iconst_5 ?_
      refine e_iload_n hm_216 rfl rfl ?_
      refine e_imul hm_216 rfl ?_
      refine e_iconst hm_216 rfl kc_iconst_3 ?_
      refine e_iadd hm_216 rfl ?_
      obtain ⟨hi6, hf⟩ := mm_ite hf
      refine e_iald hm_216 rfl rfl hi6 ?_
      refine e_iadd hm_216 rfl ?_
      refine e_istore_n (L2 := [some (.ref 73), some (.int (x1 + ((ak_up y4.2.1 79 ((((5 : Int32) * x2) + (3 : Int32)).toNatClampNeg) y4.1) 79 (((5 : Int32) * x2) + (3 : Int32)).toNatClampNeg))), some (.int x2)]) hm_216 rfl rfl ?_
      refine e_iinc (L2 := [some (.ref 73), some (.int (x1 + ((ak_up y4.2.1 79 ((((5 : Int32) * x2) + (3 : Int32)).toNatClampNeg) y4.1) 79 (((5 : Int32) * x2) + (3 : Int32)).toNatClampNeg))), some (.int (x2 + (1 : Int32)))]) hm_216 rfl kc_iinc_1 rfl rfl ?_
      refine e_goto (t := 19) hm_216 rfl rfl ?_
      exact e_forget (L' := [some (.ref 73), some (.int (x1 + ((ak_up y4.2.1 79 ((((5 : Int32) * x2) + (3 : Int32)).toNatClampNeg) y4.1) 79 (((5 : Int32) * x2) + (3 : Int32)).toNatClampNeg))), some (.int (x2 + (1 : Int32)))]) (lf_k (lf_k (lf_k lf_0))) (ih (x1 + ((ak_up y4.2.1 79 ((((5 : Int32) * x2) + (3 : Int32)).toNatClampNeg) y4.1) 79 (((5 : Int32) * x2) + (3 : Int32)).toNatClampNeg)) (x2 + (1 : Int32)) (ak_up y4.2.1 79 ((((5 : Int32) * x2) + (3 : Int32)).toNatClampNeg) y4.1, y4.2.2) Q hf hq)
    · rw [if_neg hc1] at hf
      refine e_ic_t (t := 79) hm_216 rfl (ct_ge hc1) rfl ?_
      obtain rfl := Option.some.inj hf
      exact e_forget (L' := [some (.ref 73), some (.int x1), none]) (lf_k (lf_k (lf_d lf_0))) hq
def md_year_l81 : Nat → Int32 → Int32 → mm_M → Option (((Unit) × mm_M))
  | 0, _, _, _ => none
  | n + 1, x1, x2, M =>
    if x2 < (M.1 73 11) then
      if ak_inb (((5 : Int32) * x2) + (4 : Int32)) 20 = true then
      md_year_l81 n x1 (x2 + (1 : Int32)) (ak_up M.1 79 ((((5 : Int32) * x2) + (4 : Int32)).toNatClampNeg) (-1 : Int32), M.2) else none
    else
      some ((), M)
set_option maxRecDepth 20000 in
set_option maxHeartbeats 4000000 in
theorem lc_216_81 {Z : ak_Z} {d : Nat} : ∀ (n : Nat) (x1 : Int32) (x2 : Int32) (M : mm_M) {y : ((Unit) × mm_M)} (Q : Option Value → ak_H → Prop), md_year_l81 n x1 x2 M = some y → (Ev Z (d + 70) 216 106 [some (.ref 73), some (.int x1), none] [] (mm_H y.2) Q) → Ev Z (d + 70) 216 81 [some (.ref 73), some (.int x1), some (.int x2)] [] (mm_H M) Q := by
  intro n
  induction n with
  | zero => intro x1 x2 M y Q hf; cases hf
  | succ n ih =>
    intro x1 x2 M y Q hf hq
    rw [md_year_l81] at hf
    refine e_iload_n hm_216 rfl rfl ?_
    refine e_aload_n hm_216 rfl rfl ?_
    refine e_getI hm_216 rfl rfl rfl ?_
    by_cases hc1 : x2 < (M.1 73 11)
    · rw [if_pos hc1] at hf
      refine e_ic_f hm_216 rfl (cf_ge hc1) ?_
      refine e_aload_n hm_216 rfl rfl ?_
      refine e_getR hm_216 rfl rfl rfl rfl ?_
      refine e_iconst hm_216 rfl kc_iconst_5 ?_
      refine e_iload_n hm_216 rfl rfl ?_
      refine e_imul hm_216 rfl ?_
      refine e_iconst hm_216 rfl kc_iconst_4 ?_
      refine e_iadd hm_216 rfl ?_
      refine e_iconst hm_216 rfl kc_iconst_m1 ?_
      obtain ⟨hi2, hf⟩ := mm_ite hf
      refine e_iast hm_216 rfl rfl hi2 ?_
      refine e_iinc (L2 := [some (.ref 73), some (.int x1), some (.int (x2 + (1 : Int32)))]) hm_216 rfl kc_iinc_1 rfl rfl ?_
      refine e_goto (t := 81) hm_216 rfl rfl ?_
      exact e_forget (L' := [some (.ref 73), some (.int x1), some (.int (x2 + (1 : Int32)))]) (lf_k (lf_k (lf_k lf_0))) (ih x1 (x2 + (1 : Int32)) (ak_up M.1 79 ((((5 : Int32) * x2) + (4 : Int32)).toNatClampNeg) (-1 : Int32), M.2) Q hf hq)
    · rw [if_neg hc1] at hf
      refine e_ic_t (t := 106) hm_216 rfl (ct_ge hc1) rfl ?_
      obtain rfl := Option.some.inj hf
      exact e_forget (L' := [some (.ref 73), some (.int x1), none]) (lf_k (lf_k (lf_d lf_0))) hq
def md_year (M : mm_M) : Option (Int32 × mm_M) :=
  if ak_inb (0 : Int32) 3 = true then
  if (M.1 77 (0 : Int32).toNatClampNeg) = (999 : Int32) then
    some ((-3 : Int32), M)
  else
    (md_year_l19 300 (0 : Int32) (0 : Int32) M).bind fun y3 =>
    (md_year_l81 300 y3.1 (0 : Int32) y3.2).bind fun y4 =>
    if ak_inb (0 : Int32) 3 = true then
    if ak_inb (0 : Int32) 3 = true then
    some (y3.1, (ak_up y4.2.1 77 ((0 : Int32).toNatClampNeg) ((y4.2.1 77 (0 : Int32).toNatClampNeg) + (1 : Int32)), y4.2.2)) else none else none else none
set_option maxRecDepth 20000 in
set_option maxHeartbeats 4000000 in
theorem c_216 {Z : ak_Z} {d : Nat} (M : mm_M) {y : Int32 × mm_M} (hf : md_year M = some y) {Q : Option Value → ak_H → Prop} (hq : Q (some (.int y.1)) (mm_H y.2)) : Ev Z (d + 70) 216 0 [some (.ref 73), none, none] [] (mm_H M) Q := by
  rw [md_year] at hf
  refine e_aload_n hm_216 rfl rfl ?_
  refine e_getR hm_216 rfl rfl rfl rfl ?_
  refine e_iconst hm_216 rfl kc_iconst_0 ?_
  obtain ⟨hi1, hf⟩ := mm_ite hf
  refine e_iald hm_216 rfl rfl hi1 ?_
  refine e_sipush hm_216 rfl kc_sipush_999 ?_
  by_cases hc2 : (M.1 77 (0 : Int32).toNatClampNeg) = (999 : Int32)
  · rw [if_pos hc2] at hf
    refine e_ic_f hm_216 rfl (cf_ne hc2) ?_
    refine e_bipush hm_216 rfl kc_bipush_m3 ?_
    obtain rfl := Option.some.inj hf
    exact e_iret hm_216 rfl rfl hq
  · rw [if_neg hc2] at hf
    refine e_ic_t (t := 15) hm_216 rfl (ct_ne hc2) rfl ?_
    refine e_iconst hm_216 rfl kc_iconst_0 ?_
    refine e_istore_n (L2 := [some (.ref 73), some (.int (0 : Int32)), none]) hm_216 rfl rfl ?_
    refine e_iconst hm_216 rfl kc_iconst_0 ?_
    refine e_istore_n (L2 := [some (.ref 73), some (.int (0 : Int32)), some (.int (0 : Int32))]) hm_216 rfl rfl ?_
    obtain ⟨y3, hky3, hf⟩ := mm_bd hf
    refine e_forget (L' := [some (.ref 73), some (.int (0 : Int32)), some (.int (0 : Int32))]) (lf_k (lf_k (lf_k lf_0))) (lc_216_19 (d := _) 300 (0 : Int32) (0 : Int32) M Q hky3 ?_)
    show Ev Z _ 216 79 [some (.ref 73), some (.int y3.1), none] [] (mm_H y3.2) Q
    refine e_iconst hm_216 rfl kc_iconst_0 ?_
    refine e_istore_n (L2 := [some (.ref 73), some (.int y3.1), some (.int (0 : Int32))]) hm_216 rfl rfl ?_
    obtain ⟨y4, hky4, hf⟩ := mm_bd hf
    refine e_forget (L' := [some (.ref 73), some (.int y3.1), some (.int (0 : Int32))]) (lf_k (lf_k (lf_k lf_0))) (lc_216_81 (d := _) 300 y3.1 (0 : Int32) y3.2 Q hky4 ?_)
    show Ev Z _ 216 106 [some (.ref 73), some (.int y3.1), none] [] (mm_H y4.2) Q
    refine e_aload_n hm_216 rfl rfl ?_
    refine e_getR hm_216 rfl rfl rfl rfl ?_
    refine e_iconst hm_216 rfl kc_iconst_0 ?_
    refine e_dup2 hm_216 rfl ?_
    obtain ⟨hi5, hf⟩ := mm_ite hf
    refine e_iald hm_216 rfl rfl hi5 ?_
    refine e_iconst hm_216 rfl kc_iconst_1 ?_
    refine e_iadd hm_216 rfl ?_
    obtain ⟨hi6, hf⟩ := mm_ite hf
    refine e_iast hm_216 rfl rfl hi6 ?_
    refine e_iload_n hm_216 rfl rfl ?_
    obtain rfl := Option.some.inj hf
    exact e_iret hm_216 rfl rfl hq
def md_leastOf_l25 : Nat → Int32 → Int32 → mm_M → Option (((Int32) × mm_M))
  | 0, _, _, _ => none
  | n + 1, x1, x2, M =>
    if x2 < (M.1 73 11) then
      if ak_inb x2 4 = true then
      if ak_inb (((9 : Int32) * x2) + (M.1 84 x2.toNatClampNeg)) 36 = true then
      if (M.1 82 (((9 : Int32) * x2) + (M.1 84 x2.toNatClampNeg)).toNatClampNeg) < x1 then
        if ak_inb x2 4 = true then
        if ak_inb (((9 : Int32) * x2) + (M.1 84 x2.toNatClampNeg)) 36 = true then
        md_leastOf_l25 n (M.1 82 (((9 : Int32) * x2) + (M.1 84 x2.toNatClampNeg)).toNatClampNeg) (x2 + (1 : Int32)) M else none else none
      else
        md_leastOf_l25 n x1 (x2 + (1 : Int32)) M else none else none
    else
      some (x1, M)
set_option maxRecDepth 20000 in
set_option maxHeartbeats 4000000 in
theorem lc_219_25 {Z : ak_Z} {d : Nat} : ∀ (n : Nat) (x1 : Int32) (x2 : Int32) (M : mm_M) {y : ((Int32) × mm_M)} (Q : Option Value → ak_H → Prop), md_leastOf_l25 n x1 x2 M = some y → (Ev Z (d + 0) 219 80 [none, some (.int y.1), none] [] (mm_H y.2) Q) → Ev Z (d + 0) 219 25 [some (.ref 73), some (.int x1), some (.int x2)] [] (mm_H M) Q := by
  intro n
  induction n with
  | zero => intro x1 x2 M y Q hf; cases hf
  | succ n ih =>
    intro x1 x2 M y Q hf hq
    rw [md_leastOf_l25] at hf
    refine e_iload_n hm_219 rfl rfl ?_
    refine e_aload_n hm_219 rfl rfl ?_
    refine e_getI hm_219 rfl rfl rfl ?_
    by_cases hc1 : x2 < (M.1 73 11)
    · rw [if_pos hc1] at hf
      refine e_ic_f hm_219 rfl (cf_ge hc1) ?_
      refine e_aload_n hm_219 rfl rfl ?_
      refine e_getR hm_219 rfl rfl rfl rfl ?_
      refine e_bipush hm_219 rfl kc_bipush_9 ?_
      refine e_iload_n hm_219 rfl rfl ?_
      refine e_imul hm_219 rfl ?_
      refine e_aload_n hm_219 rfl rfl ?_
      refine e_getR hm_219 rfl rfl rfl rfl ?_
      refine e_iload_n hm_219 rfl rfl ?_
      obtain ⟨hi2, hf⟩ := mm_ite hf
      refine e_iald hm_219 rfl rfl hi2 ?_
      refine e_iadd hm_219 rfl ?_
      obtain ⟨hi3, hf⟩ := mm_ite hf
      refine e_iald hm_219 rfl rfl hi3 ?_
      refine e_iload_n hm_219 rfl rfl ?_
      by_cases hc4 : (M.1 82 (((9 : Int32) * x2) + (M.1 84 x2.toNatClampNeg)).toNatClampNeg) < x1
      · rw [if_pos hc4] at hf
        refine e_ic_f hm_219 rfl (cf_ge hc4) ?_
        refine e_aload_n hm_219 rfl rfl ?_
        refine e_getR hm_219 rfl rfl rfl rfl ?_
        refine e_bipush hm_219 rfl kc_bipush_9 ?_
        refine e_iload_n hm_219 rfl rfl ?_
        refine e_imul hm_219 rfl ?_
        refine e_aload_n hm_219 rfl rfl ?_
        refine e_getR hm_219 rfl rfl rfl rfl ?_
        refine e_iload_n hm_219 rfl rfl ?_
        obtain ⟨hi5, hf⟩ := mm_ite hf
        refine e_iald hm_219 rfl rfl hi5 ?_
        refine e_iadd hm_219 rfl ?_
        obtain ⟨hi6, hf⟩ := mm_ite hf
        refine e_iald hm_219 rfl rfl hi6 ?_
        refine e_goto (t := 73) hm_219 rfl rfl ?_
        refine e_istore_n (L2 := [some (.ref 73), some (.int (M.1 82 (((9 : Int32) * x2) + (M.1 84 x2.toNatClampNeg)).toNatClampNeg)), some (.int x2)]) hm_219 rfl rfl ?_
        refine e_iinc (L2 := [some (.ref 73), some (.int (M.1 82 (((9 : Int32) * x2) + (M.1 84 x2.toNatClampNeg)).toNatClampNeg)), some (.int (x2 + (1 : Int32)))]) hm_219 rfl kc_iinc_1 rfl rfl ?_
        refine e_goto (t := 25) hm_219 rfl rfl ?_
        exact e_forget (L' := [some (.ref 73), some (.int (M.1 82 (((9 : Int32) * x2) + (M.1 84 x2.toNatClampNeg)).toNatClampNeg)), some (.int (x2 + (1 : Int32)))]) (lf_k (lf_k (lf_k lf_0))) (ih (M.1 82 (((9 : Int32) * x2) + (M.1 84 x2.toNatClampNeg)).toNatClampNeg) (x2 + (1 : Int32)) M Q hf hq)
      · rw [if_neg hc4] at hf
        refine e_ic_t (t := 72) hm_219 rfl (ct_ge hc4) rfl ?_
        refine e_iload_n hm_219 rfl rfl ?_
        refine e_istore_n (L2 := [some (.ref 73), some (.int x1), some (.int x2)]) hm_219 rfl rfl ?_
        refine e_iinc (L2 := [some (.ref 73), some (.int x1), some (.int (x2 + (1 : Int32)))]) hm_219 rfl kc_iinc_1 rfl rfl ?_
        refine e_goto (t := 25) hm_219 rfl rfl ?_
        exact e_forget (L' := [some (.ref 73), some (.int x1), some (.int (x2 + (1 : Int32)))]) (lf_k (lf_k (lf_k lf_0))) (ih x1 (x2 + (1 : Int32)) M Q hf hq)
    · rw [if_neg hc1] at hf
      refine e_ic_t (t := 80) hm_219 rfl (ct_ge hc1) rfl ?_
      obtain rfl := Option.some.inj hf
      exact e_forget (L' := [none, some (.int x1), none]) (lf_d (lf_k (lf_d lf_0))) hq
def md_leastOf (M : mm_M) : Option (Int32 × mm_M) :=
  if (M.1 73 11) = (0 : Int32) then
    (md_leastOf_l25 300 (0 : Int32) (1 : Int32) M).bind fun y2 =>
    some (y2.1, y2.2)
  else
    if ak_inb (0 : Int32) 4 = true then
    if ak_inb (M.1 84 (0 : Int32).toNatClampNeg) 36 = true then
    (md_leastOf_l25 300 (M.1 82 (M.1 84 (0 : Int32).toNatClampNeg).toNatClampNeg) (1 : Int32) M).bind fun y5 =>
    some (y5.1, y5.2) else none else none
set_option maxRecDepth 20000 in
set_option maxHeartbeats 4000000 in
theorem c_219 {Z : ak_Z} {d : Nat} (M : mm_M) {y : Int32 × mm_M} (hf : md_leastOf M = some y) {Q : Option Value → ak_H → Prop} (hq : Q (some (.int y.1)) (mm_H y.2)) : Ev Z (d + 0) 219 0 [some (.ref 73), none, none] [] (mm_H M) Q := by
  rw [md_leastOf] at hf
  refine e_aload_n hm_219 rfl rfl ?_
  refine e_getI hm_219 rfl rfl rfl ?_
  by_cases hc1 : (M.1 73 11) = (0 : Int32)
  · rw [if_pos hc1] at hf
    refine e_if_f hm_219 rfl (cf_ne hc1) ?_
    refine e_iconst hm_219 rfl kc_iconst_0 ?_
    refine e_goto (t := 22) hm_219 rfl rfl ?_
    refine e_istore_n (L2 := [some (.ref 73), some (.int (0 : Int32)), none]) hm_219 rfl rfl ?_
    refine e_iconst hm_219 rfl kc_iconst_1 ?_
    refine e_istore_n (L2 := [some (.ref 73), some (.int (0 : Int32)), some (.int (1 : Int32))]) hm_219 rfl rfl ?_
    obtain ⟨y2, hky2, hf⟩ := mm_bd hf
    refine e_forget (L' := [some (.ref 73), some (.int (0 : Int32)), some (.int (1 : Int32))]) (lf_k (lf_k (lf_k lf_0))) (lc_219_25 (d := _) 300 (0 : Int32) (1 : Int32) M Q hky2 ?_)
    show Ev Z _ 219 80 [none, some (.int y2.1), none] [] (mm_H y2.2) Q
    refine e_iload_n hm_219 rfl rfl ?_
    obtain rfl := Option.some.inj hf
    exact e_iret hm_219 rfl rfl hq
  · rw [if_neg hc1] at hf
    refine e_if_t (t := 11) hm_219 rfl (ct_ne hc1) rfl ?_
    refine e_aload_n hm_219 rfl rfl ?_
    refine e_getR hm_219 rfl rfl rfl rfl ?_
    refine e_aload_n hm_219 rfl rfl ?_
    refine e_getR hm_219 rfl rfl rfl rfl ?_
    refine e_iconst hm_219 rfl kc_iconst_0 ?_
    obtain ⟨hi3, hf⟩ := mm_ite hf
    refine e_iald hm_219 rfl rfl hi3 ?_
    obtain ⟨hi4, hf⟩ := mm_ite hf
    refine e_iald hm_219 rfl rfl hi4 ?_
    refine e_istore_n (L2 := [some (.ref 73), some (.int (M.1 82 (M.1 84 (0 : Int32).toNatClampNeg).toNatClampNeg)), none]) hm_219 rfl rfl ?_
    refine e_iconst hm_219 rfl kc_iconst_1 ?_
    refine e_istore_n (L2 := [some (.ref 73), some (.int (M.1 82 (M.1 84 (0 : Int32).toNatClampNeg).toNatClampNeg)), some (.int (1 : Int32))]) hm_219 rfl rfl ?_
    obtain ⟨y5, hky5, hf⟩ := mm_bd hf
    refine e_forget (L' := [some (.ref 73), some (.int (M.1 82 (M.1 84 (0 : Int32).toNatClampNeg).toNatClampNeg)), some (.int (1 : Int32))]) (lf_k (lf_k (lf_k lf_0))) (lc_219_25 (d := _) 300 (M.1 82 (M.1 84 (0 : Int32).toNatClampNeg).toNatClampNeg) (1 : Int32) M Q hky5 ?_)
    show Ev Z _ 219 80 [none, some (.int y5.1), none] [] (mm_H y5.2) Q
    refine e_iload_n hm_219 rfl rfl ?_
    obtain rfl := Option.some.inj hf
    exact e_iret hm_219 rfl rfl hq
def md_digits_l4 : Nat → Int32 → Int32 → mm_M → Option (((Int32) × mm_M))
  | 0, _, _, _ => none
  | n + 1, x1, x2, M =>
    if x2 < (M.1 73 11) then
      if ak_inb x2 4 = true then
      md_digits_l4 n (((10 : Int32) * x1) + (M.1 84 x2.toNatClampNeg)) (x2 + (1 : Int32)) M else none
    else
      some (x1, M)
set_option maxRecDepth 20000 in
set_option maxHeartbeats 4000000 in
theorem lc_220_4 {Z : ak_Z} {d : Nat} : ∀ (n : Nat) (x1 : Int32) (x2 : Int32) (M : mm_M) {y : ((Int32) × mm_M)} (Q : Option Value → ak_H → Prop), md_digits_l4 n x1 x2 M = some y → (Ev Z (d + 0) 220 30 [none, some (.int y.1), none] [] (mm_H y.2) Q) → Ev Z (d + 0) 220 4 [some (.ref 73), some (.int x1), some (.int x2)] [] (mm_H M) Q := by
  intro n
  induction n with
  | zero => intro x1 x2 M y Q hf; cases hf
  | succ n ih =>
    intro x1 x2 M y Q hf hq
    rw [md_digits_l4] at hf
    refine e_iload_n hm_220 rfl rfl ?_
    refine e_aload_n hm_220 rfl rfl ?_
    refine e_getI hm_220 rfl rfl rfl ?_
    by_cases hc1 : x2 < (M.1 73 11)
    · rw [if_pos hc1] at hf
      refine e_ic_f hm_220 rfl (cf_ge hc1) ?_
      refine e_bipush hm_220 rfl kc_bipush_10 ?_
      refine e_iload_n hm_220 rfl rfl ?_
      refine e_imul hm_220 rfl ?_
      refine e_aload_n hm_220 rfl rfl ?_
      refine e_getR hm_220 rfl rfl rfl rfl ?_
      refine e_iload_n hm_220 rfl rfl ?_
      obtain ⟨hi2, hf⟩ := mm_ite hf
      refine e_iald hm_220 rfl rfl hi2 ?_
      refine e_iadd hm_220 rfl ?_
      refine e_istore_n (L2 := [some (.ref 73), some (.int (((10 : Int32) * x1) + (M.1 84 x2.toNatClampNeg))), some (.int x2)]) hm_220 rfl rfl ?_
      refine e_iinc (L2 := [some (.ref 73), some (.int (((10 : Int32) * x1) + (M.1 84 x2.toNatClampNeg))), some (.int (x2 + (1 : Int32)))]) hm_220 rfl kc_iinc_1 rfl rfl ?_
      refine e_goto (t := 4) hm_220 rfl rfl ?_
      exact e_forget (L' := [some (.ref 73), some (.int (((10 : Int32) * x1) + (M.1 84 x2.toNatClampNeg))), some (.int (x2 + (1 : Int32)))]) (lf_k (lf_k (lf_k lf_0))) (ih (((10 : Int32) * x1) + (M.1 84 x2.toNatClampNeg)) (x2 + (1 : Int32)) M Q hf hq)
    · rw [if_neg hc1] at hf
      refine e_ic_t (t := 30) hm_220 rfl (ct_ge hc1) rfl ?_
      obtain rfl := Option.some.inj hf
      exact e_forget (L' := [none, some (.int x1), none]) (lf_d (lf_k (lf_d lf_0))) hq
def md_digits (M : mm_M) : Option (Int32 × mm_M) :=
  (md_digits_l4 300 (0 : Int32) (0 : Int32) M).bind fun y1 =>
  some (y1.1, y1.2)
set_option maxRecDepth 20000 in
set_option maxHeartbeats 4000000 in
theorem c_220 {Z : ak_Z} {d : Nat} (M : mm_M) {y : Int32 × mm_M} (hf : md_digits M = some y) {Q : Option Value → ak_H → Prop} (hq : Q (some (.int y.1)) (mm_H y.2)) : Ev Z (d + 0) 220 0 [some (.ref 73), none, none] [] (mm_H M) Q := by
  rw [md_digits] at hf
  refine e_iconst hm_220 rfl kc_iconst_0 ?_
  refine e_istore_n (L2 := [some (.ref 73), some (.int (0 : Int32)), none]) hm_220 rfl rfl ?_
  refine e_iconst hm_220 rfl kc_iconst_0 ?_
  refine e_istore_n (L2 := [some (.ref 73), some (.int (0 : Int32)), some (.int (0 : Int32))]) hm_220 rfl rfl ?_
  obtain ⟨y1, hky1, hf⟩ := mm_bd hf
  refine e_forget (L' := [some (.ref 73), some (.int (0 : Int32)), some (.int (0 : Int32))]) (lf_k (lf_k (lf_k lf_0))) (lc_220_4 (d := _) 300 (0 : Int32) (0 : Int32) M Q hky1 ?_)
  show Ev Z _ 220 30 [none, some (.int y1.1), none] [] (mm_H y1.2) Q
  refine e_iload_n hm_220 rfl rfl ?_
  obtain rfl := Option.some.inj hf
  exact e_iret hm_220 rfl rfl hq
def md_seeks_l67 (rc : Int32 → Int32 → mm_M → Option (Unit × mm_M)) : Nat → Int32 → Int32 → Int32 → mm_M → Option (((Unit) × mm_M))
  | 0, _, _, _, _ => none
  | n + 1, x1, x2, x3, M =>
    if (8 : Int32) < x3 then
      some ((), M)
    else
      if ak_inb (((9 : Int32) * x1) + x3) 36 = true then
      if (M.1 81 (((9 : Int32) * x1) + x3).toNatClampNeg) = (0 : Int32) then
        md_seeks_l67 rc n x1 x2 (x3 + (1 : Int32)) M
      else
        if ak_inb x1 4 = true then
        (rc (x1 + (1 : Int32)) x2 (ak_up M.1 84 x1.toNatClampNeg x3, M.2)).bind fun y5 =>
        md_seeks_l67 rc n x1 x2 (x3 + (1 : Int32)) y5.2 else none else none
set_option maxRecDepth 20000 in
set_option maxHeartbeats 4000000 in
theorem lc_218_67 {Z : ak_Z} {d : Nat} (rc : Int32 → Int32 → mm_M → Option (Unit × mm_M)) (hrc0 : ∀ (a1 : Int32) (a2 : Int32) (M : mm_M) (y : Unit × mm_M), rc a1 a2 M = some y → ∀ (Q : Option Value → ak_H → Prop), Q none (mm_H y.2) → Ev Z (d + 3) 218 0 [some (.ref 73), some (.int a1), some (.int a2), none] [] (mm_H M) Q) : ∀ (n : Nat) (x1 : Int32) (x2 : Int32) (x3 : Int32) (M : mm_M) {y : ((Unit) × mm_M)} (Q : Option Value → ak_H → Prop), md_seeks_l67 rc n x1 x2 x3 M = some y → (Ev Z (d + 4) 218 108 [none, none, none, none] [] (mm_H y.2) Q) → Ev Z (d + 4) 218 67 [some (.ref 73), some (.int x1), some (.int x2), some (.int x3)] [] (mm_H M) Q := by
  intro n
  induction n with
  | zero => intro x1 x2 x3 M y Q hf; cases hf
  | succ n ih =>
    intro x1 x2 x3 M y Q hf hq
    rw [md_seeks_l67] at hf
    refine e_iload_n hm_218 rfl rfl ?_
    refine e_bipush hm_218 rfl kc_bipush_8 ?_
    by_cases hc1 : (8 : Int32) < x3
    · rw [if_pos hc1] at hf
      refine e_ic_t (t := 108) hm_218 rfl (ct_gt hc1) rfl ?_
      obtain rfl := Option.some.inj hf
      exact e_forget (L' := [none, none, none, none]) (lf_d (lf_d (lf_d (lf_d lf_0)))) hq
    · rw [if_neg hc1] at hf
      refine e_ic_f hm_218 rfl (cf_gt hc1) ?_
      refine e_aload_n hm_218 rfl rfl ?_
      refine e_getR hm_218 rfl rfl rfl rfl ?_
      refine e_bipush hm_218 rfl kc_bipush_9 ?_
      refine e_iload_n hm_218 rfl rfl ?_
      refine e_imul hm_218 rfl ?_
      refine e_iload_n hm_218 rfl rfl ?_
      refine e_iadd hm_218 rfl ?_
      obtain ⟨hi2, hf⟩ := mm_ite hf
      refine e_zald hm_218 rfl rfl hi2 ?_
      by_cases hc3 : (M.1 81 (((9 : Int32) * x1) + x3).toNatClampNeg) = (0 : Int32)
      · rw [if_pos hc3] at hf
        refine e_if_t (t := 102) hm_218 rfl (ct_eq hc3) rfl ?_
        refine e_iinc (L2 := [some (.ref 73), some (.int x1), some (.int x2), some (.int (x3 + (1 : Int32)))]) hm_218 rfl kc_iinc_1 rfl rfl ?_
        refine e_goto (t := 67) hm_218 rfl rfl ?_
        exact e_forget (L' := [some (.ref 73), some (.int x1), some (.int x2), some (.int (x3 + (1 : Int32)))]) (lf_k (lf_k (lf_k (lf_k lf_0)))) (ih x1 x2 (x3 + (1 : Int32)) M Q hf hq)
      · rw [if_neg hc3] at hf
        refine e_if_f hm_218 rfl (cf_eq hc3) ?_
        refine e_aload_n hm_218 rfl rfl ?_
        refine e_getR hm_218 rfl rfl rfl rfl ?_
        refine e_iload_n hm_218 rfl rfl ?_
        refine e_iload_n hm_218 rfl rfl ?_
        obtain ⟨hi4, hf⟩ := mm_ite hf
        refine e_iast hm_218 rfl rfl hi4 ?_
        refine e_aload_n hm_218 rfl rfl ?_
        refine e_iload_n hm_218 rfl rfl ?_
        refine e_iconst hm_218 rfl kc_iconst_1 ?_
        refine e_iadd hm_218 rfl ?_
        refine e_iload_n hm_218 rfl rfl ?_
        obtain ⟨y5, hky5, hf⟩ := mm_bd hf
        refine e_virt hm_218 rfl rfl rfl rfl (Nat.le_of_ble_eq_true rfl) hm_218 rfl rfl (hrc0 _ _ _ _ hky5 _ ?_)
        show Ev Z _ 218 102 [some (.ref 73), some (.int x1), some (.int x2), some (.int x3)] [] (mm_H y5.2) Q
        refine e_iinc (L2 := [some (.ref 73), some (.int x1), some (.int x2), some (.int (x3 + (1 : Int32)))]) hm_218 rfl kc_iinc_1 rfl rfl ?_
        refine e_goto (t := 67) hm_218 rfl rfl ?_
        exact e_forget (L' := [some (.ref 73), some (.int x1), some (.int x2), some (.int (x3 + (1 : Int32)))]) (lf_k (lf_k (lf_k (lf_k lf_0)))) (ih x1 x2 (x3 + (1 : Int32)) y5.2 Q hf hq)
def md_seeks_b (rc : Int32 → Int32 → mm_M → Option (Unit × mm_M)) (a1 : Int32) (a2 : Int32) (M : mm_M) : Option (Unit × mm_M) :=
  if a1 = (M.1 73 11) then
    if a2 = (0 : Int32) then
      (md_allOf M).bind fun y3 =>
      (md_holds y3.2).bind fun y4 =>
      if y4.1 = (0 : Int32) then
        some ((), y4.2)
      else
        if (y4.2.1 73 31) = (0 : Int32) then
          (md_digits (ak_up y4.2.1 73 31 (1 : Int32), y4.2.2)).bind fun y7 =>
          some ((), (ak_up (ak_up y7.2.1 73 32 y7.1) 73 33 y3.1, y7.2.2))
        else
          if (y4.2.1 73 33) < y3.1 then
            (md_digits (ak_up y4.2.1 73 31 (1 : Int32), y4.2.2)).bind fun y9 =>
            some ((), (ak_up (ak_up y9.2.1 73 32 y9.1) 73 33 y3.1, y9.2.2))
          else
            some ((), y4.2)
    else
      (md_leastOf M).bind fun y10 =>
      (md_holds y10.2).bind fun y11 =>
      if y11.1 = (0 : Int32) then
        some ((), y11.2)
      else
        if (y11.2.1 73 31) = (0 : Int32) then
          (md_digits (ak_up y11.2.1 73 31 (1 : Int32), y11.2.2)).bind fun y14 =>
          some ((), (ak_up (ak_up y14.2.1 73 32 y14.1) 73 33 y10.1, y14.2.2))
        else
          if (y11.2.1 73 33) < y10.1 then
            (md_digits (ak_up y11.2.1 73 31 (1 : Int32), y11.2.2)).bind fun y16 =>
            some ((), (ak_up (ak_up y16.2.1 73 32 y16.1) 73 33 y10.1, y16.2.2))
          else
            some ((), y11.2)
  else
    (md_seeks_l67 rc 300 a1 a2 (0 : Int32) M).bind fun y17 =>
    some ((), y17.2)
set_option maxRecDepth 20000 in
set_option maxHeartbeats 4000000 in
theorem cb_218 {Z : ak_Z} {d : Nat} (rc : Int32 → Int32 → mm_M → Option (Unit × mm_M)) (hrc0 : ∀ (a1 : Int32) (a2 : Int32) (M : mm_M) (y : Unit × mm_M), rc a1 a2 M = some y → ∀ (Q : Option Value → ak_H → Prop), Q none (mm_H y.2) → Ev Z (d + 3) 218 0 [some (.ref 73), some (.int a1), some (.int a2), none] [] (mm_H M) Q) (a1 : Int32) (a2 : Int32) (M : mm_M) {y : Unit × mm_M} (hf : md_seeks_b rc a1 a2 M = some y) {Q : Option Value → ak_H → Prop} (hq : Q none (mm_H y.2)) : Ev Z (d + 4) 218 0 [some (.ref 73), some (.int a1), some (.int a2), none] [] (mm_H M) Q := by
  rw [md_seeks_b] at hf
  refine e_iload_n hm_218 rfl rfl ?_
  refine e_aload_n hm_218 rfl rfl ?_
  refine e_getI hm_218 rfl rfl rfl ?_
  by_cases hc1 : a1 = (M.1 73 11)
  · rw [if_pos hc1] at hf
    refine e_ic_f hm_218 rfl (cf_ne hc1) ?_
    refine e_iload_n hm_218 rfl rfl ?_
    by_cases hc2 : a2 = (0 : Int32)
    · rw [if_pos hc2] at hf
      refine e_if_t (t := 19) hm_218 rfl (ct_eq hc2) rfl ?_
      refine e_aload_n hm_218 rfl rfl ?_
      obtain ⟨y3, hky3, hf⟩ := mm_bd hf
      refine e_virt hm_218 rfl rfl rfl rfl (Nat.le_of_ble_eq_true rfl) hm_215 rfl rfl (c_215 M hky3 ?_)
      show Ev Z _ 218 23 [some (.ref 73), some (.int a1), some (.int a2), none] [.int y3.1] (mm_H y3.2) Q
      refine e_istore_n (L2 := [some (.ref 73), some (.int a1), some (.int a2), some (.int y3.1)]) hm_218 rfl rfl ?_
      refine e_aload_n hm_218 rfl rfl ?_
      obtain ⟨y4, hky4, hf⟩ := mm_bd hf
      refine e_virt hm_218 rfl rfl rfl rfl (Nat.le_of_ble_eq_true rfl) hm_210 rfl rfl (c_210 y3.2 hky4 ?_)
      show Ev Z _ 218 28 [some (.ref 73), some (.int a1), some (.int a2), some (.int y3.1)] [.int y4.1] (mm_H y4.2) Q
      by_cases hc5 : y4.1 = (0 : Int32)
      · rw [if_pos hc5] at hf
        refine e_if_t (t := 64) hm_218 rfl (ct_eq hc5) rfl ?_
        obtain rfl := Option.some.inj hf
        exact e_vret hm_218 rfl rfl hq
      · rw [if_neg hc5] at hf
        refine e_if_f hm_218 rfl (cf_eq hc5) ?_
        refine e_aload_n hm_218 rfl rfl ?_
        refine e_getZ hm_218 rfl rfl rfl ?_
        by_cases hc6 : (y4.2.1 73 31) = (0 : Int32)
        · rw [if_pos hc6] at hf
          refine e_if_t (t := 46) hm_218 rfl (ct_eq hc6) rfl ?_
          refine e_aload_n hm_218 rfl rfl ?_
          refine e_iconst hm_218 rfl kc_iconst_1 ?_
          refine e_putZ hm_218 rfl rfl rfl (by decide) ?_
          refine e_aload_n hm_218 rfl rfl ?_
          refine e_aload_n hm_218 rfl rfl ?_
          obtain ⟨y7, hky7, hf⟩ := mm_bd hf
          refine e_virt hm_218 rfl rfl rfl rfl (Nat.le_of_ble_eq_true rfl) hm_220 rfl rfl (c_220 (ak_up y4.2.1 73 31 (1 : Int32), y4.2.2) hky7 ?_)
          show Ev Z _ 218 56 [some (.ref 73), some (.int a1), some (.int a2), some (.int y3.1)] [.int y7.1, .ref 73] (mm_H y7.2) Q
          refine e_putI hm_218 rfl rfl rfl ?_
          refine e_aload_n hm_218 rfl rfl ?_
          refine e_iload_n hm_218 rfl rfl ?_
          refine e_putI hm_218 rfl rfl rfl ?_
          obtain rfl := Option.some.inj hf
          exact e_vret hm_218 rfl rfl hq
        · rw [if_neg hc6] at hf
          refine e_if_f hm_218 rfl (cf_eq hc6) ?_
          refine e_iload_n hm_218 rfl rfl ?_
          refine e_aload_n hm_218 rfl rfl ?_
          refine e_getI hm_218 rfl rfl rfl ?_
          by_cases hc8 : (y4.2.1 73 33) < y3.1
          · rw [if_pos hc8] at hf
            refine e_ic_f hm_218 rfl (cf_le hc8) ?_
            refine e_aload_n hm_218 rfl rfl ?_
            refine e_iconst hm_218 rfl kc_iconst_1 ?_
            refine e_putZ hm_218 rfl rfl rfl (by decide) ?_
            refine e_aload_n hm_218 rfl rfl ?_
            refine e_aload_n hm_218 rfl rfl ?_
            obtain ⟨y9, hky9, hf⟩ := mm_bd hf
            refine e_virt hm_218 rfl rfl rfl rfl (Nat.le_of_ble_eq_true rfl) hm_220 rfl rfl (c_220 (ak_up y4.2.1 73 31 (1 : Int32), y4.2.2) hky9 ?_)
            show Ev Z _ 218 56 [some (.ref 73), some (.int a1), some (.int a2), some (.int y3.1)] [.int y9.1, .ref 73] (mm_H y9.2) Q
            refine e_putI hm_218 rfl rfl rfl ?_
            refine e_aload_n hm_218 rfl rfl ?_
            refine e_iload_n hm_218 rfl rfl ?_
            refine e_putI hm_218 rfl rfl rfl ?_
            obtain rfl := Option.some.inj hf
            exact e_vret hm_218 rfl rfl hq
          · rw [if_neg hc8] at hf
            refine e_ic_t (t := 64) hm_218 rfl (ct_le hc8) rfl ?_
            obtain rfl := Option.some.inj hf
            exact e_vret hm_218 rfl rfl hq
    · rw [if_neg hc2] at hf
      refine e_if_f hm_218 rfl (cf_eq hc2) ?_
      refine e_aload_n hm_218 rfl rfl ?_
      obtain ⟨y10, hky10, hf⟩ := mm_bd hf
      refine e_virt hm_218 rfl rfl rfl rfl (Nat.le_of_ble_eq_true rfl) hm_219 rfl rfl (c_219 M hky10 ?_)
      show Ev Z _ 218 16 [some (.ref 73), some (.int a1), some (.int a2), none] [.int y10.1] (mm_H y10.2) Q
      refine e_goto (t := 23) hm_218 rfl rfl ?_
      refine e_istore_n (L2 := [some (.ref 73), some (.int a1), some (.int a2), some (.int y10.1)]) hm_218 rfl rfl ?_
      refine e_aload_n hm_218 rfl rfl ?_
      obtain ⟨y11, hky11, hf⟩ := mm_bd hf
      refine e_virt hm_218 rfl rfl rfl rfl (Nat.le_of_ble_eq_true rfl) hm_210 rfl rfl (c_210 y10.2 hky11 ?_)
      show Ev Z _ 218 28 [some (.ref 73), some (.int a1), some (.int a2), some (.int y10.1)] [.int y11.1] (mm_H y11.2) Q
      by_cases hc12 : y11.1 = (0 : Int32)
      · rw [if_pos hc12] at hf
        refine e_if_t (t := 64) hm_218 rfl (ct_eq hc12) rfl ?_
        obtain rfl := Option.some.inj hf
        exact e_vret hm_218 rfl rfl hq
      · rw [if_neg hc12] at hf
        refine e_if_f hm_218 rfl (cf_eq hc12) ?_
        refine e_aload_n hm_218 rfl rfl ?_
        refine e_getZ hm_218 rfl rfl rfl ?_
        by_cases hc13 : (y11.2.1 73 31) = (0 : Int32)
        · rw [if_pos hc13] at hf
          refine e_if_t (t := 46) hm_218 rfl (ct_eq hc13) rfl ?_
          refine e_aload_n hm_218 rfl rfl ?_
          refine e_iconst hm_218 rfl kc_iconst_1 ?_
          refine e_putZ hm_218 rfl rfl rfl (by decide) ?_
          refine e_aload_n hm_218 rfl rfl ?_
          refine e_aload_n hm_218 rfl rfl ?_
          obtain ⟨y14, hky14, hf⟩ := mm_bd hf
          refine e_virt hm_218 rfl rfl rfl rfl (Nat.le_of_ble_eq_true rfl) hm_220 rfl rfl (c_220 (ak_up y11.2.1 73 31 (1 : Int32), y11.2.2) hky14 ?_)
          show Ev Z _ 218 56 [some (.ref 73), some (.int a1), some (.int a2), some (.int y10.1)] [.int y14.1, .ref 73] (mm_H y14.2) Q
          refine e_putI hm_218 rfl rfl rfl ?_
          refine e_aload_n hm_218 rfl rfl ?_
          refine e_iload_n hm_218 rfl rfl ?_
          refine e_putI hm_218 rfl rfl rfl ?_
          obtain rfl := Option.some.inj hf
          exact e_vret hm_218 rfl rfl hq
        · rw [if_neg hc13] at hf
          refine e_if_f hm_218 rfl (cf_eq hc13) ?_
          refine e_iload_n hm_218 rfl rfl ?_
          refine e_aload_n hm_218 rfl rfl ?_
          refine e_getI hm_218 rfl rfl rfl ?_
          by_cases hc15 : (y11.2.1 73 33) < y10.1
          · rw [if_pos hc15] at hf
            refine e_ic_f hm_218 rfl (cf_le hc15) ?_
            refine e_aload_n hm_218 rfl rfl ?_
            refine e_iconst hm_218 rfl kc_iconst_1 ?_
            refine e_putZ hm_218 rfl rfl rfl (by decide) ?_
            refine e_aload_n hm_218 rfl rfl ?_
            refine e_aload_n hm_218 rfl rfl ?_
            obtain ⟨y16, hky16, hf⟩ := mm_bd hf
            refine e_virt hm_218 rfl rfl rfl rfl (Nat.le_of_ble_eq_true rfl) hm_220 rfl rfl (c_220 (ak_up y11.2.1 73 31 (1 : Int32), y11.2.2) hky16 ?_)
            show Ev Z _ 218 56 [some (.ref 73), some (.int a1), some (.int a2), some (.int y10.1)] [.int y16.1, .ref 73] (mm_H y16.2) Q
            refine e_putI hm_218 rfl rfl rfl ?_
            refine e_aload_n hm_218 rfl rfl ?_
            refine e_iload_n hm_218 rfl rfl ?_
            refine e_putI hm_218 rfl rfl rfl ?_
            obtain rfl := Option.some.inj hf
            exact e_vret hm_218 rfl rfl hq
          · rw [if_neg hc15] at hf
            refine e_ic_t (t := 64) hm_218 rfl (ct_le hc15) rfl ?_
            obtain rfl := Option.some.inj hf
            exact e_vret hm_218 rfl rfl hq
  · rw [if_neg hc1] at hf
    refine e_ic_t (t := 65) hm_218 rfl (ct_ne hc1) rfl ?_
    refine e_iconst hm_218 rfl kc_iconst_0 ?_
    refine e_istore_n (L2 := [some (.ref 73), some (.int a1), some (.int a2), some (.int (0 : Int32))]) hm_218 rfl rfl ?_
    obtain ⟨y17, hky17, hf⟩ := mm_bd hf
    refine e_forget (L' := [some (.ref 73), some (.int a1), some (.int a2), some (.int (0 : Int32))]) (lf_k (lf_k (lf_k (lf_k lf_0)))) (lc_218_67 rc hrc0 (d := _) 300 a1 a2 (0 : Int32) M Q hky17 ?_)
    show Ev Z _ 218 108 [none, none, none, none] [] (mm_H y17.2) Q
    obtain rfl := Option.some.inj hf
    exact e_vret hm_218 rfl rfl hq
def md_sk : Nat → Int32 → Int32 → mm_M → Option (Unit × mm_M)
  | 0, _, _, _ => none
  | k + 1, a1, a2, M => md_seeks_b (fun a1 a2 m => md_sk k a1 a2 m) a1 a2 M
set_option maxHeartbeats 4000000 in
theorem g_md_sk {Z : ak_Z} {d : Nat} : ∀ (k : Nat), (∀ (a1 : Int32) (a2 : Int32) (M : mm_M) (y : Unit × mm_M), md_sk k a1 a2 M = some y → ∀ (Q : Option Value → ak_H → Prop), Q none (mm_H y.2) → Ev Z (d + k + 3) 218 0 [some (.ref 73), some (.int a1), some (.int a2), none] [] (mm_H M) Q) := by
  intro k
  induction k with
  | zero => exact fun a1 a2 M y h => by simp [md_sk] at h
  | succ k ih =>
    have i0 := ih
    have e : d + (k + 1) + 3 = (d + k) + 4 := by omega
    rw [e]
    exact fun a1 a2 M y h Q hq => cb_218 (d := d + k) (fun a1 a2 m => md_sk k a1 a2 m) i0 a1 a2 M (by rw [md_sk] at h; exact h) hq
def md_seeks (a1 : Int32) (a2 : Int32) (M : mm_M) : Option (Unit × mm_M) := md_sk 8 a1 a2 M
theorem c_218 {Z : ak_Z} {d : Nat} (a1 : Int32) (a2 : Int32) (M : mm_M) {y : Unit × mm_M} (hf : md_seeks a1 a2 M = some y) {Q : Option Value → ak_H → Prop} (hq : Q none (mm_H y.2)) : Ev Z (d + 11) 218 0 [some (.ref 73), some (.int a1), some (.int a2), none] [] (mm_H M) Q := by
  have e : d + 11 = d + 8 + 3 := by omega
  rw [e]
  exact (g_md_sk 8) a1 a2 M y hf Q hq
def md_best (a1 : Int32) (M : mm_M) : Option (Int32 × mm_M) :=
  (md_in a1.toInt64 (0 : Int64) (3 : Int64) M).bind fun y1 =>
  if y1.1 = (0 : Int32) then
    some ((-100000 : Int32), y1.2)
  else
    (md_tables y1.2).bind fun y3 =>
    if (1 : Int32) < a1 then
      (md_seeks (0 : Int32) (1 : Int32) (ak_up y3.2.1 73 31 (0 : Int32), y3.2.2)).bind fun y5 =>
      if (a1 - a1 / (2 : Int32) * (2 : Int32)) = (0 : Int32) then
        some (y5.2.1 73 32, y5.2)
      else
        some (y5.2.1 73 33, y5.2)
    else
      (md_seeks (0 : Int32) (0 : Int32) (ak_up y3.2.1 73 31 (0 : Int32), y3.2.2)).bind fun y7 =>
      if (a1 - a1 / (2 : Int32) * (2 : Int32)) = (0 : Int32) then
        some (y7.2.1 73 32, y7.2)
      else
        some (y7.2.1 73 33, y7.2)
set_option maxRecDepth 20000 in
set_option maxHeartbeats 4000000 in
theorem c_217 {Z : ak_Z} {d : Nat} (a1 : Int32) (M : mm_M) {y : Int32 × mm_M} (hf : md_best a1 M = some y) {Q : Option Value → ak_H → Prop} (hq : Q (some (.int y.1)) (mm_H y.2)) : Ev Z (d + 70) 217 0 [some (.ref 73), some (.int a1)] [] (mm_H M) Q := by
  rw [md_best] at hf
  refine e_iload_n hm_217 rfl rfl ?_
  refine e_i2l hm_217 rfl ?_
  refine e_lconst hm_217 rfl rfl ?_
  refine e_ldc2 hm_217 rfl kc_ldc2_3 ?_
  obtain ⟨y1, hky1, hf⟩ := mm_bd hf
  refine e_stat hm_217 rfl (by decide) rfl rfl (Nat.le_of_ble_eq_true rfl) hm_169 rfl rfl (c_169 a1.toInt64 (0 : Int64) (3 : Int64) M hky1 ?_)
  show Ev Z _ 217 9 [some (.ref 73), some (.int a1)] [.int y1.1] (mm_H y1.2) Q
  by_cases hc2 : y1.1 = (0 : Int32)
  · rw [if_pos hc2] at hf
    refine e_if_f hm_217 rfl (cf_ne hc2) ?_
    refine e_ldc_w hm_217 rfl kc_ldc_m100000 ?_
    obtain rfl := Option.some.inj hf
    exact e_iret hm_217 rfl rfl hq
  · rw [if_neg hc2] at hf
    refine e_if_t (t := 16) hm_217 rfl (ct_ne hc2) rfl ?_
    refine e_aload_n hm_217 rfl rfl ?_
    obtain ⟨y3, hky3, hf⟩ := mm_bd hf
    refine e_virt hm_217 rfl rfl rfl rfl (Nat.le_of_ble_eq_true rfl) hm_208 rfl rfl (c_208 y1.2 hky3 ?_)
    show Ev Z _ 217 20 [some (.ref 73), some (.int a1)] [] (mm_H y3.2) Q
    refine e_aload_n hm_217 rfl rfl ?_
    refine e_iconst hm_217 rfl kc_iconst_0 ?_
    refine e_putZ hm_217 rfl rfl rfl (by decide) ?_
    refine e_aload_n hm_217 rfl rfl ?_
    refine e_iconst hm_217 rfl kc_iconst_0 ?_
    refine e_iload_n hm_217 rfl rfl ?_
    refine e_iconst hm_217 rfl kc_iconst_1 ?_
    by_cases hc4 : (1 : Int32) < a1
    · rw [if_pos hc4] at hf
      refine e_ic_f hm_217 rfl (cf_le hc4) ?_
      refine e_iconst hm_217 rfl kc_iconst_1 ?_
      refine e_goto (t := 37) hm_217 rfl rfl ?_
      obtain ⟨y5, hky5, hf⟩ := mm_bd hf
      refine e_virt hm_217 rfl rfl rfl rfl (Nat.le_of_ble_eq_true rfl) hm_218 rfl rfl (c_218 (0 : Int32) (1 : Int32) (ak_up y3.2.1 73 31 (0 : Int32), y3.2.2) hky5 ?_)
      show Ev Z _ 217 40 [some (.ref 73), some (.int a1)] [] (mm_H y5.2) Q
      refine e_iload_n hm_217 rfl rfl ?_
      refine e_iconst hm_217 rfl kc_iconst_2 ?_
      refine e_irem hm_217 rfl (by decide) ?_
      by_cases hc6 : (a1 - a1 / (2 : Int32) * (2 : Int32)) = (0 : Int32)
      · rw [if_pos hc6] at hf
        refine e_if_f hm_217 rfl (cf_ne hc6) ?_
        refine e_aload_n hm_217 rfl rfl ?_
        refine e_getI hm_217 rfl rfl rfl ?_
        refine e_goto (t := 57) hm_217 rfl rfl ?_
        obtain rfl := Option.some.inj hf
        exact e_iret hm_217 rfl rfl hq
      · rw [if_neg hc6] at hf
        refine e_if_t (t := 53) hm_217 rfl (ct_ne hc6) rfl ?_
        refine e_aload_n hm_217 rfl rfl ?_
        refine e_getI hm_217 rfl rfl rfl ?_
        obtain rfl := Option.some.inj hf
        exact e_iret hm_217 rfl rfl hq
    · rw [if_neg hc4] at hf
      refine e_ic_t (t := 36) hm_217 rfl (ct_le hc4) rfl ?_
      refine e_iconst hm_217 rfl kc_iconst_0 ?_
      obtain ⟨y7, hky7, hf⟩ := mm_bd hf
      refine e_virt hm_217 rfl rfl rfl rfl (Nat.le_of_ble_eq_true rfl) hm_218 rfl rfl (c_218 (0 : Int32) (0 : Int32) (ak_up y3.2.1 73 31 (0 : Int32), y3.2.2) hky7 ?_)
      show Ev Z _ 217 40 [some (.ref 73), some (.int a1)] [] (mm_H y7.2) Q
      refine e_iload_n hm_217 rfl rfl ?_
      refine e_iconst hm_217 rfl kc_iconst_2 ?_
      refine e_irem hm_217 rfl (by decide) ?_
      by_cases hc8 : (a1 - a1 / (2 : Int32) * (2 : Int32)) = (0 : Int32)
      · rw [if_pos hc8] at hf
        refine e_if_f hm_217 rfl (cf_ne hc8) ?_
        refine e_aload_n hm_217 rfl rfl ?_
        refine e_getI hm_217 rfl rfl rfl ?_
        refine e_goto (t := 57) hm_217 rfl rfl ?_
        obtain rfl := Option.some.inj hf
        exact e_iret hm_217 rfl rfl hq
      · rw [if_neg hc8] at hf
        refine e_if_t (t := 53) hm_217 rfl (ct_ne hc8) rfl ?_
        refine e_aload_n hm_217 rfl rfl ?_
        refine e_getI hm_217 rfl rfl rfl ?_
        obtain rfl := Option.some.inj hf
        exact e_iret hm_217 rfl rfl hq
def md_nextTurn_l4 : Nat → Int32 → Int32 → Int32 → mm_M → Option (((Int32) × mm_M))
  | 0, _, _, _, _ => none
  | n + 1, x1, x2, x3, M =>
    if x3 < (M.1 73 11) then
      if ((x1 >>> (x3 &&& 31)) &&& (1 : Int32)) = (0 : Int32) then
        if x2 = (-1 : Int32) then
          md_nextTurn_l4 n x1 x3 (x3 + (1 : Int32)) M
        else
          if ak_inb (((5 : Int32) * x3) + (3 : Int32)) 20 = true then
          if ak_inb (((5 : Int32) * x2) + (3 : Int32)) 20 = true then
          if (M.1 79 (((5 : Int32) * x2) + (3 : Int32)).toNatClampNeg) < (M.1 79 (((5 : Int32) * x3) + (3 : Int32)).toNatClampNeg) then
            md_nextTurn_l4 n x1 x3 (x3 + (1 : Int32)) M
          else
            md_nextTurn_l4 n x1 x2 (x3 + (1 : Int32)) M else none else none
      else
        md_nextTurn_l4 n x1 x2 (x3 + (1 : Int32)) M
    else
      some (x2, M)
set_option maxRecDepth 20000 in
set_option maxHeartbeats 4000000 in
theorem lc_223_4 {Z : ak_Z} {d : Nat} : ∀ (n : Nat) (x1 : Int32) (x2 : Int32) (x3 : Int32) (M : mm_M) {y : ((Int32) × mm_M)} (Q : Option Value → ak_H → Prop), md_nextTurn_l4 n x1 x2 x3 M = some y → (Ev Z (d + 0) 223 56 [none, none, some (.int y.1), none] [] (mm_H y.2) Q) → Ev Z (d + 0) 223 4 [some (.ref 73), some (.int x1), some (.int x2), some (.int x3)] [] (mm_H M) Q := by
  intro n
  induction n with
  | zero => intro x1 x2 x3 M y Q hf; cases hf
  | succ n ih =>
    intro x1 x2 x3 M y Q hf hq
    rw [md_nextTurn_l4] at hf
    refine e_iload_n hm_223 rfl rfl ?_
    refine e_aload_n hm_223 rfl rfl ?_
    refine e_getI hm_223 rfl rfl rfl ?_
    by_cases hc1 : x3 < (M.1 73 11)
    · rw [if_pos hc1] at hf
      refine e_ic_f hm_223 rfl (cf_ge hc1) ?_
      refine e_iload_n hm_223 rfl rfl ?_
      refine e_iload_n hm_223 rfl rfl ?_
      refine e_ishr hm_223 rfl ?_
      refine e_iconst hm_223 rfl kc_iconst_1 ?_
      refine e_iand hm_223 rfl ?_
      by_cases hc2 : ((x1 >>> (x3 &&& 31)) &&& (1 : Int32)) = (0 : Int32)
      · rw [if_pos hc2] at hf
        refine e_if_f hm_223 rfl (cf_ne hc2) ?_
        refine e_iload_n hm_223 rfl rfl ?_
        refine e_iconst hm_223 rfl kc_iconst_m1 ?_
        by_cases hc3 : x2 = (-1 : Int32)
        · rw [if_pos hc3] at hf
          refine e_ic_t (t := 48) hm_223 rfl (ct_eq hc3) rfl ?_
          refine e_iload_n hm_223 rfl rfl ?_
          refine e_istore_n (L2 := [some (.ref 73), some (.int x1), some (.int x3), some (.int x3)]) hm_223 rfl rfl ?_
          refine e_iinc (L2 := [some (.ref 73), some (.int x1), some (.int x3), some (.int (x3 + (1 : Int32)))]) hm_223 rfl kc_iinc_1 rfl rfl ?_
          refine e_goto (t := 4) hm_223 rfl rfl ?_
          exact e_forget (L' := [some (.ref 73), some (.int x1), some (.int x3), some (.int (x3 + (1 : Int32)))]) (lf_k (lf_k (lf_k (lf_k lf_0)))) (ih x1 x3 (x3 + (1 : Int32)) M Q hf hq)
        · rw [if_neg hc3] at hf
          refine e_ic_f hm_223 rfl (cf_eq hc3) ?_
          refine e_aload_n hm_223 rfl rfl ?_
          refine e_getR hm_223 rfl rfl rfl rfl ?_
          refine e_iconst hm_223 rfl kc_iconst_5 ?_
          refine e_iload_n hm_223 rfl rfl ?_
          refine e_imul hm_223 rfl ?_
          refine e_iconst hm_223 rfl kc_iconst_3 ?_
          refine e_iadd hm_223 rfl ?_
          obtain ⟨hi4, hf⟩ := mm_ite hf
          refine e_iald hm_223 rfl rfl hi4 ?_
          refine e_aload_n hm_223 rfl rfl ?_
          refine e_getR hm_223 rfl rfl rfl rfl ?_
          refine e_iconst hm_223 rfl kc_iconst_5 ?_
          refine e_iload_n hm_223 rfl rfl ?_
          refine e_imul hm_223 rfl ?_
          refine e_iconst hm_223 rfl kc_iconst_3 ?_
          refine e_iadd hm_223 rfl ?_
          obtain ⟨hi5, hf⟩ := mm_ite hf
          refine e_iald hm_223 rfl rfl hi5 ?_
          by_cases hc6 : (M.1 79 (((5 : Int32) * x2) + (3 : Int32)).toNatClampNeg) < (M.1 79 (((5 : Int32) * x3) + (3 : Int32)).toNatClampNeg)
          · rw [if_pos hc6] at hf
            refine e_ic_f hm_223 rfl (cf_le hc6) ?_
            refine e_iload_n hm_223 rfl rfl ?_
            refine e_istore_n (L2 := [some (.ref 73), some (.int x1), some (.int x3), some (.int x3)]) hm_223 rfl rfl ?_
            refine e_iinc (L2 := [some (.ref 73), some (.int x1), some (.int x3), some (.int (x3 + (1 : Int32)))]) hm_223 rfl kc_iinc_1 rfl rfl ?_
            refine e_goto (t := 4) hm_223 rfl rfl ?_
            exact e_forget (L' := [some (.ref 73), some (.int x1), some (.int x3), some (.int (x3 + (1 : Int32)))]) (lf_k (lf_k (lf_k (lf_k lf_0)))) (ih x1 x3 (x3 + (1 : Int32)) M Q hf hq)
          · rw [if_neg hc6] at hf
            refine e_ic_t (t := 50) hm_223 rfl (ct_le hc6) rfl ?_
            refine e_iinc (L2 := [some (.ref 73), some (.int x1), some (.int x2), some (.int (x3 + (1 : Int32)))]) hm_223 rfl kc_iinc_1 rfl rfl ?_
            refine e_goto (t := 4) hm_223 rfl rfl ?_
            exact e_forget (L' := [some (.ref 73), some (.int x1), some (.int x2), some (.int (x3 + (1 : Int32)))]) (lf_k (lf_k (lf_k (lf_k lf_0)))) (ih x1 x2 (x3 + (1 : Int32)) M Q hf hq)
      · rw [if_neg hc2] at hf
        refine e_if_t (t := 50) hm_223 rfl (ct_ne hc2) rfl ?_
        refine e_iinc (L2 := [some (.ref 73), some (.int x1), some (.int x2), some (.int (x3 + (1 : Int32)))]) hm_223 rfl kc_iinc_1 rfl rfl ?_
        refine e_goto (t := 4) hm_223 rfl rfl ?_
        exact e_forget (L' := [some (.ref 73), some (.int x1), some (.int x2), some (.int (x3 + (1 : Int32)))]) (lf_k (lf_k (lf_k (lf_k lf_0)))) (ih x1 x2 (x3 + (1 : Int32)) M Q hf hq)
    · rw [if_neg hc1] at hf
      refine e_ic_t (t := 56) hm_223 rfl (ct_ge hc1) rfl ?_
      obtain rfl := Option.some.inj hf
      exact e_forget (L' := [none, none, some (.int x2), none]) (lf_d (lf_d (lf_k (lf_d lf_0)))) hq
def md_nextTurn (a1 : Int32) (M : mm_M) : Option (Int32 × mm_M) :=
  (md_nextTurn_l4 300 a1 (-1 : Int32) (0 : Int32) M).bind fun y1 =>
  some (y1.1, y1.2)
set_option maxRecDepth 20000 in
set_option maxHeartbeats 4000000 in
theorem c_223 {Z : ak_Z} {d : Nat} (a1 : Int32) (M : mm_M) {y : Int32 × mm_M} (hf : md_nextTurn a1 M = some y) {Q : Option Value → ak_H → Prop} (hq : Q (some (.int y.1)) (mm_H y.2)) : Ev Z (d + 0) 223 0 [some (.ref 73), some (.int a1), none, none] [] (mm_H M) Q := by
  rw [md_nextTurn] at hf
  refine e_iconst hm_223 rfl kc_iconst_m1 ?_
  refine e_istore_n (L2 := [some (.ref 73), some (.int a1), some (.int (-1 : Int32)), none]) hm_223 rfl rfl ?_
  refine e_iconst hm_223 rfl kc_iconst_0 ?_
  refine e_istore_n (L2 := [some (.ref 73), some (.int a1), some (.int (-1 : Int32)), some (.int (0 : Int32))]) hm_223 rfl rfl ?_
  obtain ⟨y1, hky1, hf⟩ := mm_bd hf
  refine e_forget (L' := [some (.ref 73), some (.int a1), some (.int (-1 : Int32)), some (.int (0 : Int32))]) (lf_k (lf_k (lf_k (lf_k lf_0)))) (lc_223_4 (d := _) 300 a1 (-1 : Int32) (0 : Int32) M Q hky1 ?_)
  show Ev Z _ 223 56 [none, none, some (.int y1.1), none] [] (mm_H y1.2) Q
  refine e_iload_n hm_223 rfl rfl ?_
  obtain rfl := Option.some.inj hf
  exact e_iret hm_223 rfl rfl hq
def md_takes_l7 : Nat → Int32 → Int32 → Int32 → Int32 → mm_M → Option (((Int32) × mm_M))
  | 0, _, _, _, _, _ => none
  | n + 1, x1, x2, x3, x4, M =>
    if (8 : Int32) < x4 then
      some (x2, M)
    else
      if ak_inb x1 4 = true then
      if ak_inb (((9 : Int32) * x1) + x4) 36 = true then
      if x3 < ((ak_up M.1 84 x1.toNatClampNeg x4) 82 (((9 : Int32) * x1) + x4).toNatClampNeg) then
        (md_holds (ak_up M.1 84 x1.toNatClampNeg x4, M.2)).bind fun y5 =>
        if y5.1 = (0 : Int32) then
          md_takes_l7 n x1 x2 x3 (x4 + (1 : Int32)) y5.2
        else
          if ak_inb (((9 : Int32) * x1) + x4) 36 = true then
          md_takes_l7 n x1 x4 (y5.2.1 82 (((9 : Int32) * x1) + x4).toNatClampNeg) (x4 + (1 : Int32)) y5.2 else none
      else
        md_takes_l7 n x1 x2 x3 (x4 + (1 : Int32)) (ak_up M.1 84 x1.toNatClampNeg x4, M.2) else none else none
set_option maxRecDepth 20000 in
set_option maxHeartbeats 4000000 in
theorem lc_224_7 {Z : ak_Z} {d : Nat} : ∀ (n : Nat) (x1 : Int32) (x2 : Int32) (x3 : Int32) (x4 : Int32) (M : mm_M) {y : ((Int32) × mm_M)} (Q : Option Value → ak_H → Prop), md_takes_l7 n x1 x2 x3 x4 M = some y → (Ev Z (d + 4) 224 67 [some (.ref 73), some (.int x1), some (.int y.1), none, none] [] (mm_H y.2) Q) → Ev Z (d + 4) 224 7 [some (.ref 73), some (.int x1), some (.int x2), some (.int x3), some (.int x4)] [] (mm_H M) Q := by
  intro n
  induction n with
  | zero => intro x1 x2 x3 x4 M y Q hf; cases hf
  | succ n ih =>
    intro x1 x2 x3 x4 M y Q hf hq
    rw [md_takes_l7] at hf
    refine e_iload hm_224 rfl rfl ?_
    refine e_bipush hm_224 rfl kc_bipush_8 ?_
    by_cases hc1 : (8 : Int32) < x4
    · rw [if_pos hc1] at hf
      refine e_ic_t (t := 67) hm_224 rfl (ct_gt hc1) rfl ?_
      obtain rfl := Option.some.inj hf
      exact e_forget (L' := [some (.ref 73), some (.int x1), some (.int x2), none, none]) (lf_k (lf_k (lf_k (lf_d (lf_d lf_0))))) hq
    · rw [if_neg hc1] at hf
      refine e_ic_f hm_224 rfl (cf_gt hc1) ?_
      refine e_aload_n hm_224 rfl rfl ?_
      refine e_getR hm_224 rfl rfl rfl rfl ?_
      refine e_iload_n hm_224 rfl rfl ?_
      refine e_iload hm_224 rfl rfl ?_
      obtain ⟨hi2, hf⟩ := mm_ite hf
      refine e_iast hm_224 rfl rfl hi2 ?_
      refine e_aload_n hm_224 rfl rfl ?_
      refine e_getR hm_224 rfl rfl rfl rfl ?_
      refine e_bipush hm_224 rfl kc_bipush_9 ?_
      refine e_iload_n hm_224 rfl rfl ?_
      refine e_imul hm_224 rfl ?_
      refine e_iload hm_224 rfl rfl ?_
      refine e_iadd hm_224 rfl ?_
      obtain ⟨hi3, hf⟩ := mm_ite hf
      refine e_iald hm_224 rfl rfl hi3 ?_
      refine e_iload_n hm_224 rfl rfl ?_
      by_cases hc4 : x3 < ((ak_up M.1 84 x1.toNatClampNeg x4) 82 (((9 : Int32) * x1) + x4).toNatClampNeg)
      · rw [if_pos hc4] at hf
        refine e_ic_f hm_224 rfl (cf_le hc4) ?_
        refine e_aload_n hm_224 rfl rfl ?_
        obtain ⟨y5, hky5, hf⟩ := mm_bd hf
        refine e_virt hm_224 rfl rfl rfl rfl (Nat.le_of_ble_eq_true rfl) hm_210 rfl rfl (c_210 (ak_up M.1 84 x1.toNatClampNeg x4, M.2) hky5 ?_)
        show Ev Z _ 224 42 [some (.ref 73), some (.int x1), some (.int x2), some (.int x3), some (.int x4)] [.int y5.1] (mm_H y5.2) Q
        by_cases hc6 : y5.1 = (0 : Int32)
        · rw [if_pos hc6] at hf
          refine e_if_t (t := 61) hm_224 rfl (ct_eq hc6) rfl ?_
          refine e_iinc (L2 := [some (.ref 73), some (.int x1), some (.int x2), some (.int x3), some (.int (x4 + (1 : Int32)))]) hm_224 rfl kc_iinc_1 rfl rfl ?_
          refine e_goto (t := 7) hm_224 rfl rfl ?_
          exact e_forget (L' := [some (.ref 73), some (.int x1), some (.int x2), some (.int x3), some (.int (x4 + (1 : Int32)))]) (lf_k (lf_k (lf_k (lf_k (lf_k lf_0))))) (ih x1 x2 x3 (x4 + (1 : Int32)) y5.2 Q hf hq)
        · rw [if_neg hc6] at hf
          refine e_if_f hm_224 rfl (cf_eq hc6) ?_
          refine e_iload hm_224 rfl rfl ?_
          refine e_istore_n (L2 := [some (.ref 73), some (.int x1), some (.int x4), some (.int x3), some (.int x4)]) hm_224 rfl rfl ?_
          refine e_aload_n hm_224 rfl rfl ?_
          refine e_getR hm_224 rfl rfl rfl rfl ?_
          refine e_bipush hm_224 rfl kc_bipush_9 ?_
          refine e_iload_n hm_224 rfl rfl ?_
          refine e_imul hm_224 rfl ?_
          refine e_iload hm_224 rfl rfl ?_
          refine e_iadd hm_224 rfl ?_
          obtain ⟨hi7, hf⟩ := mm_ite hf
          refine e_iald hm_224 rfl rfl hi7 ?_
          refine e_istore_n (L2 := [some (.ref 73), some (.int x1), some (.int x4), some (.int (y5.2.1 82 (((9 : Int32) * x1) + x4).toNatClampNeg)), some (.int x4)]) hm_224 rfl rfl ?_
          refine e_iinc (L2 := [some (.ref 73), some (.int x1), some (.int x4), some (.int (y5.2.1 82 (((9 : Int32) * x1) + x4).toNatClampNeg)), some (.int (x4 + (1 : Int32)))]) hm_224 rfl kc_iinc_1 rfl rfl ?_
          refine e_goto (t := 7) hm_224 rfl rfl ?_
          exact e_forget (L' := [some (.ref 73), some (.int x1), some (.int x4), some (.int (y5.2.1 82 (((9 : Int32) * x1) + x4).toNatClampNeg)), some (.int (x4 + (1 : Int32)))]) (lf_k (lf_k (lf_k (lf_k (lf_k lf_0))))) (ih x1 x4 (y5.2.1 82 (((9 : Int32) * x1) + x4).toNatClampNeg) (x4 + (1 : Int32)) y5.2 Q hf hq)
      · rw [if_neg hc4] at hf
        refine e_ic_t (t := 61) hm_224 rfl (ct_le hc4) rfl ?_
        refine e_iinc (L2 := [some (.ref 73), some (.int x1), some (.int x2), some (.int x3), some (.int (x4 + (1 : Int32)))]) hm_224 rfl kc_iinc_1 rfl rfl ?_
        refine e_goto (t := 7) hm_224 rfl rfl ?_
        exact e_forget (L' := [some (.ref 73), some (.int x1), some (.int x2), some (.int x3), some (.int (x4 + (1 : Int32)))]) (lf_k (lf_k (lf_k (lf_k (lf_k lf_0))))) (ih x1 x2 x3 (x4 + (1 : Int32)) (ak_up M.1 84 x1.toNatClampNeg x4, M.2) Q hf hq)
def md_takes (a1 : Int32) (M : mm_M) : Option (Unit × mm_M) :=
  (md_takes_l7 300 a1 (0 : Int32) (0 : Int32) (1 : Int32) M).bind fun y1 =>
  if ak_inb a1 4 = true then
  some ((), (ak_up y1.2.1 84 a1.toNatClampNeg y1.1, y1.2.2)) else none
set_option maxRecDepth 20000 in
set_option maxHeartbeats 4000000 in
theorem c_224 {Z : ak_Z} {d : Nat} (a1 : Int32) (M : mm_M) {y : Unit × mm_M} (hf : md_takes a1 M = some y) {Q : Option Value → ak_H → Prop} (hq : Q none (mm_H y.2)) : Ev Z (d + 4) 224 0 [some (.ref 73), some (.int a1), none, none, none] [] (mm_H M) Q := by
  rw [md_takes] at hf
  refine e_iconst hm_224 rfl kc_iconst_0 ?_
  refine e_istore_n (L2 := [some (.ref 73), some (.int a1), some (.int (0 : Int32)), none, none]) hm_224 rfl rfl ?_
  refine e_iconst hm_224 rfl kc_iconst_0 ?_
  refine e_istore_n (L2 := [some (.ref 73), some (.int a1), some (.int (0 : Int32)), some (.int (0 : Int32)), none]) hm_224 rfl rfl ?_
  refine e_iconst hm_224 rfl kc_iconst_1 ?_
  refine e_istore (L2 := [some (.ref 73), some (.int a1), some (.int (0 : Int32)), some (.int (0 : Int32)), some (.int (1 : Int32))]) hm_224 rfl rfl ?_
  obtain ⟨y1, hky1, hf⟩ := mm_bd hf
  refine e_forget (L' := [some (.ref 73), some (.int a1), some (.int (0 : Int32)), some (.int (0 : Int32)), some (.int (1 : Int32))]) (lf_k (lf_k (lf_k (lf_k (lf_k lf_0))))) (lc_224_7 (d := _) 300 a1 (0 : Int32) (0 : Int32) (1 : Int32) M Q hky1 ?_)
  show Ev Z _ 224 67 [some (.ref 73), some (.int a1), some (.int y1.1), none, none] [] (mm_H y1.2) Q
  refine e_aload_n hm_224 rfl rfl ?_
  refine e_getR hm_224 rfl rfl rfl rfl ?_
  refine e_iload_n hm_224 rfl rfl ?_
  refine e_iload_n hm_224 rfl rfl ?_
  obtain ⟨hi2, hf⟩ := mm_ite hf
  refine e_iast hm_224 rfl rfl hi2 ?_
  obtain rfl := Option.some.inj hf
  exact e_vret hm_224 rfl rfl hq
def md_turnsAll_l6 : Nat → Int32 → mm_M → Option (((Unit) × mm_M))
  | 0, _, _ => none
  | n + 1, x1, M =>
    if x1 < (M.1 73 11) then
      if ak_inb x1 4 = true then
      md_turnsAll_l6 n (x1 + (1 : Int32)) (ak_up M.1 84 x1.toNatClampNeg (0 : Int32), M.2) else none
    else
      some ((), M)
set_option maxRecDepth 20000 in
set_option maxHeartbeats 4000000 in
theorem lc_222_6 {Z : ak_Z} {d : Nat} : ∀ (n : Nat) (x1 : Int32) (M : mm_M) {y : ((Unit) × mm_M)} (Q : Option Value → ak_H → Prop), md_turnsAll_l6 n x1 M = some y → (Ev Z (d + 70) 222 27 [some (.ref 73), none, none, none] [] (mm_H y.2) Q) → Ev Z (d + 70) 222 6 [some (.ref 73), some (.int x1), none, none] [] (mm_H M) Q := by
  intro n
  induction n with
  | zero => intro x1 M y Q hf; cases hf
  | succ n ih =>
    intro x1 M y Q hf hq
    rw [md_turnsAll_l6] at hf
    refine e_iload_n hm_222 rfl rfl ?_
    refine e_aload_n hm_222 rfl rfl ?_
    refine e_getI hm_222 rfl rfl rfl ?_
    by_cases hc1 : x1 < (M.1 73 11)
    · rw [if_pos hc1] at hf
      refine e_ic_f hm_222 rfl (cf_ge hc1) ?_
      refine e_aload_n hm_222 rfl rfl ?_
      refine e_getR hm_222 rfl rfl rfl rfl ?_
      refine e_iload_n hm_222 rfl rfl ?_
      refine e_iconst hm_222 rfl kc_iconst_0 ?_
      obtain ⟨hi2, hf⟩ := mm_ite hf
      refine e_iast hm_222 rfl rfl hi2 ?_
      refine e_iinc (L2 := [some (.ref 73), some (.int (x1 + (1 : Int32))), none, none]) hm_222 rfl kc_iinc_1 rfl rfl ?_
      refine e_goto (t := 6) hm_222 rfl rfl ?_
      exact e_forget (L' := [some (.ref 73), some (.int (x1 + (1 : Int32))), none, none]) (lf_k (lf_k (lf_k (lf_k lf_0)))) (ih (x1 + (1 : Int32)) (ak_up M.1 84 x1.toNatClampNeg (0 : Int32), M.2) Q hf hq)
    · rw [if_neg hc1] at hf
      refine e_ic_t (t := 27) hm_222 rfl (ct_ge hc1) rfl ?_
      obtain rfl := Option.some.inj hf
      exact e_forget (L' := [some (.ref 73), none, none, none]) (lf_k (lf_d (lf_k (lf_k lf_0)))) hq
def md_turnsAll_l31 : Nat → Int32 → Int32 → mm_M → Option (((Unit) × mm_M))
  | 0, _, _, _ => none
  | n + 1, x1, x2, M =>
    if x2 < (M.1 73 11) then
      (md_nextTurn x1 M).bind fun y2 =>
      (md_takes y2.1 y2.2).bind fun y3 =>
      md_turnsAll_l31 n (x1 ||| ((1 : Int32) <<< (y2.1 &&& 31))) (x2 + (1 : Int32)) y3.2
    else
      some ((), M)
set_option maxRecDepth 20000 in
set_option maxHeartbeats 4000000 in
theorem lc_222_31 {Z : ak_Z} {d : Nat} : ∀ (n : Nat) (x1 : Int32) (x2 : Int32) (M : mm_M) {y : ((Unit) × mm_M)} (Q : Option Value → ak_H → Prop), md_turnsAll_l31 n x1 x2 M = some y → (Ev Z (d + 70) 222 62 [none, none, none, none] [] (mm_H y.2) Q) → Ev Z (d + 70) 222 31 [some (.ref 73), some (.int x1), some (.int x2), none] [] (mm_H M) Q := by
  intro n
  induction n with
  | zero => intro x1 x2 M y Q hf; cases hf
  | succ n ih =>
    intro x1 x2 M y Q hf hq
    rw [md_turnsAll_l31] at hf
    refine e_iload_n hm_222 rfl rfl ?_
    refine e_aload_n hm_222 rfl rfl ?_
    refine e_getI hm_222 rfl rfl rfl ?_
    by_cases hc1 : x2 < (M.1 73 11)
    · rw [if_pos hc1] at hf
      refine e_ic_f hm_222 rfl (cf_ge hc1) ?_
      refine e_aload_n hm_222 rfl rfl ?_
      refine e_iload_n hm_222 rfl rfl ?_
      obtain ⟨y2, hky2, hf⟩ := mm_bd hf
      refine e_virt hm_222 rfl rfl rfl rfl (Nat.le_of_ble_eq_true rfl) hm_223 rfl rfl (c_223 x1 M hky2 ?_)
      show Ev Z _ 222 44 [some (.ref 73), some (.int x1), some (.int x2), none] [.int y2.1] (mm_H y2.2) Q
      refine e_istore_n (L2 := [some (.ref 73), some (.int x1), some (.int x2), some (.int y2.1)]) hm_222 rfl rfl ?_
      refine e_aload_n hm_222 rfl rfl ?_
      refine e_iload_n hm_222 rfl rfl ?_
      obtain ⟨y3, hky3, hf⟩ := mm_bd hf
      refine e_virt hm_222 rfl rfl rfl rfl (Nat.le_of_ble_eq_true rfl) hm_224 rfl rfl (c_224 y2.1 y2.2 hky3 ?_)
      show Ev Z _ 222 50 [some (.ref 73), some (.int x1), some (.int x2), some (.int y2.1)] [] (mm_H y3.2) Q
      refine e_iload_n hm_222 rfl rfl ?_
      refine e_iconst hm_222 rfl kc_iconst_1 ?_
      refine e_iload_n hm_222 rfl rfl ?_
      refine e_ishl hm_222 rfl ?_
      refine e_ior hm_222 rfl ?_
      refine e_istore_n (L2 := [some (.ref 73), some (.int (x1 ||| ((1 : Int32) <<< (y2.1 &&& 31)))), some (.int x2), some (.int y2.1)]) hm_222 rfl rfl ?_
      refine e_iinc (L2 := [some (.ref 73), some (.int (x1 ||| ((1 : Int32) <<< (y2.1 &&& 31)))), some (.int (x2 + (1 : Int32))), some (.int y2.1)]) hm_222 rfl kc_iinc_1 rfl rfl ?_
      refine e_goto (t := 31) hm_222 rfl rfl ?_
      exact e_forget (L' := [some (.ref 73), some (.int (x1 ||| ((1 : Int32) <<< (y2.1 &&& 31)))), some (.int (x2 + (1 : Int32))), none]) (lf_k (lf_k (lf_k (lf_d lf_0)))) (ih (x1 ||| ((1 : Int32) <<< (y2.1 &&& 31))) (x2 + (1 : Int32)) y3.2 Q hf hq)
    · rw [if_neg hc1] at hf
      refine e_ic_t (t := 62) hm_222 rfl (ct_ge hc1) rfl ?_
      obtain rfl := Option.some.inj hf
      exact e_forget (L' := [none, none, none, none]) (lf_d (lf_d (lf_d (lf_k lf_0)))) hq
def md_turnsAll (M : mm_M) : Option (Unit × mm_M) :=
  (md_tables M).bind fun y1 =>
  (md_turnsAll_l6 300 (0 : Int32) y1.2).bind fun y2 =>
  (md_turnsAll_l31 300 (0 : Int32) (0 : Int32) y2.2).bind fun y3 =>
  some ((), y3.2)
set_option maxRecDepth 20000 in
set_option maxHeartbeats 4000000 in
theorem c_222 {Z : ak_Z} {d : Nat} (M : mm_M) {y : Unit × mm_M} (hf : md_turnsAll M = some y) {Q : Option Value → ak_H → Prop} (hq : Q none (mm_H y.2)) : Ev Z (d + 70) 222 0 [some (.ref 73), none, none, none] [] (mm_H M) Q := by
  rw [md_turnsAll] at hf
  refine e_aload_n hm_222 rfl rfl ?_
  obtain ⟨y1, hky1, hf⟩ := mm_bd hf
  refine e_virt hm_222 rfl rfl rfl rfl (Nat.le_of_ble_eq_true rfl) hm_208 rfl rfl (c_208 M hky1 ?_)
  show Ev Z _ 222 4 [some (.ref 73), none, none, none] [] (mm_H y1.2) Q
  refine e_iconst hm_222 rfl kc_iconst_0 ?_
  refine e_istore_n (L2 := [some (.ref 73), some (.int (0 : Int32)), none, none]) hm_222 rfl rfl ?_
  obtain ⟨y2, hky2, hf⟩ := mm_bd hf
  refine e_forget (L' := [some (.ref 73), some (.int (0 : Int32)), none, none]) (lf_k (lf_k (lf_k (lf_k lf_0)))) (lc_222_6 (d := _) 300 (0 : Int32) y1.2 Q hky2 ?_)
  show Ev Z _ 222 27 [some (.ref 73), none, none, none] [] (mm_H y2.2) Q
  refine e_iconst hm_222 rfl kc_iconst_0 ?_
  refine e_istore_n (L2 := [some (.ref 73), some (.int (0 : Int32)), none, none]) hm_222 rfl rfl ?_
  refine e_iconst hm_222 rfl kc_iconst_0 ?_
  refine e_istore_n (L2 := [some (.ref 73), some (.int (0 : Int32)), some (.int (0 : Int32)), none]) hm_222 rfl rfl ?_
  obtain ⟨y3, hky3, hf⟩ := mm_bd hf
  refine e_forget (L' := [some (.ref 73), some (.int (0 : Int32)), some (.int (0 : Int32)), none]) (lf_k (lf_k (lf_k (lf_k lf_0)))) (lc_222_31 (d := _) 300 (0 : Int32) (0 : Int32) y2.2 Q hky3 ?_)
  show Ev Z _ 222 62 [none, none, none, none] [] (mm_H y3.2) Q
  obtain rfl := Option.some.inj hf
  exact e_vret hm_222 rfl rfl hq
def md_noneMany_l4 : Nat → Int32 → Int32 → mm_M → Option (((Int32) × mm_M))
  | 0, _, _, _ => none
  | n + 1, x1, x2, M =>
    if x2 < (M.1 73 11) then
      if ak_inb x2 4 = true then
      if (M.1 84 x2.toNatClampNeg) = (0 : Int32) then
        md_noneMany_l4 n (x1 + (1 : Int32)) (x2 + (1 : Int32)) M
      else
        md_noneMany_l4 n (x1 + (0 : Int32)) (x2 + (1 : Int32)) M else none
    else
      some (x1, M)
set_option maxRecDepth 20000 in
set_option maxHeartbeats 4000000 in
theorem lc_225_4 {Z : ak_Z} {d : Nat} : ∀ (n : Nat) (x1 : Int32) (x2 : Int32) (M : mm_M) {y : ((Int32) × mm_M)} (Q : Option Value → ak_H → Prop), md_noneMany_l4 n x1 x2 M = some y → (Ev Z (d + 0) 225 35 [none, some (.int y.1), none] [] (mm_H y.2) Q) → Ev Z (d + 0) 225 4 [some (.ref 73), some (.int x1), some (.int x2)] [] (mm_H M) Q := by
  intro n
  induction n with
  | zero => intro x1 x2 M y Q hf; cases hf
  | succ n ih =>
    intro x1 x2 M y Q hf hq
    rw [md_noneMany_l4] at hf
    refine e_iload_n hm_225 rfl rfl ?_
    refine e_aload_n hm_225 rfl rfl ?_
    refine e_getI hm_225 rfl rfl rfl ?_
    by_cases hc1 : x2 < (M.1 73 11)
    · rw [if_pos hc1] at hf
      refine e_ic_f hm_225 rfl (cf_ge hc1) ?_
      refine e_iload_n hm_225 rfl rfl ?_
      refine e_aload_n hm_225 rfl rfl ?_
      refine e_getR hm_225 rfl rfl rfl rfl ?_
      refine e_iload_n hm_225 rfl rfl ?_
      obtain ⟨hi2, hf⟩ := mm_ite hf
      refine e_iald hm_225 rfl rfl hi2 ?_
      by_cases hc3 : (M.1 84 x2.toNatClampNeg) = (0 : Int32)
      · rw [if_pos hc3] at hf
        refine e_if_f hm_225 rfl (cf_ne hc3) ?_
        refine e_iconst hm_225 rfl kc_iconst_1 ?_
        refine e_goto (t := 27) hm_225 rfl rfl ?_
        refine e_iadd hm_225 rfl ?_
        refine e_istore_n (L2 := [some (.ref 73), some (.int (x1 + (1 : Int32))), some (.int x2)]) hm_225 rfl rfl ?_
        refine e_iinc (L2 := [some (.ref 73), some (.int (x1 + (1 : Int32))), some (.int (x2 + (1 : Int32)))]) hm_225 rfl kc_iinc_1 rfl rfl ?_
        refine e_goto (t := 4) hm_225 rfl rfl ?_
        exact e_forget (L' := [some (.ref 73), some (.int (x1 + (1 : Int32))), some (.int (x2 + (1 : Int32)))]) (lf_k (lf_k (lf_k lf_0))) (ih (x1 + (1 : Int32)) (x2 + (1 : Int32)) M Q hf hq)
      · rw [if_neg hc3] at hf
        refine e_if_t (t := 26) hm_225 rfl (ct_ne hc3) rfl ?_
        refine e_iconst hm_225 rfl kc_iconst_0 ?_
        refine e_iadd hm_225 rfl ?_
        refine e_istore_n (L2 := [some (.ref 73), some (.int (x1 + (0 : Int32))), some (.int x2)]) hm_225 rfl rfl ?_
        refine e_iinc (L2 := [some (.ref 73), some (.int (x1 + (0 : Int32))), some (.int (x2 + (1 : Int32)))]) hm_225 rfl kc_iinc_1 rfl rfl ?_
        refine e_goto (t := 4) hm_225 rfl rfl ?_
        exact e_forget (L' := [some (.ref 73), some (.int (x1 + (0 : Int32))), some (.int (x2 + (1 : Int32)))]) (lf_k (lf_k (lf_k lf_0))) (ih (x1 + (0 : Int32)) (x2 + (1 : Int32)) M Q hf hq)
    · rw [if_neg hc1] at hf
      refine e_ic_t (t := 35) hm_225 rfl (ct_ge hc1) rfl ?_
      obtain rfl := Option.some.inj hf
      exact e_forget (L' := [none, some (.int x1), none]) (lf_d (lf_k (lf_d lf_0))) hq
def md_noneMany (M : mm_M) : Option (Int32 × mm_M) :=
  (md_noneMany_l4 300 (0 : Int32) (0 : Int32) M).bind fun y1 =>
  some (y1.1, y1.2)
set_option maxRecDepth 20000 in
set_option maxHeartbeats 4000000 in
theorem c_225 {Z : ak_Z} {d : Nat} (M : mm_M) {y : Int32 × mm_M} (hf : md_noneMany M = some y) {Q : Option Value → ak_H → Prop} (hq : Q (some (.int y.1)) (mm_H y.2)) : Ev Z (d + 0) 225 0 [some (.ref 73), none, none] [] (mm_H M) Q := by
  rw [md_noneMany] at hf
  refine e_iconst hm_225 rfl kc_iconst_0 ?_
  refine e_istore_n (L2 := [some (.ref 73), some (.int (0 : Int32)), none]) hm_225 rfl rfl ?_
  refine e_iconst hm_225 rfl kc_iconst_0 ?_
  refine e_istore_n (L2 := [some (.ref 73), some (.int (0 : Int32)), some (.int (0 : Int32))]) hm_225 rfl rfl ?_
  obtain ⟨y1, hky1, hf⟩ := mm_bd hf
  refine e_forget (L' := [some (.ref 73), some (.int (0 : Int32)), some (.int (0 : Int32))]) (lf_k (lf_k (lf_k lf_0))) (lc_225_4 (d := _) 300 (0 : Int32) (0 : Int32) M Q hky1 ?_)
  show Ev Z _ 225 35 [none, some (.int y1.1), none] [] (mm_H y1.2) Q
  refine e_iload_n hm_225 rfl rfl ?_
  obtain rfl := Option.some.inj hf
  exact e_iret hm_225 rfl rfl hq
def md_inTurn (a1 : Int32) (M : mm_M) : Option (Int32 × mm_M) :=
  (md_in a1.toInt64 (0 : Int64) (2 : Int64) M).bind fun y1 =>
  if y1.1 = (0 : Int32) then
    some ((-100000 : Int32), y1.2)
  else
    (md_turnsAll y1.2).bind fun y3 =>
    if a1 = (0 : Int32) then
      (md_digits y3.2).bind fun y5 =>
      some (y5.1, y5.2)
    else
      if a1 = (1 : Int32) then
        (md_allOf y3.2).bind fun y7 =>
        some (y7.1, y7.2)
      else
        (md_noneMany y3.2).bind fun y8 =>
        some (y8.1, y8.2)
set_option maxRecDepth 20000 in
set_option maxHeartbeats 4000000 in
theorem c_221 {Z : ak_Z} {d : Nat} (a1 : Int32) (M : mm_M) {y : Int32 × mm_M} (hf : md_inTurn a1 M = some y) {Q : Option Value → ak_H → Prop} (hq : Q (some (.int y.1)) (mm_H y.2)) : Ev Z (d + 71) 221 0 [some (.ref 73), some (.int a1)] [] (mm_H M) Q := by
  rw [md_inTurn] at hf
  refine e_iload_n hm_221 rfl rfl ?_
  refine e_i2l hm_221 rfl ?_
  refine e_lconst hm_221 rfl rfl ?_
  refine e_ldc2 hm_221 rfl kc_ldc2_2 ?_
  obtain ⟨y1, hky1, hf⟩ := mm_bd hf
  refine e_stat hm_221 rfl (by decide) rfl rfl (Nat.le_of_ble_eq_true rfl) hm_169 rfl rfl (c_169 a1.toInt64 (0 : Int64) (2 : Int64) M hky1 ?_)
  show Ev Z _ 221 9 [some (.ref 73), some (.int a1)] [.int y1.1] (mm_H y1.2) Q
  by_cases hc2 : y1.1 = (0 : Int32)
  · rw [if_pos hc2] at hf
    refine e_if_f hm_221 rfl (cf_ne hc2) ?_
    refine e_ldc_w hm_221 rfl kc_ldc_m100000 ?_
    obtain rfl := Option.some.inj hf
    exact e_iret hm_221 rfl rfl hq
  · rw [if_neg hc2] at hf
    refine e_if_t (t := 16) hm_221 rfl (ct_ne hc2) rfl ?_
    refine e_aload_n hm_221 rfl rfl ?_
    obtain ⟨y3, hky3, hf⟩ := mm_bd hf
    refine e_virt hm_221 rfl rfl rfl rfl (Nat.le_of_ble_eq_true rfl) hm_222 rfl rfl (c_222 y1.2 hky3 ?_)
    show Ev Z _ 221 20 [some (.ref 73), some (.int a1)] [] (mm_H y3.2) Q
    refine e_iload_n hm_221 rfl rfl ?_
    by_cases hc4 : a1 = (0 : Int32)
    · rw [if_pos hc4] at hf
      refine e_if_f hm_221 rfl (cf_ne hc4) ?_
      refine e_aload_n hm_221 rfl rfl ?_
      obtain ⟨y5, hky5, hf⟩ := mm_bd hf
      refine e_virt hm_221 rfl rfl rfl rfl (Nat.le_of_ble_eq_true rfl) hm_220 rfl rfl (c_220 y3.2 hky5 ?_)
      show Ev Z _ 221 28 [some (.ref 73), some (.int a1)] [.int y5.1] (mm_H y5.2) Q
      refine e_goto (t := 47) hm_221 rfl rfl ?_
      obtain rfl := Option.some.inj hf
      exact e_iret hm_221 rfl rfl hq
    · rw [if_neg hc4] at hf
      refine e_if_t (t := 31) hm_221 rfl (ct_ne hc4) rfl ?_
      refine e_iload_n hm_221 rfl rfl ?_
      refine e_iconst hm_221 rfl kc_iconst_1 ?_
      by_cases hc6 : a1 = (1 : Int32)
      · rw [if_pos hc6] at hf
        refine e_ic_f hm_221 rfl (cf_ne hc6) ?_
        refine e_aload_n hm_221 rfl rfl ?_
        obtain ⟨y7, hky7, hf⟩ := mm_bd hf
        refine e_virt hm_221 rfl rfl rfl rfl (Nat.le_of_ble_eq_true rfl) hm_215 rfl rfl (c_215 y3.2 hky7 ?_)
        show Ev Z _ 221 40 [some (.ref 73), some (.int a1)] [.int y7.1] (mm_H y7.2) Q
        refine e_goto (t := 47) hm_221 rfl rfl ?_
        obtain rfl := Option.some.inj hf
        exact e_iret hm_221 rfl rfl hq
      · rw [if_neg hc6] at hf
        refine e_ic_t (t := 43) hm_221 rfl (ct_ne hc6) rfl ?_
        refine e_aload_n hm_221 rfl rfl ?_
        obtain ⟨y8, hky8, hf⟩ := mm_bd hf
        refine e_virt hm_221 rfl rfl rfl rfl (Nat.le_of_ble_eq_true rfl) hm_225 rfl rfl (c_225 y3.2 hky8 ?_)
        show Ev Z _ 221 47 [some (.ref 73), some (.int a1)] [.int y8.1] (mm_H y8.2) Q
        obtain rfl := Option.some.inj hf
        exact e_iret hm_221 rfl rfl hq
def md_settle_l11 : Nat → Int32 → Int32 → mm_M → Option (((Unit) × mm_M))
  | 0, _, _, _ => none
  | n + 1, x1, x2, M =>
    if x2 < (M.1 73 11) then
      if ak_inb x2 4 = true then
      if ak_inb (((5 : Int32) * x2) + (4 : Int32)) 20 = true then
      md_settle_l11 n x1 (x2 + (1 : Int32)) (ak_up M.1 79 ((((5 : Int32) * x2) + (4 : Int32)).toNatClampNeg) ((M.1 84 x2.toNatClampNeg) - (1 : Int32)), M.2) else none else none
    else
      some ((), M)
set_option maxRecDepth 20000 in
set_option maxHeartbeats 4000000 in
theorem lc_226_11 {Z : ak_Z} {d : Nat} : ∀ (n : Nat) (x1 : Int32) (x2 : Int32) (M : mm_M) {y : ((Unit) × mm_M)} (Q : Option Value → ak_H → Prop), md_settle_l11 n x1 x2 M = some y → (Ev Z (d + 71) 226 43 [none, some (.int x1), none] [] (mm_H y.2) Q) → Ev Z (d + 71) 226 11 [some (.ref 73), some (.int x1), some (.int x2)] [] (mm_H M) Q := by
  intro n
  induction n with
  | zero => intro x1 x2 M y Q hf; cases hf
  | succ n ih =>
    intro x1 x2 M y Q hf hq
    rw [md_settle_l11] at hf
    refine e_iload_n hm_226 rfl rfl ?_
    refine e_aload_n hm_226 rfl rfl ?_
    refine e_getI hm_226 rfl rfl rfl ?_
    by_cases hc1 : x2 < (M.1 73 11)
    · rw [if_pos hc1] at hf
      refine e_ic_f hm_226 rfl (cf_ge hc1) ?_
      refine e_aload_n hm_226 rfl rfl ?_
      refine e_getR hm_226 rfl rfl rfl rfl ?_
      refine e_iconst hm_226 rfl kc_iconst_5 ?_
      refine e_iload_n hm_226 rfl rfl ?_
      refine e_imul hm_226 rfl ?_
      refine e_iconst hm_226 rfl kc_iconst_4 ?_
      refine e_iadd hm_226 rfl ?_
      refine e_aload_n hm_226 rfl rfl ?_
      refine e_getR hm_226 rfl rfl rfl rfl ?_
      refine e_iload_n hm_226 rfl rfl ?_
      obtain ⟨hi2, hf⟩ := mm_ite hf
      refine e_iald hm_226 rfl rfl hi2 ?_
      refine e_iconst hm_226 rfl kc_iconst_1 ?_
      refine e_isub hm_226 rfl ?_
      obtain ⟨hi3, hf⟩ := mm_ite hf
      refine e_iast hm_226 rfl rfl hi3 ?_
      refine e_iinc (L2 := [some (.ref 73), some (.int x1), some (.int (x2 + (1 : Int32)))]) hm_226 rfl kc_iinc_1 rfl rfl ?_
      refine e_goto (t := 11) hm_226 rfl rfl ?_
      exact e_forget (L' := [some (.ref 73), some (.int x1), some (.int (x2 + (1 : Int32)))]) (lf_k (lf_k (lf_k lf_0))) (ih x1 (x2 + (1 : Int32)) (ak_up M.1 79 ((((5 : Int32) * x2) + (4 : Int32)).toNatClampNeg) ((M.1 84 x2.toNatClampNeg) - (1 : Int32)), M.2) Q hf hq)
    · rw [if_neg hc1] at hf
      refine e_ic_t (t := 43) hm_226 rfl (ct_ge hc1) rfl ?_
      obtain rfl := Option.some.inj hf
      exact e_forget (L' := [none, some (.int x1), none]) (lf_d (lf_k (lf_d lf_0))) hq
def md_settle (M : mm_M) : Option (Int32 × mm_M) :=
  (md_turnsAll M).bind fun y1 =>
  (md_allOf y1.2).bind fun y2 =>
  (md_settle_l11 300 y2.1 (0 : Int32) y2.2).bind fun y3 =>
  some (y2.1, y3.2)
set_option maxRecDepth 20000 in
set_option maxHeartbeats 4000000 in
theorem c_226 {Z : ak_Z} {d : Nat} (M : mm_M) {y : Int32 × mm_M} (hf : md_settle M = some y) {Q : Option Value → ak_H → Prop} (hq : Q (some (.int y.1)) (mm_H y.2)) : Ev Z (d + 71) 226 0 [some (.ref 73), none, none] [] (mm_H M) Q := by
  rw [md_settle] at hf
  refine e_aload_n hm_226 rfl rfl ?_
  obtain ⟨y1, hky1, hf⟩ := mm_bd hf
  refine e_virt hm_226 rfl rfl rfl rfl (Nat.le_of_ble_eq_true rfl) hm_222 rfl rfl (c_222 M hky1 ?_)
  show Ev Z _ 226 4 [some (.ref 73), none, none] [] (mm_H y1.2) Q
  refine e_aload_n hm_226 rfl rfl ?_
  obtain ⟨y2, hky2, hf⟩ := mm_bd hf
  refine e_virt hm_226 rfl rfl rfl rfl (Nat.le_of_ble_eq_true rfl) hm_215 rfl rfl (c_215 y1.2 hky2 ?_)
  show Ev Z _ 226 8 [some (.ref 73), none, none] [.int y2.1] (mm_H y2.2) Q
  refine e_istore_n (L2 := [some (.ref 73), some (.int y2.1), none]) hm_226 rfl rfl ?_
  refine e_iconst hm_226 rfl kc_iconst_0 ?_
  refine e_istore_n (L2 := [some (.ref 73), some (.int y2.1), some (.int (0 : Int32))]) hm_226 rfl rfl ?_
  obtain ⟨y3, hky3, hf⟩ := mm_bd hf
  refine e_forget (L' := [some (.ref 73), some (.int y2.1), some (.int (0 : Int32))]) (lf_k (lf_k (lf_k lf_0))) (lc_226_11 (d := _) 300 y2.1 (0 : Int32) y2.2 Q hky3 ?_)
  show Ev Z _ 226 43 [none, some (.int y2.1), none] [] (mm_H y3.2) Q
  refine e_iload_n hm_226 rfl rfl ?_
  obtain rfl := Option.some.inj hf
  exact e_iret hm_226 rfl rfl hq
def md_change_l47 : Nat → Int32 → Int32 → Int32 → Int32 → Int32 → mm_M → Option (((Int32 × Int32) × mm_M))
  | 0, _, _, _, _, _, _ => none
  | n + 1, x1, x2, x3, x4, x5, M =>
    if x5 < (M.1 73 11) then
      if ak_inb x4 4 = true then
      if ak_inb x5 4 = true then
      if ak_inb x4 4 = true then
      if ak_inb x5 4 = true then
      (md_holds (ak_up (ak_up M.1 84 x4.toNatClampNeg (M.1 84 x5.toNatClampNeg)) 84 x5.toNatClampNeg (M.1 84 x4.toNatClampNeg), M.2)).bind fun y6 =>
      if y6.1 = (0 : Int32) then
        if ak_inb x4 4 = true then
        if ak_inb x5 4 = true then
        md_change_l47 n x1 x2 x3 x4 (x5 + (1 : Int32)) (ak_up (ak_up y6.2.1 84 x4.toNatClampNeg (M.1 84 x4.toNatClampNeg)) 84 x5.toNatClampNeg (M.1 84 x5.toNatClampNeg), y6.2.2) else none else none
      else
        (md_allOf y6.2).bind fun y10 =>
        if x3 < y10.1 then
          (md_allOf y10.2).bind fun y12 =>
          if ak_inb x4 4 = true then
          if ak_inb x5 4 = true then
          md_change_l47 n x1 (((10 : Int32) * x4) + x5) y12.1 x4 (x5 + (1 : Int32)) (ak_up (ak_up y12.2.1 84 x4.toNatClampNeg (M.1 84 x4.toNatClampNeg)) 84 x5.toNatClampNeg (M.1 84 x5.toNatClampNeg), y12.2.2) else none else none
        else
          if ak_inb x4 4 = true then
          if ak_inb x5 4 = true then
          md_change_l47 n x1 x2 x3 x4 (x5 + (1 : Int32)) (ak_up (ak_up y10.2.1 84 x4.toNatClampNeg (M.1 84 x4.toNatClampNeg)) 84 x5.toNatClampNeg (M.1 84 x5.toNatClampNeg), y10.2.2) else none else none else none else none else none else none
    else
      some ((x2, x3), M)
set_option maxRecDepth 20000 in
set_option maxHeartbeats 4000000 in
theorem lc_227_47 {Z : ak_Z} {d : Nat} : ∀ (n : Nat) (x1 : Int32) (x2 : Int32) (x3 : Int32) (x4 : Int32) (x5 : Int32) (M : mm_M) {y : ((Int32 × Int32) × mm_M)} (Q : Option Value → ak_H → Prop), md_change_l47 n x1 x2 x3 x4 x5 M = some y → (Ev Z (d + 70) 227 145 [some (.ref 73), some (.int x1), some (.int y.1.1), some (.int y.1.2), some (.int x4), none, none, none] [] (mm_H y.2) Q) → Ev Z (d + 70) 227 47 [some (.ref 73), some (.int x1), some (.int x2), some (.int x3), some (.int x4), some (.int x5), none, none] [] (mm_H M) Q := by
  intro n
  induction n with
  | zero => intro x1 x2 x3 x4 x5 M y Q hf; cases hf
  | succ n ih =>
    intro x1 x2 x3 x4 x5 M y Q hf hq
    rw [md_change_l47] at hf
    refine e_iload hm_227 rfl rfl ?_
    refine e_aload_n hm_227 rfl rfl ?_
    refine e_getI hm_227 rfl rfl rfl ?_
    by_cases hc1 : x5 < (M.1 73 11)
    · rw [if_pos hc1] at hf
      refine e_ic_f hm_227 rfl (cf_ge hc1) ?_
      refine e_aload_n hm_227 rfl rfl ?_
      refine e_getR hm_227 rfl rfl rfl rfl ?_
      refine e_iload hm_227 rfl rfl ?_
      obtain ⟨hi2, hf⟩ := mm_ite hf
      refine e_iald hm_227 rfl rfl hi2 ?_
      refine e_istore (L2 := [some (.ref 73), some (.int x1), some (.int x2), some (.int x3), some (.int x4), some (.int x5), some (.int (M.1 84 x4.toNatClampNeg)), none]) hm_227 rfl rfl ?_
      refine e_aload_n hm_227 rfl rfl ?_
      refine e_getR hm_227 rfl rfl rfl rfl ?_
      refine e_iload hm_227 rfl rfl ?_
      obtain ⟨hi3, hf⟩ := mm_ite hf
      refine e_iald hm_227 rfl rfl hi3 ?_
      refine e_istore (L2 := [some (.ref 73), some (.int x1), some (.int x2), some (.int x3), some (.int x4), some (.int x5), some (.int (M.1 84 x4.toNatClampNeg)), some (.int (M.1 84 x5.toNatClampNeg))]) hm_227 rfl rfl ?_
      refine e_aload_n hm_227 rfl rfl ?_
      refine e_getR hm_227 rfl rfl rfl rfl ?_
      refine e_iload hm_227 rfl rfl ?_
      refine e_iload hm_227 rfl rfl ?_
      obtain ⟨hi4, hf⟩ := mm_ite hf
      refine e_iast hm_227 rfl rfl hi4 ?_
      refine e_aload_n hm_227 rfl rfl ?_
      refine e_getR hm_227 rfl rfl rfl rfl ?_
      refine e_iload hm_227 rfl rfl ?_
      refine e_iload hm_227 rfl rfl ?_
      obtain ⟨hi5, hf⟩ := mm_ite hf
      refine e_iast hm_227 rfl rfl hi5 ?_
      refine e_aload_n hm_227 rfl rfl ?_
      obtain ⟨y6, hky6, hf⟩ := mm_bd hf
      refine e_virt hm_227 rfl rfl rfl rfl (Nat.le_of_ble_eq_true rfl) hm_210 rfl rfl (c_210 (ak_up (ak_up M.1 84 x4.toNatClampNeg (M.1 84 x5.toNatClampNeg)) 84 x5.toNatClampNeg (M.1 84 x4.toNatClampNeg), M.2) hky6 ?_)
      show Ev Z _ 227 96 [some (.ref 73), some (.int x1), some (.int x2), some (.int x3), some (.int x4), some (.int x5), some (.int (M.1 84 x4.toNatClampNeg)), some (.int (M.1 84 x5.toNatClampNeg))] [.int y6.1] (mm_H y6.2) Q
      by_cases hc7 : y6.1 = (0 : Int32)
      · rw [if_pos hc7] at hf
        refine e_if_t (t := 121) hm_227 rfl (ct_eq hc7) rfl ?_
        refine e_aload_n hm_227 rfl rfl ?_
        refine e_getR hm_227 rfl rfl rfl rfl ?_
        refine e_iload hm_227 rfl rfl ?_
        refine e_iload hm_227 rfl rfl ?_
        obtain ⟨hi8, hf⟩ := mm_ite hf
        refine e_iast hm_227 rfl rfl hi8 ?_
        refine e_aload_n hm_227 rfl rfl ?_
        refine e_getR hm_227 rfl rfl rfl rfl ?_
        refine e_iload hm_227 rfl rfl ?_
        refine e_iload hm_227 rfl rfl ?_
        obtain ⟨hi9, hf⟩ := mm_ite hf
        refine e_iast hm_227 rfl rfl hi9 ?_
        refine e_iinc (L2 := [some (.ref 73), some (.int x1), some (.int x2), some (.int x3), some (.int x4), some (.int (x5 + (1 : Int32))), some (.int (M.1 84 x4.toNatClampNeg)), some (.int (M.1 84 x5.toNatClampNeg))]) hm_227 rfl kc_iinc_1 rfl rfl ?_
        refine e_goto (t := 47) hm_227 rfl rfl ?_
        exact e_forget (L' := [some (.ref 73), some (.int x1), some (.int x2), some (.int x3), some (.int x4), some (.int (x5 + (1 : Int32))), none, none]) (lf_k (lf_k (lf_k (lf_k (lf_k (lf_k (lf_d (lf_d lf_0)))))))) (ih x1 x2 x3 x4 (x5 + (1 : Int32)) (ak_up (ak_up y6.2.1 84 x4.toNatClampNeg (M.1 84 x4.toNatClampNeg)) 84 x5.toNatClampNeg (M.1 84 x5.toNatClampNeg), y6.2.2) Q hf hq)
      · rw [if_neg hc7] at hf
        refine e_if_f hm_227 rfl (cf_eq hc7) ?_
        refine e_aload_n hm_227 rfl rfl ?_
        obtain ⟨y10, hky10, hf⟩ := mm_bd hf
        refine e_virt hm_227 rfl rfl rfl rfl (Nat.le_of_ble_eq_true rfl) hm_215 rfl rfl (c_215 y6.2 hky10 ?_)
        show Ev Z _ 227 103 [some (.ref 73), some (.int x1), some (.int x2), some (.int x3), some (.int x4), some (.int x5), some (.int (M.1 84 x4.toNatClampNeg)), some (.int (M.1 84 x5.toNatClampNeg))] [.int y10.1] (mm_H y10.2) Q
        refine e_iload_n hm_227 rfl rfl ?_
        by_cases hc11 : x3 < y10.1
        · rw [if_pos hc11] at hf
          refine e_ic_f hm_227 rfl (cf_le hc11) ?_
          refine e_bipush hm_227 rfl kc_bipush_10 ?_
          refine e_iload hm_227 rfl rfl ?_
          refine e_imul hm_227 rfl ?_
          refine e_iload hm_227 rfl rfl ?_
          refine e_iadd hm_227 rfl ?_
          refine e_istore_n (L2 := [some (.ref 73), some (.int x1), some (.int (((10 : Int32) * x4) + x5)), some (.int x3), some (.int x4), some (.int x5), some (.int (M.1 84 x4.toNatClampNeg)), some (.int (M.1 84 x5.toNatClampNeg))]) hm_227 rfl rfl ?_
          refine e_aload_n hm_227 rfl rfl ?_
          obtain ⟨y12, hky12, hf⟩ := mm_bd hf
          refine e_virt hm_227 rfl rfl rfl rfl (Nat.le_of_ble_eq_true rfl) hm_215 rfl rfl (c_215 y10.2 hky12 ?_)
          show Ev Z _ 227 120 [some (.ref 73), some (.int x1), some (.int (((10 : Int32) * x4) + x5)), some (.int x3), some (.int x4), some (.int x5), some (.int (M.1 84 x4.toNatClampNeg)), some (.int (M.1 84 x5.toNatClampNeg))] [.int y12.1] (mm_H y12.2) Q
          refine e_istore_n (L2 := [some (.ref 73), some (.int x1), some (.int (((10 : Int32) * x4) + x5)), some (.int y12.1), some (.int x4), some (.int x5), some (.int (M.1 84 x4.toNatClampNeg)), some (.int (M.1 84 x5.toNatClampNeg))]) hm_227 rfl rfl ?_
          refine e_aload_n hm_227 rfl rfl ?_
          refine e_getR hm_227 rfl rfl rfl rfl ?_
          refine e_iload hm_227 rfl rfl ?_
          refine e_iload hm_227 rfl rfl ?_
          obtain ⟨hi13, hf⟩ := mm_ite hf
          refine e_iast hm_227 rfl rfl hi13 ?_
          refine e_aload_n hm_227 rfl rfl ?_
          refine e_getR hm_227 rfl rfl rfl rfl ?_
          refine e_iload hm_227 rfl rfl ?_
          refine e_iload hm_227 rfl rfl ?_
          obtain ⟨hi14, hf⟩ := mm_ite hf
          refine e_iast hm_227 rfl rfl hi14 ?_
          refine e_iinc (L2 := [some (.ref 73), some (.int x1), some (.int (((10 : Int32) * x4) + x5)), some (.int y12.1), some (.int x4), some (.int (x5 + (1 : Int32))), some (.int (M.1 84 x4.toNatClampNeg)), some (.int (M.1 84 x5.toNatClampNeg))]) hm_227 rfl kc_iinc_1 rfl rfl ?_
          refine e_goto (t := 47) hm_227 rfl rfl ?_
          exact e_forget (L' := [some (.ref 73), some (.int x1), some (.int (((10 : Int32) * x4) + x5)), some (.int y12.1), some (.int x4), some (.int (x5 + (1 : Int32))), none, none]) (lf_k (lf_k (lf_k (lf_k (lf_k (lf_k (lf_d (lf_d lf_0)))))))) (ih x1 (((10 : Int32) * x4) + x5) y12.1 x4 (x5 + (1 : Int32)) (ak_up (ak_up y12.2.1 84 x4.toNatClampNeg (M.1 84 x4.toNatClampNeg)) 84 x5.toNatClampNeg (M.1 84 x5.toNatClampNeg), y12.2.2) Q hf hq)
        · rw [if_neg hc11] at hf
          refine e_ic_t (t := 121) hm_227 rfl (ct_le hc11) rfl ?_
          refine e_aload_n hm_227 rfl rfl ?_
          refine e_getR hm_227 rfl rfl rfl rfl ?_
          refine e_iload hm_227 rfl rfl ?_
          refine e_iload hm_227 rfl rfl ?_
          obtain ⟨hi15, hf⟩ := mm_ite hf
          refine e_iast hm_227 rfl rfl hi15 ?_
          refine e_aload_n hm_227 rfl rfl ?_
          refine e_getR hm_227 rfl rfl rfl rfl ?_
          refine e_iload hm_227 rfl rfl ?_
          refine e_iload hm_227 rfl rfl ?_
          obtain ⟨hi16, hf⟩ := mm_ite hf
          refine e_iast hm_227 rfl rfl hi16 ?_
          refine e_iinc (L2 := [some (.ref 73), some (.int x1), some (.int x2), some (.int x3), some (.int x4), some (.int (x5 + (1 : Int32))), some (.int (M.1 84 x4.toNatClampNeg)), some (.int (M.1 84 x5.toNatClampNeg))]) hm_227 rfl kc_iinc_1 rfl rfl ?_
          refine e_goto (t := 47) hm_227 rfl rfl ?_
          exact e_forget (L' := [some (.ref 73), some (.int x1), some (.int x2), some (.int x3), some (.int x4), some (.int (x5 + (1 : Int32))), none, none]) (lf_k (lf_k (lf_k (lf_k (lf_k (lf_k (lf_d (lf_d lf_0)))))))) (ih x1 x2 x3 x4 (x5 + (1 : Int32)) (ak_up (ak_up y10.2.1 84 x4.toNatClampNeg (M.1 84 x4.toNatClampNeg)) 84 x5.toNatClampNeg (M.1 84 x5.toNatClampNeg), y10.2.2) Q hf hq)
    · rw [if_neg hc1] at hf
      refine e_ic_t (t := 145) hm_227 rfl (ct_ge hc1) rfl ?_
      obtain rfl := Option.some.inj hf
      exact e_forget (L' := [some (.ref 73), some (.int x1), some (.int x2), some (.int x3), some (.int x4), none, none, none]) (lf_k (lf_k (lf_k (lf_k (lf_k (lf_d (lf_k (lf_k lf_0)))))))) hq
def md_change_l32 : Nat → Int32 → Int32 → Int32 → Int32 → mm_M → Option (((Int32 × Int32) × mm_M))
  | 0, _, _, _, _, _ => none
  | n + 1, x1, x2, x3, x4, M =>
    if x4 < (M.1 73 11) then
      (md_change_l47 300 x1 x2 x3 x4 (x4 + (1 : Int32)) M).bind fun y2 =>
      md_change_l32 n x1 y2.1.1 y2.1.2 (x4 + (1 : Int32)) y2.2
    else
      some ((x2, x3), M)
set_option maxRecDepth 20000 in
set_option maxHeartbeats 4000000 in
theorem lc_227_32 {Z : ak_Z} {d : Nat} : ∀ (n : Nat) (x1 : Int32) (x2 : Int32) (x3 : Int32) (x4 : Int32) (M : mm_M) {y : ((Int32 × Int32) × mm_M)} (Q : Option Value → ak_H → Prop), md_change_l32 n x1 x2 x3 x4 M = some y → (Ev Z (d + 70) 227 151 [none, some (.int x1), some (.int y.1.1), some (.int y.1.2), none, none, none, none] [] (mm_H y.2) Q) → Ev Z (d + 70) 227 32 [some (.ref 73), some (.int x1), some (.int x2), some (.int x3), some (.int x4), none, none, none] [] (mm_H M) Q := by
  intro n
  induction n with
  | zero => intro x1 x2 x3 x4 M y Q hf; cases hf
  | succ n ih =>
    intro x1 x2 x3 x4 M y Q hf hq
    rw [md_change_l32] at hf
    refine e_iload hm_227 rfl rfl ?_
    refine e_aload_n hm_227 rfl rfl ?_
    refine e_getI hm_227 rfl rfl rfl ?_
    by_cases hc1 : x4 < (M.1 73 11)
    · rw [if_pos hc1] at hf
      refine e_ic_f hm_227 rfl (cf_ge hc1) ?_
      refine e_iload hm_227 rfl rfl ?_
      refine e_iconst hm_227 rfl kc_iconst_1 ?_
      refine e_iadd hm_227 rfl ?_
      refine e_istore (L2 := [some (.ref 73), some (.int x1), some (.int x2), some (.int x3), some (.int x4), some (.int (x4 + (1 : Int32))), none, none]) hm_227 rfl rfl ?_
      obtain ⟨y2, hky2, hf⟩ := mm_bd hf
      refine e_forget (L' := [some (.ref 73), some (.int x1), some (.int x2), some (.int x3), some (.int x4), some (.int (x4 + (1 : Int32))), none, none]) (lf_k (lf_k (lf_k (lf_k (lf_k (lf_k (lf_k (lf_k lf_0)))))))) (lc_227_47 (d := _) 300 x1 x2 x3 x4 (x4 + (1 : Int32)) M Q hky2 ?_)
      show Ev Z _ 227 145 [some (.ref 73), some (.int x1), some (.int y2.1.1), some (.int y2.1.2), some (.int x4), none, none, none] [] (mm_H y2.2) Q
      refine e_iinc (L2 := [some (.ref 73), some (.int x1), some (.int y2.1.1), some (.int y2.1.2), some (.int (x4 + (1 : Int32))), none, none, none]) hm_227 rfl kc_iinc_1 rfl rfl ?_
      refine e_goto (t := 32) hm_227 rfl rfl ?_
      exact e_forget (L' := [some (.ref 73), some (.int x1), some (.int y2.1.1), some (.int y2.1.2), some (.int (x4 + (1 : Int32))), none, none, none]) (lf_k (lf_k (lf_k (lf_k (lf_k (lf_k (lf_k (lf_k lf_0)))))))) (ih x1 y2.1.1 y2.1.2 (x4 + (1 : Int32)) y2.2 Q hf hq)
    · rw [if_neg hc1] at hf
      refine e_ic_t (t := 151) hm_227 rfl (ct_ge hc1) rfl ?_
      obtain rfl := Option.some.inj hf
      exact e_forget (L' := [none, some (.int x1), some (.int x2), some (.int x3), none, none, none, none]) (lf_d (lf_k (lf_k (lf_k (lf_d (lf_k (lf_k (lf_k lf_0)))))))) hq
def md_change (a1 : Int32) (M : mm_M) : Option (Int32 × mm_M) :=
  (md_in a1.toInt64 (0 : Int64) (1 : Int64) M).bind fun y1 =>
  if y1.1 = (0 : Int32) then
    some ((-100000 : Int32), y1.2)
  else
    (md_tables y1.2).bind fun y3 =>
    (md_booked y3.2).bind fun y4 =>
    (md_allOf y4.2).bind fun y5 =>
    (md_change_l32 300 a1 (-1 : Int32) y5.1 (0 : Int32) y5.2).bind fun y6 =>
    if a1 = (0 : Int32) then
      some (y6.1.1, y6.2)
    else
      some (y6.1.2, y6.2)
set_option maxRecDepth 20000 in
set_option maxHeartbeats 4000000 in
theorem c_227 {Z : ak_Z} {d : Nat} (a1 : Int32) (M : mm_M) {y : Int32 × mm_M} (hf : md_change a1 M = some y) {Q : Option Value → ak_H → Prop} (hq : Q (some (.int y.1)) (mm_H y.2)) : Ev Z (d + 70) 227 0 [some (.ref 73), some (.int a1), none, none, none, none, none, none] [] (mm_H M) Q := by
  rw [md_change] at hf
  refine e_iload_n hm_227 rfl rfl ?_
  refine e_i2l hm_227 rfl ?_
  refine e_lconst hm_227 rfl rfl ?_
  refine e_lconst hm_227 rfl rfl ?_
  obtain ⟨y1, hky1, hf⟩ := mm_bd hf
  refine e_stat hm_227 rfl (by decide) rfl rfl (Nat.le_of_ble_eq_true rfl) hm_169 rfl rfl (c_169 a1.toInt64 (0 : Int64) (1 : Int64) M hky1 ?_)
  show Ev Z _ 227 7 [some (.ref 73), some (.int a1), none, none, none, none, none, none] [.int y1.1] (mm_H y1.2) Q
  by_cases hc2 : y1.1 = (0 : Int32)
  · rw [if_pos hc2] at hf
    refine e_if_f hm_227 rfl (cf_ne hc2) ?_
    refine e_ldc_w hm_227 rfl kc_ldc_m100000 ?_
    obtain rfl := Option.some.inj hf
    exact e_iret hm_227 rfl rfl hq
  · rw [if_neg hc2] at hf
    refine e_if_t (t := 14) hm_227 rfl (ct_ne hc2) rfl ?_
    refine e_aload_n hm_227 rfl rfl ?_
    obtain ⟨y3, hky3, hf⟩ := mm_bd hf
    refine e_virt hm_227 rfl rfl rfl rfl (Nat.le_of_ble_eq_true rfl) hm_208 rfl rfl (c_208 y1.2 hky3 ?_)
    show Ev Z _ 227 18 [some (.ref 73), some (.int a1), none, none, none, none, none, none] [] (mm_H y3.2) Q
    refine e_aload_n hm_227 rfl rfl ?_
    obtain ⟨y4, hky4, hf⟩ := mm_bd hf
    refine e_virt hm_227 rfl rfl rfl rfl (Nat.le_of_ble_eq_true rfl) hm_209 rfl rfl (c_209 y3.2 hky4 ?_)
    show Ev Z _ 227 22 [some (.ref 73), some (.int a1), none, none, none, none, none, none] [] (mm_H y4.2) Q
    refine e_iconst hm_227 rfl kc_iconst_m1 ?_
    refine e_istore_n (L2 := [some (.ref 73), some (.int a1), some (.int (-1 : Int32)), none, none, none, none, none]) hm_227 rfl rfl ?_
    refine e_aload_n hm_227 rfl rfl ?_
    obtain ⟨y5, hky5, hf⟩ := mm_bd hf
    refine e_virt hm_227 rfl rfl rfl rfl (Nat.le_of_ble_eq_true rfl) hm_215 rfl rfl (c_215 y4.2 hky5 ?_)
    show Ev Z _ 227 28 [some (.ref 73), some (.int a1), some (.int (-1 : Int32)), none, none, none, none, none] [.int y5.1] (mm_H y5.2) Q
    refine e_istore_n (L2 := [some (.ref 73), some (.int a1), some (.int (-1 : Int32)), some (.int y5.1), none, none, none, none]) hm_227 rfl rfl ?_
    refine e_iconst hm_227 rfl kc_iconst_0 ?_
    refine e_istore (L2 := [some (.ref 73), some (.int a1), some (.int (-1 : Int32)), some (.int y5.1), some (.int (0 : Int32)), none, none, none]) hm_227 rfl rfl ?_
    obtain ⟨y6, hky6, hf⟩ := mm_bd hf
    refine e_forget (L' := [some (.ref 73), some (.int a1), some (.int (-1 : Int32)), some (.int y5.1), some (.int (0 : Int32)), none, none, none]) (lf_k (lf_k (lf_k (lf_k (lf_k (lf_k (lf_k (lf_k lf_0)))))))) (lc_227_32 (d := _) 300 a1 (-1 : Int32) y5.1 (0 : Int32) y5.2 Q hky6 ?_)
    show Ev Z _ 227 151 [none, some (.int a1), some (.int y6.1.1), some (.int y6.1.2), none, none, none, none] [] (mm_H y6.2) Q
    refine e_iload_n hm_227 rfl rfl ?_
    by_cases hc7 : a1 = (0 : Int32)
    · rw [if_pos hc7] at hf
      refine e_if_f hm_227 rfl (cf_ne hc7) ?_
      refine e_iload_n hm_227 rfl rfl ?_
      refine e_goto (t := 160) hm_227 rfl rfl ?_
      obtain rfl := Option.some.inj hf
      exact e_iret hm_227 rfl rfl hq
    · rw [if_neg hc7] at hf
      refine e_if_t (t := 159) hm_227 rfl (ct_ne hc7) rfl ?_
      refine e_iload_n hm_227 rfl rfl ?_
      obtain rfl := Option.some.inj hf
      exact e_iret hm_227 rfl rfl hq
