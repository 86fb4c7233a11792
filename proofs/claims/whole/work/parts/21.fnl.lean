/-! printed: the functions of the methods, and that the small machine does them -/
def md_set (a1 : Int32) (a2 : Int32) (a3 : Int32) (M : mm_M) : Option (Int32 × mm_M) :=
  (md_in a1.toInt64 (0 : Int64) (6 : Int64) M).bind fun y1 =>
  if y1.1 = (0 : Int32) then
    some ((-2 : Int32), y1.2)
  else
    if (2 : Int32) < a1 then
      (md_isOne a2 y1.2).bind fun y4 =>
      if y4.1 = (0 : Int32) then
        some ((-2 : Int32), y4.2)
      else
        if a1 = (4 : Int32) then
          (md_mostOf a1 y4.2).bind fun y7 =>
          (md_in a3.toInt64 (1 : Int64) y7.1.toInt64 y7.2).bind fun y8 =>
          if y8.1 = (0 : Int32) then
            some ((-2 : Int32), y8.2)
          else
            (md_told a2 a1 y8.2).bind fun y10 =>
            (md_lays a1 a2 a3 y10.2).bind fun y11 =>
            some (y10.1, y11.2)
        else
          (md_mostOf a1 y4.2).bind fun y12 =>
          (md_in a3.toInt64 (0 : Int64) y12.1.toInt64 y12.2).bind fun y13 =>
          if y13.1 = (0 : Int32) then
            some ((-2 : Int32), y13.2)
          else
            (md_told a2 a1 y13.2).bind fun y15 =>
            (md_lays a1 a2 a3 y15.2).bind fun y16 =>
            some (y15.1, y16.2)
    else
      if a1 = (4 : Int32) then
        (md_mostOf a1 y1.2).bind fun y18 =>
        (md_in a3.toInt64 (1 : Int64) y18.1.toInt64 y18.2).bind fun y19 =>
        if y19.1 = (0 : Int32) then
          some ((-2 : Int32), y19.2)
        else
          (md_told a2 a1 y19.2).bind fun y21 =>
          (md_lays a1 a2 a3 y21.2).bind fun y22 =>
          some (y21.1, y22.2)
      else
        (md_mostOf a1 y1.2).bind fun y23 =>
        (md_in a3.toInt64 (0 : Int64) y23.1.toInt64 y23.2).bind fun y24 =>
        if y24.1 = (0 : Int32) then
          some ((-2 : Int32), y24.2)
        else
          (md_told a2 a1 y24.2).bind fun y26 =>
          (md_lays a1 a2 a3 y26.2).bind fun y27 =>
          some (y26.1, y27.2)
set_option maxRecDepth 20000 in
set_option maxHeartbeats 4000000 in
theorem c_168 {Z : ak_Z} {d : Nat} (a1 : Int32) (a2 : Int32) (a3 : Int32) (M : mm_M) {y : Int32 × mm_M} (hf : md_set a1 a2 a3 M = some y) {Q : Option Value → ak_H → Prop} (hq : Q (some (.int y.1)) (mm_H y.2)) : Ev Z (d + 71) 168 0 [some (.ref 73), some (.int a1), some (.int a2), some (.int a3), none] [] (mm_H M) Q := by
  rw [md_set] at hf
  refine e_iload_n hm_168 rfl rfl ?_
  refine e_i2l hm_168 rfl ?_
  refine e_lconst hm_168 rfl rfl ?_
  refine e_ldc2 hm_168 rfl kc_ldc2_6 ?_
  obtain ⟨y1, hky1, hf⟩ := mm_bd hf
  refine e_stat hm_168 rfl (by decide) rfl rfl (Nat.le_of_ble_eq_true rfl) hm_169 rfl rfl (c_169 a1.toInt64 (0 : Int64) (6 : Int64) M hky1 ?_)
  show Ev Z _ 168 9 [some (.ref 73), some (.int a1), some (.int a2), some (.int a3), none] [.int y1.1] (mm_H y1.2) Q
  by_cases hc2 : y1.1 = (0 : Int32)
  · rw [if_pos hc2] at hf
    refine e_if_t (t := 48) hm_168 rfl (ct_eq hc2) rfl ?_
    refine e_bipush hm_168 rfl kc_bipush_m2 ?_
    obtain rfl := Option.some.inj hf
    exact e_iret hm_168 rfl rfl hq
  · rw [if_neg hc2] at hf
    refine e_if_f hm_168 rfl (cf_eq hc2) ?_
    refine e_iload_n hm_168 rfl rfl ?_
    refine e_iconst hm_168 rfl kc_iconst_2 ?_
    by_cases hc3 : (2 : Int32) < a1
    · rw [if_pos hc3] at hf
      refine e_ic_f hm_168 rfl (cf_le hc3) ?_
      refine e_aload_n hm_168 rfl rfl ?_
      refine e_iload_n hm_168 rfl rfl ?_
      obtain ⟨y4, hky4, hf⟩ := mm_bd hf
      refine e_virt hm_168 rfl rfl rfl rfl (Nat.le_of_ble_eq_true rfl) hm_170 rfl rfl (c_170 a2 y1.2 hky4 ?_)
      show Ev Z _ 168 22 [some (.ref 73), some (.int a1), some (.int a2), some (.int a3), none] [.int y4.1] (mm_H y4.2) Q
      by_cases hc5 : y4.1 = (0 : Int32)
      · rw [if_pos hc5] at hf
        refine e_if_t (t := 48) hm_168 rfl (ct_eq hc5) rfl ?_
        refine e_bipush hm_168 rfl kc_bipush_m2 ?_
        obtain rfl := Option.some.inj hf
        exact e_iret hm_168 rfl rfl hq
      · rw [if_neg hc5] at hf
        refine e_if_f hm_168 rfl (cf_eq hc5) ?_
        refine e_iload_n hm_168 rfl rfl ?_
        refine e_i2l hm_168 rfl ?_
        refine e_iload_n hm_168 rfl rfl ?_
        refine e_iconst hm_168 rfl kc_iconst_4 ?_
        by_cases hc6 : a1 = (4 : Int32)
        · rw [if_pos hc6] at hf
          refine e_ic_f hm_168 rfl (cf_ne hc6) ?_
          refine e_lconst hm_168 rfl rfl ?_
          refine e_goto (t := 37) hm_168 rfl rfl ?_
          refine e_iload_n hm_168 rfl rfl ?_
          obtain ⟨y7, hky7, hf⟩ := mm_bd hf
          refine e_stat hm_168 rfl (by decide) rfl rfl (Nat.le_of_ble_eq_true rfl) hm_171 rfl rfl (c_171 a1 y4.2 hky7 ?_)
          show Ev Z _ 168 41 [some (.ref 73), some (.int a1), some (.int a2), some (.int a3), none] [.int y7.1, .long (1 : Int64), .long a3.toInt64] (mm_H y7.2) Q
          refine e_i2l hm_168 rfl ?_
          obtain ⟨y8, hky8, hf⟩ := mm_bd hf
          refine e_stat hm_168 rfl (by decide) rfl rfl (Nat.le_of_ble_eq_true rfl) hm_169 rfl rfl (c_169 a3.toInt64 (1 : Int64) y7.1.toInt64 y7.2 hky8 ?_)
          show Ev Z _ 168 45 [some (.ref 73), some (.int a1), some (.int a2), some (.int a3), none] [.int y8.1] (mm_H y8.2) Q
          by_cases hc9 : y8.1 = (0 : Int32)
          · rw [if_pos hc9] at hf
            refine e_if_f hm_168 rfl (cf_ne hc9) ?_
            refine e_bipush hm_168 rfl kc_bipush_m2 ?_
            obtain rfl := Option.some.inj hf
            exact e_iret hm_168 rfl rfl hq
          · rw [if_neg hc9] at hf
            refine e_if_t (t := 51) hm_168 rfl (ct_ne hc9) rfl ?_
            refine e_aload_n hm_168 rfl rfl ?_
            refine e_iload_n hm_168 rfl rfl ?_
            refine e_iload_n hm_168 rfl rfl ?_
            obtain ⟨y10, hky10, hf⟩ := mm_bd hf
            refine e_virt hm_168 rfl rfl rfl rfl (Nat.le_of_ble_eq_true rfl) hm_172 rfl rfl (c_172 a2 a1 y8.2 hky10 ?_)
            show Ev Z _ 168 57 [some (.ref 73), some (.int a1), some (.int a2), some (.int a3), none] [.int y10.1] (mm_H y10.2) Q
            refine e_istore (L2 := [some (.ref 73), some (.int a1), some (.int a2), some (.int a3), some (.int y10.1)]) hm_168 rfl rfl ?_
            refine e_aload_n hm_168 rfl rfl ?_
            refine e_iload_n hm_168 rfl rfl ?_
            refine e_iload_n hm_168 rfl rfl ?_
            refine e_iload_n hm_168 rfl rfl ?_
            obtain ⟨y11, hky11, hf⟩ := mm_bd hf
            refine e_virt hm_168 rfl rfl rfl rfl (Nat.le_of_ble_eq_true rfl) hm_197 rfl rfl (c_197 a1 a2 a3 y10.2 hky11 ?_)
            show Ev Z _ 168 66 [some (.ref 73), some (.int a1), some (.int a2), some (.int a3), some (.int y10.1)] [] (mm_H y11.2) Q
            refine e_iload hm_168 rfl rfl ?_
            obtain rfl := Option.some.inj hf
            exact e_iret hm_168 rfl rfl hq
        · rw [if_neg hc6] at hf
          refine e_ic_t (t := 36) hm_168 rfl (ct_ne hc6) rfl ?_
          refine e_lconst hm_168 rfl rfl ?_
          refine e_iload_n hm_168 rfl rfl ?_
          obtain ⟨y12, hky12, hf⟩ := mm_bd hf
          refine e_stat hm_168 rfl (by decide) rfl rfl (Nat.le_of_ble_eq_true rfl) hm_171 rfl rfl (c_171 a1 y4.2 hky12 ?_)
          show Ev Z _ 168 41 [some (.ref 73), some (.int a1), some (.int a2), some (.int a3), none] [.int y12.1, .long (0 : Int64), .long a3.toInt64] (mm_H y12.2) Q
          refine e_i2l hm_168 rfl ?_
          obtain ⟨y13, hky13, hf⟩ := mm_bd hf
          refine e_stat hm_168 rfl (by decide) rfl rfl (Nat.le_of_ble_eq_true rfl) hm_169 rfl rfl (c_169 a3.toInt64 (0 : Int64) y12.1.toInt64 y12.2 hky13 ?_)
          show Ev Z _ 168 45 [some (.ref 73), some (.int a1), some (.int a2), some (.int a3), none] [.int y13.1] (mm_H y13.2) Q
          by_cases hc14 : y13.1 = (0 : Int32)
          · rw [if_pos hc14] at hf
            refine e_if_f hm_168 rfl (cf_ne hc14) ?_
            refine e_bipush hm_168 rfl kc_bipush_m2 ?_
            obtain rfl := Option.some.inj hf
            exact e_iret hm_168 rfl rfl hq
          · rw [if_neg hc14] at hf
            refine e_if_t (t := 51) hm_168 rfl (ct_ne hc14) rfl ?_
            refine e_aload_n hm_168 rfl rfl ?_
            refine e_iload_n hm_168 rfl rfl ?_
            refine e_iload_n hm_168 rfl rfl ?_
            obtain ⟨y15, hky15, hf⟩ := mm_bd hf
            refine e_virt hm_168 rfl rfl rfl rfl (Nat.le_of_ble_eq_true rfl) hm_172 rfl rfl (c_172 a2 a1 y13.2 hky15 ?_)
            show Ev Z _ 168 57 [some (.ref 73), some (.int a1), some (.int a2), some (.int a3), none] [.int y15.1] (mm_H y15.2) Q
            refine e_istore (L2 := [some (.ref 73), some (.int a1), some (.int a2), some (.int a3), some (.int y15.1)]) hm_168 rfl rfl ?_
            refine e_aload_n hm_168 rfl rfl ?_
            refine e_iload_n hm_168 rfl rfl ?_
            refine e_iload_n hm_168 rfl rfl ?_
            refine e_iload_n hm_168 rfl rfl ?_
            obtain ⟨y16, hky16, hf⟩ := mm_bd hf
            refine e_virt hm_168 rfl rfl rfl rfl (Nat.le_of_ble_eq_true rfl) hm_197 rfl rfl (c_197 a1 a2 a3 y15.2 hky16 ?_)
            show Ev Z _ 168 66 [some (.ref 73), some (.int a1), some (.int a2), some (.int a3), some (.int y15.1)] [] (mm_H y16.2) Q
            refine e_iload hm_168 rfl rfl ?_
            obtain rfl := Option.some.inj hf
            exact e_iret hm_168 rfl rfl hq
    · rw [if_neg hc3] at hf
      refine e_ic_t (t := 25) hm_168 rfl (ct_le hc3) rfl ?_
      refine e_iload_n hm_168 rfl rfl ?_
      refine e_i2l hm_168 rfl ?_
      refine e_iload_n hm_168 rfl rfl ?_
      refine e_iconst hm_168 rfl kc_iconst_4 ?_
      by_cases hc17 : a1 = (4 : Int32)
      · rw [if_pos hc17] at hf
        refine e_ic_f hm_168 rfl (cf_ne hc17) ?_
        refine e_lconst hm_168 rfl rfl ?_
        refine e_goto (t := 37) hm_168 rfl rfl ?_
        refine e_iload_n hm_168 rfl rfl ?_
        obtain ⟨y18, hky18, hf⟩ := mm_bd hf
        refine e_stat hm_168 rfl (by decide) rfl rfl (Nat.le_of_ble_eq_true rfl) hm_171 rfl rfl (c_171 a1 y1.2 hky18 ?_)
        show Ev Z _ 168 41 [some (.ref 73), some (.int a1), some (.int a2), some (.int a3), none] [.int y18.1, .long (1 : Int64), .long a3.toInt64] (mm_H y18.2) Q
        refine e_i2l hm_168 rfl ?_
        obtain ⟨y19, hky19, hf⟩ := mm_bd hf
        refine e_stat hm_168 rfl (by decide) rfl rfl (Nat.le_of_ble_eq_true rfl) hm_169 rfl rfl (c_169 a3.toInt64 (1 : Int64) y18.1.toInt64 y18.2 hky19 ?_)
        show Ev Z _ 168 45 [some (.ref 73), some (.int a1), some (.int a2), some (.int a3), none] [.int y19.1] (mm_H y19.2) Q
        by_cases hc20 : y19.1 = (0 : Int32)
        · rw [if_pos hc20] at hf
          refine e_if_f hm_168 rfl (cf_ne hc20) ?_
          refine e_bipush hm_168 rfl kc_bipush_m2 ?_
          obtain rfl := Option.some.inj hf
          exact e_iret hm_168 rfl rfl hq
        · rw [if_neg hc20] at hf
          refine e_if_t (t := 51) hm_168 rfl (ct_ne hc20) rfl ?_
          refine e_aload_n hm_168 rfl rfl ?_
          refine e_iload_n hm_168 rfl rfl ?_
          refine e_iload_n hm_168 rfl rfl ?_
          obtain ⟨y21, hky21, hf⟩ := mm_bd hf
          refine e_virt hm_168 rfl rfl rfl rfl (Nat.le_of_ble_eq_true rfl) hm_172 rfl rfl (c_172 a2 a1 y19.2 hky21 ?_)
          show Ev Z _ 168 57 [some (.ref 73), some (.int a1), some (.int a2), some (.int a3), none] [.int y21.1] (mm_H y21.2) Q
          refine e_istore (L2 := [some (.ref 73), some (.int a1), some (.int a2), some (.int a3), some (.int y21.1)]) hm_168 rfl rfl ?_
          refine e_aload_n hm_168 rfl rfl ?_
          refine e_iload_n hm_168 rfl rfl ?_
          refine e_iload_n hm_168 rfl rfl ?_
          refine e_iload_n hm_168 rfl rfl ?_
          obtain ⟨y22, hky22, hf⟩ := mm_bd hf
          refine e_virt hm_168 rfl rfl rfl rfl (Nat.le_of_ble_eq_true rfl) hm_197 rfl rfl (c_197 a1 a2 a3 y21.2 hky22 ?_)
          show Ev Z _ 168 66 [some (.ref 73), some (.int a1), some (.int a2), some (.int a3), some (.int y21.1)] [] (mm_H y22.2) Q
          refine e_iload hm_168 rfl rfl ?_
          obtain rfl := Option.some.inj hf
          exact e_iret hm_168 rfl rfl hq
      · rw [if_neg hc17] at hf
        refine e_ic_t (t := 36) hm_168 rfl (ct_ne hc17) rfl ?_
        refine e_lconst hm_168 rfl rfl ?_
        refine e_iload_n hm_168 rfl rfl ?_
        obtain ⟨y23, hky23, hf⟩ := mm_bd hf
        refine e_stat hm_168 rfl (by decide) rfl rfl (Nat.le_of_ble_eq_true rfl) hm_171 rfl rfl (c_171 a1 y1.2 hky23 ?_)
        show Ev Z _ 168 41 [some (.ref 73), some (.int a1), some (.int a2), some (.int a3), none] [.int y23.1, .long (0 : Int64), .long a3.toInt64] (mm_H y23.2) Q
        refine e_i2l hm_168 rfl ?_
        obtain ⟨y24, hky24, hf⟩ := mm_bd hf
        refine e_stat hm_168 rfl (by decide) rfl rfl (Nat.le_of_ble_eq_true rfl) hm_169 rfl rfl (c_169 a3.toInt64 (0 : Int64) y23.1.toInt64 y23.2 hky24 ?_)
        show Ev Z _ 168 45 [some (.ref 73), some (.int a1), some (.int a2), some (.int a3), none] [.int y24.1] (mm_H y24.2) Q
        by_cases hc25 : y24.1 = (0 : Int32)
        · rw [if_pos hc25] at hf
          refine e_if_f hm_168 rfl (cf_ne hc25) ?_
          refine e_bipush hm_168 rfl kc_bipush_m2 ?_
          obtain rfl := Option.some.inj hf
          exact e_iret hm_168 rfl rfl hq
        · rw [if_neg hc25] at hf
          refine e_if_t (t := 51) hm_168 rfl (ct_ne hc25) rfl ?_
          refine e_aload_n hm_168 rfl rfl ?_
          refine e_iload_n hm_168 rfl rfl ?_
          refine e_iload_n hm_168 rfl rfl ?_
          obtain ⟨y26, hky26, hf⟩ := mm_bd hf
          refine e_virt hm_168 rfl rfl rfl rfl (Nat.le_of_ble_eq_true rfl) hm_172 rfl rfl (c_172 a2 a1 y24.2 hky26 ?_)
          show Ev Z _ 168 57 [some (.ref 73), some (.int a1), some (.int a2), some (.int a3), none] [.int y26.1] (mm_H y26.2) Q
          refine e_istore (L2 := [some (.ref 73), some (.int a1), some (.int a2), some (.int a3), some (.int y26.1)]) hm_168 rfl rfl ?_
          refine e_aload_n hm_168 rfl rfl ?_
          refine e_iload_n hm_168 rfl rfl ?_
          refine e_iload_n hm_168 rfl rfl ?_
          refine e_iload_n hm_168 rfl rfl ?_
          obtain ⟨y27, hky27, hf⟩ := mm_bd hf
          refine e_virt hm_168 rfl rfl rfl rfl (Nat.le_of_ble_eq_true rfl) hm_197 rfl rfl (c_197 a1 a2 a3 y26.2 hky27 ?_)
          show Ev Z _ 168 66 [some (.ref 73), some (.int a1), some (.int a2), some (.int a3), some (.int y26.1)] [] (mm_H y27.2) Q
          refine e_iload hm_168 rfl rfl ?_
          obtain rfl := Option.some.inj hf
          exact e_iret hm_168 rfl rfl hq
def md_parts (a1 : Int32) (a2 : Int32) (a3 : Int32) (M : mm_M) : Option (Unit × mm_M) :=
  if ak_inb a1 4 = true then
  if ak_inb a1 4 = true then
  if ak_inb a2 4 = true then
  if ak_inb a2 4 = true then
  some ((), (ak_up (ak_up M.1 80 a1.toNatClampNeg (((M.1 80 a1.toNatClampNeg) &&& (((1 : Int32) <<< (a2 &&& 31)) ^^^ (-1 : Int32))) ||| (a3 <<< (a2 &&& 31)))) 80 a2.toNatClampNeg ((((ak_up M.1 80 a1.toNatClampNeg (((M.1 80 a1.toNatClampNeg) &&& (((1 : Int32) <<< (a2 &&& 31)) ^^^ (-1 : Int32))) ||| (a3 <<< (a2 &&& 31)))) 80 a2.toNatClampNeg) &&& (((1 : Int32) <<< (a1 &&& 31)) ^^^ (-1 : Int32))) ||| (a3 <<< (a1 &&& 31))), M.2)) else none else none else none else none
set_option maxRecDepth 20000 in
set_option maxHeartbeats 4000000 in
theorem c_199 {Z : ak_Z} {d : Nat} (a1 : Int32) (a2 : Int32) (a3 : Int32) (M : mm_M) {y : Unit × mm_M} (hf : md_parts a1 a2 a3 M = some y) {Q : Option Value → ak_H → Prop} (hq : Q none (mm_H y.2)) : Ev Z (d + 0) 199 0 [some (.ref 73), some (.int a1), some (.int a2), some (.int a3)] [] (mm_H M) Q := by
  rw [md_parts] at hf
  refine e_aload_n hm_199 rfl rfl ?_
  refine e_getR hm_199 rfl rfl rfl rfl ?_
  refine e_iload_n hm_199 rfl rfl ?_
  refine e_aload_n hm_199 rfl rfl ?_
  refine e_getR hm_199 rfl rfl rfl rfl ?_
  refine e_iload_n hm_199 rfl rfl ?_
  obtain ⟨hi1, hf⟩ := mm_ite hf
  refine e_iald hm_199 rfl rfl hi1 ?_
  refine e_iconst hm_199 rfl kc_iconst_1 ?_
  refine e_iload_n hm_199 rfl rfl ?_
  refine e_ishl hm_199 rfl ?_
  refine e_iconst hm_199 rfl kc_iconst_m1 ?_
  refine e_ixor hm_199 rfl ?_
  refine e_iand hm_199 rfl ?_
  refine e_iload_n hm_199 rfl rfl ?_
  refine e_iload_n hm_199 rfl rfl ?_
  refine e_ishl hm_199 rfl ?_
  refine e_ior hm_199 rfl ?_
  obtain ⟨hi2, hf⟩ := mm_ite hf
  refine e_iast hm_199 rfl rfl hi2 ?_
  refine e_aload_n hm_199 rfl rfl ?_
  refine e_getR hm_199 rfl rfl rfl rfl ?_
  refine e_iload_n hm_199 rfl rfl ?_
  refine e_aload_n hm_199 rfl rfl ?_
  refine e_getR hm_199 rfl rfl rfl rfl ?_
  refine e_iload_n hm_199 rfl rfl ?_
  obtain ⟨hi3, hf⟩ := mm_ite hf
  refine e_iald hm_199 rfl rfl hi3 ?_
  refine e_iconst hm_199 rfl kc_iconst_1 ?_
  refine e_iload_n hm_199 rfl rfl ?_
  refine e_ishl hm_199 rfl ?_
  refine e_iconst hm_199 rfl kc_iconst_m1 ?_
  refine e_ixor hm_199 rfl ?_
  refine e_iand hm_199 rfl ?_
  refine e_iload_n hm_199 rfl rfl ?_
  refine e_iload_n hm_199 rfl rfl ?_
  refine e_ishl hm_199 rfl ?_
  refine e_ior hm_199 rfl ?_
  obtain ⟨hi4, hf⟩ := mm_ite hf
  refine e_iast hm_199 rfl rfl hi4 ?_
  obtain rfl := Option.some.inj hf
  exact e_vret hm_199 rfl rfl hq
def md_clerk_l131 : Nat → Int32 → mm_M → Option (((Unit) × mm_M))
  | 0, _, _ => none
  | n + 1, x4, M =>
    if x4 < (4 : Int32) then
      (md_parts (M.1 73 11) x4 (0 : Int32) M).bind fun y2 =>
      md_clerk_l131 n (x4 + (1 : Int32)) y2.2
    else
      some ((), M)
set_option maxRecDepth 20000 in
set_option maxHeartbeats 4000000 in
theorem lc_198_131 {Z : ak_Z} {d : Nat} : ∀ (n : Nat) (x4 : Int32) (M : mm_M) {y : ((Unit) × mm_M)} (Q : Option Value → ak_H → Prop), md_clerk_l131 n x4 M = some y → (Ev Z (d + 1) 198 154 [some (.ref 73), none, none, none, none] [] (mm_H y.2) Q) → Ev Z (d + 1) 198 131 [some (.ref 73), none, none, none, some (.int x4)] [] (mm_H M) Q := by
  intro n
  induction n with
  | zero => intro x4 M y Q hf; cases hf
  | succ n ih =>
    intro x4 M y Q hf hq
    rw [md_clerk_l131] at hf
    refine e_iload hm_198 rfl rfl ?_
    refine e_iconst hm_198 rfl kc_iconst_4 ?_
    by_cases hc1 : x4 < (4 : Int32)
    · rw [if_pos hc1] at hf
      refine e_ic_f hm_198 rfl (cf_ge hc1) ?_
      refine e_aload_n hm_198 rfl rfl ?_
      refine e_aload_n hm_198 rfl rfl ?_
      refine e_getI hm_198 rfl rfl rfl ?_
      refine e_iload hm_198 rfl rfl ?_
      refine e_iconst hm_198 rfl kc_iconst_0 ?_
      obtain ⟨y2, hky2, hf⟩ := mm_bd hf
      refine e_virt hm_198 rfl rfl rfl rfl (Nat.le_of_ble_eq_true rfl) hm_199 rfl rfl (c_199 (M.1 73 11) x4 (0 : Int32) M hky2 ?_)
      show Ev Z _ 198 148 [some (.ref 73), none, none, none, some (.int x4)] [] (mm_H y2.2) Q
      refine e_iinc (L2 := [some (.ref 73), none, none, none, some (.int (x4 + (1 : Int32)))]) hm_198 rfl kc_iinc_1 rfl rfl ?_
      refine e_goto (t := 131) hm_198 rfl rfl ?_
      exact e_forget (L' := [some (.ref 73), none, none, none, some (.int (x4 + (1 : Int32)))]) (lf_k (lf_k (lf_k (lf_k (lf_k lf_0))))) (ih (x4 + (1 : Int32)) y2.2 Q hf hq)
    · rw [if_neg hc1] at hf
      refine e_ic_t (t := 154) hm_198 rfl (ct_ge hc1) rfl ?_
      obtain rfl := Option.some.inj hf
      exact e_forget (L' := [some (.ref 73), none, none, none, none]) (lf_k (lf_k (lf_k (lf_k (lf_d lf_0))))) hq
def md_clerk (a1 : Int32) (a2 : Int32) (a3 : Int32) (M : mm_M) : Option (Int32 × mm_M) :=
  (md_in a1.toInt64 (0 : Int64) (5 : Int64) M).bind fun y1 =>
  if y1.1 = (0 : Int32) then
    some ((-2 : Int32), y1.2)
  else
    (md_in a2.toInt64 (0 : Int64) (9 : Int64) y1.2).bind fun y3 =>
    if y3.1 = (0 : Int32) then
      some ((-2 : Int32), y3.2)
    else
      (md_in a3.toInt64 (1 : Int64) (4 : Int64) y3.2).bind fun y5 =>
      if y5.1 = (0 : Int32) then
        some ((-2 : Int32), y5.2)
      else
        if (y5.2.1 73 11) = (4 : Int32) then
          some ((-4 : Int32), y5.2)
        else
          if ak_inb (y5.2.1 73 11) 4 = true then
          if ak_inb ((5 : Int32) * ((ak_up y5.2.1 78 ((y5.2.1 73 11).toNatClampNeg) a1) 73 11)) 20 = true then
          if ak_inb (((5 : Int32) * ((ak_up (ak_up y5.2.1 78 ((y5.2.1 73 11).toNatClampNeg) a1) 79 (((5 : Int32) * ((ak_up y5.2.1 78 ((y5.2.1 73 11).toNatClampNeg) a1) 73 11)).toNatClampNeg) a2) 73 11)) + (1 : Int32)) 20 = true then
          if ak_inb (((5 : Int32) * ((ak_up (ak_up (ak_up y5.2.1 78 ((y5.2.1 73 11).toNatClampNeg) a1) 79 (((5 : Int32) * ((ak_up y5.2.1 78 ((y5.2.1 73 11).toNatClampNeg) a1) 73 11)).toNatClampNeg) a2) 79 ((((5 : Int32) * ((ak_up (ak_up y5.2.1 78 ((y5.2.1 73 11).toNatClampNeg) a1) 79 (((5 : Int32) * ((ak_up y5.2.1 78 ((y5.2.1 73 11).toNatClampNeg) a1) 73 11)).toNatClampNeg) a2) 73 11)) + (1 : Int32)).toNatClampNeg) a3) 73 11)) + (2 : Int32)) 20 = true then
          if ak_inb (((5 : Int32) * ((ak_up (ak_up (ak_up (ak_up y5.2.1 78 ((y5.2.1 73 11).toNatClampNeg) a1) 79 (((5 : Int32) * ((ak_up y5.2.1 78 ((y5.2.1 73 11).toNatClampNeg) a1) 73 11)).toNatClampNeg) a2) 79 ((((5 : Int32) * ((ak_up (ak_up y5.2.1 78 ((y5.2.1 73 11).toNatClampNeg) a1) 79 (((5 : Int32) * ((ak_up y5.2.1 78 ((y5.2.1 73 11).toNatClampNeg) a1) 73 11)).toNatClampNeg) a2) 73 11)) + (1 : Int32)).toNatClampNeg) a3) 79 ((((5 : Int32) * ((ak_up (ak_up (ak_up y5.2.1 78 ((y5.2.1 73 11).toNatClampNeg) a1) 79 (((5 : Int32) * ((ak_up y5.2.1 78 ((y5.2.1 73 11).toNatClampNeg) a1) 73 11)).toNatClampNeg) a2) 79 ((((5 : Int32) * ((ak_up (ak_up y5.2.1 78 ((y5.2.1 73 11).toNatClampNeg) a1) 79 (((5 : Int32) * ((ak_up y5.2.1 78 ((y5.2.1 73 11).toNatClampNeg) a1) 73 11)).toNatClampNeg) a2) 73 11)) + (1 : Int32)).toNatClampNeg) a3) 73 11)) + (2 : Int32)).toNatClampNeg) (0 : Int32)) 73 11)) + (3 : Int32)) 20 = true then
          if ak_inb (((5 : Int32) * ((ak_up (ak_up (ak_up (ak_up (ak_up y5.2.1 78 ((y5.2.1 73 11).toNatClampNeg) a1) 79 (((5 : Int32) * ((ak_up y5.2.1 78 ((y5.2.1 73 11).toNatClampNeg) a1) 73 11)).toNatClampNeg) a2) 79 ((((5 : Int32) * ((ak_up (ak_up y5.2.1 78 ((y5.2.1 73 11).toNatClampNeg) a1) 79 (((5 : Int32) * ((ak_up y5.2.1 78 ((y5.2.1 73 11).toNatClampNeg) a1) 73 11)).toNatClampNeg) a2) 73 11)) + (1 : Int32)).toNatClampNeg) a3) 79 ((((5 : Int32) * ((ak_up (ak_up (ak_up y5.2.1 78 ((y5.2.1 73 11).toNatClampNeg) a1) 79 (((5 : Int32) * ((ak_up y5.2.1 78 ((y5.2.1 73 11).toNatClampNeg) a1) 73 11)).toNatClampNeg) a2) 79 ((((5 : Int32) * ((ak_up (ak_up y5.2.1 78 ((y5.2.1 73 11).toNatClampNeg) a1) 79 (((5 : Int32) * ((ak_up y5.2.1 78 ((y5.2.1 73 11).toNatClampNeg) a1) 73 11)).toNatClampNeg) a2) 73 11)) + (1 : Int32)).toNatClampNeg) a3) 73 11)) + (2 : Int32)).toNatClampNeg) (0 : Int32)) 79 ((((5 : Int32) * ((ak_up (ak_up (ak_up (ak_up y5.2.1 78 ((y5.2.1 73 11).toNatClampNeg) a1) 79 (((5 : Int32) * ((ak_up y5.2.1 78 ((y5.2.1 73 11).toNatClampNeg) a1) 73 11)).toNatClampNeg) a2) 79 ((((5 : Int32) * ((ak_up (ak_up y5.2.1 78 ((y5.2.1 73 11).toNatClampNeg) a1) 79 (((5 : Int32) * ((ak_up y5.2.1 78 ((y5.2.1 73 11).toNatClampNeg) a1) 73 11)).toNatClampNeg) a2) 73 11)) + (1 : Int32)).toNatClampNeg) a3) 79 ((((5 : Int32) * ((ak_up (ak_up (ak_up y5.2.1 78 ((y5.2.1 73 11).toNatClampNeg) a1) 79 (((5 : Int32) * ((ak_up y5.2.1 78 ((y5.2.1 73 11).toNatClampNeg) a1) 73 11)).toNatClampNeg) a2) 79 ((((5 : Int32) * ((ak_up (ak_up y5.2.1 78 ((y5.2.1 73 11).toNatClampNeg) a1) 79 (((5 : Int32) * ((ak_up y5.2.1 78 ((y5.2.1 73 11).toNatClampNeg) a1) 73 11)).toNatClampNeg) a2) 73 11)) + (1 : Int32)).toNatClampNeg) a3) 73 11)) + (2 : Int32)).toNatClampNeg) (0 : Int32)) 73 11)) + (3 : Int32)).toNatClampNeg) (0 : Int32)) 73 11)) + (4 : Int32)) 20 = true then
          (md_clerk_l131 300 (0 : Int32) (ak_up (ak_up (ak_up (ak_up (ak_up (ak_up y5.2.1 78 ((y5.2.1 73 11).toNatClampNeg) a1) 79 (((5 : Int32) * ((ak_up y5.2.1 78 ((y5.2.1 73 11).toNatClampNeg) a1) 73 11)).toNatClampNeg) a2) 79 ((((5 : Int32) * ((ak_up (ak_up y5.2.1 78 ((y5.2.1 73 11).toNatClampNeg) a1) 79 (((5 : Int32) * ((ak_up y5.2.1 78 ((y5.2.1 73 11).toNatClampNeg) a1) 73 11)).toNatClampNeg) a2) 73 11)) + (1 : Int32)).toNatClampNeg) a3) 79 ((((5 : Int32) * ((ak_up (ak_up (ak_up y5.2.1 78 ((y5.2.1 73 11).toNatClampNeg) a1) 79 (((5 : Int32) * ((ak_up y5.2.1 78 ((y5.2.1 73 11).toNatClampNeg) a1) 73 11)).toNatClampNeg) a2) 79 ((((5 : Int32) * ((ak_up (ak_up y5.2.1 78 ((y5.2.1 73 11).toNatClampNeg) a1) 79 (((5 : Int32) * ((ak_up y5.2.1 78 ((y5.2.1 73 11).toNatClampNeg) a1) 73 11)).toNatClampNeg) a2) 73 11)) + (1 : Int32)).toNatClampNeg) a3) 73 11)) + (2 : Int32)).toNatClampNeg) (0 : Int32)) 79 ((((5 : Int32) * ((ak_up (ak_up (ak_up (ak_up y5.2.1 78 ((y5.2.1 73 11).toNatClampNeg) a1) 79 (((5 : Int32) * ((ak_up y5.2.1 78 ((y5.2.1 73 11).toNatClampNeg) a1) 73 11)).toNatClampNeg) a2) 79 ((((5 : Int32) * ((ak_up (ak_up y5.2.1 78 ((y5.2.1 73 11).toNatClampNeg) a1) 79 (((5 : Int32) * ((ak_up y5.2.1 78 ((y5.2.1 73 11).toNatClampNeg) a1) 73 11)).toNatClampNeg) a2) 73 11)) + (1 : Int32)).toNatClampNeg) a3) 79 ((((5 : Int32) * ((ak_up (ak_up (ak_up y5.2.1 78 ((y5.2.1 73 11).toNatClampNeg) a1) 79 (((5 : Int32) * ((ak_up y5.2.1 78 ((y5.2.1 73 11).toNatClampNeg) a1) 73 11)).toNatClampNeg) a2) 79 ((((5 : Int32) * ((ak_up (ak_up y5.2.1 78 ((y5.2.1 73 11).toNatClampNeg) a1) 79 (((5 : Int32) * ((ak_up y5.2.1 78 ((y5.2.1 73 11).toNatClampNeg) a1) 73 11)).toNatClampNeg) a2) 73 11)) + (1 : Int32)).toNatClampNeg) a3) 73 11)) + (2 : Int32)).toNatClampNeg) (0 : Int32)) 73 11)) + (3 : Int32)).toNatClampNeg) (0 : Int32)) 79 ((((5 : Int32) * ((ak_up (ak_up (ak_up (ak_up (ak_up y5.2.1 78 ((y5.2.1 73 11).toNatClampNeg) a1) 79 (((5 : Int32) * ((ak_up y5.2.1 78 ((y5.2.1 73 11).toNatClampNeg) a1) 73 11)).toNatClampNeg) a2) 79 ((((5 : Int32) * ((ak_up (ak_up y5.2.1 78 ((y5.2.1 73 11).toNatClampNeg) a1) 79 (((5 : Int32) * ((ak_up y5.2.1 78 ((y5.2.1 73 11).toNatClampNeg) a1) 73 11)).toNatClampNeg) a2) 73 11)) + (1 : Int32)).toNatClampNeg) a3) 79 ((((5 : Int32) * ((ak_up (ak_up (ak_up y5.2.1 78 ((y5.2.1 73 11).toNatClampNeg) a1) 79 (((5 : Int32) * ((ak_up y5.2.1 78 ((y5.2.1 73 11).toNatClampNeg) a1) 73 11)).toNatClampNeg) a2) 79 ((((5 : Int32) * ((ak_up (ak_up y5.2.1 78 ((y5.2.1 73 11).toNatClampNeg) a1) 79 (((5 : Int32) * ((ak_up y5.2.1 78 ((y5.2.1 73 11).toNatClampNeg) a1) 73 11)).toNatClampNeg) a2) 73 11)) + (1 : Int32)).toNatClampNeg) a3) 73 11)) + (2 : Int32)).toNatClampNeg) (0 : Int32)) 79 ((((5 : Int32) * ((ak_up (ak_up (ak_up (ak_up y5.2.1 78 ((y5.2.1 73 11).toNatClampNeg) a1) 79 (((5 : Int32) * ((ak_up y5.2.1 78 ((y5.2.1 73 11).toNatClampNeg) a1) 73 11)).toNatClampNeg) a2) 79 ((((5 : Int32) * ((ak_up (ak_up y5.2.1 78 ((y5.2.1 73 11).toNatClampNeg) a1) 79 (((5 : Int32) * ((ak_up y5.2.1 78 ((y5.2.1 73 11).toNatClampNeg) a1) 73 11)).toNatClampNeg) a2) 73 11)) + (1 : Int32)).toNatClampNeg) a3) 79 ((((5 : Int32) * ((ak_up (ak_up (ak_up y5.2.1 78 ((y5.2.1 73 11).toNatClampNeg) a1) 79 (((5 : Int32) * ((ak_up y5.2.1 78 ((y5.2.1 73 11).toNatClampNeg) a1) 73 11)).toNatClampNeg) a2) 79 ((((5 : Int32) * ((ak_up (ak_up y5.2.1 78 ((y5.2.1 73 11).toNatClampNeg) a1) 79 (((5 : Int32) * ((ak_up y5.2.1 78 ((y5.2.1 73 11).toNatClampNeg) a1) 73 11)).toNatClampNeg) a2) 73 11)) + (1 : Int32)).toNatClampNeg) a3) 73 11)) + (2 : Int32)).toNatClampNeg) (0 : Int32)) 73 11)) + (3 : Int32)).toNatClampNeg) (0 : Int32)) 73 11)) + (4 : Int32)).toNatClampNeg) (-1 : Int32), y5.2.2)).bind fun y14 =>
          some (((ak_up y14.2.1 73 11 ((y14.2.1 73 11) + (1 : Int32))) 73 11) - (1 : Int32), (ak_up y14.2.1 73 11 ((y14.2.1 73 11) + (1 : Int32)), y14.2.2)) else none else none else none else none else none else none
set_option maxRecDepth 20000 in
set_option maxHeartbeats 4000000 in
theorem c_198 {Z : ak_Z} {d : Nat} (a1 : Int32) (a2 : Int32) (a3 : Int32) (M : mm_M) {y : Int32 × mm_M} (hf : md_clerk a1 a2 a3 M = some y) {Q : Option Value → ak_H → Prop} (hq : Q (some (.int y.1)) (mm_H y.2)) : Ev Z (d + 1) 198 0 [some (.ref 73), some (.int a1), some (.int a2), some (.int a3), none] [] (mm_H M) Q := by
  rw [md_clerk] at hf
  refine e_iload_n hm_198 rfl rfl ?_
  refine e_i2l hm_198 rfl ?_
  refine e_lconst hm_198 rfl rfl ?_
  refine e_ldc2 hm_198 rfl kc_ldc2_5 ?_
  obtain ⟨y1, hky1, hf⟩ := mm_bd hf
  refine e_stat hm_198 rfl (by decide) rfl rfl (Nat.le_of_ble_eq_true rfl) hm_169 rfl rfl (c_169 a1.toInt64 (0 : Int64) (5 : Int64) M hky1 ?_)
  show Ev Z _ 198 9 [some (.ref 73), some (.int a1), some (.int a2), some (.int a3), none] [.int y1.1] (mm_H y1.2) Q
  by_cases hc2 : y1.1 = (0 : Int32)
  · rw [if_pos hc2] at hf
    refine e_if_t (t := 36) hm_198 rfl (ct_eq hc2) rfl ?_
    refine e_bipush hm_198 rfl kc_bipush_m2 ?_
    obtain rfl := Option.some.inj hf
    exact e_iret hm_198 rfl rfl hq
  · rw [if_neg hc2] at hf
    refine e_if_f hm_198 rfl (cf_eq hc2) ?_
    refine e_iload_n hm_198 rfl rfl ?_
    refine e_i2l hm_198 rfl ?_
    refine e_lconst hm_198 rfl rfl ?_
    refine e_ldc2 hm_198 rfl kc_ldc2_9 ?_
    obtain ⟨y3, hky3, hf⟩ := mm_bd hf
    refine e_stat hm_198 rfl (by decide) rfl rfl (Nat.le_of_ble_eq_true rfl) hm_169 rfl rfl (c_169 a2.toInt64 (0 : Int64) (9 : Int64) y1.2 hky3 ?_)
    show Ev Z _ 198 21 [some (.ref 73), some (.int a1), some (.int a2), some (.int a3), none] [.int y3.1] (mm_H y3.2) Q
    by_cases hc4 : y3.1 = (0 : Int32)
    · rw [if_pos hc4] at hf
      refine e_if_t (t := 36) hm_198 rfl (ct_eq hc4) rfl ?_
      refine e_bipush hm_198 rfl kc_bipush_m2 ?_
      obtain rfl := Option.some.inj hf
      exact e_iret hm_198 rfl rfl hq
    · rw [if_neg hc4] at hf
      refine e_if_f hm_198 rfl (cf_eq hc4) ?_
      refine e_iload_n hm_198 rfl rfl ?_
      refine e_i2l hm_198 rfl ?_
      refine e_lconst hm_198 rfl rfl ?_
      refine e_ldc2 hm_198 rfl kc_ldc2_4 ?_
      obtain ⟨y5, hky5, hf⟩ := mm_bd hf
      refine e_stat hm_198 rfl (by decide) rfl rfl (Nat.le_of_ble_eq_true rfl) hm_169 rfl rfl (c_169 a3.toInt64 (1 : Int64) (4 : Int64) y3.2 hky5 ?_)
      show Ev Z _ 198 33 [some (.ref 73), some (.int a1), some (.int a2), some (.int a3), none] [.int y5.1] (mm_H y5.2) Q
      by_cases hc6 : y5.1 = (0 : Int32)
      · rw [if_pos hc6] at hf
        refine e_if_f hm_198 rfl (cf_ne hc6) ?_
        refine e_bipush hm_198 rfl kc_bipush_m2 ?_
        obtain rfl := Option.some.inj hf
        exact e_iret hm_198 rfl rfl hq
      · rw [if_neg hc6] at hf
        refine e_if_t (t := 39) hm_198 rfl (ct_ne hc6) rfl ?_
        refine e_aload_n hm_198 rfl rfl ?_
        refine e_getI hm_198 rfl rfl rfl ?_
        refine e_iconst hm_198 rfl kc_iconst_4 ?_
        by_cases hc7 : (y5.2.1 73 11) = (4 : Int32)
        · rw [if_pos hc7] at hf
          refine e_ic_f hm_198 rfl (cf_ne hc7) ?_
          refine e_bipush hm_198 rfl kc_bipush_m4 ?_
          obtain rfl := Option.some.inj hf
          exact e_iret hm_198 rfl rfl hq
        · rw [if_neg hc7] at hf
          refine e_ic_t (t := 50) hm_198 rfl (ct_ne hc7) rfl ?_
          refine e_aload_n hm_198 rfl rfl ?_
          refine e_getR hm_198 rfl rfl rfl rfl ?_
          refine e_aload_n hm_198 rfl rfl ?_
          refine e_getI hm_198 rfl rfl rfl ?_
          refine e_iload_n hm_198 rfl rfl ?_
          obtain ⟨hi8, hf⟩ := mm_ite hf
          refine e_iast hm_198 rfl rfl hi8 ?_
          refine e_aload_n hm_198 rfl rfl ?_
          refine e_getR hm_198 rfl rfl rfl rfl ?_
          refine e_iconst hm_198 rfl kc_iconst_5 ?_
          refine e_aload_n hm_198 rfl rfl ?_
          refine e_getI hm_198 rfl rfl rfl ?_
          refine e_imul hm_198 rfl ?_
          refine e_iload_n hm_198 rfl rfl ?_
          obtain ⟨hi9, hf⟩ := mm_ite hf
          refine e_iast hm_198 rfl rfl hi9 ?_
          refine e_aload_n hm_198 rfl rfl ?_
          refine e_getR hm_198 rfl rfl rfl rfl ?_
          refine e_iconst hm_198 rfl kc_iconst_5 ?_
          refine e_aload_n hm_198 rfl rfl ?_
          refine e_getI hm_198 rfl rfl rfl ?_
          refine e_imul hm_198 rfl ?_
          refine e_iconst hm_198 rfl kc_iconst_1 ?_
          refine e_iadd hm_198 rfl ?_
          refine e_iload_n hm_198 rfl rfl ?_
          obtain ⟨hi10, hf⟩ := mm_ite hf
          refine e_iast hm_198 rfl rfl hi10 ?_
          refine e_aload_n hm_198 rfl rfl ?_
          refine e_getR hm_198 rfl rfl rfl rfl ?_
          refine e_iconst hm_198 rfl kc_iconst_5 ?_
          refine e_aload_n hm_198 rfl rfl ?_
          refine e_getI hm_198 rfl rfl rfl ?_
          refine e_imul hm_198 rfl ?_
          refine e_iconst hm_198 rfl kc_iconst_2 ?_
          refine e_iadd hm_198 rfl ?_
          refine e_iconst hm_198 rfl kc_iconst_0 ?_
          obtain ⟨hi11, hf⟩ := mm_ite hf
          refine e_iast hm_198 rfl rfl hi11 ?_
          refine e_aload_n hm_198 rfl rfl ?_
          refine e_getR hm_198 rfl rfl rfl rfl ?_
          refine e_iconst hm_198 rfl kc_iconst_5 ?_
          refine e_aload_n hm_198 rfl rfl ?_
          refine e_getI hm_198 rfl rfl rfl ?_
          refine e_imul hm_198 rfl ?_
          refine e_iconst hm_198 rfl kc_iconst_3 ?_
          refine e_iadd hm_198 rfl ?_
          refine e_iconst hm_198 rfl kc_iconst_0 ?_
          obtain ⟨hi12, hf⟩ := mm_ite hf
          refine e_iast hm_198 rfl rfl hi12 ?_
          refine e_aload_n hm_198 rfl rfl ?_
          refine e_getR hm_198 rfl rfl rfl rfl ?_
          refine e_iconst hm_198 rfl kc_iconst_5 ?_
          refine e_aload_n hm_198 rfl rfl ?_
          refine e_getI hm_198 rfl rfl rfl ?_
          refine e_imul hm_198 rfl ?_
          refine e_iconst hm_198 rfl kc_iconst_4 ?_
          refine e_iadd hm_198 rfl ?_
          refine e_iconst hm_198 rfl kc_iconst_m1 ?_
          obtain ⟨hi13, hf⟩ := mm_ite hf
          refine e_iast hm_198 rfl rfl hi13 ?_
          refine e_iconst hm_198 rfl kc_iconst_0 ?_
          refine e_istore (L2 := [some (.ref 73), some (.int a1), some (.int a2), some (.int a3), some (.int (0 : Int32))]) hm_198 rfl rfl ?_
          obtain ⟨y14, hky14, hf⟩ := mm_bd hf
          refine e_forget (L' := [some (.ref 73), none, none, none, some (.int (0 : Int32))]) (lf_k (lf_d (lf_d (lf_d (lf_k lf_0))))) (lc_198_131 (d := _) 300 (0 : Int32) (ak_up (ak_up (ak_up (ak_up (ak_up (ak_up y5.2.1 78 ((y5.2.1 73 11).toNatClampNeg) a1) 79 (((5 : Int32) * ((ak_up y5.2.1 78 ((y5.2.1 73 11).toNatClampNeg) a1) 73 11)).toNatClampNeg) a2) 79 ((((5 : Int32) * ((ak_up (ak_up y5.2.1 78 ((y5.2.1 73 11).toNatClampNeg) a1) 79 (((5 : Int32) * ((ak_up y5.2.1 78 ((y5.2.1 73 11).toNatClampNeg) a1) 73 11)).toNatClampNeg) a2) 73 11)) + (1 : Int32)).toNatClampNeg) a3) 79 ((((5 : Int32) * ((ak_up (ak_up (ak_up y5.2.1 78 ((y5.2.1 73 11).toNatClampNeg) a1) 79 (((5 : Int32) * ((ak_up y5.2.1 78 ((y5.2.1 73 11).toNatClampNeg) a1) 73 11)).toNatClampNeg) a2) 79 ((((5 : Int32) * ((ak_up (ak_up y5.2.1 78 ((y5.2.1 73 11).toNatClampNeg) a1) 79 (((5 : Int32) * ((ak_up y5.2.1 78 ((y5.2.1 73 11).toNatClampNeg) a1) 73 11)).toNatClampNeg) a2) 73 11)) + (1 : Int32)).toNatClampNeg) a3) 73 11)) + (2 : Int32)).toNatClampNeg) (0 : Int32)) 79 ((((5 : Int32) * ((ak_up (ak_up (ak_up (ak_up y5.2.1 78 ((y5.2.1 73 11).toNatClampNeg) a1) 79 (((5 : Int32) * ((ak_up y5.2.1 78 ((y5.2.1 73 11).toNatClampNeg) a1) 73 11)).toNatClampNeg) a2) 79 ((((5 : Int32) * ((ak_up (ak_up y5.2.1 78 ((y5.2.1 73 11).toNatClampNeg) a1) 79 (((5 : Int32) * ((ak_up y5.2.1 78 ((y5.2.1 73 11).toNatClampNeg) a1) 73 11)).toNatClampNeg) a2) 73 11)) + (1 : Int32)).toNatClampNeg) a3) 79 ((((5 : Int32) * ((ak_up (ak_up (ak_up y5.2.1 78 ((y5.2.1 73 11).toNatClampNeg) a1) 79 (((5 : Int32) * ((ak_up y5.2.1 78 ((y5.2.1 73 11).toNatClampNeg) a1) 73 11)).toNatClampNeg) a2) 79 ((((5 : Int32) * ((ak_up (ak_up y5.2.1 78 ((y5.2.1 73 11).toNatClampNeg) a1) 79 (((5 : Int32) * ((ak_up y5.2.1 78 ((y5.2.1 73 11).toNatClampNeg) a1) 73 11)).toNatClampNeg) a2) 73 11)) + (1 : Int32)).toNatClampNeg) a3) 73 11)) + (2 : Int32)).toNatClampNeg) (0 : Int32)) 73 11)) + (3 : Int32)).toNatClampNeg) (0 : Int32)) 79 ((((5 : Int32) * ((ak_up (ak_up (ak_up (ak_up (ak_up y5.2.1 78 ((y5.2.1 73 11).toNatClampNeg) a1) 79 (((5 : Int32) * ((ak_up y5.2.1 78 ((y5.2.1 73 11).toNatClampNeg) a1) 73 11)).toNatClampNeg) a2) 79 ((((5 : Int32) * ((ak_up (ak_up y5.2.1 78 ((y5.2.1 73 11).toNatClampNeg) a1) 79 (((5 : Int32) * ((ak_up y5.2.1 78 ((y5.2.1 73 11).toNatClampNeg) a1) 73 11)).toNatClampNeg) a2) 73 11)) + (1 : Int32)).toNatClampNeg) a3) 79 ((((5 : Int32) * ((ak_up (ak_up (ak_up y5.2.1 78 ((y5.2.1 73 11).toNatClampNeg) a1) 79 (((5 : Int32) * ((ak_up y5.2.1 78 ((y5.2.1 73 11).toNatClampNeg) a1) 73 11)).toNatClampNeg) a2) 79 ((((5 : Int32) * ((ak_up (ak_up y5.2.1 78 ((y5.2.1 73 11).toNatClampNeg) a1) 79 (((5 : Int32) * ((ak_up y5.2.1 78 ((y5.2.1 73 11).toNatClampNeg) a1) 73 11)).toNatClampNeg) a2) 73 11)) + (1 : Int32)).toNatClampNeg) a3) 73 11)) + (2 : Int32)).toNatClampNeg) (0 : Int32)) 79 ((((5 : Int32) * ((ak_up (ak_up (ak_up (ak_up y5.2.1 78 ((y5.2.1 73 11).toNatClampNeg) a1) 79 (((5 : Int32) * ((ak_up y5.2.1 78 ((y5.2.1 73 11).toNatClampNeg) a1) 73 11)).toNatClampNeg) a2) 79 ((((5 : Int32) * ((ak_up (ak_up y5.2.1 78 ((y5.2.1 73 11).toNatClampNeg) a1) 79 (((5 : Int32) * ((ak_up y5.2.1 78 ((y5.2.1 73 11).toNatClampNeg) a1) 73 11)).toNatClampNeg) a2) 73 11)) + (1 : Int32)).toNatClampNeg) a3) 79 ((((5 : Int32) * ((ak_up (ak_up (ak_up y5.2.1 78 ((y5.2.1 73 11).toNatClampNeg) a1) 79 (((5 : Int32) * ((ak_up y5.2.1 78 ((y5.2.1 73 11).toNatClampNeg) a1) 73 11)).toNatClampNeg) a2) 79 ((((5 : Int32) * ((ak_up (ak_up y5.2.1 78 ((y5.2.1 73 11).toNatClampNeg) a1) 79 (((5 : Int32) * ((ak_up y5.2.1 78 ((y5.2.1 73 11).toNatClampNeg) a1) 73 11)).toNatClampNeg) a2) 73 11)) + (1 : Int32)).toNatClampNeg) a3) 73 11)) + (2 : Int32)).toNatClampNeg) (0 : Int32)) 73 11)) + (3 : Int32)).toNatClampNeg) (0 : Int32)) 73 11)) + (4 : Int32)).toNatClampNeg) (-1 : Int32), y5.2.2) Q hky14 ?_)
          show Ev Z _ 198 154 [some (.ref 73), none, none, none, none] [] (mm_H y14.2) Q
          refine e_aload_n hm_198 rfl rfl ?_
          refine e_dupa hm_198 rfl ?_
          refine e_getI hm_198 rfl rfl rfl ?_
          refine e_iconst hm_198 rfl kc_iconst_1 ?_
          refine e_iadd hm_198 rfl ?_
          refine e_putI hm_198 rfl rfl rfl ?_
          refine e_aload_n hm_198 rfl rfl ?_
          refine e_getI hm_198 rfl rfl rfl ?_
          refine e_iconst hm_198 rfl kc_iconst_1 ?_
          refine e_isub hm_198 rfl ?_
          obtain rfl := Option.some.inj hf
          exact e_iret hm_198 rfl rfl hq
def md_apart (a1 : Int32) (a2 : Int32) (a3 : Int32) (M : mm_M) : Option (Int32 × mm_M) :=
  (md_isOne a1 M).bind fun y1 =>
  if y1.1 = (0 : Int32) then
    some ((-2 : Int32), y1.2)
  else
    (md_isOne a2 y1.2).bind fun y3 =>
    if y3.1 = (0 : Int32) then
      some ((-2 : Int32), y3.2)
    else
      if a1 = a2 then
        some ((-2 : Int32), y3.2)
      else
        (md_in a3.toInt64 (0 : Int64) (1 : Int64) y3.2).bind fun y6 =>
        if y6.1 = (0 : Int32) then
          some ((-2 : Int32), y6.2)
        else
          if ak_inb a1 4 = true then
          (md_parts a1 a2 a3 y6.2).bind fun y9 =>
          some (((y6.2.1 80 a1.toNatClampNeg) >>> (a2 &&& 31)) &&& (1 : Int32), y9.2) else none
set_option maxRecDepth 20000 in
set_option maxHeartbeats 4000000 in
theorem c_200 {Z : ak_Z} {d : Nat} (a1 : Int32) (a2 : Int32) (a3 : Int32) (M : mm_M) {y : Int32 × mm_M} (hf : md_apart a1 a2 a3 M = some y) {Q : Option Value → ak_H → Prop} (hq : Q (some (.int y.1)) (mm_H y.2)) : Ev Z (d + 2) 200 0 [some (.ref 73), some (.int a1), some (.int a2), some (.int a3), none] [] (mm_H M) Q := by
  rw [md_apart] at hf
  refine e_aload_n hm_200 rfl rfl ?_
  refine e_iload_n hm_200 rfl rfl ?_
  obtain ⟨y1, hky1, hf⟩ := mm_bd hf
  refine e_virt hm_200 rfl rfl rfl rfl (Nat.le_of_ble_eq_true rfl) hm_170 rfl rfl (c_170 a1 M hky1 ?_)
  show Ev Z _ 200 5 [some (.ref 73), some (.int a1), some (.int a2), some (.int a3), none] [.int y1.1] (mm_H y1.2) Q
  by_cases hc2 : y1.1 = (0 : Int32)
  · rw [if_pos hc2] at hf
    refine e_if_t (t := 31) hm_200 rfl (ct_eq hc2) rfl ?_
    refine e_bipush hm_200 rfl kc_bipush_m2 ?_
    obtain rfl := Option.some.inj hf
    exact e_iret hm_200 rfl rfl hq
  · rw [if_neg hc2] at hf
    refine e_if_f hm_200 rfl (cf_eq hc2) ?_
    refine e_aload_n hm_200 rfl rfl ?_
    refine e_iload_n hm_200 rfl rfl ?_
    obtain ⟨y3, hky3, hf⟩ := mm_bd hf
    refine e_virt hm_200 rfl rfl rfl rfl (Nat.le_of_ble_eq_true rfl) hm_170 rfl rfl (c_170 a2 y1.2 hky3 ?_)
    show Ev Z _ 200 13 [some (.ref 73), some (.int a1), some (.int a2), some (.int a3), none] [.int y3.1] (mm_H y3.2) Q
    by_cases hc4 : y3.1 = (0 : Int32)
    · rw [if_pos hc4] at hf
      refine e_if_t (t := 31) hm_200 rfl (ct_eq hc4) rfl ?_
      refine e_bipush hm_200 rfl kc_bipush_m2 ?_
      obtain rfl := Option.some.inj hf
      exact e_iret hm_200 rfl rfl hq
    · rw [if_neg hc4] at hf
      refine e_if_f hm_200 rfl (cf_eq hc4) ?_
      refine e_iload_n hm_200 rfl rfl ?_
      refine e_iload_n hm_200 rfl rfl ?_
      by_cases hc5 : a1 = a2
      · rw [if_pos hc5] at hf
        refine e_ic_t (t := 31) hm_200 rfl (ct_eq hc5) rfl ?_
        refine e_bipush hm_200 rfl kc_bipush_m2 ?_
        obtain rfl := Option.some.inj hf
        exact e_iret hm_200 rfl rfl hq
      · rw [if_neg hc5] at hf
        refine e_ic_f hm_200 rfl (cf_eq hc5) ?_
        refine e_iload_n hm_200 rfl rfl ?_
        refine e_i2l hm_200 rfl ?_
        refine e_lconst hm_200 rfl rfl ?_
        refine e_lconst hm_200 rfl rfl ?_
        obtain ⟨y6, hky6, hf⟩ := mm_bd hf
        refine e_stat hm_200 rfl (by decide) rfl rfl (Nat.le_of_ble_eq_true rfl) hm_169 rfl rfl (c_169 a3.toInt64 (0 : Int64) (1 : Int64) y3.2 hky6 ?_)
        show Ev Z _ 200 28 [some (.ref 73), some (.int a1), some (.int a2), some (.int a3), none] [.int y6.1] (mm_H y6.2) Q
        by_cases hc7 : y6.1 = (0 : Int32)
        · rw [if_pos hc7] at hf
          refine e_if_f hm_200 rfl (cf_ne hc7) ?_
          refine e_bipush hm_200 rfl kc_bipush_m2 ?_
          obtain rfl := Option.some.inj hf
          exact e_iret hm_200 rfl rfl hq
        · rw [if_neg hc7] at hf
          refine e_if_t (t := 34) hm_200 rfl (ct_ne hc7) rfl ?_
          refine e_aload_n hm_200 rfl rfl ?_
          refine e_getR hm_200 rfl rfl rfl rfl ?_
          refine e_iload_n hm_200 rfl rfl ?_
          obtain ⟨hi8, hf⟩ := mm_ite hf
          refine e_iald hm_200 rfl rfl hi8 ?_
          refine e_iload_n hm_200 rfl rfl ?_
          refine e_ishr hm_200 rfl ?_
          refine e_iconst hm_200 rfl kc_iconst_1 ?_
          refine e_iand hm_200 rfl ?_
          refine e_istore (L2 := [some (.ref 73), some (.int a1), some (.int a2), some (.int a3), some (.int (((y6.2.1 80 a1.toNatClampNeg) >>> (a2 &&& 31)) &&& (1 : Int32)))]) hm_200 rfl rfl ?_
          refine e_aload_n hm_200 rfl rfl ?_
          refine e_iload_n hm_200 rfl rfl ?_
          refine e_iload_n hm_200 rfl rfl ?_
          refine e_iload_n hm_200 rfl rfl ?_
          obtain ⟨y9, hky9, hf⟩ := mm_bd hf
          refine e_virt hm_200 rfl rfl rfl rfl (Nat.le_of_ble_eq_true rfl) hm_199 rfl rfl (c_199 a1 a2 a3 y6.2 hky9 ?_)
          show Ev Z _ 200 53 [some (.ref 73), some (.int a1), some (.int a2), some (.int a3), some (.int (((y6.2.1 80 a1.toNatClampNeg) >>> (a2 &&& 31)) &&& (1 : Int32)))] [] (mm_H y9.2) Q
          refine e_iload hm_200 rfl rfl ?_
          obtain rfl := Option.some.inj hf
          exact e_iret hm_200 rfl rfl hq
def md_isWeek (a1 : Int32) (M : mm_M) : Option (Int32 × mm_M) :=
  (md_in a1.toInt64 (0 : Int64) (7 : Int64) M).bind fun y1 =>
  if y1.1 = 0 ∨ y1.1 = 1 then some (y1.1, y1.2) else none
set_option maxRecDepth 20000 in
set_option maxHeartbeats 4000000 in
theorem c_202 {Z : ak_Z} {d : Nat} (a1 : Int32) (M : mm_M) {y : Int32 × mm_M} (hf : md_isWeek a1 M = some y) {Q : Option Value → ak_H → Prop} (hq : Q (some (.int y.1)) (mm_H y.2)) : Ev Z (d + 1) 202 0 [some (.int a1)] [] (mm_H M) Q := by
  rw [md_isWeek] at hf
  refine e_iload_n hm_202 rfl rfl ?_
  refine e_i2l hm_202 rfl ?_
  refine e_lconst hm_202 rfl rfl ?_
  refine e_ldc2 hm_202 rfl kc_ldc2_7 ?_
  obtain ⟨y1, hky1, hf⟩ := mm_bd hf
  refine e_stat hm_202 rfl (by decide) rfl rfl (Nat.le_of_ble_eq_true rfl) hm_169 rfl rfl (c_169 a1.toInt64 (0 : Int64) (7 : Int64) M hky1 ?_)
  show Ev Z _ 202 9 [some (.int a1)] [.int y1.1] (mm_H y1.2) Q
  obtain ⟨hb2, hf⟩ := mm_ite hf
  obtain rfl := Option.some.inj hf
  exact e_zret hm_202 rfl rfl hb2 hq
def md_canBe_l2 : Nat → Int32 → Int32 → Int32 → mm_M → Option ((Int32 × mm_M) ⊕ ((Unit) × mm_M))
  | 0, _, _, _, _ => none
  | n + 1, x1, x2, x3, M =>
    if x3 < (8 : Int32) then
      (md_weeksOf x1 x2 M).bind fun y2 =>
      if ((y2.1 >>> (x3 &&& 31)) &&& (1 : Int32)) = (1 : Int32) then
        (md_wants x1 x3 y2.2).bind fun y4 =>
        if y4.1 = (0 : Int32) then
          some (.inl ((0 : Int32), y4.2))
        else
          md_canBe_l2 n x1 x2 (x3 + (1 : Int32)) y4.2
      else
        md_canBe_l2 n x1 x2 (x3 + (1 : Int32)) y2.2
    else
      some (.inr ((), M))
set_option maxRecDepth 20000 in
set_option maxHeartbeats 4000000 in
theorem lc_203_2 {Z : ak_Z} {d : Nat} : ∀ (n : Nat) (x1 : Int32) (x2 : Int32) (x3 : Int32) (M : mm_M) {y : (Int32 × mm_M) ⊕ ((Unit) × mm_M)} (Q : Option Value → ak_H → Prop), md_canBe_l2 n x1 x2 x3 M = some y → (match y with | .inl yr => Q (some (.int yr.1)) (mm_H yr.2) | .inr yv => Ev Z (d + 68) 203 39 [none, none, none, none] [] (mm_H yv.2) Q) → Ev Z (d + 68) 203 2 [some (.ref 73), some (.int x1), some (.int x2), some (.int x3)] [] (mm_H M) Q := by
  intro n
  induction n with
  | zero => intro x1 x2 x3 M y Q hf; cases hf
  | succ n ih =>
    intro x1 x2 x3 M y Q hf hq
    rw [md_canBe_l2] at hf
    refine e_iload_n hm_203 rfl rfl ?_
    refine e_bipush hm_203 rfl kc_bipush_8 ?_
    by_cases hc1 : x3 < (8 : Int32)
    · rw [if_pos hc1] at hf
      refine e_ic_f hm_203 rfl (cf_ge hc1) ?_
      refine e_aload_n hm_203 rfl rfl ?_
      refine e_iload_n hm_203 rfl rfl ?_
      refine e_iload_n hm_203 rfl rfl ?_
      obtain ⟨y2, hky2, hf⟩ := mm_bd hf
      refine e_virt hm_203 rfl rfl rfl rfl (Nat.le_of_ble_eq_true rfl) hm_195 rfl rfl (c_195 x1 x2 M hky2 ?_)
      show Ev Z _ 203 14 [some (.ref 73), some (.int x1), some (.int x2), some (.int x3)] [.int y2.1] (mm_H y2.2) Q
      refine e_iload_n hm_203 rfl rfl ?_
      refine e_ishr hm_203 rfl ?_
      refine e_iconst hm_203 rfl kc_iconst_1 ?_
      refine e_iand hm_203 rfl ?_
      refine e_iconst hm_203 rfl kc_iconst_1 ?_
      by_cases hc3 : ((y2.1 >>> (x3 &&& 31)) &&& (1 : Int32)) = (1 : Int32)
      · rw [if_pos hc3] at hf
        refine e_ic_f hm_203 rfl (cf_ne hc3) ?_
        refine e_aload_n hm_203 rfl rfl ?_
        refine e_iload_n hm_203 rfl rfl ?_
        refine e_iload_n hm_203 rfl rfl ?_
        obtain ⟨y4, hky4, hf⟩ := mm_bd hf
        refine e_virt hm_203 rfl rfl rfl rfl (Nat.le_of_ble_eq_true rfl) hm_193 rfl rfl (c_193 x1 x3 y2.2 hky4 ?_)
        show Ev Z _ 203 28 [some (.ref 73), some (.int x1), some (.int x2), some (.int x3)] [.int y4.1] (mm_H y4.2) Q
        by_cases hc5 : y4.1 = (0 : Int32)
        · rw [if_pos hc5] at hf
          refine e_if_f hm_203 rfl (cf_ne hc5) ?_
          refine e_iconst hm_203 rfl kc_iconst_0 ?_
          obtain rfl := Option.some.inj hf
          exact e_zret hm_203 rfl rfl (by decide) hq
        · rw [if_neg hc5] at hf
          refine e_if_t (t := 33) hm_203 rfl (ct_ne hc5) rfl ?_
          refine e_iinc (L2 := [some (.ref 73), some (.int x1), some (.int x2), some (.int (x3 + (1 : Int32)))]) hm_203 rfl kc_iinc_1 rfl rfl ?_
          refine e_goto (t := 2) hm_203 rfl rfl ?_
          exact e_forget (L' := [some (.ref 73), some (.int x1), some (.int x2), some (.int (x3 + (1 : Int32)))]) (lf_k (lf_k (lf_k (lf_k lf_0)))) (ih x1 x2 (x3 + (1 : Int32)) y4.2 Q hf hq)
      · rw [if_neg hc3] at hf
        refine e_ic_t (t := 33) hm_203 rfl (ct_ne hc3) rfl ?_
        refine e_iinc (L2 := [some (.ref 73), some (.int x1), some (.int x2), some (.int (x3 + (1 : Int32)))]) hm_203 rfl kc_iinc_1 rfl rfl ?_
        refine e_goto (t := 2) hm_203 rfl rfl ?_
        exact e_forget (L' := [some (.ref 73), some (.int x1), some (.int x2), some (.int (x3 + (1 : Int32)))]) (lf_k (lf_k (lf_k (lf_k lf_0)))) (ih x1 x2 (x3 + (1 : Int32)) y2.2 Q hf hq)
    · rw [if_neg hc1] at hf
      refine e_ic_t (t := 39) hm_203 rfl (ct_ge hc1) rfl ?_
      obtain rfl := Option.some.inj hf
      exact e_forget (L' := [none, none, none, none]) (lf_d (lf_d (lf_d (lf_d lf_0)))) hq
def md_canBe (a1 : Int32) (a2 : Int32) (M : mm_M) : Option (Int32 × mm_M) :=
  (md_canBe_l2 300 a1 a2 (0 : Int32) M).bind fun y1 => match y1 with
  | .inl y1r => some y1r
  | .inr y1v => some ((1 : Int32), y1v.2)
set_option maxRecDepth 20000 in
set_option maxHeartbeats 4000000 in
theorem c_203 {Z : ak_Z} {d : Nat} (a1 : Int32) (a2 : Int32) (M : mm_M) {y : Int32 × mm_M} (hf : md_canBe a1 a2 M = some y) {Q : Option Value → ak_H → Prop} (hq : Q (some (.int y.1)) (mm_H y.2)) : Ev Z (d + 68) 203 0 [some (.ref 73), some (.int a1), some (.int a2), none] [] (mm_H M) Q := by
  rw [md_canBe] at hf
  refine e_iconst hm_203 rfl kc_iconst_0 ?_
  refine e_istore_n (L2 := [some (.ref 73), some (.int a1), some (.int a2), some (.int (0 : Int32))]) hm_203 rfl rfl ?_
  obtain ⟨y1, hky1, hf⟩ := mm_bd hf
  refine e_forget (L' := [some (.ref 73), some (.int a1), some (.int a2), some (.int (0 : Int32))]) (lf_k (lf_k (lf_k (lf_k lf_0)))) (lc_203_2 (d := _) 300 a1 a2 (0 : Int32) M Q hky1 ?_)
  rcases y1 with y1r | y1v
  · obtain rfl := Option.some.inj hf
    exact hq
  · show Ev Z _ 203 39 [none, none, none, none] [] (mm_H y1v.2) Q
    refine e_iconst hm_203 rfl kc_iconst_1 ?_
    obtain rfl := Option.some.inj hf
    exact e_zret hm_203 rfl rfl (by decide) hq
def md_book (a1 : Int32) (a2 : Int32) (M : mm_M) : Option (Int32 × mm_M) :=
  (md_isOne a1 M).bind fun y1 =>
  if y1.1 = (0 : Int32) then
    some ((-2 : Int32), y1.2)
  else
    if a2 = (-1 : Int32) then
      (md_canBe a1 a2 y1.2).bind fun y4 =>
      if y4.1 = (0 : Int32) then
        some ((-3 : Int32), y4.2)
      else
        if ak_inb (((5 : Int32) * a1) + (4 : Int32)) 20 = true then
        if ak_inb (((5 : Int32) * a1) + (4 : Int32)) 20 = true then
        some (y4.2.1 79 (((5 : Int32) * a1) + (4 : Int32)).toNatClampNeg, (ak_up y4.2.1 79 ((((5 : Int32) * a1) + (4 : Int32)).toNatClampNeg) a2, y4.2.2)) else none else none
    else
      (md_isWeek a2 y1.2).bind fun y8 =>
      if y8.1 = (0 : Int32) then
        some ((-2 : Int32), y8.2)
      else
        (md_canBe a1 a2 y8.2).bind fun y10 =>
        if y10.1 = (0 : Int32) then
          some ((-3 : Int32), y10.2)
        else
          if ak_inb (((5 : Int32) * a1) + (4 : Int32)) 20 = true then
          if ak_inb (((5 : Int32) * a1) + (4 : Int32)) 20 = true then
          some (y10.2.1 79 (((5 : Int32) * a1) + (4 : Int32)).toNatClampNeg, (ak_up y10.2.1 79 ((((5 : Int32) * a1) + (4 : Int32)).toNatClampNeg) a2, y10.2.2)) else none else none
set_option maxRecDepth 20000 in
set_option maxHeartbeats 4000000 in
theorem c_201 {Z : ak_Z} {d : Nat} (a1 : Int32) (a2 : Int32) (M : mm_M) {y : Int32 × mm_M} (hf : md_book a1 a2 M = some y) {Q : Option Value → ak_H → Prop} (hq : Q (some (.int y.1)) (mm_H y.2)) : Ev Z (d + 69) 201 0 [some (.ref 73), some (.int a1), some (.int a2), none] [] (mm_H M) Q := by
  rw [md_book] at hf
  refine e_aload_n hm_201 rfl rfl ?_
  refine e_iload_n hm_201 rfl rfl ?_
  obtain ⟨y1, hky1, hf⟩ := mm_bd hf
  refine e_virt hm_201 rfl rfl rfl rfl (Nat.le_of_ble_eq_true rfl) hm_170 rfl rfl (c_170 a1 M hky1 ?_)
  show Ev Z _ 201 5 [some (.ref 73), some (.int a1), some (.int a2), none] [.int y1.1] (mm_H y1.2) Q
  by_cases hc2 : y1.1 = (0 : Int32)
  · rw [if_pos hc2] at hf
    refine e_if_t (t := 20) hm_201 rfl (ct_eq hc2) rfl ?_
    refine e_bipush hm_201 rfl kc_bipush_m2 ?_
    obtain rfl := Option.some.inj hf
    exact e_iret hm_201 rfl rfl hq
  · rw [if_neg hc2] at hf
    refine e_if_f hm_201 rfl (cf_eq hc2) ?_
    refine e_iload_n hm_201 rfl rfl ?_
    refine e_iconst hm_201 rfl kc_iconst_m1 ?_
    by_cases hc3 : a2 = (-1 : Int32)
    · rw [if_pos hc3] at hf
      refine e_ic_t (t := 23) hm_201 rfl (ct_eq hc3) rfl ?_
      refine e_aload_n hm_201 rfl rfl ?_
      refine e_iload_n hm_201 rfl rfl ?_
      refine e_iload_n hm_201 rfl rfl ?_
      obtain ⟨y4, hky4, hf⟩ := mm_bd hf
      refine e_virt hm_201 rfl rfl rfl rfl (Nat.le_of_ble_eq_true rfl) hm_203 rfl rfl (c_203 a1 a2 y1.2 hky4 ?_)
      show Ev Z _ 201 29 [some (.ref 73), some (.int a1), some (.int a2), none] [.int y4.1] (mm_H y4.2) Q
      by_cases hc5 : y4.1 = (0 : Int32)
      · rw [if_pos hc5] at hf
        refine e_if_f hm_201 rfl (cf_ne hc5) ?_
        refine e_bipush hm_201 rfl kc_bipush_m3 ?_
        obtain rfl := Option.some.inj hf
        exact e_iret hm_201 rfl rfl hq
      · rw [if_neg hc5] at hf
        refine e_if_t (t := 35) hm_201 rfl (ct_ne hc5) rfl ?_
        refine e_aload_n hm_201 rfl rfl ?_
        refine e_getR hm_201 rfl rfl rfl rfl ?_
        refine e_iconst hm_201 rfl kc_iconst_5 ?_
        refine e_iload_n hm_201 rfl rfl ?_
        refine e_imul hm_201 rfl ?_
        refine e_iconst hm_201 rfl kc_iconst_4 ?_
        refine e_iadd hm_201 rfl ?_
        obtain ⟨hi6, hf⟩ := mm_ite hf
        refine e_iald hm_201 rfl rfl hi6 ?_
        refine e_istore_n (L2 := [some (.ref 73), some (.int a1), some (.int a2), some (.int (y4.2.1 79 (((5 : Int32) * a1) + (4 : Int32)).toNatClampNeg))]) hm_201 rfl rfl ?_
        refine e_aload_n hm_201 rfl rfl ?_
        refine e_getR hm_201 rfl rfl rfl rfl ?_
        refine e_iconst hm_201 rfl kc_iconst_5 ?_
        refine e_iload_n hm_201 rfl rfl ?_
        refine e_imul hm_201 rfl ?_
        refine e_iconst hm_201 rfl kc_iconst_4 ?_
        refine e_iadd hm_201 rfl ?_
        refine e_iload_n hm_201 rfl rfl ?_
        obtain ⟨hi7, hf⟩ := mm_ite hf
        refine e_iast hm_201 rfl rfl hi7 ?_
        refine e_iload_n hm_201 rfl rfl ?_
        obtain rfl := Option.some.inj hf
        exact e_iret hm_201 rfl rfl hq
    · rw [if_neg hc3] at hf
      refine e_ic_f hm_201 rfl (cf_eq hc3) ?_
      refine e_iload_n hm_201 rfl rfl ?_
      obtain ⟨y8, hky8, hf⟩ := mm_bd hf
      refine e_stat hm_201 rfl (by decide) rfl rfl (Nat.le_of_ble_eq_true rfl) hm_202 rfl rfl (c_202 a2 y1.2 hky8 ?_)
      show Ev Z _ 201 17 [some (.ref 73), some (.int a1), some (.int a2), none] [.int y8.1] (mm_H y8.2) Q
      by_cases hc9 : y8.1 = (0 : Int32)
      · rw [if_pos hc9] at hf
        refine e_if_f hm_201 rfl (cf_ne hc9) ?_
        refine e_bipush hm_201 rfl kc_bipush_m2 ?_
        obtain rfl := Option.some.inj hf
        exact e_iret hm_201 rfl rfl hq
      · rw [if_neg hc9] at hf
        refine e_if_t (t := 23) hm_201 rfl (ct_ne hc9) rfl ?_
        refine e_aload_n hm_201 rfl rfl ?_
        refine e_iload_n hm_201 rfl rfl ?_
        refine e_iload_n hm_201 rfl rfl ?_
        obtain ⟨y10, hky10, hf⟩ := mm_bd hf
        refine e_virt hm_201 rfl rfl rfl rfl (Nat.le_of_ble_eq_true rfl) hm_203 rfl rfl (c_203 a1 a2 y8.2 hky10 ?_)
        show Ev Z _ 201 29 [some (.ref 73), some (.int a1), some (.int a2), none] [.int y10.1] (mm_H y10.2) Q
        by_cases hc11 : y10.1 = (0 : Int32)
        · rw [if_pos hc11] at hf
          refine e_if_f hm_201 rfl (cf_ne hc11) ?_
          refine e_bipush hm_201 rfl kc_bipush_m3 ?_
          obtain rfl := Option.some.inj hf
          exact e_iret hm_201 rfl rfl hq
        · rw [if_neg hc11] at hf
          refine e_if_t (t := 35) hm_201 rfl (ct_ne hc11) rfl ?_
          refine e_aload_n hm_201 rfl rfl ?_
          refine e_getR hm_201 rfl rfl rfl rfl ?_
          refine e_iconst hm_201 rfl kc_iconst_5 ?_
          refine e_iload_n hm_201 rfl rfl ?_
          refine e_imul hm_201 rfl ?_
          refine e_iconst hm_201 rfl kc_iconst_4 ?_
          refine e_iadd hm_201 rfl ?_
          obtain ⟨hi12, hf⟩ := mm_ite hf
          refine e_iald hm_201 rfl rfl hi12 ?_
          refine e_istore_n (L2 := [some (.ref 73), some (.int a1), some (.int a2), some (.int (y10.2.1 79 (((5 : Int32) * a1) + (4 : Int32)).toNatClampNeg))]) hm_201 rfl rfl ?_
          refine e_aload_n hm_201 rfl rfl ?_
          refine e_getR hm_201 rfl rfl rfl rfl ?_
          refine e_iconst hm_201 rfl kc_iconst_5 ?_
          refine e_iload_n hm_201 rfl rfl ?_
          refine e_imul hm_201 rfl ?_
          refine e_iconst hm_201 rfl kc_iconst_4 ?_
          refine e_iadd hm_201 rfl ?_
          refine e_iload_n hm_201 rfl rfl ?_
          obtain ⟨hi13, hf⟩ := mm_ite hf
          refine e_iast hm_201 rfl rfl hi13 ?_
          refine e_iload_n hm_201 rfl rfl ?_
          obtain rfl := Option.some.inj hf
          exact e_iret hm_201 rfl rfl hq
def md_feed (a1 : Int32) (M : mm_M) : Option (Int32 × mm_M) :=
  (md_in a1.toInt64 (0 : Int64) (255 : Int64) M).bind fun y1 =>
  if y1.1 = (0 : Int32) then
    some ((-2 : Int32), y1.2)
  else
    if (y1.2.1 73 6) = (160 : Int32) then
      some ((-4 : Int32), y1.2)
    else
      if ak_inb (y1.2.1 73 6) 160 = true then
      some ((ak_up (ak_up y1.2.1 76 ((y1.2.1 73 6).toNatClampNeg) a1) 73 6 (((ak_up y1.2.1 76 ((y1.2.1 73 6).toNatClampNeg) a1) 73 6) + (1 : Int32))) 73 6, (ak_up (ak_up y1.2.1 76 ((y1.2.1 73 6).toNatClampNeg) a1) 73 6 (((ak_up y1.2.1 76 ((y1.2.1 73 6).toNatClampNeg) a1) 73 6) + (1 : Int32)), y1.2.2)) else none
set_option maxRecDepth 20000 in
set_option maxHeartbeats 4000000 in
theorem c_204 {Z : ak_Z} {d : Nat} (a1 : Int32) (M : mm_M) {y : Int32 × mm_M} (hf : md_feed a1 M = some y) {Q : Option Value → ak_H → Prop} (hq : Q (some (.int y.1)) (mm_H y.2)) : Ev Z (d + 1) 204 0 [some (.ref 73), some (.int a1)] [] (mm_H M) Q := by
  rw [md_feed] at hf
  refine e_iload_n hm_204 rfl rfl ?_
  refine e_i2l hm_204 rfl ?_
  refine e_lconst hm_204 rfl rfl ?_
  refine e_ldc2 hm_204 rfl kc_ldc2_255 ?_
  obtain ⟨y1, hky1, hf⟩ := mm_bd hf
  refine e_stat hm_204 rfl (by decide) rfl rfl (Nat.le_of_ble_eq_true rfl) hm_169 rfl rfl (c_169 a1.toInt64 (0 : Int64) (255 : Int64) M hky1 ?_)
  show Ev Z _ 204 9 [some (.ref 73), some (.int a1)] [.int y1.1] (mm_H y1.2) Q
  by_cases hc2 : y1.1 = (0 : Int32)
  · rw [if_pos hc2] at hf
    refine e_if_f hm_204 rfl (cf_ne hc2) ?_
    refine e_bipush hm_204 rfl kc_bipush_m2 ?_
    obtain rfl := Option.some.inj hf
    exact e_iret hm_204 rfl rfl hq
  · rw [if_neg hc2] at hf
    refine e_if_t (t := 15) hm_204 rfl (ct_ne hc2) rfl ?_
    refine e_aload_n hm_204 rfl rfl ?_
    refine e_getI hm_204 rfl rfl rfl ?_
    refine e_sipush hm_204 rfl kc_sipush_160 ?_
    by_cases hc3 : (y1.2.1 73 6) = (160 : Int32)
    · rw [if_pos hc3] at hf
      refine e_ic_f hm_204 rfl (cf_ne hc3) ?_
      refine e_bipush hm_204 rfl kc_bipush_m4 ?_
      obtain rfl := Option.some.inj hf
      exact e_iret hm_204 rfl rfl hq
    · rw [if_neg hc3] at hf
      refine e_ic_t (t := 28) hm_204 rfl (ct_ne hc3) rfl ?_
      refine e_aload_n hm_204 rfl rfl ?_
      refine e_getR hm_204 rfl rfl rfl rfl ?_
      refine e_aload_n hm_204 rfl rfl ?_
      refine e_getI hm_204 rfl rfl rfl ?_
      refine e_iload_n hm_204 rfl rfl ?_
      obtain ⟨hi4, hf⟩ := mm_ite hf
      refine e_iast hm_204 rfl rfl hi4 ?_
      refine e_aload_n hm_204 rfl rfl ?_
      refine e_dupa hm_204 rfl ?_
      refine e_getI hm_204 rfl rfl rfl ?_
      refine e_iconst hm_204 rfl kc_iconst_1 ?_
      refine e_iadd hm_204 rfl ?_
      refine e_putI hm_204 rfl rfl rfl ?_
      refine e_aload_n hm_204 rfl rfl ?_
      refine e_getI hm_204 rfl rfl rfl ?_
      obtain rfl := Option.some.inj hf
      exact e_iret hm_204 rfl rfl hq
def md_text_l14 : Nat → Int32 → mm_M → Option (((Unit) × mm_M))
  | 0, _, _ => none
  | n + 1, x1, M =>
    if x1 < (M.1 73 6) then
      if ak_inb x1 160 = true then
      if ak_inb (((160 : Int32) * (M.1 73 3)) + x1) 960 = true then
      md_text_l14 n (x1 + (1 : Int32)) (ak_up M.1 74 ((((160 : Int32) * (M.1 73 3)) + x1).toNatClampNeg) (M.1 76 x1.toNatClampNeg), M.2) else none else none
    else
      some ((), M)
set_option maxRecDepth 20000 in
set_option maxHeartbeats 4000000 in
theorem lc_205_14 {Z : ak_Z} {d : Nat} : ∀ (n : Nat) (x1 : Int32) (M : mm_M) {y : ((Unit) × mm_M)} (Q : Option Value → ak_H → Prop), md_text_l14 n x1 M = some y → (Ev Z (d + 66) 205 49 [some (.ref 73), none] [] (mm_H y.2) Q) → Ev Z (d + 66) 205 14 [some (.ref 73), some (.int x1)] [] (mm_H M) Q := by
  intro n
  induction n with
  | zero => intro x1 M y Q hf; cases hf
  | succ n ih =>
    intro x1 M y Q hf hq
    rw [md_text_l14] at hf
    refine e_iload_n hm_205 rfl rfl ?_
    refine e_aload_n hm_205 rfl rfl ?_
    refine e_getI hm_205 rfl rfl rfl ?_
    by_cases hc1 : x1 < (M.1 73 6)
    · rw [if_pos hc1] at hf
      refine e_ic_f hm_205 rfl (cf_ge hc1) ?_
      refine e_aload_n hm_205 rfl rfl ?_
      refine e_getR hm_205 rfl rfl rfl rfl ?_
      refine e_sipush hm_205 rfl kc_sipush_160 ?_
      refine e_aload_n hm_205 rfl rfl ?_
      refine e_getI hm_205 rfl rfl rfl ?_
      refine e_imul hm_205 rfl ?_
      refine e_iload_n hm_205 rfl rfl ?_
      refine e_iadd hm_205 rfl ?_
      refine e_aload_n hm_205 rfl rfl ?_
      refine e_getR hm_205 rfl rfl rfl rfl ?_
      refine e_iload_n hm_205 rfl rfl ?_
      obtain ⟨hi2, hf⟩ := mm_ite hf
      refine e_iald hm_205 rfl rfl hi2 ?_
      obtain ⟨hi3, hf⟩ := mm_ite hf
      refine e_iast hm_205 rfl rfl hi3 ?_
      refine e_iinc (L2 := [some (.ref 73), some (.int (x1 + (1 : Int32)))]) hm_205 rfl kc_iinc_1 rfl rfl ?_
      refine e_goto (t := 14) hm_205 rfl rfl ?_
      exact e_forget (L' := [some (.ref 73), some (.int (x1 + (1 : Int32)))]) (lf_k (lf_k lf_0)) (ih (x1 + (1 : Int32)) (ak_up M.1 74 ((((160 : Int32) * (M.1 73 3)) + x1).toNatClampNeg) (M.1 76 x1.toNatClampNeg), M.2) Q hf hq)
    · rw [if_neg hc1] at hf
      refine e_ic_t (t := 49) hm_205 rfl (ct_ge hc1) rfl ?_
      obtain rfl := Option.some.inj hf
      exact e_forget (L' := [some (.ref 73), none]) (lf_k (lf_d lf_0)) hq
def md_text (M : mm_M) : Option (Int32 × mm_M) :=
  if (M.1 73 3) = (6 : Int32) then
    some ((-4 : Int32), M)
  else
    (md_text_l14 300 (0 : Int32) M).bind fun y2 =>
    if ak_inb (y2.2.1 73 3) 6 = true then
    (md_read ((ak_up (ak_up y2.2.1 75 ((y2.2.1 73 3).toNatClampNeg) (y2.2.1 73 6)) 73 6 (0 : Int32)) 73 3) (0 : Int32) (ak_up (ak_up y2.2.1 75 ((y2.2.1 73 3).toNatClampNeg) (y2.2.1 73 6)) 73 6 (0 : Int32), y2.2.2)).bind fun y4 =>
    if (y4.2.1 73 25) = (0 : Int32) then
      some (((ak_up y4.2.1 73 3 ((y4.2.1 73 3) + (1 : Int32))) 73 3) - (1 : Int32), (ak_up y4.2.1 73 3 ((y4.2.1 73 3) + (1 : Int32)), y4.2.2))
    else
      some ((-100 : Int32) - (y4.2.1 73 26), y4.2) else none
set_option maxRecDepth 20000 in
set_option maxHeartbeats 4000000 in
theorem c_205 {Z : ak_Z} {d : Nat} (M : mm_M) {y : Int32 × mm_M} (hf : md_text M = some y) {Q : Option Value → ak_H → Prop} (hq : Q (some (.int y.1)) (mm_H y.2)) : Ev Z (d + 66) 205 0 [some (.ref 73), none] [] (mm_H M) Q := by
  rw [md_text] at hf
  refine e_aload_n hm_205 rfl rfl ?_
  refine e_getI hm_205 rfl rfl rfl ?_
  refine e_bipush hm_205 rfl kc_bipush_6 ?_
  by_cases hc1 : (M.1 73 3) = (6 : Int32)
  · rw [if_pos hc1] at hf
    refine e_ic_f hm_205 rfl (cf_ne hc1) ?_
    refine e_bipush hm_205 rfl kc_bipush_m4 ?_
    obtain rfl := Option.some.inj hf
    exact e_iret hm_205 rfl rfl hq
  · rw [if_neg hc1] at hf
    refine e_ic_t (t := 12) hm_205 rfl (ct_ne hc1) rfl ?_
    refine e_iconst hm_205 rfl kc_iconst_0 ?_
    refine e_istore_n (L2 := [some (.ref 73), some (.int (0 : Int32))]) hm_205 rfl rfl ?_
    obtain ⟨y2, hky2, hf⟩ := mm_bd hf
    refine e_forget (L' := [some (.ref 73), some (.int (0 : Int32))]) (lf_k (lf_k lf_0)) (lc_205_14 (d := _) 300 (0 : Int32) M Q hky2 ?_)
    show Ev Z _ 205 49 [some (.ref 73), none] [] (mm_H y2.2) Q
    refine e_aload_n hm_205 rfl rfl ?_
    refine e_getR hm_205 rfl rfl rfl rfl ?_
    refine e_aload_n hm_205 rfl rfl ?_
    refine e_getI hm_205 rfl rfl rfl ?_
    refine e_aload_n hm_205 rfl rfl ?_
    refine e_getI hm_205 rfl rfl rfl ?_
    obtain ⟨hi3, hf⟩ := mm_ite hf
    refine e_iast hm_205 rfl rfl hi3 ?_
    refine e_aload_n hm_205 rfl rfl ?_
    refine e_iconst hm_205 rfl kc_iconst_0 ?_
    refine e_putI hm_205 rfl rfl rfl ?_
    refine e_aload_n hm_205 rfl rfl ?_
    refine e_aload_n hm_205 rfl rfl ?_
    refine e_getI hm_205 rfl rfl rfl ?_
    refine e_iconst hm_205 rfl kc_iconst_0 ?_
    obtain ⟨y4, hky4, hf⟩ := mm_bd hf
    refine e_virt hm_205 rfl rfl rfl rfl (Nat.le_of_ble_eq_true rfl) hm_176 rfl rfl (c_176 ((ak_up (ak_up y2.2.1 75 ((y2.2.1 73 3).toNatClampNeg) (y2.2.1 73 6)) 73 6 (0 : Int32)) 73 3) (0 : Int32) (ak_up (ak_up y2.2.1 75 ((y2.2.1 73 3).toNatClampNeg) (y2.2.1 73 6)) 73 6 (0 : Int32), y2.2.2) hky4 ?_)
    show Ev Z _ 205 76 [some (.ref 73), none] [.int y4.1] (mm_H y4.2) Q
    refine e_istore_n (L2 := [some (.ref 73), some (.int y4.1)]) hm_205 rfl rfl ?_
    refine e_aload_n hm_205 rfl rfl ?_
    refine e_getZ hm_205 rfl rfl rfl ?_
    by_cases hc5 : (y4.2.1 73 25) = (0 : Int32)
    · rw [if_pos hc5] at hf
      refine e_if_t (t := 92) hm_205 rfl (ct_eq hc5) rfl ?_
      refine e_aload_n hm_205 rfl rfl ?_
      refine e_dupa hm_205 rfl ?_
      refine e_getI hm_205 rfl rfl rfl ?_
      refine e_iconst hm_205 rfl kc_iconst_1 ?_
      refine e_iadd hm_205 rfl ?_
      refine e_putI hm_205 rfl rfl rfl ?_
      refine e_aload_n hm_205 rfl rfl ?_
      refine e_getI hm_205 rfl rfl rfl ?_
      refine e_iconst hm_205 rfl kc_iconst_1 ?_
      refine e_isub hm_205 rfl ?_
      obtain rfl := Option.some.inj hf
      exact e_iret hm_205 rfl rfl hq
    · rw [if_neg hc5] at hf
      refine e_if_f hm_205 rfl (cf_eq hc5) ?_
      refine e_bipush hm_205 rfl kc_bipush_m100 ?_
      refine e_aload_n hm_205 rfl rfl ?_
      refine e_getI hm_205 rfl rfl rfl ?_
      refine e_isub hm_205 rfl ?_
      obtain rfl := Option.some.inj hf
      exact e_iret hm_205 rfl rfl hq
def md_force (a1 : Int32) (M : mm_M) : Option (Int32 × mm_M) :=
  (md_in a1.toInt64 (0 : Int64) (((M.1 73 3) - (1 : Int32)).toInt64) M).bind fun y1 =>
  if y1.1 = (0 : Int32) then
    some ((-2 : Int32), y1.2)
  else
    some (y1.2.1 73 4, (ak_up y1.2.1 73 4 a1, y1.2.2))
set_option maxRecDepth 20000 in
set_option maxHeartbeats 4000000 in
theorem c_206 {Z : ak_Z} {d : Nat} (a1 : Int32) (M : mm_M) {y : Int32 × mm_M} (hf : md_force a1 M = some y) {Q : Option Value → ak_H → Prop} (hq : Q (some (.int y.1)) (mm_H y.2)) : Ev Z (d + 1) 206 0 [some (.ref 73), some (.int a1), none] [] (mm_H M) Q := by
  rw [md_force] at hf
  refine e_iload_n hm_206 rfl rfl ?_
  refine e_i2l hm_206 rfl ?_
  refine e_lconst hm_206 rfl rfl ?_
  refine e_aload_n hm_206 rfl rfl ?_
  refine e_getI hm_206 rfl rfl rfl ?_
  refine e_iconst hm_206 rfl kc_iconst_1 ?_
  refine e_isub hm_206 rfl ?_
  refine e_i2l hm_206 rfl ?_
  obtain ⟨y1, hky1, hf⟩ := mm_bd hf
  refine e_stat hm_206 rfl (by decide) rfl rfl (Nat.le_of_ble_eq_true rfl) hm_169 rfl rfl (c_169 a1.toInt64 (0 : Int64) (((M.1 73 3) - (1 : Int32)).toInt64) M hky1 ?_)
  show Ev Z _ 206 13 [some (.ref 73), some (.int a1), none] [.int y1.1] (mm_H y1.2) Q
  by_cases hc2 : y1.1 = (0 : Int32)
  · rw [if_pos hc2] at hf
    refine e_if_f hm_206 rfl (cf_ne hc2) ?_
    refine e_bipush hm_206 rfl kc_bipush_m2 ?_
    obtain rfl := Option.some.inj hf
    exact e_iret hm_206 rfl rfl hq
  · rw [if_neg hc2] at hf
    refine e_if_t (t := 19) hm_206 rfl (ct_ne hc2) rfl ?_
    refine e_aload_n hm_206 rfl rfl ?_
    refine e_getI hm_206 rfl rfl rfl ?_
    refine e_istore_n (L2 := [some (.ref 73), some (.int a1), some (.int (y1.2.1 73 4))]) hm_206 rfl rfl ?_
    refine e_aload_n hm_206 rfl rfl ?_
    refine e_iload_n hm_206 rfl rfl ?_
    refine e_putI hm_206 rfl rfl rfl ?_
    refine e_iload_n hm_206 rfl rfl ?_
    obtain rfl := Option.some.inj hf
    exact e_iret hm_206 rfl rfl hq
def md_tables_l12 : Nat → Int32 → Int32 → mm_M → Option (((Unit) × mm_M))
  | 0, _, _, _ => none
  | n + 1, x1, x2, M =>
    if (8 : Int32) < x2 then
      some ((), M)
    else
      (md_canBe x1 (x2 - (1 : Int32)) M).bind fun y2 =>
      if ak_inb (((9 : Int32) * x1) + x2) 36 = true then if y2.1 = 0 ∨ y2.1 = 1 then
      (md_hasOf x1 (x2 - (1 : Int32)) (ak_up y2.2.1 81 ((((9 : Int32) * x1) + x2).toNatClampNeg) y2.1, y2.2.2)).bind fun y5 =>
      if ak_inb (((9 : Int32) * x1) + x2) 36 = true then
      (md_weeksOf x1 (x2 - (1 : Int32)) (ak_up y5.2.1 82 ((((9 : Int32) * x1) + x2).toNatClampNeg) y5.1, y5.2.2)).bind fun y7 =>
      if ak_inb (((9 : Int32) * x1) + x2) 36 = true then
      md_tables_l12 n x1 (x2 + (1 : Int32)) (ak_up y7.2.1 83 ((((9 : Int32) * x1) + x2).toNatClampNeg) y7.1, y7.2.2) else none else none else none else none
set_option maxRecDepth 20000 in
set_option maxHeartbeats 4000000 in
theorem lc_208_12 {Z : ak_Z} {d : Nat} : ∀ (n : Nat) (x1 : Int32) (x2 : Int32) (M : mm_M) {y : ((Unit) × mm_M)} (Q : Option Value → ak_H → Prop), md_tables_l12 n x1 x2 M = some y → (Ev Z (d + 69) 208 81 [some (.ref 73), some (.int x1), none] [] (mm_H y.2) Q) → Ev Z (d + 69) 208 12 [some (.ref 73), some (.int x1), some (.int x2)] [] (mm_H M) Q := by
  intro n
  induction n with
  | zero => intro x1 x2 M y Q hf; cases hf
  | succ n ih =>
    intro x1 x2 M y Q hf hq
    rw [md_tables_l12] at hf
    refine e_iload_n hm_208 rfl rfl ?_
    refine e_bipush hm_208 rfl kc_bipush_8 ?_
    by_cases hc1 : (8 : Int32) < x2
    · rw [if_pos hc1] at hf
      refine e_ic_t (t := 81) hm_208 rfl (ct_gt hc1) rfl ?_
      obtain rfl := Option.some.inj hf
      exact e_forget (L' := [some (.ref 73), some (.int x1), none]) (lf_k (lf_k (lf_d lf_0))) hq
    · rw [if_neg hc1] at hf
      refine e_ic_f hm_208 rfl (cf_gt hc1) ?_
      refine e_aload_n hm_208 rfl rfl ?_
      refine e_getR hm_208 rfl rfl rfl rfl ?_
      refine e_bipush hm_208 rfl kc_bipush_9 ?_
      refine e_iload_n hm_208 rfl rfl ?_
      refine e_imul hm_208 rfl ?_
      refine e_iload_n hm_208 rfl rfl ?_
      refine e_iadd hm_208 rfl ?_
      refine e_aload_n hm_208 rfl rfl ?_
      refine e_iload_n hm_208 rfl rfl ?_
      refine e_iload_n hm_208 rfl rfl ?_
      refine e_iconst hm_208 rfl kc_iconst_1 ?_
      refine e_isub hm_208 rfl ?_
      obtain ⟨y2, hky2, hf⟩ := mm_bd hf
      refine e_virt hm_208 rfl rfl rfl rfl (Nat.le_of_ble_eq_true rfl) hm_203 rfl rfl (c_203 x1 (x2 - (1 : Int32)) M hky2 ?_)
      show Ev Z _ 208 36 [some (.ref 73), some (.int x1), some (.int x2)] [.int y2.1, .int (((9 : Int32) * x1) + x2), .ref 81] (mm_H y2.2) Q
      obtain ⟨hi3, hf⟩ := mm_ite hf
      obtain ⟨hb4, hf⟩ := mm_ite hf
      refine e_zast hm_208 rfl rfl hi3 hb4 ?_
      refine e_aload_n hm_208 rfl rfl ?_
      refine e_getR hm_208 rfl rfl rfl rfl ?_
      refine e_bipush hm_208 rfl kc_bipush_9 ?_
      refine e_iload_n hm_208 rfl rfl ?_
      refine e_imul hm_208 rfl ?_
      refine e_iload_n hm_208 rfl rfl ?_
      refine e_iadd hm_208 rfl ?_
      refine e_aload_n hm_208 rfl rfl ?_
      refine e_iload_n hm_208 rfl rfl ?_
      refine e_iload_n hm_208 rfl rfl ?_
      refine e_iconst hm_208 rfl kc_iconst_1 ?_
      refine e_isub hm_208 rfl ?_
      obtain ⟨y5, hky5, hf⟩ := mm_bd hf
      refine e_virt hm_208 rfl rfl rfl rfl (Nat.le_of_ble_eq_true rfl) hm_194 rfl rfl (c_194 x1 (x2 - (1 : Int32)) (ak_up y2.2.1 81 ((((9 : Int32) * x1) + x2).toNatClampNeg) y2.1, y2.2.2) hky5 ?_)
      show Ev Z _ 208 55 [some (.ref 73), some (.int x1), some (.int x2)] [.int y5.1, .int (((9 : Int32) * x1) + x2), .ref 82] (mm_H y5.2) Q
      obtain ⟨hi6, hf⟩ := mm_ite hf
      refine e_iast hm_208 rfl rfl hi6 ?_
      refine e_aload_n hm_208 rfl rfl ?_
      refine e_getR hm_208 rfl rfl rfl rfl ?_
      refine e_bipush hm_208 rfl kc_bipush_9 ?_
      refine e_iload_n hm_208 rfl rfl ?_
      refine e_imul hm_208 rfl ?_
      refine e_iload_n hm_208 rfl rfl ?_
      refine e_iadd hm_208 rfl ?_
      refine e_aload_n hm_208 rfl rfl ?_
      refine e_iload_n hm_208 rfl rfl ?_
      refine e_iload_n hm_208 rfl rfl ?_
      refine e_iconst hm_208 rfl kc_iconst_1 ?_
      refine e_isub hm_208 rfl ?_
      obtain ⟨y7, hky7, hf⟩ := mm_bd hf
      refine e_virt hm_208 rfl rfl rfl rfl (Nat.le_of_ble_eq_true rfl) hm_195 rfl rfl (c_195 x1 (x2 - (1 : Int32)) (ak_up y5.2.1 82 ((((9 : Int32) * x1) + x2).toNatClampNeg) y5.1, y5.2.2) hky7 ?_)
      show Ev Z _ 208 74 [some (.ref 73), some (.int x1), some (.int x2)] [.int y7.1, .int (((9 : Int32) * x1) + x2), .ref 83] (mm_H y7.2) Q
      obtain ⟨hi8, hf⟩ := mm_ite hf
      refine e_iast hm_208 rfl rfl hi8 ?_
      refine e_iinc (L2 := [some (.ref 73), some (.int x1), some (.int (x2 + (1 : Int32)))]) hm_208 rfl kc_iinc_1 rfl rfl ?_
      refine e_goto (t := 12) hm_208 rfl rfl ?_
      exact e_forget (L' := [some (.ref 73), some (.int x1), some (.int (x2 + (1 : Int32)))]) (lf_k (lf_k (lf_k lf_0))) (ih x1 (x2 + (1 : Int32)) (ak_up y7.2.1 83 ((((9 : Int32) * x1) + x2).toNatClampNeg) y7.1, y7.2.2) Q hf hq)
def md_tables_l2 : Nat → Int32 → mm_M → Option (((Unit) × mm_M))
  | 0, _, _ => none
  | n + 1, x1, M =>
    if x1 < (M.1 73 11) then
      (md_tables_l12 300 x1 (0 : Int32) M).bind fun y2 =>
      md_tables_l2 n (x1 + (1 : Int32)) y2.2
    else
      some ((), M)
set_option maxRecDepth 20000 in
set_option maxHeartbeats 4000000 in
theorem lc_208_2 {Z : ak_Z} {d : Nat} : ∀ (n : Nat) (x1 : Int32) (M : mm_M) {y : ((Unit) × mm_M)} (Q : Option Value → ak_H → Prop), md_tables_l2 n x1 M = some y → (Ev Z (d + 69) 208 87 [none, none, none] [] (mm_H y.2) Q) → Ev Z (d + 69) 208 2 [some (.ref 73), some (.int x1), none] [] (mm_H M) Q := by
  intro n
  induction n with
  | zero => intro x1 M y Q hf; cases hf
  | succ n ih =>
    intro x1 M y Q hf hq
    rw [md_tables_l2] at hf
    refine e_iload_n hm_208 rfl rfl ?_
    refine e_aload_n hm_208 rfl rfl ?_
    refine e_getI hm_208 rfl rfl rfl ?_
    by_cases hc1 : x1 < (M.1 73 11)
    · rw [if_pos hc1] at hf
      refine e_ic_f hm_208 rfl (cf_ge hc1) ?_
      refine e_iconst hm_208 rfl kc_iconst_0 ?_
      refine e_istore_n (L2 := [some (.ref 73), some (.int x1), some (.int (0 : Int32))]) hm_208 rfl rfl ?_
      obtain ⟨y2, hky2, hf⟩ := mm_bd hf
      refine e_forget (L' := [some (.ref 73), some (.int x1), some (.int (0 : Int32))]) (lf_k (lf_k (lf_k lf_0))) (lc_208_12 (d := _) 300 x1 (0 : Int32) M Q hky2 ?_)
      show Ev Z _ 208 81 [some (.ref 73), some (.int x1), none] [] (mm_H y2.2) Q
      refine e_iinc (L2 := [some (.ref 73), some (.int (x1 + (1 : Int32))), none]) hm_208 rfl kc_iinc_1 rfl rfl ?_
      refine e_goto (t := 2) hm_208 rfl rfl ?_
      exact e_forget (L' := [some (.ref 73), some (.int (x1 + (1 : Int32))), none]) (lf_k (lf_k (lf_k lf_0))) (ih (x1 + (1 : Int32)) y2.2 Q hf hq)
    · rw [if_neg hc1] at hf
      refine e_ic_t (t := 87) hm_208 rfl (ct_ge hc1) rfl ?_
      obtain rfl := Option.some.inj hf
      exact e_forget (L' := [none, none, none]) (lf_d (lf_d (lf_k lf_0))) hq
def md_tables (M : mm_M) : Option (Unit × mm_M) :=
  (md_tables_l2 300 (0 : Int32) M).bind fun y1 =>
  some ((), y1.2)
set_option maxRecDepth 20000 in
set_option maxHeartbeats 4000000 in
theorem c_208 {Z : ak_Z} {d : Nat} (M : mm_M) {y : Unit × mm_M} (hf : md_tables M = some y) {Q : Option Value → ak_H → Prop} (hq : Q none (mm_H y.2)) : Ev Z (d + 69) 208 0 [some (.ref 73), none, none] [] (mm_H M) Q := by
  rw [md_tables] at hf
  refine e_iconst hm_208 rfl kc_iconst_0 ?_
  refine e_istore_n (L2 := [some (.ref 73), some (.int (0 : Int32)), none]) hm_208 rfl rfl ?_
  obtain ⟨y1, hky1, hf⟩ := mm_bd hf
  refine e_forget (L' := [some (.ref 73), some (.int (0 : Int32)), none]) (lf_k (lf_k (lf_k lf_0))) (lc_208_2 (d := _) 300 (0 : Int32) M Q hky1 ?_)
  show Ev Z _ 208 87 [none, none, none] [] (mm_H y1.2) Q
  obtain rfl := Option.some.inj hf
  exact e_vret hm_208 rfl rfl hq
def md_booked_l2 : Nat → Int32 → mm_M → Option (((Unit) × mm_M))
  | 0, _, _ => none
  | n + 1, x1, M =>
    if x1 < (M.1 73 11) then
      if ak_inb (((5 : Int32) * x1) + (4 : Int32)) 20 = true then
      if ak_inb x1 4 = true then
      md_booked_l2 n (x1 + (1 : Int32)) (ak_up M.1 84 x1.toNatClampNeg ((M.1 79 (((5 : Int32) * x1) + (4 : Int32)).toNatClampNeg) + (1 : Int32)), M.2) else none else none
    else
      some ((), M)
set_option maxRecDepth 20000 in
set_option maxHeartbeats 4000000 in
theorem lc_209_2 {Z : ak_Z} {d : Nat} : ∀ (n : Nat) (x1 : Int32) (M : mm_M) {y : ((Unit) × mm_M)} (Q : Option Value → ak_H → Prop), md_booked_l2 n x1 M = some y → (Ev Z (d + 0) 209 34 [none, none] [] (mm_H y.2) Q) → Ev Z (d + 0) 209 2 [some (.ref 73), some (.int x1)] [] (mm_H M) Q := by
  intro n
  induction n with
  | zero => intro x1 M y Q hf; cases hf
  | succ n ih =>
    intro x1 M y Q hf hq
    rw [md_booked_l2] at hf
    refine e_iload_n hm_209 rfl rfl ?_
    refine e_aload_n hm_209 rfl rfl ?_
    refine e_getI hm_209 rfl rfl rfl ?_
    by_cases hc1 : x1 < (M.1 73 11)
    · rw [if_pos hc1] at hf
      refine e_ic_f hm_209 rfl (cf_ge hc1) ?_
      refine e_aload_n hm_209 rfl rfl ?_
      refine e_getR hm_209 rfl rfl rfl rfl ?_
      refine e_iload_n hm_209 rfl rfl ?_
      refine e_aload_n hm_209 rfl rfl ?_
      refine e_getR hm_209 rfl rfl rfl rfl ?_
      refine e_iconst hm_209 rfl kc_iconst_5 ?_
      refine e_iload_n hm_209 rfl rfl ?_
      refine e_imul hm_209 rfl ?_
      refine e_iconst hm_209 rfl kc_iconst_4 ?_
      refine e_iadd hm_209 rfl ?_
      obtain ⟨hi2, hf⟩ := mm_ite hf
      refine e_iald hm_209 rfl rfl hi2 ?_
      refine e_iconst hm_209 rfl kc_iconst_1 ?_
      refine e_iadd hm_209 rfl ?_
      obtain ⟨hi3, hf⟩ := mm_ite hf
      refine e_iast hm_209 rfl rfl hi3 ?_
      refine e_iinc (L2 := [some (.ref 73), some (.int (x1 + (1 : Int32)))]) hm_209 rfl kc_iinc_1 rfl rfl ?_
      refine e_goto (t := 2) hm_209 rfl rfl ?_
      exact e_forget (L' := [some (.ref 73), some (.int (x1 + (1 : Int32)))]) (lf_k (lf_k lf_0)) (ih (x1 + (1 : Int32)) (ak_up M.1 84 x1.toNatClampNeg ((M.1 79 (((5 : Int32) * x1) + (4 : Int32)).toNatClampNeg) + (1 : Int32)), M.2) Q hf hq)
    · rw [if_neg hc1] at hf
      refine e_ic_t (t := 34) hm_209 rfl (ct_ge hc1) rfl ?_
      obtain rfl := Option.some.inj hf
      exact e_forget (L' := [none, none]) (lf_d (lf_d lf_0)) hq
def md_booked (M : mm_M) : Option (Unit × mm_M) :=
  (md_booked_l2 300 (0 : Int32) M).bind fun y1 =>
  some ((), y1.2)
set_option maxRecDepth 20000 in
set_option maxHeartbeats 4000000 in
theorem c_209 {Z : ak_Z} {d : Nat} (M : mm_M) {y : Unit × mm_M} (hf : md_booked M = some y) {Q : Option Value → ak_H → Prop} (hq : Q none (mm_H y.2)) : Ev Z (d + 0) 209 0 [some (.ref 73), none] [] (mm_H M) Q := by
  rw [md_booked] at hf
  refine e_iconst hm_209 rfl kc_iconst_0 ?_
  refine e_istore_n (L2 := [some (.ref 73), some (.int (0 : Int32))]) hm_209 rfl rfl ?_
  obtain ⟨y1, hky1, hf⟩ := mm_bd hf
  refine e_forget (L' := [some (.ref 73), some (.int (0 : Int32))]) (lf_k (lf_k lf_0)) (lc_209_2 (d := _) 300 (0 : Int32) M Q hky1 ?_)
  show Ev Z _ 209 34 [none, none] [] (mm_H y1.2) Q
  obtain rfl := Option.some.inj hf
  exact e_vret hm_209 rfl rfl hq
def md_awayIn_l4 : Nat → Int32 → Int32 → Int32 → mm_M → Option (((Int32) × mm_M))
  | 0, _, _, _, _ => none
  | n + 1, x1, x2, x3, M =>
    if x3 < (M.1 73 11) then
      if ak_inb x3 4 = true then
      if ak_inb (((9 : Int32) * x3) + (M.1 84 x3.toNatClampNeg)) 36 = true then
      md_awayIn_l4 n x1 (x2 ||| ((((M.1 83 (((9 : Int32) * x3) + (M.1 84 x3.toNatClampNeg)).toNatClampNeg) >>> (x1 &&& 31)) &&& (1 : Int32)) <<< (x3 &&& 31))) (x3 + (1 : Int32)) M else none else none
    else
      some (x2, M)
set_option maxRecDepth 20000 in
set_option maxHeartbeats 4000000 in
theorem lc_213_4 {Z : ak_Z} {d : Nat} : ∀ (n : Nat) (x1 : Int32) (x2 : Int32) (x3 : Int32) (M : mm_M) {y : ((Int32) × mm_M)} (Q : Option Value → ak_H → Prop), md_awayIn_l4 n x1 x2 x3 M = some y → (Ev Z (d + 0) 213 43 [none, none, some (.int y.1), none] [] (mm_H y.2) Q) → Ev Z (d + 0) 213 4 [some (.ref 73), some (.int x1), some (.int x2), some (.int x3)] [] (mm_H M) Q := by
  intro n
  induction n with
  | zero => intro x1 x2 x3 M y Q hf; cases hf
  | succ n ih =>
    intro x1 x2 x3 M y Q hf hq
    rw [md_awayIn_l4] at hf
    refine e_iload_n hm_213 rfl rfl ?_
    refine e_aload_n hm_213 rfl rfl ?_
    refine e_getI hm_213 rfl rfl rfl ?_
    by_cases hc1 : x3 < (M.1 73 11)
    · rw [if_pos hc1] at hf
      refine e_ic_f hm_213 rfl (cf_ge hc1) ?_
      refine e_iload_n hm_213 rfl rfl ?_
      refine e_aload_n hm_213 rfl rfl ?_
      refine e_getR hm_213 rfl rfl rfl rfl ?_
      refine e_bipush hm_213 rfl kc_bipush_9 ?_
      refine e_iload_n hm_213 rfl rfl ?_
      refine e_imul hm_213 rfl ?_
      refine e_aload_n hm_213 rfl rfl ?_
      refine e_getR hm_213 rfl rfl rfl rfl ?_
      refine e_iload_n hm_213 rfl rfl ?_
      obtain ⟨hi2, hf⟩ := mm_ite hf
      refine e_iald hm_213 rfl rfl hi2 ?_
      refine e_iadd hm_213 rfl ?_
      obtain ⟨hi3, hf⟩ := mm_ite hf
      refine e_iald hm_213 rfl rfl hi3 ?_
      refine e_iload_n hm_213 rfl rfl ?_
      refine e_ishr hm_213 rfl ?_
      refine e_iconst hm_213 rfl kc_iconst_1 ?_
      refine e_iand hm_213 rfl ?_
      refine e_iload_n hm_213 rfl rfl ?_
      refine e_ishl hm_213 rfl ?_
      refine e_ior hm_213 rfl ?_
      refine e_istore_n (L2 := [some (.ref 73), some (.int x1), some (.int (x2 ||| ((((M.1 83 (((9 : Int32) * x3) + (M.1 84 x3.toNatClampNeg)).toNatClampNeg) >>> (x1 &&& 31)) &&& (1 : Int32)) <<< (x3 &&& 31)))), some (.int x3)]) hm_213 rfl rfl ?_
      refine e_iinc (L2 := [some (.ref 73), some (.int x1), some (.int (x2 ||| ((((M.1 83 (((9 : Int32) * x3) + (M.1 84 x3.toNatClampNeg)).toNatClampNeg) >>> (x1 &&& 31)) &&& (1 : Int32)) <<< (x3 &&& 31)))), some (.int (x3 + (1 : Int32)))]) hm_213 rfl kc_iinc_1 rfl rfl ?_
      refine e_goto (t := 4) hm_213 rfl rfl ?_
      exact e_forget (L' := [some (.ref 73), some (.int x1), some (.int (x2 ||| ((((M.1 83 (((9 : Int32) * x3) + (M.1 84 x3.toNatClampNeg)).toNatClampNeg) >>> (x1 &&& 31)) &&& (1 : Int32)) <<< (x3 &&& 31)))), some (.int (x3 + (1 : Int32)))]) (lf_k (lf_k (lf_k (lf_k lf_0)))) (ih x1 (x2 ||| ((((M.1 83 (((9 : Int32) * x3) + (M.1 84 x3.toNatClampNeg)).toNatClampNeg) >>> (x1 &&& 31)) &&& (1 : Int32)) <<< (x3 &&& 31))) (x3 + (1 : Int32)) M Q hf hq)
    · rw [if_neg hc1] at hf
      refine e_ic_t (t := 43) hm_213 rfl (ct_ge hc1) rfl ?_
      obtain rfl := Option.some.inj hf
      exact e_forget (L' := [none, none, some (.int x2), none]) (lf_d (lf_d (lf_k (lf_d lf_0)))) hq
def md_awayIn (a1 : Int32) (M : mm_M) : Option (Int32 × mm_M) :=
  (md_awayIn_l4 300 a1 (0 : Int32) (0 : Int32) M).bind fun y1 =>
  some (y1.1, y1.2)
set_option maxRecDepth 20000 in
set_option maxHeartbeats 4000000 in
theorem c_213 {Z : ak_Z} {d : Nat} (a1 : Int32) (M : mm_M) {y : Int32 × mm_M} (hf : md_awayIn a1 M = some y) {Q : Option Value → ak_H → Prop} (hq : Q (some (.int y.1)) (mm_H y.2)) : Ev Z (d + 0) 213 0 [some (.ref 73), some (.int a1), none, none] [] (mm_H M) Q := by
  rw [md_awayIn] at hf
  refine e_iconst hm_213 rfl kc_iconst_0 ?_
  refine e_istore_n (L2 := [some (.ref 73), some (.int a1), some (.int (0 : Int32)), none]) hm_213 rfl rfl ?_
  refine e_iconst hm_213 rfl kc_iconst_0 ?_
  refine e_istore_n (L2 := [some (.ref 73), some (.int a1), some (.int (0 : Int32)), some (.int (0 : Int32))]) hm_213 rfl rfl ?_
  obtain ⟨y1, hky1, hf⟩ := mm_bd hf
  refine e_forget (L' := [some (.ref 73), some (.int a1), some (.int (0 : Int32)), some (.int (0 : Int32))]) (lf_k (lf_k (lf_k (lf_k lf_0)))) (lc_213_4 (d := _) 300 a1 (0 : Int32) (0 : Int32) M Q hky1 ?_)
  show Ev Z _ 213 43 [none, none, some (.int y1.1), none] [] (mm_H y1.2) Q
  refine e_iload_n hm_213 rfl rfl ?_
  obtain rfl := Option.some.inj hf
  exact e_iret hm_213 rfl rfl hq
def md_bitsOf_l4 : Nat → Int32 → Int32 → mm_M → Option (((Int32) × mm_M))
  | 0, _, _, _ => none
  | n + 1, x1, x2, M =>
    if x2 = (0 : Int32) then
      some (x1, M)
    else
      md_bitsOf_l4 n (x1 + (1 : Int32)) (x2 &&& (x2 - (1 : Int32))) M
set_option maxRecDepth 20000 in
set_option maxHeartbeats 4000000 in
theorem lc_214_4 {Z : ak_Z} {d : Nat} : ∀ (n : Nat) (x1 : Int32) (x2 : Int32) (M : mm_M) {y : ((Int32) × mm_M)} (Q : Option Value → ak_H → Prop), md_bitsOf_l4 n x1 x2 M = some y → (Ev Z (d + 0) 214 20 [none, some (.int y.1), none] [] (mm_H y.2) Q) → Ev Z (d + 0) 214 4 [none, some (.int x1), some (.int x2)] [] (mm_H M) Q := by
  intro n
  induction n with
  | zero => intro x1 x2 M y Q hf; cases hf
  | succ n ih =>
    intro x1 x2 M y Q hf hq
    rw [md_bitsOf_l4] at hf
    refine e_iload_n hm_214 rfl rfl ?_
    by_cases hc1 : x2 = (0 : Int32)
    · rw [if_pos hc1] at hf
      refine e_if_t (t := 20) hm_214 rfl (ct_eq hc1) rfl ?_
      obtain rfl := Option.some.inj hf
      exact e_forget (L' := [none, some (.int x1), none]) (lf_k (lf_k (lf_d lf_0))) hq
    · rw [if_neg hc1] at hf
      refine e_if_f hm_214 rfl (cf_eq hc1) ?_
      refine e_iinc (L2 := [none, some (.int (x1 + (1 : Int32))), some (.int x2)]) hm_214 rfl kc_iinc_1 rfl rfl ?_
      refine e_iload_n hm_214 rfl rfl ?_
      refine e_iload_n hm_214 rfl rfl ?_
      refine e_iconst hm_214 rfl kc_iconst_1 ?_
      refine e_isub hm_214 rfl ?_
      refine e_iand hm_214 rfl ?_
      refine e_istore_n (L2 := [none, some (.int (x1 + (1 : Int32))), some (.int (x2 &&& (x2 - (1 : Int32))))]) hm_214 rfl rfl ?_
      refine e_goto (t := 4) hm_214 rfl rfl ?_
      exact e_forget (L' := [none, some (.int (x1 + (1 : Int32))), some (.int (x2 &&& (x2 - (1 : Int32))))]) (lf_k (lf_k (lf_k lf_0))) (ih (x1 + (1 : Int32)) (x2 &&& (x2 - (1 : Int32))) M Q hf hq)
def md_bitsOf (a1 : Int32) (M : mm_M) : Option (Int32 × mm_M) :=
  (md_bitsOf_l4 300 (0 : Int32) a1 M).bind fun y1 =>
  some (y1.1, y1.2)
set_option maxRecDepth 20000 in
set_option maxHeartbeats 4000000 in
theorem c_214 {Z : ak_Z} {d : Nat} (a1 : Int32) (M : mm_M) {y : Int32 × mm_M} (hf : md_bitsOf a1 M = some y) {Q : Option Value → ak_H → Prop} (hq : Q (some (.int y.1)) (mm_H y.2)) : Ev Z (d + 0) 214 0 [some (.int a1), none, none] [] (mm_H M) Q := by
  rw [md_bitsOf] at hf
  refine e_iconst hm_214 rfl kc_iconst_0 ?_
  refine e_istore_n (L2 := [some (.int a1), some (.int (0 : Int32)), none]) hm_214 rfl rfl ?_
  refine e_iload_n hm_214 rfl rfl ?_
  refine e_istore_n (L2 := [some (.int a1), some (.int (0 : Int32)), some (.int a1)]) hm_214 rfl rfl ?_
  obtain ⟨y1, hky1, hf⟩ := mm_bd hf
  refine e_forget (L' := [none, some (.int (0 : Int32)), some (.int a1)]) (lf_d (lf_k (lf_k lf_0))) (lc_214_4 (d := _) 300 (0 : Int32) a1 M Q hky1 ?_)
  show Ev Z _ 214 20 [none, some (.int y1.1), none] [] (mm_H y1.2) Q
  refine e_iload_n hm_214 rfl rfl ?_
  obtain rfl := Option.some.inj hf
  exact e_iret hm_214 rfl rfl hq
def md_isRight_l18 : Nat → Int32 → Int32 → Int32 → mm_M → Option ((Int32 × mm_M) ⊕ ((Unit) × mm_M))
  | 0, _, _, _, _ => none
  | n + 1, x2, x3, x4, M =>
    if x4 < (M.1 73 11) then
      if ((x2 >>> (x4 &&& 31)) &&& (1 : Int32)) = (1 : Int32) then
        if ak_inb x4 4 = true then
        if ((M.1 80 x4.toNatClampNeg) &&& x2) = (0 : Int32) then
          md_isRight_l18 n x2 x3 (x4 + (1 : Int32)) M
        else
          some (.inl ((0 : Int32), M)) else none
      else
        md_isRight_l18 n x2 x3 (x4 + (1 : Int32)) M
    else
      some (.inr ((), M))
set_option maxRecDepth 20000 in
set_option maxHeartbeats 4000000 in
theorem lc_212_18 {Z : ak_Z} {d : Nat} : ∀ (n : Nat) (x2 : Int32) (x3 : Int32) (x4 : Int32) (M : mm_M) {y : (Int32 × mm_M) ⊕ ((Unit) × mm_M)} (Q : Option Value → ak_H → Prop), md_isRight_l18 n x2 x3 x4 M = some y → (match y with | .inl yr => Q (some (.int yr.1)) (mm_H yr.2) | .inr yv => Ev Z (d + 1) 212 57 [some (.ref 73), none, some (.int x2), some (.int x3), none, none] [] (mm_H yv.2) Q) → Ev Z (d + 1) 212 18 [some (.ref 73), none, some (.int x2), some (.int x3), some (.int x4), none] [] (mm_H M) Q := by
  intro n
  induction n with
  | zero => intro x2 x3 x4 M y Q hf; cases hf
  | succ n ih =>
    intro x2 x3 x4 M y Q hf hq
    rw [md_isRight_l18] at hf
    refine e_iload hm_212 rfl rfl ?_
    refine e_aload_n hm_212 rfl rfl ?_
    refine e_getI hm_212 rfl rfl rfl ?_
    by_cases hc1 : x4 < (M.1 73 11)
    · rw [if_pos hc1] at hf
      refine e_ic_f hm_212 rfl (cf_ge hc1) ?_
      refine e_iload_n hm_212 rfl rfl ?_
      refine e_iload hm_212 rfl rfl ?_
      refine e_ishr hm_212 rfl ?_
      refine e_iconst hm_212 rfl kc_iconst_1 ?_
      refine e_iand hm_212 rfl ?_
      refine e_iconst hm_212 rfl kc_iconst_1 ?_
      by_cases hc2 : ((x2 >>> (x4 &&& 31)) &&& (1 : Int32)) = (1 : Int32)
      · rw [if_pos hc2] at hf
        refine e_ic_f hm_212 rfl (cf_ne hc2) ?_
        refine e_aload_n hm_212 rfl rfl ?_
        refine e_getR hm_212 rfl rfl rfl rfl ?_
        refine e_iload hm_212 rfl rfl ?_
        obtain ⟨hi3, hf⟩ := mm_ite hf
        refine e_iald hm_212 rfl rfl hi3 ?_
        refine e_iload_n hm_212 rfl rfl ?_
        refine e_iand hm_212 rfl ?_
        by_cases hc4 : ((M.1 80 x4.toNatClampNeg) &&& x2) = (0 : Int32)
        · rw [if_pos hc4] at hf
          refine e_if_t (t := 51) hm_212 rfl (ct_eq hc4) rfl ?_
          refine e_iinc (L2 := [some (.ref 73), none, some (.int x2), some (.int x3), some (.int (x4 + (1 : Int32))), none]) hm_212 rfl kc_iinc_1 rfl rfl ?_
          refine e_goto (t := 18) hm_212 rfl rfl ?_
          exact e_forget (L' := [some (.ref 73), none, some (.int x2), some (.int x3), some (.int (x4 + (1 : Int32))), none]) (lf_k (lf_k (lf_k (lf_k (lf_k (lf_k lf_0)))))) (ih x2 x3 (x4 + (1 : Int32)) M Q hf hq)
        · rw [if_neg hc4] at hf
          refine e_if_f hm_212 rfl (cf_eq hc4) ?_
          refine e_iconst hm_212 rfl kc_iconst_0 ?_
          obtain rfl := Option.some.inj hf
          exact e_zret hm_212 rfl rfl (by decide) hq
      · rw [if_neg hc2] at hf
        refine e_ic_t (t := 51) hm_212 rfl (ct_ne hc2) rfl ?_
        refine e_iinc (L2 := [some (.ref 73), none, some (.int x2), some (.int x3), some (.int (x4 + (1 : Int32))), none]) hm_212 rfl kc_iinc_1 rfl rfl ?_
        refine e_goto (t := 18) hm_212 rfl rfl ?_
        exact e_forget (L' := [some (.ref 73), none, some (.int x2), some (.int x3), some (.int (x4 + (1 : Int32))), none]) (lf_k (lf_k (lf_k (lf_k (lf_k (lf_k lf_0)))))) (ih x2 x3 (x4 + (1 : Int32)) M Q hf hq)
    · rw [if_neg hc1] at hf
      refine e_ic_t (t := 57) hm_212 rfl (ct_ge hc1) rfl ?_
      obtain rfl := Option.some.inj hf
      exact e_forget (L' := [some (.ref 73), none, some (.int x2), some (.int x3), none, none]) (lf_k (lf_k (lf_k (lf_k (lf_d (lf_k lf_0)))))) hq
def md_isRight (a1 : Int32) (M : mm_M) : Option (Int32 × mm_M) :=
  (md_awayIn a1 M).bind fun y1 =>
  (md_isRight_l18 300 y1.1 (((1 : Int32) <<< ((y1.2.1 73 11) &&& 31)) - (1 : Int32)) (0 : Int32) y1.2).bind fun y2 => match y2 with
  | .inl y2r => some y2r
  | .inr y2v => if ak_inb (1 : Int32) 3 = true then
    if (y2v.2.1 77 (1 : Int32).toNatClampNeg) < (y2v.2.1 73 11) then
      if ak_inb (1 : Int32) 3 = true then
      if ak_inb (2 : Int32) 3 = true then
      (md_bitsOf y1.1 y2v.2).bind fun y7 =>
      if ((y2v.2.1 73 11) - y7.1) < (y2v.2.1 77 (1 : Int32).toNatClampNeg) then
        some ((0 : Int32), y7.2)
      else
        if ((y2v.2.1 77 (2 : Int32).toNatClampNeg) &&& (((1 : Int32) <<< ((y1.2.1 73 11) &&& 31)) - (1 : Int32))) = (0 : Int32) then
          some ((1 : Int32), y7.2)
        else
          if (((y2v.2.1 77 (2 : Int32).toNatClampNeg) &&& (((1 : Int32) <<< ((y1.2.1 73 11) &&& 31)) - (1 : Int32))) &&& (y1.1 ^^^ (-1 : Int32))) = (0 : Int32) then
            some ((0 : Int32), y7.2)
          else
            some ((1 : Int32), y7.2) else none else none
    else
      if ak_inb (2 : Int32) 3 = true then
      (md_bitsOf y1.1 y2v.2).bind fun y12 =>
      if ((y2v.2.1 73 11) - y12.1) < (y2v.2.1 73 11) then
        some ((0 : Int32), y12.2)
      else
        if ((y2v.2.1 77 (2 : Int32).toNatClampNeg) &&& (((1 : Int32) <<< ((y1.2.1 73 11) &&& 31)) - (1 : Int32))) = (0 : Int32) then
          some ((1 : Int32), y12.2)
        else
          if (((y2v.2.1 77 (2 : Int32).toNatClampNeg) &&& (((1 : Int32) <<< ((y1.2.1 73 11) &&& 31)) - (1 : Int32))) &&& (y1.1 ^^^ (-1 : Int32))) = (0 : Int32) then
            some ((0 : Int32), y12.2)
          else
            some ((1 : Int32), y12.2) else none else none
set_option maxRecDepth 20000 in
set_option maxHeartbeats 4000000 in
theorem c_212 {Z : ak_Z} {d : Nat} (a1 : Int32) (M : mm_M) {y : Int32 × mm_M} (hf : md_isRight a1 M = some y) {Q : Option Value → ak_H → Prop} (hq : Q (some (.int y.1)) (mm_H y.2)) : Ev Z (d + 1) 212 0 [some (.ref 73), some (.int a1), none, none, none, none] [] (mm_H M) Q := by
  rw [md_isRight] at hf
  refine e_aload_n hm_212 rfl rfl ?_
  refine e_iload_n hm_212 rfl rfl ?_
  obtain ⟨y1, hky1, hf⟩ := mm_bd hf
  refine e_virt hm_212 rfl rfl rfl rfl (Nat.le_of_ble_eq_true rfl) hm_213 rfl rfl (c_213 a1 M hky1 ?_)
  show Ev Z _ 212 5 [some (.ref 73), some (.int a1), none, none, none, none] [.int y1.1] (mm_H y1.2) Q
  refine e_istore_n (L2 := [some (.ref 73), some (.int a1), some (.int y1.1), none, none, none]) hm_212 rfl rfl ?_
  refine e_iconst hm_212 rfl kc_iconst_1 ?_
  refine e_aload_n hm_212 rfl rfl ?_
  refine e_getI hm_212 rfl rfl rfl ?_
  refine e_ishl hm_212 rfl ?_
  refine e_iconst hm_212 rfl kc_iconst_1 ?_
  refine e_isub hm_212 rfl ?_
  refine e_istore_n (L2 := [some (.ref 73), some (.int a1), some (.int y1.1), some (.int (((1 : Int32) <<< ((y1.2.1 73 11) &&& 31)) - (1 : Int32))), none, none]) hm_212 rfl rfl ?_
  refine e_iconst hm_212 rfl kc_iconst_0 ?_
  refine e_istore (L2 := [some (.ref 73), some (.int a1), some (.int y1.1), some (.int (((1 : Int32) <<< ((y1.2.1 73 11) &&& 31)) - (1 : Int32))), some (.int (0 : Int32)), none]) hm_212 rfl rfl ?_
  obtain ⟨y2, hky2, hf⟩ := mm_bd hf
  refine e_forget (L' := [some (.ref 73), none, some (.int y1.1), some (.int (((1 : Int32) <<< ((y1.2.1 73 11) &&& 31)) - (1 : Int32))), some (.int (0 : Int32)), none]) (lf_k (lf_d (lf_k (lf_k (lf_k (lf_k lf_0)))))) (lc_212_18 (d := _) 300 y1.1 (((1 : Int32) <<< ((y1.2.1 73 11) &&& 31)) - (1 : Int32)) (0 : Int32) y1.2 Q hky2 ?_)
  rcases y2 with y2r | y2v
  · obtain rfl := Option.some.inj hf
    exact hq
  · show Ev Z _ 212 57 [some (.ref 73), none, some (.int y1.1), some (.int (((1 : Int32) <<< ((y1.2.1 73 11) &&& 31)) - (1 : Int32))), none, none] [] (mm_H y2v.2) Q
    refine e_aload_n hm_212 rfl rfl ?_
    refine e_getR hm_212 rfl rfl rfl rfl ?_
    refine e_iconst hm_212 rfl kc_iconst_1 ?_
    obtain ⟨hi3, hf⟩ := mm_ite hf
    refine e_iald hm_212 rfl rfl hi3 ?_
    refine e_aload_n hm_212 rfl rfl ?_
    refine e_getI hm_212 rfl rfl rfl ?_
    by_cases hc4 : (y2v.2.1 77 (1 : Int32).toNatClampNeg) < (y2v.2.1 73 11)
    · rw [if_pos hc4] at hf
      refine e_ic_f hm_212 rfl (cf_ge hc4) ?_
      refine e_aload_n hm_212 rfl rfl ?_
      refine e_getR hm_212 rfl rfl rfl rfl ?_
      refine e_iconst hm_212 rfl kc_iconst_1 ?_
      obtain ⟨hi5, hf⟩ := mm_ite hf
      refine e_iald hm_212 rfl rfl hi5 ?_
      refine e_goto (t := 83) hm_212 rfl rfl ?_
      refine e_istore (L2 := [some (.ref 73), none, some (.int y1.1), some (.int (((1 : Int32) <<< ((y1.2.1 73 11) &&& 31)) - (1 : Int32))), some (.int (y2v.2.1 77 (1 : Int32).toNatClampNeg)), none]) hm_212 rfl rfl ?_
      refine e_aload_n hm_212 rfl rfl ?_
      refine e_getR hm_212 rfl rfl rfl rfl ?_
      refine e_iconst hm_212 rfl kc_iconst_2 ?_
      obtain ⟨hi6, hf⟩ := mm_ite hf
      refine e_iald hm_212 rfl rfl hi6 ?_
      refine e_iload_n hm_212 rfl rfl ?_
      refine e_iand hm_212 rfl ?_
      refine e_istore (L2 := [some (.ref 73), none, some (.int y1.1), some (.int (((1 : Int32) <<< ((y1.2.1 73 11) &&& 31)) - (1 : Int32))), some (.int (y2v.2.1 77 (1 : Int32).toNatClampNeg)), some (.int ((y2v.2.1 77 (2 : Int32).toNatClampNeg) &&& (((1 : Int32) <<< ((y1.2.1 73 11) &&& 31)) - (1 : Int32))))]) hm_212 rfl rfl ?_
      refine e_aload_n hm_212 rfl rfl ?_
      refine e_getI hm_212 rfl rfl rfl ?_
      refine e_iload_n hm_212 rfl rfl ?_
      obtain ⟨y7, hky7, hf⟩ := mm_bd hf
      refine e_stat hm_212 rfl (by decide) rfl rfl (Nat.le_of_ble_eq_true rfl) hm_214 rfl rfl (c_214 y1.1 y2v.2 hky7 ?_)
      show Ev Z _ 212 103 [some (.ref 73), none, some (.int y1.1), some (.int (((1 : Int32) <<< ((y1.2.1 73 11) &&& 31)) - (1 : Int32))), some (.int (y2v.2.1 77 (1 : Int32).toNatClampNeg)), some (.int ((y2v.2.1 77 (2 : Int32).toNatClampNeg) &&& (((1 : Int32) <<< ((y1.2.1 73 11) &&& 31)) - (1 : Int32))))] [.int y7.1, .int (y2v.2.1 73 11)] (mm_H y7.2) Q
      refine e_isub hm_212 rfl ?_
      refine e_iload hm_212 rfl rfl ?_
      by_cases hc8 : ((y2v.2.1 73 11) - y7.1) < (y2v.2.1 77 (1 : Int32).toNatClampNeg)
      · rw [if_pos hc8] at hf
        refine e_ic_t (t := 127) hm_212 rfl (ct_lt hc8) rfl ?_
        refine e_iconst hm_212 rfl kc_iconst_0 ?_
        obtain rfl := Option.some.inj hf
        exact e_zret hm_212 rfl rfl (by decide) hq
      · rw [if_neg hc8] at hf
        refine e_ic_f hm_212 rfl (cf_lt hc8) ?_
        refine e_iload hm_212 rfl rfl ?_
        by_cases hc9 : ((y2v.2.1 77 (2 : Int32).toNatClampNeg) &&& (((1 : Int32) <<< ((y1.2.1 73 11) &&& 31)) - (1 : Int32))) = (0 : Int32)
        · rw [if_pos hc9] at hf
          refine e_if_t (t := 123) hm_212 rfl (ct_eq hc9) rfl ?_
          refine e_iconst hm_212 rfl kc_iconst_1 ?_
          refine e_goto (t := 128) hm_212 rfl rfl ?_
          obtain rfl := Option.some.inj hf
          exact e_zret hm_212 rfl rfl (by decide) hq
        · rw [if_neg hc9] at hf
          refine e_if_f hm_212 rfl (cf_eq hc9) ?_
          refine e_iload hm_212 rfl rfl ?_
          refine e_iload_n hm_212 rfl rfl ?_
          refine e_iconst hm_212 rfl kc_iconst_m1 ?_
          refine e_ixor hm_212 rfl ?_
          refine e_iand hm_212 rfl ?_
          by_cases hc10 : (((y2v.2.1 77 (2 : Int32).toNatClampNeg) &&& (((1 : Int32) <<< ((y1.2.1 73 11) &&& 31)) - (1 : Int32))) &&& (y1.1 ^^^ (-1 : Int32))) = (0 : Int32)
          · rw [if_pos hc10] at hf
            refine e_if_t (t := 127) hm_212 rfl (ct_eq hc10) rfl ?_
            refine e_iconst hm_212 rfl kc_iconst_0 ?_
            obtain rfl := Option.some.inj hf
            exact e_zret hm_212 rfl rfl (by decide) hq
          · rw [if_neg hc10] at hf
            refine e_if_f hm_212 rfl (cf_eq hc10) ?_
            refine e_iconst hm_212 rfl kc_iconst_1 ?_
            refine e_goto (t := 128) hm_212 rfl rfl ?_
            obtain rfl := Option.some.inj hf
            exact e_zret hm_212 rfl rfl (by decide) hq
    · rw [if_neg hc4] at hf
      refine e_ic_t (t := 79) hm_212 rfl (ct_ge hc4) rfl ?_
      refine e_aload_n hm_212 rfl rfl ?_
      refine e_getI hm_212 rfl rfl rfl ?_
      refine e_istore (L2 := [some (.ref 73), none, some (.int y1.1), some (.int (((1 : Int32) <<< ((y1.2.1 73 11) &&& 31)) - (1 : Int32))), some (.int (y2v.2.1 73 11)), none]) hm_212 rfl rfl ?_
      refine e_aload_n hm_212 rfl rfl ?_
      refine e_getR hm_212 rfl rfl rfl rfl ?_
      refine e_iconst hm_212 rfl kc_iconst_2 ?_
      obtain ⟨hi11, hf⟩ := mm_ite hf
      refine e_iald hm_212 rfl rfl hi11 ?_
      refine e_iload_n hm_212 rfl rfl ?_
      refine e_iand hm_212 rfl ?_
      refine e_istore (L2 := [some (.ref 73), none, some (.int y1.1), some (.int (((1 : Int32) <<< ((y1.2.1 73 11) &&& 31)) - (1 : Int32))), some (.int (y2v.2.1 73 11)), some (.int ((y2v.2.1 77 (2 : Int32).toNatClampNeg) &&& (((1 : Int32) <<< ((y1.2.1 73 11) &&& 31)) - (1 : Int32))))]) hm_212 rfl rfl ?_
      refine e_aload_n hm_212 rfl rfl ?_
      refine e_getI hm_212 rfl rfl rfl ?_
      refine e_iload_n hm_212 rfl rfl ?_
      obtain ⟨y12, hky12, hf⟩ := mm_bd hf
      refine e_stat hm_212 rfl (by decide) rfl rfl (Nat.le_of_ble_eq_true rfl) hm_214 rfl rfl (c_214 y1.1 y2v.2 hky12 ?_)
      show Ev Z _ 212 103 [some (.ref 73), none, some (.int y1.1), some (.int (((1 : Int32) <<< ((y1.2.1 73 11) &&& 31)) - (1 : Int32))), some (.int (y2v.2.1 73 11)), some (.int ((y2v.2.1 77 (2 : Int32).toNatClampNeg) &&& (((1 : Int32) <<< ((y1.2.1 73 11) &&& 31)) - (1 : Int32))))] [.int y12.1, .int (y2v.2.1 73 11)] (mm_H y12.2) Q
      refine e_isub hm_212 rfl ?_
      refine e_iload hm_212 rfl rfl ?_
      by_cases hc13 : ((y2v.2.1 73 11) - y12.1) < (y2v.2.1 73 11)
      · rw [if_pos hc13] at hf
        refine e_ic_t (t := 127) hm_212 rfl (ct_lt hc13) rfl ?_
        refine e_iconst hm_212 rfl kc_iconst_0 ?_
        obtain rfl := Option.some.inj hf
        exact e_zret hm_212 rfl rfl (by decide) hq
      · rw [if_neg hc13] at hf
        refine e_ic_f hm_212 rfl (cf_lt hc13) ?_
        refine e_iload hm_212 rfl rfl ?_
        by_cases hc14 : ((y2v.2.1 77 (2 : Int32).toNatClampNeg) &&& (((1 : Int32) <<< ((y1.2.1 73 11) &&& 31)) - (1 : Int32))) = (0 : Int32)
        · rw [if_pos hc14] at hf
          refine e_if_t (t := 123) hm_212 rfl (ct_eq hc14) rfl ?_
          refine e_iconst hm_212 rfl kc_iconst_1 ?_
          refine e_goto (t := 128) hm_212 rfl rfl ?_
          obtain rfl := Option.some.inj hf
          exact e_zret hm_212 rfl rfl (by decide) hq
        · rw [if_neg hc14] at hf
          refine e_if_f hm_212 rfl (cf_eq hc14) ?_
          refine e_iload hm_212 rfl rfl ?_
          refine e_iload_n hm_212 rfl rfl ?_
          refine e_iconst hm_212 rfl kc_iconst_m1 ?_
          refine e_ixor hm_212 rfl ?_
          refine e_iand hm_212 rfl ?_
          by_cases hc15 : (((y2v.2.1 77 (2 : Int32).toNatClampNeg) &&& (((1 : Int32) <<< ((y1.2.1 73 11) &&& 31)) - (1 : Int32))) &&& (y1.1 ^^^ (-1 : Int32))) = (0 : Int32)
          · rw [if_pos hc15] at hf
            refine e_if_t (t := 127) hm_212 rfl (ct_eq hc15) rfl ?_
            refine e_iconst hm_212 rfl kc_iconst_0 ?_
            obtain rfl := Option.some.inj hf
            exact e_zret hm_212 rfl rfl (by decide) hq
          · rw [if_neg hc15] at hf
            refine e_if_f hm_212 rfl (cf_eq hc15) ?_
            refine e_iconst hm_212 rfl kc_iconst_1 ?_
            refine e_goto (t := 128) hm_212 rfl rfl ?_
            obtain rfl := Option.some.inj hf
            exact e_zret hm_212 rfl rfl (by decide) hq
def md_firstWrong_l2 : Nat → Int32 → mm_M → Option ((Int32 × mm_M) ⊕ ((Unit) × mm_M))
  | 0, _, _ => none
  | n + 1, x1, M =>
    if x1 < (8 : Int32) then
      (md_isRight x1 M).bind fun y2 =>
      if y2.1 = (0 : Int32) then
        some (.inl (x1, y2.2))
      else
        md_firstWrong_l2 n (x1 + (1 : Int32)) y2.2
    else
      some (.inr ((), M))
set_option maxRecDepth 20000 in
set_option maxHeartbeats 4000000 in
theorem lc_211_2 {Z : ak_Z} {d : Nat} : ∀ (n : Nat) (x1 : Int32) (M : mm_M) {y : (Int32 × mm_M) ⊕ ((Unit) × mm_M)} (Q : Option Value → ak_H → Prop), md_firstWrong_l2 n x1 M = some y → (match y with | .inl yr => Q (some (.int yr.1)) (mm_H yr.2) | .inr yv => Ev Z (d + 2) 211 24 [none, none] [] (mm_H yv.2) Q) → Ev Z (d + 2) 211 2 [some (.ref 73), some (.int x1)] [] (mm_H M) Q := by
  intro n
  induction n with
  | zero => intro x1 M y Q hf; cases hf
  | succ n ih =>
    intro x1 M y Q hf hq
    rw [md_firstWrong_l2] at hf
    refine e_iload_n hm_211 rfl rfl ?_
    refine e_bipush hm_211 rfl kc_bipush_8 ?_
    by_cases hc1 : x1 < (8 : Int32)
    · rw [if_pos hc1] at hf
      refine e_ic_f hm_211 rfl (cf_ge hc1) ?_
      refine e_aload_n hm_211 rfl rfl ?_
      refine e_iload_n hm_211 rfl rfl ?_
      obtain ⟨y2, hky2, hf⟩ := mm_bd hf
      refine e_virt hm_211 rfl rfl rfl rfl (Nat.le_of_ble_eq_true rfl) hm_212 rfl rfl (c_212 x1 M hky2 ?_)
      show Ev Z _ 211 13 [some (.ref 73), some (.int x1)] [.int y2.1] (mm_H y2.2) Q
      by_cases hc3 : y2.1 = (0 : Int32)
      · rw [if_pos hc3] at hf
        refine e_if_f hm_211 rfl (cf_ne hc3) ?_
        refine e_iload_n hm_211 rfl rfl ?_
        obtain rfl := Option.some.inj hf
        exact e_iret hm_211 rfl rfl hq
      · rw [if_neg hc3] at hf
        refine e_if_t (t := 18) hm_211 rfl (ct_ne hc3) rfl ?_
        refine e_iinc (L2 := [some (.ref 73), some (.int (x1 + (1 : Int32)))]) hm_211 rfl kc_iinc_1 rfl rfl ?_
        refine e_goto (t := 2) hm_211 rfl rfl ?_
        exact e_forget (L' := [some (.ref 73), some (.int (x1 + (1 : Int32)))]) (lf_k (lf_k lf_0)) (ih (x1 + (1 : Int32)) y2.2 Q hf hq)
    · rw [if_neg hc1] at hf
      refine e_ic_t (t := 24) hm_211 rfl (ct_ge hc1) rfl ?_
      obtain rfl := Option.some.inj hf
      exact e_forget (L' := [none, none]) (lf_d (lf_d lf_0)) hq
def md_firstWrong (M : mm_M) : Option (Int32 × mm_M) :=
  (md_firstWrong_l2 300 (0 : Int32) M).bind fun y1 => match y1 with
  | .inl y1r => some y1r
  | .inr y1v => some ((-1 : Int32), y1v.2)
set_option maxRecDepth 20000 in
set_option maxHeartbeats 4000000 in
theorem c_211 {Z : ak_Z} {d : Nat} (M : mm_M) {y : Int32 × mm_M} (hf : md_firstWrong M = some y) {Q : Option Value → ak_H → Prop} (hq : Q (some (.int y.1)) (mm_H y.2)) : Ev Z (d + 2) 211 0 [some (.ref 73), none] [] (mm_H M) Q := by
  rw [md_firstWrong] at hf
  refine e_iconst hm_211 rfl kc_iconst_0 ?_
  refine e_istore_n (L2 := [some (.ref 73), some (.int (0 : Int32))]) hm_211 rfl rfl ?_
  obtain ⟨y1, hky1, hf⟩ := mm_bd hf
  refine e_forget (L' := [some (.ref 73), some (.int (0 : Int32))]) (lf_k (lf_k lf_0)) (lc_211_2 (d := _) 300 (0 : Int32) M Q hky1 ?_)
  rcases y1 with y1r | y1v
  · obtain rfl := Option.some.inj hf
    exact hq
  · show Ev Z _ 211 24 [none, none] [] (mm_H y1v.2) Q
    refine e_iconst hm_211 rfl kc_iconst_m1 ?_
    obtain rfl := Option.some.inj hf
    exact e_iret hm_211 rfl rfl hq
def md_holds_l2 : Nat → Int32 → mm_M → Option ((Int32 × mm_M) ⊕ ((Unit) × mm_M))
  | 0, _, _ => none
  | n + 1, x1, M =>
    if x1 < (M.1 73 11) then
      if ak_inb x1 4 = true then
      if ak_inb (((9 : Int32) * x1) + (M.1 84 x1.toNatClampNeg)) 36 = true then
      if (M.1 81 (((9 : Int32) * x1) + (M.1 84 x1.toNatClampNeg)).toNatClampNeg) = (0 : Int32) then
        some (.inl ((0 : Int32), M))
      else
        md_holds_l2 n (x1 + (1 : Int32)) M else none else none
    else
      some (.inr ((), M))
set_option maxRecDepth 20000 in
set_option maxHeartbeats 4000000 in
theorem lc_210_2 {Z : ak_Z} {d : Nat} : ∀ (n : Nat) (x1 : Int32) (M : mm_M) {y : (Int32 × mm_M) ⊕ ((Unit) × mm_M)} (Q : Option Value → ak_H → Prop), md_holds_l2 n x1 M = some y → (match y with | .inl yr => Q (some (.int yr.1)) (mm_H yr.2) | .inr yv => Ev Z (d + 3) 210 37 [some (.ref 73), none] [] (mm_H yv.2) Q) → Ev Z (d + 3) 210 2 [some (.ref 73), some (.int x1)] [] (mm_H M) Q := by
  intro n
  induction n with
  | zero => intro x1 M y Q hf; cases hf
  | succ n ih =>
    intro x1 M y Q hf hq
    rw [md_holds_l2] at hf
    refine e_iload_n hm_210 rfl rfl ?_
    refine e_aload_n hm_210 rfl rfl ?_
    refine e_getI hm_210 rfl rfl rfl ?_
    by_cases hc1 : x1 < (M.1 73 11)
    · rw [if_pos hc1] at hf
      refine e_ic_f hm_210 rfl (cf_ge hc1) ?_
      refine e_aload_n hm_210 rfl rfl ?_
      refine e_getR hm_210 rfl rfl rfl rfl ?_
      refine e_bipush hm_210 rfl kc_bipush_9 ?_
      refine e_iload_n hm_210 rfl rfl ?_
      refine e_imul hm_210 rfl ?_
      refine e_aload_n hm_210 rfl rfl ?_
      refine e_getR hm_210 rfl rfl rfl rfl ?_
      refine e_iload_n hm_210 rfl rfl ?_
      obtain ⟨hi2, hf⟩ := mm_ite hf
      refine e_iald hm_210 rfl rfl hi2 ?_
      refine e_iadd hm_210 rfl ?_
      obtain ⟨hi3, hf⟩ := mm_ite hf
      refine e_zald hm_210 rfl rfl hi3 ?_
      by_cases hc4 : (M.1 81 (((9 : Int32) * x1) + (M.1 84 x1.toNatClampNeg)).toNatClampNeg) = (0 : Int32)
      · rw [if_pos hc4] at hf
        refine e_if_f hm_210 rfl (cf_ne hc4) ?_
        refine e_iconst hm_210 rfl kc_iconst_0 ?_
        obtain rfl := Option.some.inj hf
        exact e_zret hm_210 rfl rfl (by decide) hq
      · rw [if_neg hc4] at hf
        refine e_if_t (t := 31) hm_210 rfl (ct_ne hc4) rfl ?_
        refine e_iinc (L2 := [some (.ref 73), some (.int (x1 + (1 : Int32)))]) hm_210 rfl kc_iinc_1 rfl rfl ?_
        refine e_goto (t := 2) hm_210 rfl rfl ?_
        exact e_forget (L' := [some (.ref 73), some (.int (x1 + (1 : Int32)))]) (lf_k (lf_k lf_0)) (ih (x1 + (1 : Int32)) M Q hf hq)
    · rw [if_neg hc1] at hf
      refine e_ic_t (t := 37) hm_210 rfl (ct_ge hc1) rfl ?_
      obtain rfl := Option.some.inj hf
      exact e_forget (L' := [some (.ref 73), none]) (lf_k (lf_d lf_0)) hq
def md_holds (M : mm_M) : Option (Int32 × mm_M) :=
  (md_holds_l2 300 (0 : Int32) M).bind fun y1 => match y1 with
  | .inl y1r => some y1r
  | .inr y1v => (md_firstWrong y1v.2).bind fun y2 =>
    if y2.1 = (-1 : Int32) then
      some ((1 : Int32), y2.2)
    else
      some ((0 : Int32), y2.2)
set_option maxRecDepth 20000 in
set_option maxHeartbeats 4000000 in
theorem c_210 {Z : ak_Z} {d : Nat} (M : mm_M) {y : Int32 × mm_M} (hf : md_holds M = some y) {Q : Option Value → ak_H → Prop} (hq : Q (some (.int y.1)) (mm_H y.2)) : Ev Z (d + 3) 210 0 [some (.ref 73), none] [] (mm_H M) Q := by
  rw [md_holds] at hf
  refine e_iconst hm_210 rfl kc_iconst_0 ?_
  refine e_istore_n (L2 := [some (.ref 73), some (.int (0 : Int32))]) hm_210 rfl rfl ?_
  obtain ⟨y1, hky1, hf⟩ := mm_bd hf
  refine e_forget (L' := [some (.ref 73), some (.int (0 : Int32))]) (lf_k (lf_k lf_0)) (lc_210_2 (d := _) 300 (0 : Int32) M Q hky1 ?_)
  rcases y1 with y1r | y1v
  · obtain rfl := Option.some.inj hf
    exact hq
  · show Ev Z _ 210 37 [some (.ref 73), none] [] (mm_H y1v.2) Q
    refine e_aload_n hm_210 rfl rfl ?_
    obtain ⟨y2, hky2, hf⟩ := mm_bd hf
    refine e_virt hm_210 rfl rfl rfl rfl (Nat.le_of_ble_eq_true rfl) hm_211 rfl rfl (c_211 y1v.2 hky2 ?_)
    show Ev Z _ 210 41 [some (.ref 73), none] [.int y2.1] (mm_H y2.2) Q
    refine e_iconst hm_210 rfl kc_iconst_m1 ?_
    by_cases hc3 : y2.1 = (-1 : Int32)
    · rw [if_pos hc3] at hf
      refine e_ic_f hm_210 rfl (cf_ne hc3) ?_
      refine e_iconst hm_210 rfl kc_iconst_1 ?_
      refine e_goto (t := 50) hm_210 rfl rfl ?_
      obtain rfl := Option.some.inj hf
      exact e_zret hm_210 rfl rfl (by decide) hq
    · rw [if_neg hc3] at hf
      refine e_ic_t (t := 49) hm_210 rfl (ct_ne hc3) rfl ?_
      refine e_iconst hm_210 rfl kc_iconst_0 ?_
      obtain rfl := Option.some.inj hf
      exact e_zret hm_210 rfl rfl (by decide) hq
