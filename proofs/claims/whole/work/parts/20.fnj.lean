/-! printed: the functions of the methods, and that the small machine does them -/
def md_read (a1 : Int32) (a2 : Int32) (M : mm_M) : Option (Int32 × mm_M) :=
  if ak_inb a1 6 = true then
  (md_next (ak_up (ak_up (ak_up (ak_up (ak_up M.1 73 18 ((160 : Int32) * a1)) 73 19 ((ak_up M.1 73 18 ((160 : Int32) * a1)) 75 a1.toNatClampNeg)) 73 20 (0 : Int32)) 73 24 (0 : Int32)) 73 25 (0 : Int32), M.2)).bind fun y2 =>
  (md_isWord (106 : Int32) (111 : Int32) (121 : Int32) (115 : Int32) (0 : Int32) (0 : Int32) (0 : Int32) (0 : Int32) y2.2).bind fun y3 =>
  (md_part y3.1 y3.2).bind fun y4 =>
  if (y4.2.1 73 25) = (0 : Int32) then
    (md_isWord (101 : Int32) (97 : Int32) (114 : Int32) (110 : Int32) (115 : Int32) (0 : Int32) (0 : Int32) (0 : Int32) y4.2).bind fun y6 =>
    (md_part y6.1 y6.2).bind fun y7 =>
    if (y7.2.1 73 25) = (0 : Int32) then
      (md_isWord (109 : Int32) (97 : Int32) (121 : Int32) (0 : Int32) (0 : Int32) (0 : Int32) (0 : Int32) (0 : Int32) y7.2).bind fun y9 =>
      (md_part y9.1 y9.2).bind fun y10 =>
      if (y10.2.1 73 25) = (0 : Int32) then
        if (y10.2.1 73 21) = (0 : Int32) then
          if a2 = (0 : Int32) then
            some (y4.1, y10.2)
          else
            if a2 = (1 : Int32) then
              some (y7.1, y10.2)
            else
              some (y10.1, y10.2)
        else
          (md_fail y10.2).bind fun y15 =>
          if a2 = (0 : Int32) then
            some (y4.1, y15.2)
          else
            if a2 = (1 : Int32) then
              some (y7.1, y15.2)
            else
              some (y10.1, y15.2)
      else
        if a2 = (0 : Int32) then
          some (y4.1, y10.2)
        else
          if a2 = (1 : Int32) then
            some (y7.1, y10.2)
          else
            some (y10.1, y10.2)
    else
      if (y7.2.1 73 25) = (0 : Int32) then
        if (y7.2.1 73 21) = (0 : Int32) then
          if a2 = (0 : Int32) then
            some (y4.1, y7.2)
          else
            if a2 = (1 : Int32) then
              some (y7.1, y7.2)
            else
              some ((0 : Int32), y7.2)
        else
          (md_fail y7.2).bind fun y24 =>
          if a2 = (0 : Int32) then
            some (y4.1, y24.2)
          else
            if a2 = (1 : Int32) then
              some (y7.1, y24.2)
            else
              some ((0 : Int32), y24.2)
      else
        if a2 = (0 : Int32) then
          some (y4.1, y7.2)
        else
          if a2 = (1 : Int32) then
            some (y7.1, y7.2)
          else
            some ((0 : Int32), y7.2)
  else
    if (y4.2.1 73 25) = (0 : Int32) then
      (md_isWord (109 : Int32) (97 : Int32) (121 : Int32) (0 : Int32) (0 : Int32) (0 : Int32) (0 : Int32) (0 : Int32) y4.2).bind fun y30 =>
      (md_part y30.1 y30.2).bind fun y31 =>
      if (y31.2.1 73 25) = (0 : Int32) then
        if (y31.2.1 73 21) = (0 : Int32) then
          if a2 = (0 : Int32) then
            some (y4.1, y31.2)
          else
            if a2 = (1 : Int32) then
              some ((0 : Int32), y31.2)
            else
              some (y31.1, y31.2)
        else
          (md_fail y31.2).bind fun y36 =>
          if a2 = (0 : Int32) then
            some (y4.1, y36.2)
          else
            if a2 = (1 : Int32) then
              some ((0 : Int32), y36.2)
            else
              some (y31.1, y36.2)
      else
        if a2 = (0 : Int32) then
          some (y4.1, y31.2)
        else
          if a2 = (1 : Int32) then
            some ((0 : Int32), y31.2)
          else
            some (y31.1, y31.2)
    else
      if (y4.2.1 73 25) = (0 : Int32) then
        if (y4.2.1 73 21) = (0 : Int32) then
          if a2 = (0 : Int32) then
            some (y4.1, y4.2)
          else
            if a2 = (1 : Int32) then
              some ((0 : Int32), y4.2)
            else
              some ((0 : Int32), y4.2)
        else
          (md_fail y4.2).bind fun y45 =>
          if a2 = (0 : Int32) then
            some (y4.1, y45.2)
          else
            if a2 = (1 : Int32) then
              some ((0 : Int32), y45.2)
            else
              some ((0 : Int32), y45.2)
      else
        if a2 = (0 : Int32) then
          some (y4.1, y4.2)
        else
          if a2 = (1 : Int32) then
            some ((0 : Int32), y4.2)
          else
            some ((0 : Int32), y4.2) else none
set_option maxRecDepth 20000 in
set_option maxHeartbeats 4000000 in
theorem c_176 {Z : ak_Z} {d : Nat} (a1 : Int32) (a2 : Int32) (M : mm_M) {y : Int32 × mm_M} (hf : md_read a1 a2 M = some y) {Q : Option Value → ak_H → Prop} (hq : Q (some (.int y.1)) (mm_H y.2)) : Ev Z (d + 65) 176 0 [some (.ref 73), some (.int a1), some (.int a2), none, none, none] [] (mm_H M) Q := by
  rw [md_read] at hf
  refine e_aload_n hm_176 rfl rfl ?_
  refine e_sipush hm_176 rfl kc_sipush_160 ?_
  refine e_iload_n hm_176 rfl rfl ?_
  refine e_imul hm_176 rfl ?_
  refine e_putI hm_176 rfl rfl rfl ?_
  refine e_aload_n hm_176 rfl rfl ?_
  refine e_aload_n hm_176 rfl rfl ?_
  refine e_getR hm_176 rfl rfl rfl rfl ?_
  refine e_iload_n hm_176 rfl rfl ?_
  obtain ⟨hi1, hf⟩ := mm_ite hf
  refine e_iald hm_176 rfl rfl hi1 ?_
  refine e_putI hm_176 rfl rfl rfl ?_
  refine e_aload_n hm_176 rfl rfl ?_
  refine e_iconst hm_176 rfl kc_iconst_0 ?_
  refine e_putI hm_176 rfl rfl rfl ?_
  refine e_aload_n hm_176 rfl rfl ?_
  refine e_iconst hm_176 rfl kc_iconst_0 ?_
  refine e_putI hm_176 rfl rfl rfl ?_
  refine e_aload_n hm_176 rfl rfl ?_
  refine e_iconst hm_176 rfl kc_iconst_0 ?_
  refine e_putZ hm_176 rfl rfl rfl (by decide) ?_
  refine e_aload_n hm_176 rfl rfl ?_
  obtain ⟨y2, hky2, hf⟩ := mm_bd hf
  refine e_virt hm_176 rfl rfl rfl rfl (Nat.le_of_ble_eq_true rfl) hm_177 rfl rfl (c_177 (ak_up (ak_up (ak_up (ak_up (ak_up M.1 73 18 ((160 : Int32) * a1)) 73 19 ((ak_up M.1 73 18 ((160 : Int32) * a1)) 75 a1.toNatClampNeg)) 73 20 (0 : Int32)) 73 24 (0 : Int32)) 73 25 (0 : Int32), M.2) hky2 ?_)
  show Ev Z _ 176 38 [some (.ref 73), some (.int a1), some (.int a2), none, none, none] [] (mm_H y2.2) Q
  refine e_aload_n hm_176 rfl rfl ?_
  refine e_aload_n hm_176 rfl rfl ?_
  refine e_bipush hm_176 rfl kc_bipush_106 ?_
  refine e_bipush hm_176 rfl kc_bipush_111 ?_
  refine e_bipush hm_176 rfl kc_bipush_121 ?_
  refine e_bipush hm_176 rfl kc_bipush_115 ?_
  refine e_iconst hm_176 rfl kc_iconst_0 ?_
  refine e_iconst hm_176 rfl kc_iconst_0 ?_
  refine e_iconst hm_176 rfl kc_iconst_0 ?_
  refine e_iconst hm_176 rfl kc_iconst_0 ?_
  obtain ⟨y3, hky3, hf⟩ := mm_bd hf
  refine e_virt hm_176 rfl rfl rfl rfl (Nat.le_of_ble_eq_true rfl) hm_179 rfl rfl (c_179 (106 : Int32) (111 : Int32) (121 : Int32) (115 : Int32) (0 : Int32) (0 : Int32) (0 : Int32) (0 : Int32) y2.2 hky3 ?_)
  show Ev Z _ 176 55 [some (.ref 73), some (.int a1), some (.int a2), none, none, none] [.int y3.1, .ref 73] (mm_H y3.2) Q
  obtain ⟨y4, hky4, hf⟩ := mm_bd hf
  refine e_virt hm_176 rfl rfl rfl rfl (Nat.le_of_ble_eq_true rfl) hm_181 rfl rfl (c_181 y3.1 y3.2 hky4 ?_)
  show Ev Z _ 176 58 [some (.ref 73), some (.int a1), some (.int a2), none, none, none] [.int y4.1] (mm_H y4.2) Q
  refine e_istore_n (L2 := [some (.ref 73), some (.int a1), some (.int a2), some (.int y4.1), none, none]) hm_176 rfl rfl ?_
  refine e_aload_n hm_176 rfl rfl ?_
  refine e_getZ hm_176 rfl rfl rfl ?_
  by_cases hc5 : (y4.2.1 73 25) = (0 : Int32)
  · rw [if_pos hc5] at hf
    refine e_if_t (t := 70) hm_176 rfl (ct_eq hc5) rfl ?_
    refine e_aload_n hm_176 rfl rfl ?_
    refine e_aload_n hm_176 rfl rfl ?_
    refine e_bipush hm_176 rfl kc_bipush_101 ?_
    refine e_bipush hm_176 rfl kc_bipush_97 ?_
    refine e_bipush hm_176 rfl kc_bipush_114 ?_
    refine e_bipush hm_176 rfl kc_bipush_110 ?_
    refine e_bipush hm_176 rfl kc_bipush_115 ?_
    refine e_iconst hm_176 rfl kc_iconst_0 ?_
    refine e_iconst hm_176 rfl kc_iconst_0 ?_
    refine e_iconst hm_176 rfl kc_iconst_0 ?_
    obtain ⟨y6, hky6, hf⟩ := mm_bd hf
    refine e_virt hm_176 rfl rfl rfl rfl (Nat.le_of_ble_eq_true rfl) hm_179 rfl rfl (c_179 (101 : Int32) (97 : Int32) (114 : Int32) (110 : Int32) (115 : Int32) (0 : Int32) (0 : Int32) (0 : Int32) y4.2 hky6 ?_)
    show Ev Z _ 176 88 [some (.ref 73), some (.int a1), some (.int a2), some (.int y4.1), none, none] [.int y6.1, .ref 73] (mm_H y6.2) Q
    obtain ⟨y7, hky7, hf⟩ := mm_bd hf
    refine e_virt hm_176 rfl rfl rfl rfl (Nat.le_of_ble_eq_true rfl) hm_181 rfl rfl (c_181 y6.1 y6.2 hky7 ?_)
    show Ev Z _ 176 91 [some (.ref 73), some (.int a1), some (.int a2), some (.int y4.1), none, none] [.int y7.1] (mm_H y7.2) Q
    refine e_istore (L2 := [some (.ref 73), some (.int a1), some (.int a2), some (.int y4.1), some (.int y7.1), none]) hm_176 rfl rfl ?_
    refine e_aload_n hm_176 rfl rfl ?_
    refine e_getZ hm_176 rfl rfl rfl ?_
    by_cases hc8 : (y7.2.1 73 25) = (0 : Int32)
    · rw [if_pos hc8] at hf
      refine e_if_t (t := 104) hm_176 rfl (ct_eq hc8) rfl ?_
      refine e_aload_n hm_176 rfl rfl ?_
      refine e_aload_n hm_176 rfl rfl ?_
      refine e_bipush hm_176 rfl kc_bipush_109 ?_
      refine e_bipush hm_176 rfl kc_bipush_97 ?_
      refine e_bipush hm_176 rfl kc_bipush_121 ?_
      refine e_iconst hm_176 rfl kc_iconst_0 ?_
      refine e_iconst hm_176 rfl kc_iconst_0 ?_
      refine e_iconst hm_176 rfl kc_iconst_0 ?_
      refine e_iconst hm_176 rfl kc_iconst_0 ?_
      refine e_iconst hm_176 rfl kc_iconst_0 ?_
      obtain ⟨y9, hky9, hf⟩ := mm_bd hf
      refine e_virt hm_176 rfl rfl rfl rfl (Nat.le_of_ble_eq_true rfl) hm_179 rfl rfl (c_179 (109 : Int32) (97 : Int32) (121 : Int32) (0 : Int32) (0 : Int32) (0 : Int32) (0 : Int32) (0 : Int32) y7.2 hky9 ?_)
      show Ev Z _ 176 120 [some (.ref 73), some (.int a1), some (.int a2), some (.int y4.1), some (.int y7.1), none] [.int y9.1, .ref 73] (mm_H y9.2) Q
      obtain ⟨y10, hky10, hf⟩ := mm_bd hf
      refine e_virt hm_176 rfl rfl rfl rfl (Nat.le_of_ble_eq_true rfl) hm_181 rfl rfl (c_181 y9.1 y9.2 hky10 ?_)
      show Ev Z _ 176 123 [some (.ref 73), some (.int a1), some (.int a2), some (.int y4.1), some (.int y7.1), none] [.int y10.1] (mm_H y10.2) Q
      refine e_istore (L2 := [some (.ref 73), some (.int a1), some (.int a2), some (.int y4.1), some (.int y7.1), some (.int y10.1)]) hm_176 rfl rfl ?_
      refine e_aload_n hm_176 rfl rfl ?_
      refine e_getZ hm_176 rfl rfl rfl ?_
      by_cases hc11 : (y10.2.1 73 25) = (0 : Int32)
      · rw [if_pos hc11] at hf
        refine e_if_f hm_176 rfl (cf_ne hc11) ?_
        refine e_aload_n hm_176 rfl rfl ?_
        refine e_getI hm_176 rfl rfl rfl ?_
        by_cases hc12 : (y10.2.1 73 21) = (0 : Int32)
        · rw [if_pos hc12] at hf
          refine e_if_t (t := 143) hm_176 rfl (ct_eq hc12) rfl ?_
          refine e_iload_n hm_176 rfl rfl ?_
          by_cases hc13 : a2 = (0 : Int32)
          · rw [if_pos hc13] at hf
            refine e_if_f hm_176 rfl (cf_ne hc13) ?_
            refine e_iload_n hm_176 rfl rfl ?_
            refine e_goto (t := 163) hm_176 rfl rfl ?_
            obtain rfl := Option.some.inj hf
            exact e_iret hm_176 rfl rfl hq
          · rw [if_neg hc13] at hf
            refine e_if_t (t := 151) hm_176 rfl (ct_ne hc13) rfl ?_
            refine e_iload_n hm_176 rfl rfl ?_
            refine e_iconst hm_176 rfl kc_iconst_1 ?_
            by_cases hc14 : a2 = (1 : Int32)
            · rw [if_pos hc14] at hf
              refine e_ic_f hm_176 rfl (cf_ne hc14) ?_
              refine e_iload hm_176 rfl rfl ?_
              refine e_goto (t := 163) hm_176 rfl rfl ?_
              obtain rfl := Option.some.inj hf
              exact e_iret hm_176 rfl rfl hq
            · rw [if_neg hc14] at hf
              refine e_ic_t (t := 161) hm_176 rfl (ct_ne hc14) rfl ?_
              refine e_iload hm_176 rfl rfl ?_
              obtain rfl := Option.some.inj hf
              exact e_iret hm_176 rfl rfl hq
        · rw [if_neg hc12] at hf
          refine e_if_f hm_176 rfl (cf_eq hc12) ?_
          refine e_aload_n hm_176 rfl rfl ?_
          obtain ⟨y15, hky15, hf⟩ := mm_bd hf
          refine e_virt hm_176 rfl rfl rfl rfl (Nat.le_of_ble_eq_true rfl) hm_182 rfl rfl (c_182 y10.2 hky15 ?_)
          show Ev Z _ 176 143 [some (.ref 73), some (.int a1), some (.int a2), some (.int y4.1), some (.int y7.1), some (.int y10.1)] [] (mm_H y15.2) Q
          refine e_iload_n hm_176 rfl rfl ?_
          by_cases hc16 : a2 = (0 : Int32)
          · rw [if_pos hc16] at hf
            refine e_if_f hm_176 rfl (cf_ne hc16) ?_
            refine e_iload_n hm_176 rfl rfl ?_
            refine e_goto (t := 163) hm_176 rfl rfl ?_
            obtain rfl := Option.some.inj hf
            exact e_iret hm_176 rfl rfl hq
          · rw [if_neg hc16] at hf
            refine e_if_t (t := 151) hm_176 rfl (ct_ne hc16) rfl ?_
            refine e_iload_n hm_176 rfl rfl ?_
            refine e_iconst hm_176 rfl kc_iconst_1 ?_
            by_cases hc17 : a2 = (1 : Int32)
            · rw [if_pos hc17] at hf
              refine e_ic_f hm_176 rfl (cf_ne hc17) ?_
              refine e_iload hm_176 rfl rfl ?_
              refine e_goto (t := 163) hm_176 rfl rfl ?_
              obtain rfl := Option.some.inj hf
              exact e_iret hm_176 rfl rfl hq
            · rw [if_neg hc17] at hf
              refine e_ic_t (t := 161) hm_176 rfl (ct_ne hc17) rfl ?_
              refine e_iload hm_176 rfl rfl ?_
              obtain rfl := Option.some.inj hf
              exact e_iret hm_176 rfl rfl hq
      · rw [if_neg hc11] at hf
        refine e_if_t (t := 143) hm_176 rfl (ct_ne hc11) rfl ?_
        refine e_iload_n hm_176 rfl rfl ?_
        by_cases hc18 : a2 = (0 : Int32)
        · rw [if_pos hc18] at hf
          refine e_if_f hm_176 rfl (cf_ne hc18) ?_
          refine e_iload_n hm_176 rfl rfl ?_
          refine e_goto (t := 163) hm_176 rfl rfl ?_
          obtain rfl := Option.some.inj hf
          exact e_iret hm_176 rfl rfl hq
        · rw [if_neg hc18] at hf
          refine e_if_t (t := 151) hm_176 rfl (ct_ne hc18) rfl ?_
          refine e_iload_n hm_176 rfl rfl ?_
          refine e_iconst hm_176 rfl kc_iconst_1 ?_
          by_cases hc19 : a2 = (1 : Int32)
          · rw [if_pos hc19] at hf
            refine e_ic_f hm_176 rfl (cf_ne hc19) ?_
            refine e_iload hm_176 rfl rfl ?_
            refine e_goto (t := 163) hm_176 rfl rfl ?_
            obtain rfl := Option.some.inj hf
            exact e_iret hm_176 rfl rfl hq
          · rw [if_neg hc19] at hf
            refine e_ic_t (t := 161) hm_176 rfl (ct_ne hc19) rfl ?_
            refine e_iload hm_176 rfl rfl ?_
            obtain rfl := Option.some.inj hf
            exact e_iret hm_176 rfl rfl hq
    · rw [if_neg hc8] at hf
      refine e_if_f hm_176 rfl (cf_eq hc8) ?_
      refine e_iconst hm_176 rfl kc_iconst_0 ?_
      refine e_goto (t := 123) hm_176 rfl rfl ?_
      refine e_istore (L2 := [some (.ref 73), some (.int a1), some (.int a2), some (.int y4.1), some (.int y7.1), some (.int (0 : Int32))]) hm_176 rfl rfl ?_
      refine e_aload_n hm_176 rfl rfl ?_
      refine e_getZ hm_176 rfl rfl rfl ?_
      by_cases hc20 : (y7.2.1 73 25) = (0 : Int32)
      · rw [if_pos hc20] at hf
        refine e_if_f hm_176 rfl (cf_ne hc20) ?_
        refine e_aload_n hm_176 rfl rfl ?_
        refine e_getI hm_176 rfl rfl rfl ?_
        by_cases hc21 : (y7.2.1 73 21) = (0 : Int32)
        · rw [if_pos hc21] at hf
          refine e_if_t (t := 143) hm_176 rfl (ct_eq hc21) rfl ?_
          refine e_iload_n hm_176 rfl rfl ?_
          by_cases hc22 : a2 = (0 : Int32)
          · rw [if_pos hc22] at hf
            refine e_if_f hm_176 rfl (cf_ne hc22) ?_
            refine e_iload_n hm_176 rfl rfl ?_
            refine e_goto (t := 163) hm_176 rfl rfl ?_
            obtain rfl := Option.some.inj hf
            exact e_iret hm_176 rfl rfl hq
          · rw [if_neg hc22] at hf
            refine e_if_t (t := 151) hm_176 rfl (ct_ne hc22) rfl ?_
            refine e_iload_n hm_176 rfl rfl ?_
            refine e_iconst hm_176 rfl kc_iconst_1 ?_
            by_cases hc23 : a2 = (1 : Int32)
            · rw [if_pos hc23] at hf
              refine e_ic_f hm_176 rfl (cf_ne hc23) ?_
              refine e_iload hm_176 rfl rfl ?_
              refine e_goto (t := 163) hm_176 rfl rfl ?_
              obtain rfl := Option.some.inj hf
              exact e_iret hm_176 rfl rfl hq
            · rw [if_neg hc23] at hf
              refine e_ic_t (t := 161) hm_176 rfl (ct_ne hc23) rfl ?_
              refine e_iload hm_176 rfl rfl ?_
              obtain rfl := Option.some.inj hf
              exact e_iret hm_176 rfl rfl hq
        · rw [if_neg hc21] at hf
          refine e_if_f hm_176 rfl (cf_eq hc21) ?_
          refine e_aload_n hm_176 rfl rfl ?_
          obtain ⟨y24, hky24, hf⟩ := mm_bd hf
          refine e_virt hm_176 rfl rfl rfl rfl (Nat.le_of_ble_eq_true rfl) hm_182 rfl rfl (c_182 y7.2 hky24 ?_)
          show Ev Z _ 176 143 [some (.ref 73), some (.int a1), some (.int a2), some (.int y4.1), some (.int y7.1), some (.int (0 : Int32))] [] (mm_H y24.2) Q
          refine e_iload_n hm_176 rfl rfl ?_
          by_cases hc25 : a2 = (0 : Int32)
          · rw [if_pos hc25] at hf
            refine e_if_f hm_176 rfl (cf_ne hc25) ?_
            refine e_iload_n hm_176 rfl rfl ?_
            refine e_goto (t := 163) hm_176 rfl rfl ?_
            obtain rfl := Option.some.inj hf
            exact e_iret hm_176 rfl rfl hq
          · rw [if_neg hc25] at hf
            refine e_if_t (t := 151) hm_176 rfl (ct_ne hc25) rfl ?_
            refine e_iload_n hm_176 rfl rfl ?_
            refine e_iconst hm_176 rfl kc_iconst_1 ?_
            by_cases hc26 : a2 = (1 : Int32)
            · rw [if_pos hc26] at hf
              refine e_ic_f hm_176 rfl (cf_ne hc26) ?_
              refine e_iload hm_176 rfl rfl ?_
              refine e_goto (t := 163) hm_176 rfl rfl ?_
              obtain rfl := Option.some.inj hf
              exact e_iret hm_176 rfl rfl hq
            · rw [if_neg hc26] at hf
              refine e_ic_t (t := 161) hm_176 rfl (ct_ne hc26) rfl ?_
              refine e_iload hm_176 rfl rfl ?_
              obtain rfl := Option.some.inj hf
              exact e_iret hm_176 rfl rfl hq
      · rw [if_neg hc20] at hf
        refine e_if_t (t := 143) hm_176 rfl (ct_ne hc20) rfl ?_
        refine e_iload_n hm_176 rfl rfl ?_
        by_cases hc27 : a2 = (0 : Int32)
        · rw [if_pos hc27] at hf
          refine e_if_f hm_176 rfl (cf_ne hc27) ?_
          refine e_iload_n hm_176 rfl rfl ?_
          refine e_goto (t := 163) hm_176 rfl rfl ?_
          obtain rfl := Option.some.inj hf
          exact e_iret hm_176 rfl rfl hq
        · rw [if_neg hc27] at hf
          refine e_if_t (t := 151) hm_176 rfl (ct_ne hc27) rfl ?_
          refine e_iload_n hm_176 rfl rfl ?_
          refine e_iconst hm_176 rfl kc_iconst_1 ?_
          by_cases hc28 : a2 = (1 : Int32)
          · rw [if_pos hc28] at hf
            refine e_ic_f hm_176 rfl (cf_ne hc28) ?_
            refine e_iload hm_176 rfl rfl ?_
            refine e_goto (t := 163) hm_176 rfl rfl ?_
            obtain rfl := Option.some.inj hf
            exact e_iret hm_176 rfl rfl hq
          · rw [if_neg hc28] at hf
            refine e_ic_t (t := 161) hm_176 rfl (ct_ne hc28) rfl ?_
            refine e_iload hm_176 rfl rfl ?_
            obtain rfl := Option.some.inj hf
            exact e_iret hm_176 rfl rfl hq
  · rw [if_neg hc5] at hf
    refine e_if_f hm_176 rfl (cf_eq hc5) ?_
    refine e_iconst hm_176 rfl kc_iconst_0 ?_
    refine e_goto (t := 91) hm_176 rfl rfl ?_
    refine e_istore (L2 := [some (.ref 73), some (.int a1), some (.int a2), some (.int y4.1), some (.int (0 : Int32)), none]) hm_176 rfl rfl ?_
    refine e_aload_n hm_176 rfl rfl ?_
    refine e_getZ hm_176 rfl rfl rfl ?_
    by_cases hc29 : (y4.2.1 73 25) = (0 : Int32)
    · rw [if_pos hc29] at hf
      refine e_if_t (t := 104) hm_176 rfl (ct_eq hc29) rfl ?_
      refine e_aload_n hm_176 rfl rfl ?_
      refine e_aload_n hm_176 rfl rfl ?_
      refine e_bipush hm_176 rfl kc_bipush_109 ?_
      refine e_bipush hm_176 rfl kc_bipush_97 ?_
      refine e_bipush hm_176 rfl kc_bipush_121 ?_
      refine e_iconst hm_176 rfl kc_iconst_0 ?_
      refine e_iconst hm_176 rfl kc_iconst_0 ?_
      refine e_iconst hm_176 rfl kc_iconst_0 ?_
      refine e_iconst hm_176 rfl kc_iconst_0 ?_
      refine e_iconst hm_176 rfl kc_iconst_0 ?_
      obtain ⟨y30, hky30, hf⟩ := mm_bd hf
      refine e_virt hm_176 rfl rfl rfl rfl (Nat.le_of_ble_eq_true rfl) hm_179 rfl rfl (c_179 (109 : Int32) (97 : Int32) (121 : Int32) (0 : Int32) (0 : Int32) (0 : Int32) (0 : Int32) (0 : Int32) y4.2 hky30 ?_)
      show Ev Z _ 176 120 [some (.ref 73), some (.int a1), some (.int a2), some (.int y4.1), some (.int (0 : Int32)), none] [.int y30.1, .ref 73] (mm_H y30.2) Q
      obtain ⟨y31, hky31, hf⟩ := mm_bd hf
      refine e_virt hm_176 rfl rfl rfl rfl (Nat.le_of_ble_eq_true rfl) hm_181 rfl rfl (c_181 y30.1 y30.2 hky31 ?_)
      show Ev Z _ 176 123 [some (.ref 73), some (.int a1), some (.int a2), some (.int y4.1), some (.int (0 : Int32)), none] [.int y31.1] (mm_H y31.2) Q
      refine e_istore (L2 := [some (.ref 73), some (.int a1), some (.int a2), some (.int y4.1), some (.int (0 : Int32)), some (.int y31.1)]) hm_176 rfl rfl ?_
      refine e_aload_n hm_176 rfl rfl ?_
      refine e_getZ hm_176 rfl rfl rfl ?_
      by_cases hc32 : (y31.2.1 73 25) = (0 : Int32)
      · rw [if_pos hc32] at hf
        refine e_if_f hm_176 rfl (cf_ne hc32) ?_
        refine e_aload_n hm_176 rfl rfl ?_
        refine e_getI hm_176 rfl rfl rfl ?_
        by_cases hc33 : (y31.2.1 73 21) = (0 : Int32)
        · rw [if_pos hc33] at hf
          refine e_if_t (t := 143) hm_176 rfl (ct_eq hc33) rfl ?_
          refine e_iload_n hm_176 rfl rfl ?_
          by_cases hc34 : a2 = (0 : Int32)
          · rw [if_pos hc34] at hf
            refine e_if_f hm_176 rfl (cf_ne hc34) ?_
            refine e_iload_n hm_176 rfl rfl ?_
            refine e_goto (t := 163) hm_176 rfl rfl ?_
            obtain rfl := Option.some.inj hf
            exact e_iret hm_176 rfl rfl hq
          · rw [if_neg hc34] at hf
            refine e_if_t (t := 151) hm_176 rfl (ct_ne hc34) rfl ?_
            refine e_iload_n hm_176 rfl rfl ?_
            refine e_iconst hm_176 rfl kc_iconst_1 ?_
            by_cases hc35 : a2 = (1 : Int32)
            · rw [if_pos hc35] at hf
              refine e_ic_f hm_176 rfl (cf_ne hc35) ?_
              refine e_iload hm_176 rfl rfl ?_
              refine e_goto (t := 163) hm_176 rfl rfl ?_
              obtain rfl := Option.some.inj hf
              exact e_iret hm_176 rfl rfl hq
            · rw [if_neg hc35] at hf
              refine e_ic_t (t := 161) hm_176 rfl (ct_ne hc35) rfl ?_
              refine e_iload hm_176 rfl rfl ?_
              obtain rfl := Option.some.inj hf
              exact e_iret hm_176 rfl rfl hq
        · rw [if_neg hc33] at hf
          refine e_if_f hm_176 rfl (cf_eq hc33) ?_
          refine e_aload_n hm_176 rfl rfl ?_
          obtain ⟨y36, hky36, hf⟩ := mm_bd hf
          refine e_virt hm_176 rfl rfl rfl rfl (Nat.le_of_ble_eq_true rfl) hm_182 rfl rfl (c_182 y31.2 hky36 ?_)
          show Ev Z _ 176 143 [some (.ref 73), some (.int a1), some (.int a2), some (.int y4.1), some (.int (0 : Int32)), some (.int y31.1)] [] (mm_H y36.2) Q
          refine e_iload_n hm_176 rfl rfl ?_
          by_cases hc37 : a2 = (0 : Int32)
          · rw [if_pos hc37] at hf
            refine e_if_f hm_176 rfl (cf_ne hc37) ?_
            refine e_iload_n hm_176 rfl rfl ?_
            refine e_goto (t := 163) hm_176 rfl rfl ?_
            obtain rfl := Option.some.inj hf
            exact e_iret hm_176 rfl rfl hq
          · rw [if_neg hc37] at hf
            refine e_if_t (t := 151) hm_176 rfl (ct_ne hc37) rfl ?_
            refine e_iload_n hm_176 rfl rfl ?_
            refine e_iconst hm_176 rfl kc_iconst_1 ?_
            by_cases hc38 : a2 = (1 : Int32)
            · rw [if_pos hc38] at hf
              refine e_ic_f hm_176 rfl (cf_ne hc38) ?_
              refine e_iload hm_176 rfl rfl ?_
              refine e_goto (t := 163) hm_176 rfl rfl ?_
              obtain rfl := Option.some.inj hf
              exact e_iret hm_176 rfl rfl hq
            · rw [if_neg hc38] at hf
              refine e_ic_t (t := 161) hm_176 rfl (ct_ne hc38) rfl ?_
              refine e_iload hm_176 rfl rfl ?_
              obtain rfl := Option.some.inj hf
              exact e_iret hm_176 rfl rfl hq
      · rw [if_neg hc32] at hf
        refine e_if_t (t := 143) hm_176 rfl (ct_ne hc32) rfl ?_
        refine e_iload_n hm_176 rfl rfl ?_
        by_cases hc39 : a2 = (0 : Int32)
        · rw [if_pos hc39] at hf
          refine e_if_f hm_176 rfl (cf_ne hc39) ?_
          refine e_iload_n hm_176 rfl rfl ?_
          refine e_goto (t := 163) hm_176 rfl rfl ?_
          obtain rfl := Option.some.inj hf
          exact e_iret hm_176 rfl rfl hq
        · rw [if_neg hc39] at hf
          refine e_if_t (t := 151) hm_176 rfl (ct_ne hc39) rfl ?_
          refine e_iload_n hm_176 rfl rfl ?_
          refine e_iconst hm_176 rfl kc_iconst_1 ?_
          by_cases hc40 : a2 = (1 : Int32)
          · rw [if_pos hc40] at hf
            refine e_ic_f hm_176 rfl (cf_ne hc40) ?_
            refine e_iload hm_176 rfl rfl ?_
            refine e_goto (t := 163) hm_176 rfl rfl ?_
            obtain rfl := Option.some.inj hf
            exact e_iret hm_176 rfl rfl hq
          · rw [if_neg hc40] at hf
            refine e_ic_t (t := 161) hm_176 rfl (ct_ne hc40) rfl ?_
            refine e_iload hm_176 rfl rfl ?_
            obtain rfl := Option.some.inj hf
            exact e_iret hm_176 rfl rfl hq
    · rw [if_neg hc29] at hf
      refine e_if_f hm_176 rfl (cf_eq hc29) ?_
      refine e_iconst hm_176 rfl kc_iconst_0 ?_
      refine e_goto (t := 123) hm_176 rfl rfl ?_
      refine e_istore (L2 := [some (.ref 73), some (.int a1), some (.int a2), some (.int y4.1), some (.int (0 : Int32)), some (.int (0 : Int32))]) hm_176 rfl rfl ?_
      refine e_aload_n hm_176 rfl rfl ?_
      refine e_getZ hm_176 rfl rfl rfl ?_
      by_cases hc41 : (y4.2.1 73 25) = (0 : Int32)
      · rw [if_pos hc41] at hf
        refine e_if_f hm_176 rfl (cf_ne hc41) ?_
        refine e_aload_n hm_176 rfl rfl ?_
        refine e_getI hm_176 rfl rfl rfl ?_
        by_cases hc42 : (y4.2.1 73 21) = (0 : Int32)
        · rw [if_pos hc42] at hf
          refine e_if_t (t := 143) hm_176 rfl (ct_eq hc42) rfl ?_
          refine e_iload_n hm_176 rfl rfl ?_
          by_cases hc43 : a2 = (0 : Int32)
          · rw [if_pos hc43] at hf
            refine e_if_f hm_176 rfl (cf_ne hc43) ?_
            refine e_iload_n hm_176 rfl rfl ?_
            refine e_goto (t := 163) hm_176 rfl rfl ?_
            obtain rfl := Option.some.inj hf
            exact e_iret hm_176 rfl rfl hq
          · rw [if_neg hc43] at hf
            refine e_if_t (t := 151) hm_176 rfl (ct_ne hc43) rfl ?_
            refine e_iload_n hm_176 rfl rfl ?_
            refine e_iconst hm_176 rfl kc_iconst_1 ?_
            by_cases hc44 : a2 = (1 : Int32)
            · rw [if_pos hc44] at hf
              refine e_ic_f hm_176 rfl (cf_ne hc44) ?_
              refine e_iload hm_176 rfl rfl ?_
              refine e_goto (t := 163) hm_176 rfl rfl ?_
              obtain rfl := Option.some.inj hf
              exact e_iret hm_176 rfl rfl hq
            · rw [if_neg hc44] at hf
              refine e_ic_t (t := 161) hm_176 rfl (ct_ne hc44) rfl ?_
              refine e_iload hm_176 rfl rfl ?_
              obtain rfl := Option.some.inj hf
              exact e_iret hm_176 rfl rfl hq
        · rw [if_neg hc42] at hf
          refine e_if_f hm_176 rfl (cf_eq hc42) ?_
          refine e_aload_n hm_176 rfl rfl ?_
          obtain ⟨y45, hky45, hf⟩ := mm_bd hf
          refine e_virt hm_176 rfl rfl rfl rfl (Nat.le_of_ble_eq_true rfl) hm_182 rfl rfl (c_182 y4.2 hky45 ?_)
          show Ev Z _ 176 143 [some (.ref 73), some (.int a1), some (.int a2), some (.int y4.1), some (.int (0 : Int32)), some (.int (0 : Int32))] [] (mm_H y45.2) Q
          refine e_iload_n hm_176 rfl rfl ?_
          by_cases hc46 : a2 = (0 : Int32)
          · rw [if_pos hc46] at hf
            refine e_if_f hm_176 rfl (cf_ne hc46) ?_
            refine e_iload_n hm_176 rfl rfl ?_
            refine e_goto (t := 163) hm_176 rfl rfl ?_
            obtain rfl := Option.some.inj hf
            exact e_iret hm_176 rfl rfl hq
          · rw [if_neg hc46] at hf
            refine e_if_t (t := 151) hm_176 rfl (ct_ne hc46) rfl ?_
            refine e_iload_n hm_176 rfl rfl ?_
            refine e_iconst hm_176 rfl kc_iconst_1 ?_
            by_cases hc47 : a2 = (1 : Int32)
            · rw [if_pos hc47] at hf
              refine e_ic_f hm_176 rfl (cf_ne hc47) ?_
              refine e_iload hm_176 rfl rfl ?_
              refine e_goto (t := 163) hm_176 rfl rfl ?_
              obtain rfl := Option.some.inj hf
              exact e_iret hm_176 rfl rfl hq
            · rw [if_neg hc47] at hf
              refine e_ic_t (t := 161) hm_176 rfl (ct_ne hc47) rfl ?_
              refine e_iload hm_176 rfl rfl ?_
              obtain rfl := Option.some.inj hf
              exact e_iret hm_176 rfl rfl hq
      · rw [if_neg hc41] at hf
        refine e_if_t (t := 143) hm_176 rfl (ct_ne hc41) rfl ?_
        refine e_iload_n hm_176 rfl rfl ?_
        by_cases hc48 : a2 = (0 : Int32)
        · rw [if_pos hc48] at hf
          refine e_if_f hm_176 rfl (cf_ne hc48) ?_
          refine e_iload_n hm_176 rfl rfl ?_
          refine e_goto (t := 163) hm_176 rfl rfl ?_
          obtain rfl := Option.some.inj hf
          exact e_iret hm_176 rfl rfl hq
        · rw [if_neg hc48] at hf
          refine e_if_t (t := 151) hm_176 rfl (ct_ne hc48) rfl ?_
          refine e_iload_n hm_176 rfl rfl ?_
          refine e_iconst hm_176 rfl kc_iconst_1 ?_
          by_cases hc49 : a2 = (1 : Int32)
          · rw [if_pos hc49] at hf
            refine e_ic_f hm_176 rfl (cf_ne hc49) ?_
            refine e_iload hm_176 rfl rfl ?_
            refine e_goto (t := 163) hm_176 rfl rfl ?_
            obtain rfl := Option.some.inj hf
            exact e_iret hm_176 rfl rfl hq
          · rw [if_neg hc49] at hf
            refine e_ic_t (t := 161) hm_176 rfl (ct_ne hc49) rfl ?_
            refine e_iload hm_176 rfl rfl ?_
            obtain rfl := Option.some.inj hf
            exact e_iret hm_176 rfl rfl hq
def md_within (a1 : Int32) (a2 : Int32) (a3 : Int32) (M : mm_M) : Option (Int32 × mm_M) :=
  if a1 < a2 then
    some (a2, M)
  else
    if a3 < a1 then
      some (a3, M)
    else
      some (a1, M)
set_option maxRecDepth 20000 in
set_option maxHeartbeats 4000000 in
theorem c_192 {Z : ak_Z} {d : Nat} (a1 : Int32) (a2 : Int32) (a3 : Int32) (M : mm_M) {y : Int32 × mm_M} (hf : md_within a1 a2 a3 M = some y) {Q : Option Value → ak_H → Prop} (hq : Q (some (.int y.1)) (mm_H y.2)) : Ev Z (d + 0) 192 0 [some (.int a1), some (.int a2), some (.int a3)] [] (mm_H M) Q := by
  rw [md_within] at hf
  refine e_iload_n hm_192 rfl rfl ?_
  refine e_iload_n hm_192 rfl rfl ?_
  by_cases hc1 : a1 < a2
  · rw [if_pos hc1] at hf
    refine e_ic_f hm_192 rfl (cf_ge hc1) ?_
    refine e_iload_n hm_192 rfl rfl ?_
    refine e_goto (t := 19) hm_192 rfl rfl ?_
    obtain rfl := Option.some.inj hf
    exact e_iret hm_192 rfl rfl hq
  · rw [if_neg hc1] at hf
    refine e_ic_t (t := 9) hm_192 rfl (ct_ge hc1) rfl ?_
    refine e_iload_n hm_192 rfl rfl ?_
    refine e_iload_n hm_192 rfl rfl ?_
    by_cases hc2 : a3 < a1
    · rw [if_pos hc2] at hf
      refine e_ic_f hm_192 rfl (cf_le hc2) ?_
      refine e_iload_n hm_192 rfl rfl ?_
      refine e_goto (t := 19) hm_192 rfl rfl ?_
      obtain rfl := Option.some.inj hf
      exact e_iret hm_192 rfl rfl hq
    · rw [if_neg hc2] at hf
      refine e_ic_t (t := 18) hm_192 rfl (ct_le hc2) rfl ?_
      refine e_iload_n hm_192 rfl rfl ?_
      obtain rfl := Option.some.inj hf
      exact e_iret hm_192 rfl rfl hq
def md_asks_l85 : Nat → Int32 → Int32 → Int32 → Int32 → mm_M → Option (((Unit) × mm_M))
  | 0, _, _, _, _, _ => none
  | n + 1, x1, x2, x3, x4, M =>
    if x4 < (M.1 73 11) then
      if x3 = (-1 : Int32) then
        some ((), M)
      else
        if x4 = x2 then
          md_asks_l85 n x1 x2 x3 (x4 + (1 : Int32)) (ak_up M.1 73 17 ((M.1 73 17) + (0 : Int32)), M.2)
        else
          (md_isWished x4 x3 M).bind fun y4 =>
          if y4.1 = (0 : Int32) then
            md_asks_l85 n x1 x2 x3 (x4 + (1 : Int32)) (ak_up y4.2.1 73 17 ((M.1 73 17) + (0 : Int32)), y4.2.2)
          else
            md_asks_l85 n x1 x2 x3 (x4 + (1 : Int32)) (ak_up y4.2.1 73 17 ((M.1 73 17) + (1 : Int32)), y4.2.2)
    else
      some ((), M)
set_option maxRecDepth 20000 in
set_option maxHeartbeats 4000000 in
theorem lc_175_85 {Z : ak_Z} {d : Nat} : ∀ (n : Nat) (x1 : Int32) (x2 : Int32) (x3 : Int32) (x4 : Int32) (M : mm_M) {y : ((Unit) × mm_M)} (Q : Option Value → ak_H → Prop), md_asks_l85 n x1 x2 x3 x4 M = some y → (Ev Z (d + 66) 175 135 [some (.ref 73), some (.int x1), none, none, none] [] (mm_H y.2) Q) → Ev Z (d + 66) 175 85 [some (.ref 73), some (.int x1), some (.int x2), some (.int x3), some (.int x4)] [] (mm_H M) Q := by
  intro n
  induction n with
  | zero => intro x1 x2 x3 x4 M y Q hf; cases hf
  | succ n ih =>
    intro x1 x2 x3 x4 M y Q hf hq
    rw [md_asks_l85] at hf
    refine e_iload hm_175 rfl rfl ?_
    refine e_aload_n hm_175 rfl rfl ?_
    refine e_getI hm_175 rfl rfl rfl ?_
    by_cases hc1 : x4 < (M.1 73 11)
    · rw [if_pos hc1] at hf
      refine e_ic_f hm_175 rfl (cf_ge hc1) ?_
      refine e_iload_n hm_175 rfl rfl ?_
      refine e_iconst hm_175 rfl kc_iconst_m1 ?_
      by_cases hc2 : x3 = (-1 : Int32)
      · rw [if_pos hc2] at hf
        refine e_ic_t (t := 135) hm_175 rfl (ct_eq hc2) rfl ?_
        obtain rfl := Option.some.inj hf
        exact e_forget (L' := [some (.ref 73), some (.int x1), none, none, none]) (lf_k (lf_k (lf_d (lf_d (lf_d lf_0))))) hq
      · rw [if_neg hc2] at hf
        refine e_ic_f hm_175 rfl (cf_eq hc2) ?_
        refine e_aload_n hm_175 rfl rfl ?_
        refine e_dupa hm_175 rfl ?_
        refine e_getI hm_175 rfl rfl rfl ?_
        refine e_iload hm_175 rfl rfl ?_
        refine e_iload_n hm_175 rfl rfl ?_
        by_cases hc3 : x4 = x2
        · rw [if_pos hc3] at hf
          refine e_ic_t (t := 124) hm_175 rfl (ct_eq hc3) rfl ?_
          refine e_iconst hm_175 rfl kc_iconst_0 ?_
          refine e_iadd hm_175 rfl ?_
          refine e_putI hm_175 rfl rfl rfl ?_
          refine e_iinc (L2 := [some (.ref 73), some (.int x1), some (.int x2), some (.int x3), some (.int (x4 + (1 : Int32)))]) hm_175 rfl kc_iinc_1 rfl rfl ?_
          refine e_goto (t := 85) hm_175 rfl rfl ?_
          exact e_forget (L' := [some (.ref 73), some (.int x1), some (.int x2), some (.int x3), some (.int (x4 + (1 : Int32)))]) (lf_k (lf_k (lf_k (lf_k (lf_k lf_0))))) (ih x1 x2 x3 (x4 + (1 : Int32)) (ak_up M.1 73 17 ((M.1 73 17) + (0 : Int32)), M.2) Q hf hq)
        · rw [if_neg hc3] at hf
          refine e_ic_f hm_175 rfl (cf_eq hc3) ?_
          refine e_aload_n hm_175 rfl rfl ?_
          refine e_iload hm_175 rfl rfl ?_
          refine e_iload_n hm_175 rfl rfl ?_
          obtain ⟨y4, hky4, hf⟩ := mm_bd hf
          refine e_virt hm_175 rfl rfl rfl rfl (Nat.le_of_ble_eq_true rfl) hm_174 rfl rfl (c_174 x4 x3 M hky4 ?_)
          show Ev Z _ 175 117 [some (.ref 73), some (.int x1), some (.int x2), some (.int x3), some (.int x4)] [.int y4.1, .int (M.1 73 17), .ref 73] (mm_H y4.2) Q
          by_cases hc5 : y4.1 = (0 : Int32)
          · rw [if_pos hc5] at hf
            refine e_if_t (t := 124) hm_175 rfl (ct_eq hc5) rfl ?_
            refine e_iconst hm_175 rfl kc_iconst_0 ?_
            refine e_iadd hm_175 rfl ?_
            refine e_putI hm_175 rfl rfl rfl ?_
            refine e_iinc (L2 := [some (.ref 73), some (.int x1), some (.int x2), some (.int x3), some (.int (x4 + (1 : Int32)))]) hm_175 rfl kc_iinc_1 rfl rfl ?_
            refine e_goto (t := 85) hm_175 rfl rfl ?_
            exact e_forget (L' := [some (.ref 73), some (.int x1), some (.int x2), some (.int x3), some (.int (x4 + (1 : Int32)))]) (lf_k (lf_k (lf_k (lf_k (lf_k lf_0))))) (ih x1 x2 x3 (x4 + (1 : Int32)) (ak_up y4.2.1 73 17 ((M.1 73 17) + (0 : Int32)), y4.2.2) Q hf hq)
          · rw [if_neg hc5] at hf
            refine e_if_f hm_175 rfl (cf_eq hc5) ?_
            refine e_iconst hm_175 rfl kc_iconst_1 ?_
            refine e_goto (t := 125) hm_175 rfl rfl ?_
            refine e_iadd hm_175 rfl ?_
            refine e_putI hm_175 rfl rfl rfl ?_
            refine e_iinc (L2 := [some (.ref 73), some (.int x1), some (.int x2), some (.int x3), some (.int (x4 + (1 : Int32)))]) hm_175 rfl kc_iinc_1 rfl rfl ?_
            refine e_goto (t := 85) hm_175 rfl rfl ?_
            exact e_forget (L' := [some (.ref 73), some (.int x1), some (.int x2), some (.int x3), some (.int (x4 + (1 : Int32)))]) (lf_k (lf_k (lf_k (lf_k (lf_k lf_0))))) (ih x1 x2 x3 (x4 + (1 : Int32)) (ak_up y4.2.1 73 17 ((M.1 73 17) + (1 : Int32)), y4.2.2) Q hf hq)
    · rw [if_neg hc1] at hf
      refine e_ic_t (t := 135) hm_175 rfl (ct_ge hc1) rfl ?_
      obtain rfl := Option.some.inj hf
      exact e_forget (L' := [some (.ref 73), some (.int x1), none, none, none]) (lf_k (lf_k (lf_d (lf_d (lf_d lf_0))))) hq
def md_asks (a1 : Int32) (a2 : Int32) (a3 : Int32) (M : mm_M) : Option (Int32 × mm_M) :=
  if a3 = (-1 : Int32) then
    if a3 = (-1 : Int32) then
      if ak_inb ((5 : Int32) * a2) 20 = true then
      if ak_inb (((5 : Int32) * a2) + (1 : Int32)) 20 = true then
      if ak_inb (((5 : Int32) * a2) + (3 : Int32)) 20 = true then
      (md_asks_l85 300 a1 a2 a3 (0 : Int32) (ak_up (ak_up (ak_up (ak_up (ak_up (ak_up M.1 73 12 (0 : Int32)) 73 13 (0 : Int32)) 73 14 ((ak_up (ak_up M.1 73 12 (0 : Int32)) 73 13 (0 : Int32)) 79 ((5 : Int32) * a2).toNatClampNeg)) 73 15 ((ak_up (ak_up (ak_up M.1 73 12 (0 : Int32)) 73 13 (0 : Int32)) 73 14 ((ak_up (ak_up M.1 73 12 (0 : Int32)) 73 13 (0 : Int32)) 79 ((5 : Int32) * a2).toNatClampNeg)) 79 (((5 : Int32) * a2) + (1 : Int32)).toNatClampNeg)) 73 16 ((ak_up (ak_up (ak_up (ak_up M.1 73 12 (0 : Int32)) 73 13 (0 : Int32)) 73 14 ((ak_up (ak_up M.1 73 12 (0 : Int32)) 73 13 (0 : Int32)) 79 ((5 : Int32) * a2).toNatClampNeg)) 73 15 ((ak_up (ak_up (ak_up M.1 73 12 (0 : Int32)) 73 13 (0 : Int32)) 73 14 ((ak_up (ak_up M.1 73 12 (0 : Int32)) 73 13 (0 : Int32)) 79 ((5 : Int32) * a2).toNatClampNeg)) 79 (((5 : Int32) * a2) + (1 : Int32)).toNatClampNeg)) 79 (((5 : Int32) * a2) + (3 : Int32)).toNatClampNeg)) 73 17 (0 : Int32), M.2)).bind fun y6 =>
      (md_read (y6.2.1 73 4) a1 y6.2).bind fun y7 =>
      if a1 = (0 : Int32) then
        (md_within y7.1 (-99 : Int32) (99 : Int32) y7.2).bind fun y9 =>
        some (y9.1, y9.2)
      else
        if a1 = (1 : Int32) then
          (md_within y7.1 (0 : Int32) (99 : Int32) y7.2).bind fun y11 =>
          some (y11.1, y11.2)
        else
          some (y7.1, y7.2) else none else none else none
    else
      (md_isWished a2 a3 (ak_up M.1 73 12 (0 : Int32), M.2)).bind fun y12 =>
      if y12.1 = (0 : Int32) then
        if ak_inb ((5 : Int32) * a2) 20 = true then
        if ak_inb (((5 : Int32) * a2) + (1 : Int32)) 20 = true then
        if ak_inb (((5 : Int32) * a2) + (3 : Int32)) 20 = true then
        (md_asks_l85 300 a1 a2 a3 (0 : Int32) (ak_up (ak_up (ak_up (ak_up (ak_up y12.2.1 73 13 (0 : Int32)) 73 14 ((ak_up y12.2.1 73 13 (0 : Int32)) 79 ((5 : Int32) * a2).toNatClampNeg)) 73 15 ((ak_up (ak_up y12.2.1 73 13 (0 : Int32)) 73 14 ((ak_up y12.2.1 73 13 (0 : Int32)) 79 ((5 : Int32) * a2).toNatClampNeg)) 79 (((5 : Int32) * a2) + (1 : Int32)).toNatClampNeg)) 73 16 ((ak_up (ak_up (ak_up y12.2.1 73 13 (0 : Int32)) 73 14 ((ak_up y12.2.1 73 13 (0 : Int32)) 79 ((5 : Int32) * a2).toNatClampNeg)) 73 15 ((ak_up (ak_up y12.2.1 73 13 (0 : Int32)) 73 14 ((ak_up y12.2.1 73 13 (0 : Int32)) 79 ((5 : Int32) * a2).toNatClampNeg)) 79 (((5 : Int32) * a2) + (1 : Int32)).toNatClampNeg)) 79 (((5 : Int32) * a2) + (3 : Int32)).toNatClampNeg)) 73 17 (0 : Int32), y12.2.2)).bind fun y17 =>
        (md_read (y17.2.1 73 4) a1 y17.2).bind fun y18 =>
        if a1 = (0 : Int32) then
          (md_within y18.1 (-99 : Int32) (99 : Int32) y18.2).bind fun y20 =>
          some (y20.1, y20.2)
        else
          if a1 = (1 : Int32) then
            (md_within y18.1 (0 : Int32) (99 : Int32) y18.2).bind fun y22 =>
            some (y22.1, y22.2)
          else
            some (y18.1, y18.2) else none else none else none
      else
        if ak_inb ((5 : Int32) * a2) 20 = true then
        if ak_inb (((5 : Int32) * a2) + (1 : Int32)) 20 = true then
        if ak_inb (((5 : Int32) * a2) + (3 : Int32)) 20 = true then
        (md_asks_l85 300 a1 a2 a3 (0 : Int32) (ak_up (ak_up (ak_up (ak_up (ak_up y12.2.1 73 13 (1 : Int32)) 73 14 ((ak_up y12.2.1 73 13 (1 : Int32)) 79 ((5 : Int32) * a2).toNatClampNeg)) 73 15 ((ak_up (ak_up y12.2.1 73 13 (1 : Int32)) 73 14 ((ak_up y12.2.1 73 13 (1 : Int32)) 79 ((5 : Int32) * a2).toNatClampNeg)) 79 (((5 : Int32) * a2) + (1 : Int32)).toNatClampNeg)) 73 16 ((ak_up (ak_up (ak_up y12.2.1 73 13 (1 : Int32)) 73 14 ((ak_up y12.2.1 73 13 (1 : Int32)) 79 ((5 : Int32) * a2).toNatClampNeg)) 73 15 ((ak_up (ak_up y12.2.1 73 13 (1 : Int32)) 73 14 ((ak_up y12.2.1 73 13 (1 : Int32)) 79 ((5 : Int32) * a2).toNatClampNeg)) 79 (((5 : Int32) * a2) + (1 : Int32)).toNatClampNeg)) 79 (((5 : Int32) * a2) + (3 : Int32)).toNatClampNeg)) 73 17 (0 : Int32), y12.2.2)).bind fun y26 =>
        (md_read (y26.2.1 73 4) a1 y26.2).bind fun y27 =>
        if a1 = (0 : Int32) then
          (md_within y27.1 (-99 : Int32) (99 : Int32) y27.2).bind fun y29 =>
          some (y29.1, y29.2)
        else
          if a1 = (1 : Int32) then
            (md_within y27.1 (0 : Int32) (99 : Int32) y27.2).bind fun y31 =>
            some (y31.1, y31.2)
          else
            some (y27.1, y27.2) else none else none else none
  else
    if a3 = (-1 : Int32) then
      if ak_inb ((5 : Int32) * a2) 20 = true then
      if ak_inb (((5 : Int32) * a2) + (1 : Int32)) 20 = true then
      if ak_inb (((5 : Int32) * a2) + (3 : Int32)) 20 = true then
      (md_asks_l85 300 a1 a2 a3 (0 : Int32) (ak_up (ak_up (ak_up (ak_up (ak_up (ak_up M.1 73 12 a3) 73 13 (0 : Int32)) 73 14 ((ak_up (ak_up M.1 73 12 a3) 73 13 (0 : Int32)) 79 ((5 : Int32) * a2).toNatClampNeg)) 73 15 ((ak_up (ak_up (ak_up M.1 73 12 a3) 73 13 (0 : Int32)) 73 14 ((ak_up (ak_up M.1 73 12 a3) 73 13 (0 : Int32)) 79 ((5 : Int32) * a2).toNatClampNeg)) 79 (((5 : Int32) * a2) + (1 : Int32)).toNatClampNeg)) 73 16 ((ak_up (ak_up (ak_up (ak_up M.1 73 12 a3) 73 13 (0 : Int32)) 73 14 ((ak_up (ak_up M.1 73 12 a3) 73 13 (0 : Int32)) 79 ((5 : Int32) * a2).toNatClampNeg)) 73 15 ((ak_up (ak_up (ak_up M.1 73 12 a3) 73 13 (0 : Int32)) 73 14 ((ak_up (ak_up M.1 73 12 a3) 73 13 (0 : Int32)) 79 ((5 : Int32) * a2).toNatClampNeg)) 79 (((5 : Int32) * a2) + (1 : Int32)).toNatClampNeg)) 79 (((5 : Int32) * a2) + (3 : Int32)).toNatClampNeg)) 73 17 (0 : Int32), M.2)).bind fun y36 =>
      (md_read (y36.2.1 73 4) a1 y36.2).bind fun y37 =>
      if a1 = (0 : Int32) then
        (md_within y37.1 (-99 : Int32) (99 : Int32) y37.2).bind fun y39 =>
        some (y39.1, y39.2)
      else
        if a1 = (1 : Int32) then
          (md_within y37.1 (0 : Int32) (99 : Int32) y37.2).bind fun y41 =>
          some (y41.1, y41.2)
        else
          some (y37.1, y37.2) else none else none else none
    else
      (md_isWished a2 a3 (ak_up M.1 73 12 a3, M.2)).bind fun y42 =>
      if y42.1 = (0 : Int32) then
        if ak_inb ((5 : Int32) * a2) 20 = true then
        if ak_inb (((5 : Int32) * a2) + (1 : Int32)) 20 = true then
        if ak_inb (((5 : Int32) * a2) + (3 : Int32)) 20 = true then
        (md_asks_l85 300 a1 a2 a3 (0 : Int32) (ak_up (ak_up (ak_up (ak_up (ak_up y42.2.1 73 13 (0 : Int32)) 73 14 ((ak_up y42.2.1 73 13 (0 : Int32)) 79 ((5 : Int32) * a2).toNatClampNeg)) 73 15 ((ak_up (ak_up y42.2.1 73 13 (0 : Int32)) 73 14 ((ak_up y42.2.1 73 13 (0 : Int32)) 79 ((5 : Int32) * a2).toNatClampNeg)) 79 (((5 : Int32) * a2) + (1 : Int32)).toNatClampNeg)) 73 16 ((ak_up (ak_up (ak_up y42.2.1 73 13 (0 : Int32)) 73 14 ((ak_up y42.2.1 73 13 (0 : Int32)) 79 ((5 : Int32) * a2).toNatClampNeg)) 73 15 ((ak_up (ak_up y42.2.1 73 13 (0 : Int32)) 73 14 ((ak_up y42.2.1 73 13 (0 : Int32)) 79 ((5 : Int32) * a2).toNatClampNeg)) 79 (((5 : Int32) * a2) + (1 : Int32)).toNatClampNeg)) 79 (((5 : Int32) * a2) + (3 : Int32)).toNatClampNeg)) 73 17 (0 : Int32), y42.2.2)).bind fun y47 =>
        (md_read (y47.2.1 73 4) a1 y47.2).bind fun y48 =>
        if a1 = (0 : Int32) then
          (md_within y48.1 (-99 : Int32) (99 : Int32) y48.2).bind fun y50 =>
          some (y50.1, y50.2)
        else
          if a1 = (1 : Int32) then
            (md_within y48.1 (0 : Int32) (99 : Int32) y48.2).bind fun y52 =>
            some (y52.1, y52.2)
          else
            some (y48.1, y48.2) else none else none else none
      else
        if ak_inb ((5 : Int32) * a2) 20 = true then
        if ak_inb (((5 : Int32) * a2) + (1 : Int32)) 20 = true then
        if ak_inb (((5 : Int32) * a2) + (3 : Int32)) 20 = true then
        (md_asks_l85 300 a1 a2 a3 (0 : Int32) (ak_up (ak_up (ak_up (ak_up (ak_up y42.2.1 73 13 (1 : Int32)) 73 14 ((ak_up y42.2.1 73 13 (1 : Int32)) 79 ((5 : Int32) * a2).toNatClampNeg)) 73 15 ((ak_up (ak_up y42.2.1 73 13 (1 : Int32)) 73 14 ((ak_up y42.2.1 73 13 (1 : Int32)) 79 ((5 : Int32) * a2).toNatClampNeg)) 79 (((5 : Int32) * a2) + (1 : Int32)).toNatClampNeg)) 73 16 ((ak_up (ak_up (ak_up y42.2.1 73 13 (1 : Int32)) 73 14 ((ak_up y42.2.1 73 13 (1 : Int32)) 79 ((5 : Int32) * a2).toNatClampNeg)) 73 15 ((ak_up (ak_up y42.2.1 73 13 (1 : Int32)) 73 14 ((ak_up y42.2.1 73 13 (1 : Int32)) 79 ((5 : Int32) * a2).toNatClampNeg)) 79 (((5 : Int32) * a2) + (1 : Int32)).toNatClampNeg)) 79 (((5 : Int32) * a2) + (3 : Int32)).toNatClampNeg)) 73 17 (0 : Int32), y42.2.2)).bind fun y56 =>
        (md_read (y56.2.1 73 4) a1 y56.2).bind fun y57 =>
        if a1 = (0 : Int32) then
          (md_within y57.1 (-99 : Int32) (99 : Int32) y57.2).bind fun y59 =>
          some (y59.1, y59.2)
        else
          if a1 = (1 : Int32) then
            (md_within y57.1 (0 : Int32) (99 : Int32) y57.2).bind fun y61 =>
            some (y61.1, y61.2)
          else
            some (y57.1, y57.2) else none else none else none
set_option maxRecDepth 20000 in
set_option maxHeartbeats 4000000 in
theorem c_175 {Z : ak_Z} {d : Nat} (a1 : Int32) (a2 : Int32) (a3 : Int32) (M : mm_M) {y : Int32 × mm_M} (hf : md_asks a1 a2 a3 M = some y) {Q : Option Value → ak_H → Prop} (hq : Q (some (.int y.1)) (mm_H y.2)) : Ev Z (d + 66) 175 0 [some (.ref 73), some (.int a1), some (.int a2), some (.int a3), none] [] (mm_H M) Q := by
  rw [md_asks] at hf
  refine e_aload_n hm_175 rfl rfl ?_
  refine e_iload_n hm_175 rfl rfl ?_
  refine e_iconst hm_175 rfl kc_iconst_m1 ?_
  by_cases hc1 : a3 = (-1 : Int32)
  · rw [if_pos hc1] at hf
    refine e_ic_f hm_175 rfl (cf_ne hc1) ?_
    refine e_iconst hm_175 rfl kc_iconst_0 ?_
    refine e_goto (t := 11) hm_175 rfl rfl ?_
    refine e_putI hm_175 rfl rfl rfl ?_
    refine e_aload_n hm_175 rfl rfl ?_
    refine e_iload_n hm_175 rfl rfl ?_
    refine e_iconst hm_175 rfl kc_iconst_m1 ?_
    by_cases hc2 : a3 = (-1 : Int32)
    · rw [if_pos hc2] at hf
      refine e_ic_t (t := 33) hm_175 rfl (ct_eq hc2) rfl ?_
      refine e_iconst hm_175 rfl kc_iconst_0 ?_
      refine e_putI hm_175 rfl rfl rfl ?_
      refine e_aload_n hm_175 rfl rfl ?_
      refine e_aload_n hm_175 rfl rfl ?_
      refine e_getR hm_175 rfl rfl rfl rfl ?_
      refine e_iconst hm_175 rfl kc_iconst_5 ?_
      refine e_iload_n hm_175 rfl rfl ?_
      refine e_imul hm_175 rfl ?_
      obtain ⟨hi3, hf⟩ := mm_ite hf
      refine e_iald hm_175 rfl rfl hi3 ?_
      refine e_putI hm_175 rfl rfl rfl ?_
      refine e_aload_n hm_175 rfl rfl ?_
      refine e_aload_n hm_175 rfl rfl ?_
      refine e_getR hm_175 rfl rfl rfl rfl ?_
      refine e_iconst hm_175 rfl kc_iconst_5 ?_
      refine e_iload_n hm_175 rfl rfl ?_
      refine e_imul hm_175 rfl ?_
      refine e_iconst hm_175 rfl kc_iconst_1 ?_
      refine e_iadd hm_175 rfl ?_
      obtain ⟨hi4, hf⟩ := mm_ite hf
      refine e_iald hm_175 rfl rfl hi4 ?_
      refine e_putI hm_175 rfl rfl rfl ?_
      refine e_aload_n hm_175 rfl rfl ?_
      refine e_aload_n hm_175 rfl rfl ?_
      refine e_getR hm_175 rfl rfl rfl rfl ?_
      refine e_iconst hm_175 rfl kc_iconst_5 ?_
      refine e_iload_n hm_175 rfl rfl ?_
      refine e_imul hm_175 rfl ?_
      refine e_iconst hm_175 rfl kc_iconst_3 ?_
      refine e_iadd hm_175 rfl ?_
      obtain ⟨hi5, hf⟩ := mm_ite hf
      refine e_iald hm_175 rfl rfl hi5 ?_
      refine e_putI hm_175 rfl rfl rfl ?_
      refine e_aload_n hm_175 rfl rfl ?_
      refine e_iconst hm_175 rfl kc_iconst_0 ?_
      refine e_putI hm_175 rfl rfl rfl ?_
      refine e_iconst hm_175 rfl kc_iconst_0 ?_
      refine e_istore (L2 := [some (.ref 73), some (.int a1), some (.int a2), some (.int a3), some (.int (0 : Int32))]) hm_175 rfl rfl ?_
      obtain ⟨y6, hky6, hf⟩ := mm_bd hf
      refine e_forget (L' := [some (.ref 73), some (.int a1), some (.int a2), some (.int a3), some (.int (0 : Int32))]) (lf_k (lf_k (lf_k (lf_k (lf_k lf_0))))) (lc_175_85 (d := _) 300 a1 a2 a3 (0 : Int32) (ak_up (ak_up (ak_up (ak_up (ak_up (ak_up M.1 73 12 (0 : Int32)) 73 13 (0 : Int32)) 73 14 ((ak_up (ak_up M.1 73 12 (0 : Int32)) 73 13 (0 : Int32)) 79 ((5 : Int32) * a2).toNatClampNeg)) 73 15 ((ak_up (ak_up (ak_up M.1 73 12 (0 : Int32)) 73 13 (0 : Int32)) 73 14 ((ak_up (ak_up M.1 73 12 (0 : Int32)) 73 13 (0 : Int32)) 79 ((5 : Int32) * a2).toNatClampNeg)) 79 (((5 : Int32) * a2) + (1 : Int32)).toNatClampNeg)) 73 16 ((ak_up (ak_up (ak_up (ak_up M.1 73 12 (0 : Int32)) 73 13 (0 : Int32)) 73 14 ((ak_up (ak_up M.1 73 12 (0 : Int32)) 73 13 (0 : Int32)) 79 ((5 : Int32) * a2).toNatClampNeg)) 73 15 ((ak_up (ak_up (ak_up M.1 73 12 (0 : Int32)) 73 13 (0 : Int32)) 73 14 ((ak_up (ak_up M.1 73 12 (0 : Int32)) 73 13 (0 : Int32)) 79 ((5 : Int32) * a2).toNatClampNeg)) 79 (((5 : Int32) * a2) + (1 : Int32)).toNatClampNeg)) 79 (((5 : Int32) * a2) + (3 : Int32)).toNatClampNeg)) 73 17 (0 : Int32), M.2) Q hky6 ?_)
      show Ev Z _ 175 135 [some (.ref 73), some (.int a1), none, none, none] [] (mm_H y6.2) Q
      refine e_aload_n hm_175 rfl rfl ?_
      refine e_aload_n hm_175 rfl rfl ?_
      refine e_getI hm_175 rfl rfl rfl ?_
      refine e_iload_n hm_175 rfl rfl ?_
      obtain ⟨y7, hky7, hf⟩ := mm_bd hf
      refine e_virt hm_175 rfl rfl rfl rfl (Nat.le_of_ble_eq_true rfl) hm_176 rfl rfl (c_176 (y6.2.1 73 4) a1 y6.2 hky7 ?_)
      show Ev Z _ 175 144 [some (.ref 73), some (.int a1), none, none, none] [.int y7.1] (mm_H y7.2) Q
      refine e_istore (L2 := [some (.ref 73), some (.int a1), none, none, some (.int y7.1)]) hm_175 rfl rfl ?_
      refine e_iload_n hm_175 rfl rfl ?_
      by_cases hc8 : a1 = (0 : Int32)
      · rw [if_pos hc8] at hf
        refine e_if_f hm_175 rfl (cf_ne hc8) ?_
        refine e_iload hm_175 rfl rfl ?_
        refine e_bipush hm_175 rfl kc_bipush_m99 ?_
        refine e_bipush hm_175 rfl kc_bipush_99 ?_
        obtain ⟨y9, hky9, hf⟩ := mm_bd hf
        refine e_stat hm_175 rfl (by decide) rfl rfl (Nat.le_of_ble_eq_true rfl) hm_192 rfl rfl (c_192 y7.1 (-99 : Int32) (99 : Int32) y7.2 hky9 ?_)
        show Ev Z _ 175 159 [some (.ref 73), some (.int a1), none, none, some (.int y7.1)] [.int y9.1] (mm_H y9.2) Q
        refine e_goto (t := 180) hm_175 rfl rfl ?_
        obtain rfl := Option.some.inj hf
        exact e_iret hm_175 rfl rfl hq
      · rw [if_neg hc8] at hf
        refine e_if_t (t := 162) hm_175 rfl (ct_ne hc8) rfl ?_
        refine e_iload_n hm_175 rfl rfl ?_
        refine e_iconst hm_175 rfl kc_iconst_1 ?_
        by_cases hc10 : a1 = (1 : Int32)
        · rw [if_pos hc10] at hf
          refine e_ic_f hm_175 rfl (cf_ne hc10) ?_
          refine e_iload hm_175 rfl rfl ?_
          refine e_iconst hm_175 rfl kc_iconst_0 ?_
          refine e_bipush hm_175 rfl kc_bipush_99 ?_
          obtain ⟨y11, hky11, hf⟩ := mm_bd hf
          refine e_stat hm_175 rfl (by decide) rfl rfl (Nat.le_of_ble_eq_true rfl) hm_192 rfl rfl (c_192 y7.1 (0 : Int32) (99 : Int32) y7.2 hky11 ?_)
          show Ev Z _ 175 175 [some (.ref 73), some (.int a1), none, none, some (.int y7.1)] [.int y11.1] (mm_H y11.2) Q
          refine e_goto (t := 180) hm_175 rfl rfl ?_
          obtain rfl := Option.some.inj hf
          exact e_iret hm_175 rfl rfl hq
        · rw [if_neg hc10] at hf
          refine e_ic_t (t := 178) hm_175 rfl (ct_ne hc10) rfl ?_
          refine e_iload hm_175 rfl rfl ?_
          obtain rfl := Option.some.inj hf
          exact e_iret hm_175 rfl rfl hq
    · rw [if_neg hc2] at hf
      refine e_ic_f hm_175 rfl (cf_eq hc2) ?_
      refine e_aload_n hm_175 rfl rfl ?_
      refine e_iload_n hm_175 rfl rfl ?_
      refine e_iload_n hm_175 rfl rfl ?_
      obtain ⟨y12, hky12, hf⟩ := mm_bd hf
      refine e_virt hm_175 rfl rfl rfl rfl (Nat.le_of_ble_eq_true rfl) hm_174 rfl rfl (c_174 a2 a3 (ak_up M.1 73 12 (0 : Int32), M.2) hky12 ?_)
      show Ev Z _ 175 26 [some (.ref 73), some (.int a1), some (.int a2), some (.int a3), none] [.int y12.1, .ref 73] (mm_H y12.2) Q
      by_cases hc13 : y12.1 = (0 : Int32)
      · rw [if_pos hc13] at hf
        refine e_if_t (t := 33) hm_175 rfl (ct_eq hc13) rfl ?_
        refine e_iconst hm_175 rfl kc_iconst_0 ?_
        refine e_putI hm_175 rfl rfl rfl ?_
        refine e_aload_n hm_175 rfl rfl ?_
        refine e_aload_n hm_175 rfl rfl ?_
        refine e_getR hm_175 rfl rfl rfl rfl ?_
        refine e_iconst hm_175 rfl kc_iconst_5 ?_
        refine e_iload_n hm_175 rfl rfl ?_
        refine e_imul hm_175 rfl ?_
        obtain ⟨hi14, hf⟩ := mm_ite hf
        refine e_iald hm_175 rfl rfl hi14 ?_
        refine e_putI hm_175 rfl rfl rfl ?_
        refine e_aload_n hm_175 rfl rfl ?_
        refine e_aload_n hm_175 rfl rfl ?_
        refine e_getR hm_175 rfl rfl rfl rfl ?_
        refine e_iconst hm_175 rfl kc_iconst_5 ?_
        refine e_iload_n hm_175 rfl rfl ?_
        refine e_imul hm_175 rfl ?_
        refine e_iconst hm_175 rfl kc_iconst_1 ?_
        refine e_iadd hm_175 rfl ?_
        obtain ⟨hi15, hf⟩ := mm_ite hf
        refine e_iald hm_175 rfl rfl hi15 ?_
        refine e_putI hm_175 rfl rfl rfl ?_
        refine e_aload_n hm_175 rfl rfl ?_
        refine e_aload_n hm_175 rfl rfl ?_
        refine e_getR hm_175 rfl rfl rfl rfl ?_
        refine e_iconst hm_175 rfl kc_iconst_5 ?_
        refine e_iload_n hm_175 rfl rfl ?_
        refine e_imul hm_175 rfl ?_
        refine e_iconst hm_175 rfl kc_iconst_3 ?_
        refine e_iadd hm_175 rfl ?_
        obtain ⟨hi16, hf⟩ := mm_ite hf
        refine e_iald hm_175 rfl rfl hi16 ?_
        refine e_putI hm_175 rfl rfl rfl ?_
        refine e_aload_n hm_175 rfl rfl ?_
        refine e_iconst hm_175 rfl kc_iconst_0 ?_
        refine e_putI hm_175 rfl rfl rfl ?_
        refine e_iconst hm_175 rfl kc_iconst_0 ?_
        refine e_istore (L2 := [some (.ref 73), some (.int a1), some (.int a2), some (.int a3), some (.int (0 : Int32))]) hm_175 rfl rfl ?_
        obtain ⟨y17, hky17, hf⟩ := mm_bd hf
        refine e_forget (L' := [some (.ref 73), some (.int a1), some (.int a2), some (.int a3), some (.int (0 : Int32))]) (lf_k (lf_k (lf_k (lf_k (lf_k lf_0))))) (lc_175_85 (d := _) 300 a1 a2 a3 (0 : Int32) (ak_up (ak_up (ak_up (ak_up (ak_up y12.2.1 73 13 (0 : Int32)) 73 14 ((ak_up y12.2.1 73 13 (0 : Int32)) 79 ((5 : Int32) * a2).toNatClampNeg)) 73 15 ((ak_up (ak_up y12.2.1 73 13 (0 : Int32)) 73 14 ((ak_up y12.2.1 73 13 (0 : Int32)) 79 ((5 : Int32) * a2).toNatClampNeg)) 79 (((5 : Int32) * a2) + (1 : Int32)).toNatClampNeg)) 73 16 ((ak_up (ak_up (ak_up y12.2.1 73 13 (0 : Int32)) 73 14 ((ak_up y12.2.1 73 13 (0 : Int32)) 79 ((5 : Int32) * a2).toNatClampNeg)) 73 15 ((ak_up (ak_up y12.2.1 73 13 (0 : Int32)) 73 14 ((ak_up y12.2.1 73 13 (0 : Int32)) 79 ((5 : Int32) * a2).toNatClampNeg)) 79 (((5 : Int32) * a2) + (1 : Int32)).toNatClampNeg)) 79 (((5 : Int32) * a2) + (3 : Int32)).toNatClampNeg)) 73 17 (0 : Int32), y12.2.2) Q hky17 ?_)
        show Ev Z _ 175 135 [some (.ref 73), some (.int a1), none, none, none] [] (mm_H y17.2) Q
        refine e_aload_n hm_175 rfl rfl ?_
        refine e_aload_n hm_175 rfl rfl ?_
        refine e_getI hm_175 rfl rfl rfl ?_
        refine e_iload_n hm_175 rfl rfl ?_
        obtain ⟨y18, hky18, hf⟩ := mm_bd hf
        refine e_virt hm_175 rfl rfl rfl rfl (Nat.le_of_ble_eq_true rfl) hm_176 rfl rfl (c_176 (y17.2.1 73 4) a1 y17.2 hky18 ?_)
        show Ev Z _ 175 144 [some (.ref 73), some (.int a1), none, none, none] [.int y18.1] (mm_H y18.2) Q
        refine e_istore (L2 := [some (.ref 73), some (.int a1), none, none, some (.int y18.1)]) hm_175 rfl rfl ?_
        refine e_iload_n hm_175 rfl rfl ?_
        by_cases hc19 : a1 = (0 : Int32)
        · rw [if_pos hc19] at hf
          refine e_if_f hm_175 rfl (cf_ne hc19) ?_
          refine e_iload hm_175 rfl rfl ?_
          refine e_bipush hm_175 rfl kc_bipush_m99 ?_
          refine e_bipush hm_175 rfl kc_bipush_99 ?_
          obtain ⟨y20, hky20, hf⟩ := mm_bd hf
          refine e_stat hm_175 rfl (by decide) rfl rfl (Nat.le_of_ble_eq_true rfl) hm_192 rfl rfl (c_192 y18.1 (-99 : Int32) (99 : Int32) y18.2 hky20 ?_)
          show Ev Z _ 175 159 [some (.ref 73), some (.int a1), none, none, some (.int y18.1)] [.int y20.1] (mm_H y20.2) Q
          refine e_goto (t := 180) hm_175 rfl rfl ?_
          obtain rfl := Option.some.inj hf
          exact e_iret hm_175 rfl rfl hq
        · rw [if_neg hc19] at hf
          refine e_if_t (t := 162) hm_175 rfl (ct_ne hc19) rfl ?_
          refine e_iload_n hm_175 rfl rfl ?_
          refine e_iconst hm_175 rfl kc_iconst_1 ?_
          by_cases hc21 : a1 = (1 : Int32)
          · rw [if_pos hc21] at hf
            refine e_ic_f hm_175 rfl (cf_ne hc21) ?_
            refine e_iload hm_175 rfl rfl ?_
            refine e_iconst hm_175 rfl kc_iconst_0 ?_
            refine e_bipush hm_175 rfl kc_bipush_99 ?_
            obtain ⟨y22, hky22, hf⟩ := mm_bd hf
            refine e_stat hm_175 rfl (by decide) rfl rfl (Nat.le_of_ble_eq_true rfl) hm_192 rfl rfl (c_192 y18.1 (0 : Int32) (99 : Int32) y18.2 hky22 ?_)
            show Ev Z _ 175 175 [some (.ref 73), some (.int a1), none, none, some (.int y18.1)] [.int y22.1] (mm_H y22.2) Q
            refine e_goto (t := 180) hm_175 rfl rfl ?_
            obtain rfl := Option.some.inj hf
            exact e_iret hm_175 rfl rfl hq
          · rw [if_neg hc21] at hf
            refine e_ic_t (t := 178) hm_175 rfl (ct_ne hc21) rfl ?_
            refine e_iload hm_175 rfl rfl ?_
            obtain rfl := Option.some.inj hf
            exact e_iret hm_175 rfl rfl hq
      · rw [if_neg hc13] at hf
        refine e_if_f hm_175 rfl (cf_eq hc13) ?_
        refine e_iconst hm_175 rfl kc_iconst_1 ?_
        refine e_goto (t := 34) hm_175 rfl rfl ?_
        refine e_putI hm_175 rfl rfl rfl ?_
        refine e_aload_n hm_175 rfl rfl ?_
        refine e_aload_n hm_175 rfl rfl ?_
        refine e_getR hm_175 rfl rfl rfl rfl ?_
        refine e_iconst hm_175 rfl kc_iconst_5 ?_
        refine e_iload_n hm_175 rfl rfl ?_
        refine e_imul hm_175 rfl ?_
        obtain ⟨hi23, hf⟩ := mm_ite hf
        refine e_iald hm_175 rfl rfl hi23 ?_
        refine e_putI hm_175 rfl rfl rfl ?_
        refine e_aload_n hm_175 rfl rfl ?_
        refine e_aload_n hm_175 rfl rfl ?_
        refine e_getR hm_175 rfl rfl rfl rfl ?_
        refine e_iconst hm_175 rfl kc_iconst_5 ?_
        refine e_iload_n hm_175 rfl rfl ?_
        refine e_imul hm_175 rfl ?_
        refine e_iconst hm_175 rfl kc_iconst_1 ?_
        refine e_iadd hm_175 rfl ?_
        obtain ⟨hi24, hf⟩ := mm_ite hf
        refine e_iald hm_175 rfl rfl hi24 ?_
        refine e_putI hm_175 rfl rfl rfl ?_
        refine e_aload_n hm_175 rfl rfl ?_
        refine e_aload_n hm_175 rfl rfl ?_
        refine e_getR hm_175 rfl rfl rfl rfl ?_
        refine e_iconst hm_175 rfl kc_iconst_5 ?_
        refine e_iload_n hm_175 rfl rfl ?_
        refine e_imul hm_175 rfl ?_
        refine e_iconst hm_175 rfl kc_iconst_3 ?_
        refine e_iadd hm_175 rfl ?_
        obtain ⟨hi25, hf⟩ := mm_ite hf
        refine e_iald hm_175 rfl rfl hi25 ?_
        refine e_putI hm_175 rfl rfl rfl ?_
        refine e_aload_n hm_175 rfl rfl ?_
        refine e_iconst hm_175 rfl kc_iconst_0 ?_
        refine e_putI hm_175 rfl rfl rfl ?_
        refine e_iconst hm_175 rfl kc_iconst_0 ?_
        refine e_istore (L2 := [some (.ref 73), some (.int a1), some (.int a2), some (.int a3), some (.int (0 : Int32))]) hm_175 rfl rfl ?_
        obtain ⟨y26, hky26, hf⟩ := mm_bd hf
        refine e_forget (L' := [some (.ref 73), some (.int a1), some (.int a2), some (.int a3), some (.int (0 : Int32))]) (lf_k (lf_k (lf_k (lf_k (lf_k lf_0))))) (lc_175_85 (d := _) 300 a1 a2 a3 (0 : Int32) (ak_up (ak_up (ak_up (ak_up (ak_up y12.2.1 73 13 (1 : Int32)) 73 14 ((ak_up y12.2.1 73 13 (1 : Int32)) 79 ((5 : Int32) * a2).toNatClampNeg)) 73 15 ((ak_up (ak_up y12.2.1 73 13 (1 : Int32)) 73 14 ((ak_up y12.2.1 73 13 (1 : Int32)) 79 ((5 : Int32) * a2).toNatClampNeg)) 79 (((5 : Int32) * a2) + (1 : Int32)).toNatClampNeg)) 73 16 ((ak_up (ak_up (ak_up y12.2.1 73 13 (1 : Int32)) 73 14 ((ak_up y12.2.1 73 13 (1 : Int32)) 79 ((5 : Int32) * a2).toNatClampNeg)) 73 15 ((ak_up (ak_up y12.2.1 73 13 (1 : Int32)) 73 14 ((ak_up y12.2.1 73 13 (1 : Int32)) 79 ((5 : Int32) * a2).toNatClampNeg)) 79 (((5 : Int32) * a2) + (1 : Int32)).toNatClampNeg)) 79 (((5 : Int32) * a2) + (3 : Int32)).toNatClampNeg)) 73 17 (0 : Int32), y12.2.2) Q hky26 ?_)
        show Ev Z _ 175 135 [some (.ref 73), some (.int a1), none, none, none] [] (mm_H y26.2) Q
        refine e_aload_n hm_175 rfl rfl ?_
        refine e_aload_n hm_175 rfl rfl ?_
        refine e_getI hm_175 rfl rfl rfl ?_
        refine e_iload_n hm_175 rfl rfl ?_
        obtain ⟨y27, hky27, hf⟩ := mm_bd hf
        refine e_virt hm_175 rfl rfl rfl rfl (Nat.le_of_ble_eq_true rfl) hm_176 rfl rfl (c_176 (y26.2.1 73 4) a1 y26.2 hky27 ?_)
        show Ev Z _ 175 144 [some (.ref 73), some (.int a1), none, none, none] [.int y27.1] (mm_H y27.2) Q
        refine e_istore (L2 := [some (.ref 73), some (.int a1), none, none, some (.int y27.1)]) hm_175 rfl rfl ?_
        refine e_iload_n hm_175 rfl rfl ?_
        by_cases hc28 : a1 = (0 : Int32)
        · rw [if_pos hc28] at hf
          refine e_if_f hm_175 rfl (cf_ne hc28) ?_
          refine e_iload hm_175 rfl rfl ?_
          refine e_bipush hm_175 rfl kc_bipush_m99 ?_
          refine e_bipush hm_175 rfl kc_bipush_99 ?_
          obtain ⟨y29, hky29, hf⟩ := mm_bd hf
          refine e_stat hm_175 rfl (by decide) rfl rfl (Nat.le_of_ble_eq_true rfl) hm_192 rfl rfl (c_192 y27.1 (-99 : Int32) (99 : Int32) y27.2 hky29 ?_)
          show Ev Z _ 175 159 [some (.ref 73), some (.int a1), none, none, some (.int y27.1)] [.int y29.1] (mm_H y29.2) Q
          refine e_goto (t := 180) hm_175 rfl rfl ?_
          obtain rfl := Option.some.inj hf
          exact e_iret hm_175 rfl rfl hq
        · rw [if_neg hc28] at hf
          refine e_if_t (t := 162) hm_175 rfl (ct_ne hc28) rfl ?_
          refine e_iload_n hm_175 rfl rfl ?_
          refine e_iconst hm_175 rfl kc_iconst_1 ?_
          by_cases hc30 : a1 = (1 : Int32)
          · rw [if_pos hc30] at hf
            refine e_ic_f hm_175 rfl (cf_ne hc30) ?_
            refine e_iload hm_175 rfl rfl ?_
            refine e_iconst hm_175 rfl kc_iconst_0 ?_
            refine e_bipush hm_175 rfl kc_bipush_99 ?_
            obtain ⟨y31, hky31, hf⟩ := mm_bd hf
            refine e_stat hm_175 rfl (by decide) rfl rfl (Nat.le_of_ble_eq_true rfl) hm_192 rfl rfl (c_192 y27.1 (0 : Int32) (99 : Int32) y27.2 hky31 ?_)
            show Ev Z _ 175 175 [some (.ref 73), some (.int a1), none, none, some (.int y27.1)] [.int y31.1] (mm_H y31.2) Q
            refine e_goto (t := 180) hm_175 rfl rfl ?_
            obtain rfl := Option.some.inj hf
            exact e_iret hm_175 rfl rfl hq
          · rw [if_neg hc30] at hf
            refine e_ic_t (t := 178) hm_175 rfl (ct_ne hc30) rfl ?_
            refine e_iload hm_175 rfl rfl ?_
            obtain rfl := Option.some.inj hf
            exact e_iret hm_175 rfl rfl hq
  · rw [if_neg hc1] at hf
    refine e_ic_t (t := 10) hm_175 rfl (ct_ne hc1) rfl ?_
    refine e_iload_n hm_175 rfl rfl ?_
    refine e_putI hm_175 rfl rfl rfl ?_
    refine e_aload_n hm_175 rfl rfl ?_
    refine e_iload_n hm_175 rfl rfl ?_
    refine e_iconst hm_175 rfl kc_iconst_m1 ?_
    by_cases hc32 : a3 = (-1 : Int32)
    · rw [if_pos hc32] at hf
      refine e_ic_t (t := 33) hm_175 rfl (ct_eq hc32) rfl ?_
      refine e_iconst hm_175 rfl kc_iconst_0 ?_
      refine e_putI hm_175 rfl rfl rfl ?_
      refine e_aload_n hm_175 rfl rfl ?_
      refine e_aload_n hm_175 rfl rfl ?_
      refine e_getR hm_175 rfl rfl rfl rfl ?_
      refine e_iconst hm_175 rfl kc_iconst_5 ?_
      refine e_iload_n hm_175 rfl rfl ?_
      refine e_imul hm_175 rfl ?_
      obtain ⟨hi33, hf⟩ := mm_ite hf
      refine e_iald hm_175 rfl rfl hi33 ?_
      refine e_putI hm_175 rfl rfl rfl ?_
      refine e_aload_n hm_175 rfl rfl ?_
      refine e_aload_n hm_175 rfl rfl ?_
      refine e_getR hm_175 rfl rfl rfl rfl ?_
      refine e_iconst hm_175 rfl kc_iconst_5 ?_
      refine e_iload_n hm_175 rfl rfl ?_
      refine e_imul hm_175 rfl ?_
      refine e_iconst hm_175 rfl kc_iconst_1 ?_
      refine e_iadd hm_175 rfl ?_
      obtain ⟨hi34, hf⟩ := mm_ite hf
      refine e_iald hm_175 rfl rfl hi34 ?_
      refine e_putI hm_175 rfl rfl rfl ?_
      refine e_aload_n hm_175 rfl rfl ?_
      refine e_aload_n hm_175 rfl rfl ?_
      refine e_getR hm_175 rfl rfl rfl rfl ?_
      refine e_iconst hm_175 rfl kc_iconst_5 ?_
      refine e_iload_n hm_175 rfl rfl ?_
      refine e_imul hm_175 rfl ?_
      refine e_iconst hm_175 rfl kc_iconst_3 ?_
      refine e_iadd hm_175 rfl ?_
      obtain ⟨hi35, hf⟩ := mm_ite hf
      refine e_iald hm_175 rfl rfl hi35 ?_
      refine e_putI hm_175 rfl rfl rfl ?_
      refine e_aload_n hm_175 rfl rfl ?_
      refine e_iconst hm_175 rfl kc_iconst_0 ?_
      refine e_putI hm_175 rfl rfl rfl ?_
      refine e_iconst hm_175 rfl kc_iconst_0 ?_
      refine e_istore (L2 := [some (.ref 73), some (.int a1), some (.int a2), some (.int a3), some (.int (0 : Int32))]) hm_175 rfl rfl ?_
      obtain ⟨y36, hky36, hf⟩ := mm_bd hf
      refine e_forget (L' := [some (.ref 73), some (.int a1), some (.int a2), some (.int a3), some (.int (0 : Int32))]) (lf_k (lf_k (lf_k (lf_k (lf_k lf_0))))) (lc_175_85 (d := _) 300 a1 a2 a3 (0 : Int32) (ak_up (ak_up (ak_up (ak_up (ak_up (ak_up M.1 73 12 a3) 73 13 (0 : Int32)) 73 14 ((ak_up (ak_up M.1 73 12 a3) 73 13 (0 : Int32)) 79 ((5 : Int32) * a2).toNatClampNeg)) 73 15 ((ak_up (ak_up (ak_up M.1 73 12 a3) 73 13 (0 : Int32)) 73 14 ((ak_up (ak_up M.1 73 12 a3) 73 13 (0 : Int32)) 79 ((5 : Int32) * a2).toNatClampNeg)) 79 (((5 : Int32) * a2) + (1 : Int32)).toNatClampNeg)) 73 16 ((ak_up (ak_up (ak_up (ak_up M.1 73 12 a3) 73 13 (0 : Int32)) 73 14 ((ak_up (ak_up M.1 73 12 a3) 73 13 (0 : Int32)) 79 ((5 : Int32) * a2).toNatClampNeg)) 73 15 ((ak_up (ak_up (ak_up M.1 73 12 a3) 73 13 (0 : Int32)) 73 14 ((ak_up (ak_up M.1 73 12 a3) 73 13 (0 : Int32)) 79 ((5 : Int32) * a2).toNatClampNeg)) 79 (((5 : Int32) * a2) + (1 : Int32)).toNatClampNeg)) 79 (((5 : Int32) * a2) + (3 : Int32)).toNatClampNeg)) 73 17 (0 : Int32), M.2) Q hky36 ?_)
      show Ev Z _ 175 135 [some (.ref 73), some (.int a1), none, none, none] [] (mm_H y36.2) Q
      refine e_aload_n hm_175 rfl rfl ?_
      refine e_aload_n hm_175 rfl rfl ?_
      refine e_getI hm_175 rfl rfl rfl ?_
      refine e_iload_n hm_175 rfl rfl ?_
      obtain ⟨y37, hky37, hf⟩ := mm_bd hf
      refine e_virt hm_175 rfl rfl rfl rfl (Nat.le_of_ble_eq_true rfl) hm_176 rfl rfl (c_176 (y36.2.1 73 4) a1 y36.2 hky37 ?_)
      show Ev Z _ 175 144 [some (.ref 73), some (.int a1), none, none, none] [.int y37.1] (mm_H y37.2) Q
      refine e_istore (L2 := [some (.ref 73), some (.int a1), none, none, some (.int y37.1)]) hm_175 rfl rfl ?_
      refine e_iload_n hm_175 rfl rfl ?_
      by_cases hc38 : a1 = (0 : Int32)
      · rw [if_pos hc38] at hf
        refine e_if_f hm_175 rfl (cf_ne hc38) ?_
        refine e_iload hm_175 rfl rfl ?_
        refine e_bipush hm_175 rfl kc_bipush_m99 ?_
        refine e_bipush hm_175 rfl kc_bipush_99 ?_
        obtain ⟨y39, hky39, hf⟩ := mm_bd hf
        refine e_stat hm_175 rfl (by decide) rfl rfl (Nat.le_of_ble_eq_true rfl) hm_192 rfl rfl (c_192 y37.1 (-99 : Int32) (99 : Int32) y37.2 hky39 ?_)
        show Ev Z _ 175 159 [some (.ref 73), some (.int a1), none, none, some (.int y37.1)] [.int y39.1] (mm_H y39.2) Q
        refine e_goto (t := 180) hm_175 rfl rfl ?_
        obtain rfl := Option.some.inj hf
        exact e_iret hm_175 rfl rfl hq
      · rw [if_neg hc38] at hf
        refine e_if_t (t := 162) hm_175 rfl (ct_ne hc38) rfl ?_
        refine e_iload_n hm_175 rfl rfl ?_
        refine e_iconst hm_175 rfl kc_iconst_1 ?_
        by_cases hc40 : a1 = (1 : Int32)
        · rw [if_pos hc40] at hf
          refine e_ic_f hm_175 rfl (cf_ne hc40) ?_
          refine e_iload hm_175 rfl rfl ?_
          refine e_iconst hm_175 rfl kc_iconst_0 ?_
          refine e_bipush hm_175 rfl kc_bipush_99 ?_
          obtain ⟨y41, hky41, hf⟩ := mm_bd hf
          refine e_stat hm_175 rfl (by decide) rfl rfl (Nat.le_of_ble_eq_true rfl) hm_192 rfl rfl (c_192 y37.1 (0 : Int32) (99 : Int32) y37.2 hky41 ?_)
          show Ev Z _ 175 175 [some (.ref 73), some (.int a1), none, none, some (.int y37.1)] [.int y41.1] (mm_H y41.2) Q
          refine e_goto (t := 180) hm_175 rfl rfl ?_
          obtain rfl := Option.some.inj hf
          exact e_iret hm_175 rfl rfl hq
        · rw [if_neg hc40] at hf
          refine e_ic_t (t := 178) hm_175 rfl (ct_ne hc40) rfl ?_
          refine e_iload hm_175 rfl rfl ?_
          obtain rfl := Option.some.inj hf
          exact e_iret hm_175 rfl rfl hq
    · rw [if_neg hc32] at hf
      refine e_ic_f hm_175 rfl (cf_eq hc32) ?_
      refine e_aload_n hm_175 rfl rfl ?_
      refine e_iload_n hm_175 rfl rfl ?_
      refine e_iload_n hm_175 rfl rfl ?_
      obtain ⟨y42, hky42, hf⟩ := mm_bd hf
      refine e_virt hm_175 rfl rfl rfl rfl (Nat.le_of_ble_eq_true rfl) hm_174 rfl rfl (c_174 a2 a3 (ak_up M.1 73 12 a3, M.2) hky42 ?_)
      show Ev Z _ 175 26 [some (.ref 73), some (.int a1), some (.int a2), some (.int a3), none] [.int y42.1, .ref 73] (mm_H y42.2) Q
      by_cases hc43 : y42.1 = (0 : Int32)
      · rw [if_pos hc43] at hf
        refine e_if_t (t := 33) hm_175 rfl (ct_eq hc43) rfl ?_
        refine e_iconst hm_175 rfl kc_iconst_0 ?_
        refine e_putI hm_175 rfl rfl rfl ?_
        refine e_aload_n hm_175 rfl rfl ?_
        refine e_aload_n hm_175 rfl rfl ?_
        refine e_getR hm_175 rfl rfl rfl rfl ?_
        refine e_iconst hm_175 rfl kc_iconst_5 ?_
        refine e_iload_n hm_175 rfl rfl ?_
        refine e_imul hm_175 rfl ?_
        obtain ⟨hi44, hf⟩ := mm_ite hf
        refine e_iald hm_175 rfl rfl hi44 ?_
        refine e_putI hm_175 rfl rfl rfl ?_
        refine e_aload_n hm_175 rfl rfl ?_
        refine e_aload_n hm_175 rfl rfl ?_
        refine e_getR hm_175 rfl rfl rfl rfl ?_
        refine e_iconst hm_175 rfl kc_iconst_5 ?_
        refine e_iload_n hm_175 rfl rfl ?_
        refine e_imul hm_175 rfl ?_
        refine e_iconst hm_175 rfl kc_iconst_1 ?_
        refine e_iadd hm_175 rfl ?_
        obtain ⟨hi45, hf⟩ := mm_ite hf
        refine e_iald hm_175 rfl rfl hi45 ?_
        refine e_putI hm_175 rfl rfl rfl ?_
        refine e_aload_n hm_175 rfl rfl ?_
        refine e_aload_n hm_175 rfl rfl ?_
        refine e_getR hm_175 rfl rfl rfl rfl ?_
        refine e_iconst hm_175 rfl kc_iconst_5 ?_
        refine e_iload_n hm_175 rfl rfl ?_
        refine e_imul hm_175 rfl ?_
        refine e_iconst hm_175 rfl kc_iconst_3 ?_
        refine e_iadd hm_175 rfl ?_
        obtain ⟨hi46, hf⟩ := mm_ite hf
        refine e_iald hm_175 rfl rfl hi46 ?_
        refine e_putI hm_175 rfl rfl rfl ?_
        refine e_aload_n hm_175 rfl rfl ?_
        refine e_iconst hm_175 rfl kc_iconst_0 ?_
        refine e_putI hm_175 rfl rfl rfl ?_
        refine e_iconst hm_175 rfl kc_iconst_0 ?_
        refine e_istore (L2 := [some (.ref 73), some (.int a1), some (.int a2), some (.int a3), some (.int (0 : Int32))]) hm_175 rfl rfl ?_
        obtain ⟨y47, hky47, hf⟩ := mm_bd hf
        refine e_forget (L' := [some (.ref 73), some (.int a1), some (.int a2), some (.int a3), some (.int (0 : Int32))]) (lf_k (lf_k (lf_k (lf_k (lf_k lf_0))))) (lc_175_85 (d := _) 300 a1 a2 a3 (0 : Int32) (ak_up (ak_up (ak_up (ak_up (ak_up y42.2.1 73 13 (0 : Int32)) 73 14 ((ak_up y42.2.1 73 13 (0 : Int32)) 79 ((5 : Int32) * a2).toNatClampNeg)) 73 15 ((ak_up (ak_up y42.2.1 73 13 (0 : Int32)) 73 14 ((ak_up y42.2.1 73 13 (0 : Int32)) 79 ((5 : Int32) * a2).toNatClampNeg)) 79 (((5 : Int32) * a2) + (1 : Int32)).toNatClampNeg)) 73 16 ((ak_up (ak_up (ak_up y42.2.1 73 13 (0 : Int32)) 73 14 ((ak_up y42.2.1 73 13 (0 : Int32)) 79 ((5 : Int32) * a2).toNatClampNeg)) 73 15 ((ak_up (ak_up y42.2.1 73 13 (0 : Int32)) 73 14 ((ak_up y42.2.1 73 13 (0 : Int32)) 79 ((5 : Int32) * a2).toNatClampNeg)) 79 (((5 : Int32) * a2) + (1 : Int32)).toNatClampNeg)) 79 (((5 : Int32) * a2) + (3 : Int32)).toNatClampNeg)) 73 17 (0 : Int32), y42.2.2) Q hky47 ?_)
        show Ev Z _ 175 135 [some (.ref 73), some (.int a1), none, none, none] [] (mm_H y47.2) Q
        refine e_aload_n hm_175 rfl rfl ?_
        refine e_aload_n hm_175 rfl rfl ?_
        refine e_getI hm_175 rfl rfl rfl ?_
        refine e_iload_n hm_175 rfl rfl ?_
        obtain ⟨y48, hky48, hf⟩ := mm_bd hf
        refine e_virt hm_175 rfl rfl rfl rfl (Nat.le_of_ble_eq_true rfl) hm_176 rfl rfl (c_176 (y47.2.1 73 4) a1 y47.2 hky48 ?_)
        show Ev Z _ 175 144 [some (.ref 73), some (.int a1), none, none, none] [.int y48.1] (mm_H y48.2) Q
        refine e_istore (L2 := [some (.ref 73), some (.int a1), none, none, some (.int y48.1)]) hm_175 rfl rfl ?_
        refine e_iload_n hm_175 rfl rfl ?_
        by_cases hc49 : a1 = (0 : Int32)
        · rw [if_pos hc49] at hf
          refine e_if_f hm_175 rfl (cf_ne hc49) ?_
          refine e_iload hm_175 rfl rfl ?_
          refine e_bipush hm_175 rfl kc_bipush_m99 ?_
          refine e_bipush hm_175 rfl kc_bipush_99 ?_
          obtain ⟨y50, hky50, hf⟩ := mm_bd hf
          refine e_stat hm_175 rfl (by decide) rfl rfl (Nat.le_of_ble_eq_true rfl) hm_192 rfl rfl (c_192 y48.1 (-99 : Int32) (99 : Int32) y48.2 hky50 ?_)
          show Ev Z _ 175 159 [some (.ref 73), some (.int a1), none, none, some (.int y48.1)] [.int y50.1] (mm_H y50.2) Q
          refine e_goto (t := 180) hm_175 rfl rfl ?_
          obtain rfl := Option.some.inj hf
          exact e_iret hm_175 rfl rfl hq
        · rw [if_neg hc49] at hf
          refine e_if_t (t := 162) hm_175 rfl (ct_ne hc49) rfl ?_
          refine e_iload_n hm_175 rfl rfl ?_
          refine e_iconst hm_175 rfl kc_iconst_1 ?_
          by_cases hc51 : a1 = (1 : Int32)
          · rw [if_pos hc51] at hf
            refine e_ic_f hm_175 rfl (cf_ne hc51) ?_
            refine e_iload hm_175 rfl rfl ?_
            refine e_iconst hm_175 rfl kc_iconst_0 ?_
            refine e_bipush hm_175 rfl kc_bipush_99 ?_
            obtain ⟨y52, hky52, hf⟩ := mm_bd hf
            refine e_stat hm_175 rfl (by decide) rfl rfl (Nat.le_of_ble_eq_true rfl) hm_192 rfl rfl (c_192 y48.1 (0 : Int32) (99 : Int32) y48.2 hky52 ?_)
            show Ev Z _ 175 175 [some (.ref 73), some (.int a1), none, none, some (.int y48.1)] [.int y52.1] (mm_H y52.2) Q
            refine e_goto (t := 180) hm_175 rfl rfl ?_
            obtain rfl := Option.some.inj hf
            exact e_iret hm_175 rfl rfl hq
          · rw [if_neg hc51] at hf
            refine e_ic_t (t := 178) hm_175 rfl (ct_ne hc51) rfl ?_
            refine e_iload hm_175 rfl rfl ?_
            obtain rfl := Option.some.inj hf
            exact e_iret hm_175 rfl rfl hq
      · rw [if_neg hc43] at hf
        refine e_if_f hm_175 rfl (cf_eq hc43) ?_
        refine e_iconst hm_175 rfl kc_iconst_1 ?_
        refine e_goto (t := 34) hm_175 rfl rfl ?_
        refine e_putI hm_175 rfl rfl rfl ?_
        refine e_aload_n hm_175 rfl rfl ?_
        refine e_aload_n hm_175 rfl rfl ?_
        refine e_getR hm_175 rfl rfl rfl rfl ?_
        refine e_iconst hm_175 rfl kc_iconst_5 ?_
        refine e_iload_n hm_175 rfl rfl ?_
        refine e_imul hm_175 rfl ?_
        obtain ⟨hi53, hf⟩ := mm_ite hf
        refine e_iald hm_175 rfl rfl hi53 ?_
        refine e_putI hm_175 rfl rfl rfl ?_
        refine e_aload_n hm_175 rfl rfl ?_
        refine e_aload_n hm_175 rfl rfl ?_
        refine e_getR hm_175 rfl rfl rfl rfl ?_
        refine e_iconst hm_175 rfl kc_iconst_5 ?_
        refine e_iload_n hm_175 rfl rfl ?_
        refine e_imul hm_175 rfl ?_
        refine e_iconst hm_175 rfl kc_iconst_1 ?_
        refine e_iadd hm_175 rfl ?_
        obtain ⟨hi54, hf⟩ := mm_ite hf
        refine e_iald hm_175 rfl rfl hi54 ?_
        refine e_putI hm_175 rfl rfl rfl ?_
        refine e_aload_n hm_175 rfl rfl ?_
        refine e_aload_n hm_175 rfl rfl ?_
        refine e_getR hm_175 rfl rfl rfl rfl ?_
        refine e_iconst hm_175 rfl kc_iconst_5 ?_
        refine e_iload_n hm_175 rfl rfl ?_
        refine e_imul hm_175 rfl ?_
        refine e_iconst hm_175 rfl kc_iconst_3 ?_
        refine e_iadd hm_175 rfl ?_
        obtain ⟨hi55, hf⟩ := mm_ite hf
        refine e_iald hm_175 rfl rfl hi55 ?_
        refine e_putI hm_175 rfl rfl rfl ?_
        refine e_aload_n hm_175 rfl rfl ?_
        refine e_iconst hm_175 rfl kc_iconst_0 ?_
        refine e_putI hm_175 rfl rfl rfl ?_
        refine e_iconst hm_175 rfl kc_iconst_0 ?_
        refine e_istore (L2 := [some (.ref 73), some (.int a1), some (.int a2), some (.int a3), some (.int (0 : Int32))]) hm_175 rfl rfl ?_
        obtain ⟨y56, hky56, hf⟩ := mm_bd hf
        refine e_forget (L' := [some (.ref 73), some (.int a1), some (.int a2), some (.int a3), some (.int (0 : Int32))]) (lf_k (lf_k (lf_k (lf_k (lf_k lf_0))))) (lc_175_85 (d := _) 300 a1 a2 a3 (0 : Int32) (ak_up (ak_up (ak_up (ak_up (ak_up y42.2.1 73 13 (1 : Int32)) 73 14 ((ak_up y42.2.1 73 13 (1 : Int32)) 79 ((5 : Int32) * a2).toNatClampNeg)) 73 15 ((ak_up (ak_up y42.2.1 73 13 (1 : Int32)) 73 14 ((ak_up y42.2.1 73 13 (1 : Int32)) 79 ((5 : Int32) * a2).toNatClampNeg)) 79 (((5 : Int32) * a2) + (1 : Int32)).toNatClampNeg)) 73 16 ((ak_up (ak_up (ak_up y42.2.1 73 13 (1 : Int32)) 73 14 ((ak_up y42.2.1 73 13 (1 : Int32)) 79 ((5 : Int32) * a2).toNatClampNeg)) 73 15 ((ak_up (ak_up y42.2.1 73 13 (1 : Int32)) 73 14 ((ak_up y42.2.1 73 13 (1 : Int32)) 79 ((5 : Int32) * a2).toNatClampNeg)) 79 (((5 : Int32) * a2) + (1 : Int32)).toNatClampNeg)) 79 (((5 : Int32) * a2) + (3 : Int32)).toNatClampNeg)) 73 17 (0 : Int32), y42.2.2) Q hky56 ?_)
        show Ev Z _ 175 135 [some (.ref 73), some (.int a1), none, none, none] [] (mm_H y56.2) Q
        refine e_aload_n hm_175 rfl rfl ?_
        refine e_aload_n hm_175 rfl rfl ?_
        refine e_getI hm_175 rfl rfl rfl ?_
        refine e_iload_n hm_175 rfl rfl ?_
        obtain ⟨y57, hky57, hf⟩ := mm_bd hf
        refine e_virt hm_175 rfl rfl rfl rfl (Nat.le_of_ble_eq_true rfl) hm_176 rfl rfl (c_176 (y56.2.1 73 4) a1 y56.2 hky57 ?_)
        show Ev Z _ 175 144 [some (.ref 73), some (.int a1), none, none, none] [.int y57.1] (mm_H y57.2) Q
        refine e_istore (L2 := [some (.ref 73), some (.int a1), none, none, some (.int y57.1)]) hm_175 rfl rfl ?_
        refine e_iload_n hm_175 rfl rfl ?_
        by_cases hc58 : a1 = (0 : Int32)
        · rw [if_pos hc58] at hf
          refine e_if_f hm_175 rfl (cf_ne hc58) ?_
          refine e_iload hm_175 rfl rfl ?_
          refine e_bipush hm_175 rfl kc_bipush_m99 ?_
          refine e_bipush hm_175 rfl kc_bipush_99 ?_
          obtain ⟨y59, hky59, hf⟩ := mm_bd hf
          refine e_stat hm_175 rfl (by decide) rfl rfl (Nat.le_of_ble_eq_true rfl) hm_192 rfl rfl (c_192 y57.1 (-99 : Int32) (99 : Int32) y57.2 hky59 ?_)
          show Ev Z _ 175 159 [some (.ref 73), some (.int a1), none, none, some (.int y57.1)] [.int y59.1] (mm_H y59.2) Q
          refine e_goto (t := 180) hm_175 rfl rfl ?_
          obtain rfl := Option.some.inj hf
          exact e_iret hm_175 rfl rfl hq
        · rw [if_neg hc58] at hf
          refine e_if_t (t := 162) hm_175 rfl (ct_ne hc58) rfl ?_
          refine e_iload_n hm_175 rfl rfl ?_
          refine e_iconst hm_175 rfl kc_iconst_1 ?_
          by_cases hc60 : a1 = (1 : Int32)
          · rw [if_pos hc60] at hf
            refine e_ic_f hm_175 rfl (cf_ne hc60) ?_
            refine e_iload hm_175 rfl rfl ?_
            refine e_iconst hm_175 rfl kc_iconst_0 ?_
            refine e_bipush hm_175 rfl kc_bipush_99 ?_
            obtain ⟨y61, hky61, hf⟩ := mm_bd hf
            refine e_stat hm_175 rfl (by decide) rfl rfl (Nat.le_of_ble_eq_true rfl) hm_192 rfl rfl (c_192 y57.1 (0 : Int32) (99 : Int32) y57.2 hky61 ?_)
            show Ev Z _ 175 175 [some (.ref 73), some (.int a1), none, none, some (.int y57.1)] [.int y61.1] (mm_H y61.2) Q
            refine e_goto (t := 180) hm_175 rfl rfl ?_
            obtain rfl := Option.some.inj hf
            exact e_iret hm_175 rfl rfl hq
          · rw [if_neg hc60] at hf
            refine e_ic_t (t := 178) hm_175 rfl (ct_ne hc60) rfl ?_
            refine e_iload hm_175 rfl rfl ?_
            obtain rfl := Option.some.inj hf
            exact e_iret hm_175 rfl rfl hq
