/-! printed: the functions of the methods, and that the small machine does them -/
def md_gladOf (a1 : Int32) (a2 : Int32) (M : mm_M) : Option (Int32 × mm_M) :=
  if ak_inb a1 4 = true then
  if ak_inb ((5 : Int32) * a1) 20 = true then
  if (M.1 78 a1.toNatClampNeg) = (5 : Int32) then
    (md_isWished a1 a2 M).bind fun y4 =>
    if y4.1 = (0 : Int32) then
      some ((0 : Int32), y4.2)
    else
      some ((5 : Int32), y4.2)
  else
    if (M.1 78 a1.toNatClampNeg) = (3 : Int32) then
      if a2 = ((M.1 79 ((5 : Int32) * a1).toNatClampNeg) - (M.1 79 ((5 : Int32) * a1).toNatClampNeg) / (8 : Int32) * (8 : Int32)) then
        some ((30 : Int32), M)
      else
        (md_asks (0 : Int32) a1 a2 M).bind fun y8 =>
        (md_isWished a1 a2 y8.2).bind fun y9 =>
        if y9.1 = (0 : Int32) then
          if (M.1 78 a1.toNatClampNeg) = (1 : Int32) then
            (md_in a2.toInt64 (3 : Int64) (5 : Int64) y9.2).bind fun y12 =>
            if y12.1 = (0 : Int32) then
              some (y8.1 / (2 : Int32), y12.2)
            else
              some ((2 : Int32) * (y8.1 / (2 : Int32)), y12.2)
          else
            if (M.1 78 a1.toNatClampNeg) = (3 : Int32) then
              (md_in a2.toInt64 (3 : Int64) (5 : Int64) y9.2).bind fun y15 =>
              if y15.1 = (0 : Int32) then
                some (y8.1 / (2 : Int32), y15.2)
              else
                some ((2 : Int32) * (y8.1 / (2 : Int32)), y15.2)
            else
              if (M.1 78 a1.toNatClampNeg) = (2 : Int32) then
                some ((y8.1 / (2 : Int32)) + (M.1 79 ((5 : Int32) * a1).toNatClampNeg), y9.2)
              else
                if (M.1 78 a1.toNatClampNeg) = (4 : Int32) then
                  some (((y8.1 / (2 : Int32)) + (M.1 79 ((5 : Int32) * a1).toNatClampNeg)) - a2, y9.2)
                else
                  some (y8.1 / (2 : Int32), y9.2)
        else
          if (M.1 78 a1.toNatClampNeg) = (1 : Int32) then
            (md_in a2.toInt64 (3 : Int64) (5 : Int64) y9.2).bind fun y20 =>
            if y20.1 = (0 : Int32) then
              some (y8.1, y20.2)
            else
              some ((2 : Int32) * y8.1, y20.2)
          else
            if (M.1 78 a1.toNatClampNeg) = (3 : Int32) then
              (md_in a2.toInt64 (3 : Int64) (5 : Int64) y9.2).bind fun y23 =>
              if y23.1 = (0 : Int32) then
                some (y8.1, y23.2)
              else
                some ((2 : Int32) * y8.1, y23.2)
            else
              if (M.1 78 a1.toNatClampNeg) = (2 : Int32) then
                some (y8.1 + (M.1 79 ((5 : Int32) * a1).toNatClampNeg), y9.2)
              else
                if (M.1 78 a1.toNatClampNeg) = (4 : Int32) then
                  some ((y8.1 + (M.1 79 ((5 : Int32) * a1).toNatClampNeg)) - a2, y9.2)
                else
                  some (y8.1, y9.2)
    else
      (md_asks (0 : Int32) a1 a2 M).bind fun y27 =>
      (md_isWished a1 a2 y27.2).bind fun y28 =>
      if y28.1 = (0 : Int32) then
        if (M.1 78 a1.toNatClampNeg) = (1 : Int32) then
          (md_in a2.toInt64 (3 : Int64) (5 : Int64) y28.2).bind fun y31 =>
          if y31.1 = (0 : Int32) then
            some (y27.1 / (2 : Int32), y31.2)
          else
            some ((2 : Int32) * (y27.1 / (2 : Int32)), y31.2)
        else
          if (M.1 78 a1.toNatClampNeg) = (3 : Int32) then
            (md_in a2.toInt64 (3 : Int64) (5 : Int64) y28.2).bind fun y34 =>
            if y34.1 = (0 : Int32) then
              some (y27.1 / (2 : Int32), y34.2)
            else
              some ((2 : Int32) * (y27.1 / (2 : Int32)), y34.2)
          else
            if (M.1 78 a1.toNatClampNeg) = (2 : Int32) then
              some ((y27.1 / (2 : Int32)) + (M.1 79 ((5 : Int32) * a1).toNatClampNeg), y28.2)
            else
              if (M.1 78 a1.toNatClampNeg) = (4 : Int32) then
                some (((y27.1 / (2 : Int32)) + (M.1 79 ((5 : Int32) * a1).toNatClampNeg)) - a2, y28.2)
              else
                some (y27.1 / (2 : Int32), y28.2)
      else
        if (M.1 78 a1.toNatClampNeg) = (1 : Int32) then
          (md_in a2.toInt64 (3 : Int64) (5 : Int64) y28.2).bind fun y39 =>
          if y39.1 = (0 : Int32) then
            some (y27.1, y39.2)
          else
            some ((2 : Int32) * y27.1, y39.2)
        else
          if (M.1 78 a1.toNatClampNeg) = (3 : Int32) then
            (md_in a2.toInt64 (3 : Int64) (5 : Int64) y28.2).bind fun y42 =>
            if y42.1 = (0 : Int32) then
              some (y27.1, y42.2)
            else
              some ((2 : Int32) * y27.1, y42.2)
          else
            if (M.1 78 a1.toNatClampNeg) = (2 : Int32) then
              some (y27.1 + (M.1 79 ((5 : Int32) * a1).toNatClampNeg), y28.2)
            else
              if (M.1 78 a1.toNatClampNeg) = (4 : Int32) then
                some ((y27.1 + (M.1 79 ((5 : Int32) * a1).toNatClampNeg)) - a2, y28.2)
              else
                some (y27.1, y28.2) else none else none
set_option maxRecDepth 20000 in
set_option maxHeartbeats 4000000 in
theorem c_173 {Z : ak_Z} {d : Nat} (a1 : Int32) (a2 : Int32) (M : mm_M) {y : Int32 × mm_M} (hf : md_gladOf a1 a2 M = some y) {Q : Option Value → ak_H → Prop} (hq : Q (some (.int y.1)) (mm_H y.2)) : Ev Z (d + 67) 173 0 [some (.ref 73), some (.int a1), some (.int a2), none, none, none, none] [] (mm_H M) Q := by
  rw [md_gladOf] at hf
  refine e_aload_n hm_173 rfl rfl ?_
  refine e_getR hm_173 rfl rfl rfl rfl ?_
  refine e_iload_n hm_173 rfl rfl ?_
  obtain ⟨hi1, hf⟩ := mm_ite hf
  refine e_iald hm_173 rfl rfl hi1 ?_
  refine e_istore_n (L2 := [some (.ref 73), some (.int a1), some (.int a2), some (.int (M.1 78 a1.toNatClampNeg)), none, none, none]) hm_173 rfl rfl ?_
  refine e_aload_n hm_173 rfl rfl ?_
  refine e_getR hm_173 rfl rfl rfl rfl ?_
  refine e_iconst hm_173 rfl kc_iconst_5 ?_
  refine e_iload_n hm_173 rfl rfl ?_
  refine e_imul hm_173 rfl ?_
  obtain ⟨hi2, hf⟩ := mm_ite hf
  refine e_iald hm_173 rfl rfl hi2 ?_
  refine e_istore (L2 := [some (.ref 73), some (.int a1), some (.int a2), some (.int (M.1 78 a1.toNatClampNeg)), some (.int (M.1 79 ((5 : Int32) * a1).toNatClampNeg)), none, none]) hm_173 rfl rfl ?_
  refine e_iload_n hm_173 rfl rfl ?_
  refine e_iconst hm_173 rfl kc_iconst_5 ?_
  by_cases hc3 : (M.1 78 a1.toNatClampNeg) = (5 : Int32)
  · rw [if_pos hc3] at hf
    refine e_ic_f hm_173 rfl (cf_ne hc3) ?_
    refine e_aload_n hm_173 rfl rfl ?_
    refine e_iload_n hm_173 rfl rfl ?_
    refine e_iload_n hm_173 rfl rfl ?_
    obtain ⟨y4, hky4, hf⟩ := mm_bd hf
    refine e_virt hm_173 rfl rfl rfl rfl (Nat.le_of_ble_eq_true rfl) hm_174 rfl rfl (c_174 a1 a2 M hky4 ?_)
    show Ev Z _ 173 28 [some (.ref 73), some (.int a1), some (.int a2), some (.int (M.1 78 a1.toNatClampNeg)), some (.int (M.1 79 ((5 : Int32) * a1).toNatClampNeg)), none, none] [.int y4.1] (mm_H y4.2) Q
    by_cases hc5 : y4.1 = (0 : Int32)
    · rw [if_pos hc5] at hf
      refine e_if_t (t := 35) hm_173 rfl (ct_eq hc5) rfl ?_
      refine e_iconst hm_173 rfl kc_iconst_0 ?_
      obtain rfl := Option.some.inj hf
      exact e_iret hm_173 rfl rfl hq
    · rw [if_neg hc5] at hf
      refine e_if_f hm_173 rfl (cf_eq hc5) ?_
      refine e_iconst hm_173 rfl kc_iconst_5 ?_
      refine e_goto (t := 36) hm_173 rfl rfl ?_
      obtain rfl := Option.some.inj hf
      exact e_iret hm_173 rfl rfl hq
  · rw [if_neg hc3] at hf
    refine e_ic_t (t := 37) hm_173 rfl (ct_ne hc3) rfl ?_
    refine e_iload_n hm_173 rfl rfl ?_
    refine e_iconst hm_173 rfl kc_iconst_3 ?_
    by_cases hc6 : (M.1 78 a1.toNatClampNeg) = (3 : Int32)
    · rw [if_pos hc6] at hf
      refine e_ic_f hm_173 rfl (cf_ne hc6) ?_
      refine e_iload_n hm_173 rfl rfl ?_
      refine e_iload hm_173 rfl rfl ?_
      refine e_bipush hm_173 rfl kc_bipush_8 ?_
      refine e_irem hm_173 rfl (by decide) ?_
      by_cases hc7 : a2 = ((M.1 79 ((5 : Int32) * a1).toNatClampNeg) - (M.1 79 ((5 : Int32) * a1).toNatClampNeg) / (8 : Int32) * (8 : Int32))
      · rw [if_pos hc7] at hf
        refine e_ic_f hm_173 rfl (cf_ne hc7) ?_
        refine e_bipush hm_173 rfl kc_bipush_30 ?_
        obtain rfl := Option.some.inj hf
        exact e_iret hm_173 rfl rfl hq
      · rw [if_neg hc7] at hf
        refine e_ic_t (t := 54) hm_173 rfl (ct_ne hc7) rfl ?_
        refine e_aload_n hm_173 rfl rfl ?_
        refine e_iconst hm_173 rfl kc_iconst_0 ?_
        refine e_iload_n hm_173 rfl rfl ?_
        refine e_iload_n hm_173 rfl rfl ?_
        obtain ⟨y8, hky8, hf⟩ := mm_bd hf
        refine e_virt hm_173 rfl rfl rfl rfl (Nat.le_of_ble_eq_true rfl) hm_175 rfl rfl (c_175 (0 : Int32) a1 a2 M hky8 ?_)
        show Ev Z _ 173 61 [some (.ref 73), some (.int a1), some (.int a2), some (.int (M.1 78 a1.toNatClampNeg)), some (.int (M.1 79 ((5 : Int32) * a1).toNatClampNeg)), none, none] [.int y8.1] (mm_H y8.2) Q
        refine e_istore (L2 := [some (.ref 73), some (.int a1), some (.int a2), some (.int (M.1 78 a1.toNatClampNeg)), some (.int (M.1 79 ((5 : Int32) * a1).toNatClampNeg)), some (.int y8.1), none]) hm_173 rfl rfl ?_
        refine e_aload_n hm_173 rfl rfl ?_
        refine e_iload_n hm_173 rfl rfl ?_
        refine e_iload_n hm_173 rfl rfl ?_
        obtain ⟨y9, hky9, hf⟩ := mm_bd hf
        refine e_virt hm_173 rfl rfl rfl rfl (Nat.le_of_ble_eq_true rfl) hm_174 rfl rfl (c_174 a1 a2 y8.2 hky9 ?_)
        show Ev Z _ 173 69 [some (.ref 73), some (.int a1), some (.int a2), some (.int (M.1 78 a1.toNatClampNeg)), some (.int (M.1 79 ((5 : Int32) * a1).toNatClampNeg)), some (.int y8.1), none] [.int y9.1] (mm_H y9.2) Q
        by_cases hc10 : y9.1 = (0 : Int32)
        · rw [if_pos hc10] at hf
          refine e_if_t (t := 77) hm_173 rfl (ct_eq hc10) rfl ?_
          refine e_iload hm_173 rfl rfl ?_
          refine e_iconst hm_173 rfl kc_iconst_2 ?_
          refine e_idiv hm_173 rfl (by decide) ?_
          refine e_istore (L2 := [some (.ref 73), some (.int a1), some (.int a2), some (.int (M.1 78 a1.toNatClampNeg)), some (.int (M.1 79 ((5 : Int32) * a1).toNatClampNeg)), some (.int y8.1), some (.int (y8.1 / (2 : Int32)))]) hm_173 rfl rfl ?_
          refine e_iload_n hm_173 rfl rfl ?_
          refine e_iconst hm_173 rfl kc_iconst_1 ?_
          by_cases hc11 : (M.1 78 a1.toNatClampNeg) = (1 : Int32)
          · rw [if_pos hc11] at hf
            refine e_ic_t (t := 93) hm_173 rfl (ct_eq hc11) rfl ?_
            refine e_iload_n hm_173 rfl rfl ?_
            refine e_i2l hm_173 rfl ?_
            refine e_ldc2 hm_173 rfl kc_ldc2_3 ?_
            refine e_ldc2 hm_173 rfl kc_ldc2_5 ?_
            obtain ⟨y12, hky12, hf⟩ := mm_bd hf
            refine e_stat hm_173 rfl (by decide) rfl rfl (Nat.le_of_ble_eq_true rfl) hm_169 rfl rfl (c_169 a2.toInt64 (3 : Int64) (5 : Int64) y9.2 hky12 ?_)
            show Ev Z _ 173 104 [some (.ref 73), some (.int a1), some (.int a2), some (.int (M.1 78 a1.toNatClampNeg)), some (.int (M.1 79 ((5 : Int32) * a1).toNatClampNeg)), some (.int y8.1), some (.int (y8.1 / (2 : Int32)))] [.int y12.1] (mm_H y12.2) Q
            by_cases hc13 : y12.1 = (0 : Int32)
            · rw [if_pos hc13] at hf
              refine e_if_t (t := 114) hm_173 rfl (ct_eq hc13) rfl ?_
              refine e_iload hm_173 rfl rfl ?_
              obtain rfl := Option.some.inj hf
              exact e_iret hm_173 rfl rfl hq
            · rw [if_neg hc13] at hf
              refine e_if_f hm_173 rfl (cf_eq hc13) ?_
              refine e_iconst hm_173 rfl kc_iconst_2 ?_
              refine e_iload hm_173 rfl rfl ?_
              refine e_imul hm_173 rfl ?_
              refine e_goto (t := 116) hm_173 rfl rfl ?_
              obtain rfl := Option.some.inj hf
              exact e_iret hm_173 rfl rfl hq
          · rw [if_neg hc11] at hf
            refine e_ic_f hm_173 rfl (cf_eq hc11) ?_
            refine e_iload_n hm_173 rfl rfl ?_
            refine e_iconst hm_173 rfl kc_iconst_3 ?_
            by_cases hc14 : (M.1 78 a1.toNatClampNeg) = (3 : Int32)
            · rw [if_pos hc14] at hf
              refine e_ic_f hm_173 rfl (cf_ne hc14) ?_
              refine e_iload_n hm_173 rfl rfl ?_
              refine e_i2l hm_173 rfl ?_
              refine e_ldc2 hm_173 rfl kc_ldc2_3 ?_
              refine e_ldc2 hm_173 rfl kc_ldc2_5 ?_
              obtain ⟨y15, hky15, hf⟩ := mm_bd hf
              refine e_stat hm_173 rfl (by decide) rfl rfl (Nat.le_of_ble_eq_true rfl) hm_169 rfl rfl (c_169 a2.toInt64 (3 : Int64) (5 : Int64) y9.2 hky15 ?_)
              show Ev Z _ 173 104 [some (.ref 73), some (.int a1), some (.int a2), some (.int (M.1 78 a1.toNatClampNeg)), some (.int (M.1 79 ((5 : Int32) * a1).toNatClampNeg)), some (.int y8.1), some (.int (y8.1 / (2 : Int32)))] [.int y15.1] (mm_H y15.2) Q
              by_cases hc16 : y15.1 = (0 : Int32)
              · rw [if_pos hc16] at hf
                refine e_if_t (t := 114) hm_173 rfl (ct_eq hc16) rfl ?_
                refine e_iload hm_173 rfl rfl ?_
                obtain rfl := Option.some.inj hf
                exact e_iret hm_173 rfl rfl hq
              · rw [if_neg hc16] at hf
                refine e_if_f hm_173 rfl (cf_eq hc16) ?_
                refine e_iconst hm_173 rfl kc_iconst_2 ?_
                refine e_iload hm_173 rfl rfl ?_
                refine e_imul hm_173 rfl ?_
                refine e_goto (t := 116) hm_173 rfl rfl ?_
                obtain rfl := Option.some.inj hf
                exact e_iret hm_173 rfl rfl hq
            · rw [if_neg hc14] at hf
              refine e_ic_t (t := 117) hm_173 rfl (ct_ne hc14) rfl ?_
              refine e_iload_n hm_173 rfl rfl ?_
              refine e_iconst hm_173 rfl kc_iconst_2 ?_
              by_cases hc17 : (M.1 78 a1.toNatClampNeg) = (2 : Int32)
              · rw [if_pos hc17] at hf
                refine e_ic_f hm_173 rfl (cf_ne hc17) ?_
                refine e_iload hm_173 rfl rfl ?_
                refine e_iload hm_173 rfl rfl ?_
                refine e_iadd hm_173 rfl ?_
                refine e_goto (t := 147) hm_173 rfl rfl ?_
                obtain rfl := Option.some.inj hf
                exact e_iret hm_173 rfl rfl hq
              · rw [if_neg hc17] at hf
                refine e_ic_t (t := 130) hm_173 rfl (ct_ne hc17) rfl ?_
                refine e_iload_n hm_173 rfl rfl ?_
                refine e_iconst hm_173 rfl kc_iconst_4 ?_
                by_cases hc18 : (M.1 78 a1.toNatClampNeg) = (4 : Int32)
                · rw [if_pos hc18] at hf
                  refine e_ic_f hm_173 rfl (cf_ne hc18) ?_
                  refine e_iload hm_173 rfl rfl ?_
                  refine e_iload hm_173 rfl rfl ?_
                  refine e_iadd hm_173 rfl ?_
                  refine e_iload_n hm_173 rfl rfl ?_
                  refine e_isub hm_173 rfl ?_
                  refine e_goto (t := 147) hm_173 rfl rfl ?_
                  obtain rfl := Option.some.inj hf
                  exact e_iret hm_173 rfl rfl hq
                · rw [if_neg hc18] at hf
                  refine e_ic_t (t := 145) hm_173 rfl (ct_ne hc18) rfl ?_
                  refine e_iload hm_173 rfl rfl ?_
                  obtain rfl := Option.some.inj hf
                  exact e_iret hm_173 rfl rfl hq
        · rw [if_neg hc10] at hf
          refine e_if_f hm_173 rfl (cf_eq hc10) ?_
          refine e_iload hm_173 rfl rfl ?_
          refine e_goto (t := 81) hm_173 rfl rfl ?_
          refine e_istore (L2 := [some (.ref 73), some (.int a1), some (.int a2), some (.int (M.1 78 a1.toNatClampNeg)), some (.int (M.1 79 ((5 : Int32) * a1).toNatClampNeg)), some (.int y8.1), some (.int y8.1)]) hm_173 rfl rfl ?_
          refine e_iload_n hm_173 rfl rfl ?_
          refine e_iconst hm_173 rfl kc_iconst_1 ?_
          by_cases hc19 : (M.1 78 a1.toNatClampNeg) = (1 : Int32)
          · rw [if_pos hc19] at hf
            refine e_ic_t (t := 93) hm_173 rfl (ct_eq hc19) rfl ?_
            refine e_iload_n hm_173 rfl rfl ?_
            refine e_i2l hm_173 rfl ?_
            refine e_ldc2 hm_173 rfl kc_ldc2_3 ?_
            refine e_ldc2 hm_173 rfl kc_ldc2_5 ?_
            obtain ⟨y20, hky20, hf⟩ := mm_bd hf
            refine e_stat hm_173 rfl (by decide) rfl rfl (Nat.le_of_ble_eq_true rfl) hm_169 rfl rfl (c_169 a2.toInt64 (3 : Int64) (5 : Int64) y9.2 hky20 ?_)
            show Ev Z _ 173 104 [some (.ref 73), some (.int a1), some (.int a2), some (.int (M.1 78 a1.toNatClampNeg)), some (.int (M.1 79 ((5 : Int32) * a1).toNatClampNeg)), some (.int y8.1), some (.int y8.1)] [.int y20.1] (mm_H y20.2) Q
            by_cases hc21 : y20.1 = (0 : Int32)
            · rw [if_pos hc21] at hf
              refine e_if_t (t := 114) hm_173 rfl (ct_eq hc21) rfl ?_
              refine e_iload hm_173 rfl rfl ?_
              obtain rfl := Option.some.inj hf
              exact e_iret hm_173 rfl rfl hq
            · rw [if_neg hc21] at hf
              refine e_if_f hm_173 rfl (cf_eq hc21) ?_
              refine e_iconst hm_173 rfl kc_iconst_2 ?_
              refine e_iload hm_173 rfl rfl ?_
              refine e_imul hm_173 rfl ?_
              refine e_goto (t := 116) hm_173 rfl rfl ?_
              obtain rfl := Option.some.inj hf
              exact e_iret hm_173 rfl rfl hq
          · rw [if_neg hc19] at hf
            refine e_ic_f hm_173 rfl (cf_eq hc19) ?_
            refine e_iload_n hm_173 rfl rfl ?_
            refine e_iconst hm_173 rfl kc_iconst_3 ?_
            by_cases hc22 : (M.1 78 a1.toNatClampNeg) = (3 : Int32)
            · rw [if_pos hc22] at hf
              refine e_ic_f hm_173 rfl (cf_ne hc22) ?_
              refine e_iload_n hm_173 rfl rfl ?_
              refine e_i2l hm_173 rfl ?_
              refine e_ldc2 hm_173 rfl kc_ldc2_3 ?_
              refine e_ldc2 hm_173 rfl kc_ldc2_5 ?_
              obtain ⟨y23, hky23, hf⟩ := mm_bd hf
              refine e_stat hm_173 rfl (by decide) rfl rfl (Nat.le_of_ble_eq_true rfl) hm_169 rfl rfl (c_169 a2.toInt64 (3 : Int64) (5 : Int64) y9.2 hky23 ?_)
              show Ev Z _ 173 104 [some (.ref 73), some (.int a1), some (.int a2), some (.int (M.1 78 a1.toNatClampNeg)), some (.int (M.1 79 ((5 : Int32) * a1).toNatClampNeg)), some (.int y8.1), some (.int y8.1)] [.int y23.1] (mm_H y23.2) Q
              by_cases hc24 : y23.1 = (0 : Int32)
              · rw [if_pos hc24] at hf
                refine e_if_t (t := 114) hm_173 rfl (ct_eq hc24) rfl ?_
                refine e_iload hm_173 rfl rfl ?_
                obtain rfl := Option.some.inj hf
                exact e_iret hm_173 rfl rfl hq
              · rw [if_neg hc24] at hf
                refine e_if_f hm_173 rfl (cf_eq hc24) ?_
                refine e_iconst hm_173 rfl kc_iconst_2 ?_
                refine e_iload hm_173 rfl rfl ?_
                refine e_imul hm_173 rfl ?_
                refine e_goto (t := 116) hm_173 rfl rfl ?_
                obtain rfl := Option.some.inj hf
                exact e_iret hm_173 rfl rfl hq
            · rw [if_neg hc22] at hf
              refine e_ic_t (t := 117) hm_173 rfl (ct_ne hc22) rfl ?_
              refine e_iload_n hm_173 rfl rfl ?_
              refine e_iconst hm_173 rfl kc_iconst_2 ?_
              by_cases hc25 : (M.1 78 a1.toNatClampNeg) = (2 : Int32)
              · rw [if_pos hc25] at hf
                refine e_ic_f hm_173 rfl (cf_ne hc25) ?_
                refine e_iload hm_173 rfl rfl ?_
                refine e_iload hm_173 rfl rfl ?_
                refine e_iadd hm_173 rfl ?_
                refine e_goto (t := 147) hm_173 rfl rfl ?_
                obtain rfl := Option.some.inj hf
                exact e_iret hm_173 rfl rfl hq
              · rw [if_neg hc25] at hf
                refine e_ic_t (t := 130) hm_173 rfl (ct_ne hc25) rfl ?_
                refine e_iload_n hm_173 rfl rfl ?_
                refine e_iconst hm_173 rfl kc_iconst_4 ?_
                by_cases hc26 : (M.1 78 a1.toNatClampNeg) = (4 : Int32)
                · rw [if_pos hc26] at hf
                  refine e_ic_f hm_173 rfl (cf_ne hc26) ?_
                  refine e_iload hm_173 rfl rfl ?_
                  refine e_iload hm_173 rfl rfl ?_
                  refine e_iadd hm_173 rfl ?_
                  refine e_iload_n hm_173 rfl rfl ?_
                  refine e_isub hm_173 rfl ?_
                  refine e_goto (t := 147) hm_173 rfl rfl ?_
                  obtain rfl := Option.some.inj hf
                  exact e_iret hm_173 rfl rfl hq
                · rw [if_neg hc26] at hf
                  refine e_ic_t (t := 145) hm_173 rfl (ct_ne hc26) rfl ?_
                  refine e_iload hm_173 rfl rfl ?_
                  obtain rfl := Option.some.inj hf
                  exact e_iret hm_173 rfl rfl hq
    · rw [if_neg hc6] at hf
      refine e_ic_t (t := 54) hm_173 rfl (ct_ne hc6) rfl ?_
      refine e_aload_n hm_173 rfl rfl ?_
      refine e_iconst hm_173 rfl kc_iconst_0 ?_
      refine e_iload_n hm_173 rfl rfl ?_
      refine e_iload_n hm_173 rfl rfl ?_
      obtain ⟨y27, hky27, hf⟩ := mm_bd hf
      refine e_virt hm_173 rfl rfl rfl rfl (Nat.le_of_ble_eq_true rfl) hm_175 rfl rfl (c_175 (0 : Int32) a1 a2 M hky27 ?_)
      show Ev Z _ 173 61 [some (.ref 73), some (.int a1), some (.int a2), some (.int (M.1 78 a1.toNatClampNeg)), some (.int (M.1 79 ((5 : Int32) * a1).toNatClampNeg)), none, none] [.int y27.1] (mm_H y27.2) Q
      refine e_istore (L2 := [some (.ref 73), some (.int a1), some (.int a2), some (.int (M.1 78 a1.toNatClampNeg)), some (.int (M.1 79 ((5 : Int32) * a1).toNatClampNeg)), some (.int y27.1), none]) hm_173 rfl rfl ?_
      refine e_aload_n hm_173 rfl rfl ?_
      refine e_iload_n hm_173 rfl rfl ?_
      refine e_iload_n hm_173 rfl rfl ?_
      obtain ⟨y28, hky28, hf⟩ := mm_bd hf
      refine e_virt hm_173 rfl rfl rfl rfl (Nat.le_of_ble_eq_true rfl) hm_174 rfl rfl (c_174 a1 a2 y27.2 hky28 ?_)
      show Ev Z _ 173 69 [some (.ref 73), some (.int a1), some (.int a2), some (.int (M.1 78 a1.toNatClampNeg)), some (.int (M.1 79 ((5 : Int32) * a1).toNatClampNeg)), some (.int y27.1), none] [.int y28.1] (mm_H y28.2) Q
      by_cases hc29 : y28.1 = (0 : Int32)
      · rw [if_pos hc29] at hf
        refine e_if_t (t := 77) hm_173 rfl (ct_eq hc29) rfl ?_
        refine e_iload hm_173 rfl rfl ?_
        refine e_iconst hm_173 rfl kc_iconst_2 ?_
        refine e_idiv hm_173 rfl (by decide) ?_
        refine e_istore (L2 := [some (.ref 73), some (.int a1), some (.int a2), some (.int (M.1 78 a1.toNatClampNeg)), some (.int (M.1 79 ((5 : Int32) * a1).toNatClampNeg)), some (.int y27.1), some (.int (y27.1 / (2 : Int32)))]) hm_173 rfl rfl ?_
        refine e_iload_n hm_173 rfl rfl ?_
        refine e_iconst hm_173 rfl kc_iconst_1 ?_
        by_cases hc30 : (M.1 78 a1.toNatClampNeg) = (1 : Int32)
        · rw [if_pos hc30] at hf
          refine e_ic_t (t := 93) hm_173 rfl (ct_eq hc30) rfl ?_
          refine e_iload_n hm_173 rfl rfl ?_
          refine e_i2l hm_173 rfl ?_
          refine e_ldc2 hm_173 rfl kc_ldc2_3 ?_
          refine e_ldc2 hm_173 rfl kc_ldc2_5 ?_
          obtain ⟨y31, hky31, hf⟩ := mm_bd hf
          refine e_stat hm_173 rfl (by decide) rfl rfl (Nat.le_of_ble_eq_true rfl) hm_169 rfl rfl (c_169 a2.toInt64 (3 : Int64) (5 : Int64) y28.2 hky31 ?_)
          show Ev Z _ 173 104 [some (.ref 73), some (.int a1), some (.int a2), some (.int (M.1 78 a1.toNatClampNeg)), some (.int (M.1 79 ((5 : Int32) * a1).toNatClampNeg)), some (.int y27.1), some (.int (y27.1 / (2 : Int32)))] [.int y31.1] (mm_H y31.2) Q
          by_cases hc32 : y31.1 = (0 : Int32)
          · rw [if_pos hc32] at hf
            refine e_if_t (t := 114) hm_173 rfl (ct_eq hc32) rfl ?_
            refine e_iload hm_173 rfl rfl ?_
            obtain rfl := Option.some.inj hf
            exact e_iret hm_173 rfl rfl hq
          · rw [if_neg hc32] at hf
            refine e_if_f hm_173 rfl (cf_eq hc32) ?_
            refine e_iconst hm_173 rfl kc_iconst_2 ?_
            refine e_iload hm_173 rfl rfl ?_
            refine e_imul hm_173 rfl ?_
            refine e_goto (t := 116) hm_173 rfl rfl ?_
            obtain rfl := Option.some.inj hf
            exact e_iret hm_173 rfl rfl hq
        · rw [if_neg hc30] at hf
          refine e_ic_f hm_173 rfl (cf_eq hc30) ?_
          refine e_iload_n hm_173 rfl rfl ?_
          refine e_iconst hm_173 rfl kc_iconst_3 ?_
          by_cases hc33 : (M.1 78 a1.toNatClampNeg) = (3 : Int32)
          · rw [if_pos hc33] at hf
            refine e_ic_f hm_173 rfl (cf_ne hc33) ?_
            refine e_iload_n hm_173 rfl rfl ?_
            refine e_i2l hm_173 rfl ?_
            refine e_ldc2 hm_173 rfl kc_ldc2_3 ?_
            refine e_ldc2 hm_173 rfl kc_ldc2_5 ?_
            obtain ⟨y34, hky34, hf⟩ := mm_bd hf
            refine e_stat hm_173 rfl (by decide) rfl rfl (Nat.le_of_ble_eq_true rfl) hm_169 rfl rfl (c_169 a2.toInt64 (3 : Int64) (5 : Int64) y28.2 hky34 ?_)
            show Ev Z _ 173 104 [some (.ref 73), some (.int a1), some (.int a2), some (.int (M.1 78 a1.toNatClampNeg)), some (.int (M.1 79 ((5 : Int32) * a1).toNatClampNeg)), some (.int y27.1), some (.int (y27.1 / (2 : Int32)))] [.int y34.1] (mm_H y34.2) Q
            by_cases hc35 : y34.1 = (0 : Int32)
            · rw [if_pos hc35] at hf
              refine e_if_t (t := 114) hm_173 rfl (ct_eq hc35) rfl ?_
              refine e_iload hm_173 rfl rfl ?_
              obtain rfl := Option.some.inj hf
              exact e_iret hm_173 rfl rfl hq
            · rw [if_neg hc35] at hf
              refine e_if_f hm_173 rfl (cf_eq hc35) ?_
              refine e_iconst hm_173 rfl kc_iconst_2 ?_
              refine e_iload hm_173 rfl rfl ?_
              refine e_imul hm_173 rfl ?_
              refine e_goto (t := 116) hm_173 rfl rfl ?_
              obtain rfl := Option.some.inj hf
              exact e_iret hm_173 rfl rfl hq
          · rw [if_neg hc33] at hf
            refine e_ic_t (t := 117) hm_173 rfl (ct_ne hc33) rfl ?_
            refine e_iload_n hm_173 rfl rfl ?_
            refine e_iconst hm_173 rfl kc_iconst_2 ?_
            by_cases hc36 : (M.1 78 a1.toNatClampNeg) = (2 : Int32)
            · rw [if_pos hc36] at hf
              refine e_ic_f hm_173 rfl (cf_ne hc36) ?_
              refine e_iload hm_173 rfl rfl ?_
              refine e_iload hm_173 rfl rfl ?_
              refine e_iadd hm_173 rfl ?_
              refine e_goto (t := 147) hm_173 rfl rfl ?_
              obtain rfl := Option.some.inj hf
              exact e_iret hm_173 rfl rfl hq
            · rw [if_neg hc36] at hf
              refine e_ic_t (t := 130) hm_173 rfl (ct_ne hc36) rfl ?_
              refine e_iload_n hm_173 rfl rfl ?_
              refine e_iconst hm_173 rfl kc_iconst_4 ?_
              by_cases hc37 : (M.1 78 a1.toNatClampNeg) = (4 : Int32)
              · rw [if_pos hc37] at hf
                refine e_ic_f hm_173 rfl (cf_ne hc37) ?_
                refine e_iload hm_173 rfl rfl ?_
                refine e_iload hm_173 rfl rfl ?_
                refine e_iadd hm_173 rfl ?_
                refine e_iload_n hm_173 rfl rfl ?_
                refine e_isub hm_173 rfl ?_
                refine e_goto (t := 147) hm_173 rfl rfl ?_
                obtain rfl := Option.some.inj hf
                exact e_iret hm_173 rfl rfl hq
              · rw [if_neg hc37] at hf
                refine e_ic_t (t := 145) hm_173 rfl (ct_ne hc37) rfl ?_
                refine e_iload hm_173 rfl rfl ?_
                obtain rfl := Option.some.inj hf
                exact e_iret hm_173 rfl rfl hq
      · rw [if_neg hc29] at hf
        refine e_if_f hm_173 rfl (cf_eq hc29) ?_
        refine e_iload hm_173 rfl rfl ?_
        refine e_goto (t := 81) hm_173 rfl rfl ?_
        refine e_istore (L2 := [some (.ref 73), some (.int a1), some (.int a2), some (.int (M.1 78 a1.toNatClampNeg)), some (.int (M.1 79 ((5 : Int32) * a1).toNatClampNeg)), some (.int y27.1), some (.int y27.1)]) hm_173 rfl rfl ?_
        refine e_iload_n hm_173 rfl rfl ?_
        refine e_iconst hm_173 rfl kc_iconst_1 ?_
        by_cases hc38 : (M.1 78 a1.toNatClampNeg) = (1 : Int32)
        · rw [if_pos hc38] at hf
          refine e_ic_t (t := 93) hm_173 rfl (ct_eq hc38) rfl ?_
          refine e_iload_n hm_173 rfl rfl ?_
          refine e_i2l hm_173 rfl ?_
          refine e_ldc2 hm_173 rfl kc_ldc2_3 ?_
          refine e_ldc2 hm_173 rfl kc_ldc2_5 ?_
          obtain ⟨y39, hky39, hf⟩ := mm_bd hf
          refine e_stat hm_173 rfl (by decide) rfl rfl (Nat.le_of_ble_eq_true rfl) hm_169 rfl rfl (c_169 a2.toInt64 (3 : Int64) (5 : Int64) y28.2 hky39 ?_)
          show Ev Z _ 173 104 [some (.ref 73), some (.int a1), some (.int a2), some (.int (M.1 78 a1.toNatClampNeg)), some (.int (M.1 79 ((5 : Int32) * a1).toNatClampNeg)), some (.int y27.1), some (.int y27.1)] [.int y39.1] (mm_H y39.2) Q
          by_cases hc40 : y39.1 = (0 : Int32)
          · rw [if_pos hc40] at hf
            refine e_if_t (t := 114) hm_173 rfl (ct_eq hc40) rfl ?_
            refine e_iload hm_173 rfl rfl ?_
            obtain rfl := Option.some.inj hf
            exact e_iret hm_173 rfl rfl hq
          · rw [if_neg hc40] at hf
            refine e_if_f hm_173 rfl (cf_eq hc40) ?_
            refine e_iconst hm_173 rfl kc_iconst_2 ?_
            refine e_iload hm_173 rfl rfl ?_
            refine e_imul hm_173 rfl ?_
            refine e_goto (t := 116) hm_173 rfl rfl ?_
            obtain rfl := Option.some.inj hf
            exact e_iret hm_173 rfl rfl hq
        · rw [if_neg hc38] at hf
          refine e_ic_f hm_173 rfl (cf_eq hc38) ?_
          refine e_iload_n hm_173 rfl rfl ?_
          refine e_iconst hm_173 rfl kc_iconst_3 ?_
          by_cases hc41 : (M.1 78 a1.toNatClampNeg) = (3 : Int32)
          · rw [if_pos hc41] at hf
            refine e_ic_f hm_173 rfl (cf_ne hc41) ?_
            refine e_iload_n hm_173 rfl rfl ?_
            refine e_i2l hm_173 rfl ?_
            refine e_ldc2 hm_173 rfl kc_ldc2_3 ?_
            refine e_ldc2 hm_173 rfl kc_ldc2_5 ?_
            obtain ⟨y42, hky42, hf⟩ := mm_bd hf
            refine e_stat hm_173 rfl (by decide) rfl rfl (Nat.le_of_ble_eq_true rfl) hm_169 rfl rfl (c_169 a2.toInt64 (3 : Int64) (5 : Int64) y28.2 hky42 ?_)
            show Ev Z _ 173 104 [some (.ref 73), some (.int a1), some (.int a2), some (.int (M.1 78 a1.toNatClampNeg)), some (.int (M.1 79 ((5 : Int32) * a1).toNatClampNeg)), some (.int y27.1), some (.int y27.1)] [.int y42.1] (mm_H y42.2) Q
            by_cases hc43 : y42.1 = (0 : Int32)
            · rw [if_pos hc43] at hf
              refine e_if_t (t := 114) hm_173 rfl (ct_eq hc43) rfl ?_
              refine e_iload hm_173 rfl rfl ?_
              obtain rfl := Option.some.inj hf
              exact e_iret hm_173 rfl rfl hq
            · rw [if_neg hc43] at hf
              refine e_if_f hm_173 rfl (cf_eq hc43) ?_
              refine e_iconst hm_173 rfl kc_iconst_2 ?_
              refine e_iload hm_173 rfl rfl ?_
              refine e_imul hm_173 rfl ?_
              refine e_goto (t := 116) hm_173 rfl rfl ?_
              obtain rfl := Option.some.inj hf
              exact e_iret hm_173 rfl rfl hq
          · rw [if_neg hc41] at hf
            refine e_ic_t (t := 117) hm_173 rfl (ct_ne hc41) rfl ?_
            refine e_iload_n hm_173 rfl rfl ?_
            refine e_iconst hm_173 rfl kc_iconst_2 ?_
            by_cases hc44 : (M.1 78 a1.toNatClampNeg) = (2 : Int32)
            · rw [if_pos hc44] at hf
              refine e_ic_f hm_173 rfl (cf_ne hc44) ?_
              refine e_iload hm_173 rfl rfl ?_
              refine e_iload hm_173 rfl rfl ?_
              refine e_iadd hm_173 rfl ?_
              refine e_goto (t := 147) hm_173 rfl rfl ?_
              obtain rfl := Option.some.inj hf
              exact e_iret hm_173 rfl rfl hq
            · rw [if_neg hc44] at hf
              refine e_ic_t (t := 130) hm_173 rfl (ct_ne hc44) rfl ?_
              refine e_iload_n hm_173 rfl rfl ?_
              refine e_iconst hm_173 rfl kc_iconst_4 ?_
              by_cases hc45 : (M.1 78 a1.toNatClampNeg) = (4 : Int32)
              · rw [if_pos hc45] at hf
                refine e_ic_f hm_173 rfl (cf_ne hc45) ?_
                refine e_iload hm_173 rfl rfl ?_
                refine e_iload hm_173 rfl rfl ?_
                refine e_iadd hm_173 rfl ?_
                refine e_iload_n hm_173 rfl rfl ?_
                refine e_isub hm_173 rfl ?_
                refine e_goto (t := 147) hm_173 rfl rfl ?_
                obtain rfl := Option.some.inj hf
                exact e_iret hm_173 rfl rfl hq
              · rw [if_neg hc45] at hf
                refine e_ic_t (t := 145) hm_173 rfl (ct_ne hc45) rfl ?_
                refine e_iload hm_173 rfl rfl ?_
                obtain rfl := Option.some.inj hf
                exact e_iret hm_173 rfl rfl hq
def md_wants (a1 : Int32) (a2 : Int32) (M : mm_M) : Option (Int32 × mm_M) :=
  if ak_inb a1 4 = true then
  if (M.1 78 a1.toNatClampNeg) = (4 : Int32) then
    some ((1 : Int32), M)
  else
    (md_asks (2 : Int32) a1 a2 M).bind fun y3 =>
    if y3.1 = (0 : Int32) then
      if (M.1 78 a1.toNatClampNeg) = (2 : Int32) then
        some ((0 : Int32), y3.2)
      else
        if (M.1 78 a1.toNatClampNeg) = (3 : Int32) then
          if ak_inb ((5 : Int32) * a1) 20 = true then
          if a2 = ((y3.2.1 79 ((5 : Int32) * a1).toNatClampNeg) - (y3.2.1 79 ((5 : Int32) * a1).toNatClampNeg) / (8 : Int32) * (8 : Int32)) then
            some ((1 : Int32), y3.2)
          else
            some ((0 : Int32), y3.2) else none
        else
          if (M.1 78 a1.toNatClampNeg) = (5 : Int32) then
            some ((0 : Int32), y3.2)
          else
            some ((0 : Int32), y3.2)
    else
      if (M.1 78 a1.toNatClampNeg) = (2 : Int32) then
        (md_in a2.toInt64 (3 : Int64) (5 : Int64) y3.2).bind fun y11 =>
        if y11.1 = (0 : Int32) then
          some ((1 : Int32), y11.2)
        else
          some ((0 : Int32), y11.2)
      else
        if (M.1 78 a1.toNatClampNeg) = (3 : Int32) then
          some ((1 : Int32), y3.2)
        else
          if (M.1 78 a1.toNatClampNeg) = (5 : Int32) then
            if (a2 - a2 / (2 : Int32) * (2 : Int32)) = (0 : Int32) then
              some ((1 : Int32), y3.2)
            else
              some ((0 : Int32), y3.2)
          else
            some ((1 : Int32), y3.2) else none
set_option maxRecDepth 20000 in
set_option maxHeartbeats 4000000 in
theorem c_193 {Z : ak_Z} {d : Nat} (a1 : Int32) (a2 : Int32) (M : mm_M) {y : Int32 × mm_M} (hf : md_wants a1 a2 M = some y) {Q : Option Value → ak_H → Prop} (hq : Q (some (.int y.1)) (mm_H y.2)) : Ev Z (d + 67) 193 0 [some (.ref 73), some (.int a1), some (.int a2), none, none] [] (mm_H M) Q := by
  rw [md_wants] at hf
  refine e_aload_n hm_193 rfl rfl ?_
  refine e_getR hm_193 rfl rfl rfl rfl ?_
  refine e_iload_n hm_193 rfl rfl ?_
  obtain ⟨hi1, hf⟩ := mm_ite hf
  refine e_iald hm_193 rfl rfl hi1 ?_
  refine e_istore_n (L2 := [some (.ref 73), some (.int a1), some (.int a2), some (.int (M.1 78 a1.toNatClampNeg)), none]) hm_193 rfl rfl ?_
  refine e_iload_n hm_193 rfl rfl ?_
  refine e_iconst hm_193 rfl kc_iconst_4 ?_
  by_cases hc2 : (M.1 78 a1.toNatClampNeg) = (4 : Int32)
  · rw [if_pos hc2] at hf
    refine e_ic_f hm_193 rfl (cf_ne hc2) ?_
    refine e_iconst hm_193 rfl kc_iconst_1 ?_
    obtain rfl := Option.some.inj hf
    exact e_zret hm_193 rfl rfl (by decide) hq
  · rw [if_neg hc2] at hf
    refine e_ic_t (t := 14) hm_193 rfl (ct_ne hc2) rfl ?_
    refine e_aload_n hm_193 rfl rfl ?_
    refine e_iconst hm_193 rfl kc_iconst_2 ?_
    refine e_iload_n hm_193 rfl rfl ?_
    refine e_iload_n hm_193 rfl rfl ?_
    obtain ⟨y3, hky3, hf⟩ := mm_bd hf
    refine e_virt hm_193 rfl rfl rfl rfl (Nat.le_of_ble_eq_true rfl) hm_175 rfl rfl (c_175 (2 : Int32) a1 a2 M hky3 ?_)
    show Ev Z _ 193 21 [some (.ref 73), some (.int a1), some (.int a2), some (.int (M.1 78 a1.toNatClampNeg)), none] [.int y3.1] (mm_H y3.2) Q
    by_cases hc4 : y3.1 = (0 : Int32)
    · rw [if_pos hc4] at hf
      refine e_if_t (t := 28) hm_193 rfl (ct_eq hc4) rfl ?_
      refine e_iconst hm_193 rfl kc_iconst_0 ?_
      refine e_istore (L2 := [some (.ref 73), some (.int a1), some (.int a2), some (.int (M.1 78 a1.toNatClampNeg)), some (.int (0 : Int32))]) hm_193 rfl rfl ?_
      refine e_iload_n hm_193 rfl rfl ?_
      refine e_iconst hm_193 rfl kc_iconst_2 ?_
      by_cases hc5 : (M.1 78 a1.toNatClampNeg) = (2 : Int32)
      · rw [if_pos hc5] at hf
        refine e_ic_f hm_193 rfl (cf_ne hc5) ?_
        refine e_iload hm_193 rfl rfl ?_
        refine e_if_t (t := 59) hm_193 rfl (by decide) rfl ?_
        refine e_iconst hm_193 rfl kc_iconst_0 ?_
        refine e_goto (t := 122) hm_193 rfl rfl ?_
        obtain rfl := Option.some.inj hf
        exact e_zret hm_193 rfl rfl (by decide) hq
      · rw [if_neg hc5] at hf
        refine e_ic_t (t := 63) hm_193 rfl (ct_ne hc5) rfl ?_
        refine e_iload_n hm_193 rfl rfl ?_
        refine e_iconst hm_193 rfl kc_iconst_3 ?_
        by_cases hc6 : (M.1 78 a1.toNatClampNeg) = (3 : Int32)
        · rw [if_pos hc6] at hf
          refine e_ic_f hm_193 rfl (cf_ne hc6) ?_
          refine e_iload hm_193 rfl rfl ?_
          refine e_if_f hm_193 rfl (by decide) ?_
          refine e_iload_n hm_193 rfl rfl ?_
          refine e_aload_n hm_193 rfl rfl ?_
          refine e_getR hm_193 rfl rfl rfl rfl ?_
          refine e_iconst hm_193 rfl kc_iconst_5 ?_
          refine e_iload_n hm_193 rfl rfl ?_
          refine e_imul hm_193 rfl ?_
          obtain ⟨hi7, hf⟩ := mm_ite hf
          refine e_iald hm_193 rfl rfl hi7 ?_
          refine e_bipush hm_193 rfl kc_bipush_8 ?_
          refine e_irem hm_193 rfl (by decide) ?_
          by_cases hc8 : a2 = ((y3.2.1 79 ((5 : Int32) * a1).toNatClampNeg) - (y3.2.1 79 ((5 : Int32) * a1).toNatClampNeg) / (8 : Int32) * (8 : Int32))
          · rw [if_pos hc8] at hf
            refine e_ic_f hm_193 rfl (cf_ne hc8) ?_
            refine e_iconst hm_193 rfl kc_iconst_1 ?_
            refine e_goto (t := 122) hm_193 rfl rfl ?_
            obtain rfl := Option.some.inj hf
            exact e_zret hm_193 rfl rfl (by decide) hq
          · rw [if_neg hc8] at hf
            refine e_ic_t (t := 92) hm_193 rfl (ct_ne hc8) rfl ?_
            refine e_iconst hm_193 rfl kc_iconst_0 ?_
            refine e_goto (t := 122) hm_193 rfl rfl ?_
            obtain rfl := Option.some.inj hf
            exact e_zret hm_193 rfl rfl (by decide) hq
        · rw [if_neg hc6] at hf
          refine e_ic_t (t := 96) hm_193 rfl (ct_ne hc6) rfl ?_
          refine e_iload_n hm_193 rfl rfl ?_
          refine e_iconst hm_193 rfl kc_iconst_5 ?_
          by_cases hc9 : (M.1 78 a1.toNatClampNeg) = (5 : Int32)
          · rw [if_pos hc9] at hf
            refine e_ic_f hm_193 rfl (cf_ne hc9) ?_
            refine e_iload hm_193 rfl rfl ?_
            refine e_if_t (t := 116) hm_193 rfl (by decide) rfl ?_
            refine e_iconst hm_193 rfl kc_iconst_0 ?_
            refine e_goto (t := 122) hm_193 rfl rfl ?_
            obtain rfl := Option.some.inj hf
            exact e_zret hm_193 rfl rfl (by decide) hq
          · rw [if_neg hc9] at hf
            refine e_ic_t (t := 120) hm_193 rfl (ct_ne hc9) rfl ?_
            refine e_iload hm_193 rfl rfl ?_
            obtain rfl := Option.some.inj hf
            exact e_zret hm_193 rfl rfl (by decide) hq
    · rw [if_neg hc4] at hf
      refine e_if_f hm_193 rfl (cf_eq hc4) ?_
      refine e_iconst hm_193 rfl kc_iconst_1 ?_
      refine e_goto (t := 29) hm_193 rfl rfl ?_
      refine e_istore (L2 := [some (.ref 73), some (.int a1), some (.int a2), some (.int (M.1 78 a1.toNatClampNeg)), some (.int (1 : Int32))]) hm_193 rfl rfl ?_
      refine e_iload_n hm_193 rfl rfl ?_
      refine e_iconst hm_193 rfl kc_iconst_2 ?_
      by_cases hc10 : (M.1 78 a1.toNatClampNeg) = (2 : Int32)
      · rw [if_pos hc10] at hf
        refine e_ic_f hm_193 rfl (cf_ne hc10) ?_
        refine e_iload hm_193 rfl rfl ?_
        refine e_if_f hm_193 rfl (by decide) ?_
        refine e_iload_n hm_193 rfl rfl ?_
        refine e_i2l hm_193 rfl ?_
        refine e_ldc2 hm_193 rfl kc_ldc2_3 ?_
        refine e_ldc2 hm_193 rfl kc_ldc2_5 ?_
        obtain ⟨y11, hky11, hf⟩ := mm_bd hf
        refine e_stat hm_193 rfl (by decide) rfl rfl (Nat.le_of_ble_eq_true rfl) hm_169 rfl rfl (c_169 a2.toInt64 (3 : Int64) (5 : Int64) y3.2 hky11 ?_)
        show Ev Z _ 193 52 [some (.ref 73), some (.int a1), some (.int a2), some (.int (M.1 78 a1.toNatClampNeg)), some (.int (1 : Int32))] [.int y11.1] (mm_H y11.2) Q
        by_cases hc12 : y11.1 = (0 : Int32)
        · rw [if_pos hc12] at hf
          refine e_if_f hm_193 rfl (cf_ne hc12) ?_
          refine e_iconst hm_193 rfl kc_iconst_1 ?_
          refine e_goto (t := 122) hm_193 rfl rfl ?_
          obtain rfl := Option.some.inj hf
          exact e_zret hm_193 rfl rfl (by decide) hq
        · rw [if_neg hc12] at hf
          refine e_if_t (t := 59) hm_193 rfl (ct_ne hc12) rfl ?_
          refine e_iconst hm_193 rfl kc_iconst_0 ?_
          refine e_goto (t := 122) hm_193 rfl rfl ?_
          obtain rfl := Option.some.inj hf
          exact e_zret hm_193 rfl rfl (by decide) hq
      · rw [if_neg hc10] at hf
        refine e_ic_t (t := 63) hm_193 rfl (ct_ne hc10) rfl ?_
        refine e_iload_n hm_193 rfl rfl ?_
        refine e_iconst hm_193 rfl kc_iconst_3 ?_
        by_cases hc13 : (M.1 78 a1.toNatClampNeg) = (3 : Int32)
        · rw [if_pos hc13] at hf
          refine e_ic_f hm_193 rfl (cf_ne hc13) ?_
          refine e_iload hm_193 rfl rfl ?_
          refine e_if_t (t := 88) hm_193 rfl (by decide) rfl ?_
          refine e_iconst hm_193 rfl kc_iconst_1 ?_
          refine e_goto (t := 122) hm_193 rfl rfl ?_
          obtain rfl := Option.some.inj hf
          exact e_zret hm_193 rfl rfl (by decide) hq
        · rw [if_neg hc13] at hf
          refine e_ic_t (t := 96) hm_193 rfl (ct_ne hc13) rfl ?_
          refine e_iload_n hm_193 rfl rfl ?_
          refine e_iconst hm_193 rfl kc_iconst_5 ?_
          by_cases hc14 : (M.1 78 a1.toNatClampNeg) = (5 : Int32)
          · rw [if_pos hc14] at hf
            refine e_ic_f hm_193 rfl (cf_ne hc14) ?_
            refine e_iload hm_193 rfl rfl ?_
            refine e_if_f hm_193 rfl (by decide) ?_
            refine e_iload_n hm_193 rfl rfl ?_
            refine e_iconst hm_193 rfl kc_iconst_2 ?_
            refine e_irem hm_193 rfl (by decide) ?_
            by_cases hc15 : (a2 - a2 / (2 : Int32) * (2 : Int32)) = (0 : Int32)
            · rw [if_pos hc15] at hf
              refine e_if_f hm_193 rfl (cf_ne hc15) ?_
              refine e_iconst hm_193 rfl kc_iconst_1 ?_
              refine e_goto (t := 122) hm_193 rfl rfl ?_
              obtain rfl := Option.some.inj hf
              exact e_zret hm_193 rfl rfl (by decide) hq
            · rw [if_neg hc15] at hf
              refine e_if_t (t := 116) hm_193 rfl (ct_ne hc15) rfl ?_
              refine e_iconst hm_193 rfl kc_iconst_0 ?_
              refine e_goto (t := 122) hm_193 rfl rfl ?_
              obtain rfl := Option.some.inj hf
              exact e_zret hm_193 rfl rfl (by decide) hq
          · rw [if_neg hc14] at hf
            refine e_ic_t (t := 120) hm_193 rfl (ct_ne hc14) rfl ?_
            refine e_iload hm_193 rfl rfl ?_
            obtain rfl := Option.some.inj hf
            exact e_zret hm_193 rfl rfl (by decide) hq
def md_weeksOf_l5 : Nat → Int32 → Int32 → Int32 → Int32 → mm_M → Option (((Int32) × mm_M))
  | 0, _, _, _, _, _ => none
  | n + 1, x1, x2, x3, x4, M =>
    if x2 = (-1 : Int32) then
      some (x3, M)
    else
      if x4 < (8 : Int32) then
        if ak_inb (((5 : Int32) * x1) + (1 : Int32)) 20 = true then
        if x4 < (x2 + (M.1 79 (((5 : Int32) * x1) + (1 : Int32)).toNatClampNeg)) then
          md_weeksOf_l5 n x1 x2 (x3 ||| ((1 : Int32) <<< (x4 &&& 31))) (x4 + (1 : Int32)) M
        else
          some (x3, M) else none
      else
        some (x3, M)
set_option maxRecDepth 20000 in
set_option maxHeartbeats 4000000 in
theorem lc_195_5 {Z : ak_Z} {d : Nat} : ∀ (n : Nat) (x1 : Int32) (x2 : Int32) (x3 : Int32) (x4 : Int32) (M : mm_M) {y : ((Int32) × mm_M)} (Q : Option Value → ak_H → Prop), md_weeksOf_l5 n x1 x2 x3 x4 M = some y → (Ev Z (d + 0) 195 47 [none, none, none, some (.int y.1), none] [] (mm_H y.2) Q) → Ev Z (d + 0) 195 5 [some (.ref 73), some (.int x1), some (.int x2), some (.int x3), some (.int x4)] [] (mm_H M) Q := by
  intro n
  induction n with
  | zero => intro x1 x2 x3 x4 M y Q hf; cases hf
  | succ n ih =>
    intro x1 x2 x3 x4 M y Q hf hq
    rw [md_weeksOf_l5] at hf
    refine e_iload_n hm_195 rfl rfl ?_
    refine e_iconst hm_195 rfl kc_iconst_m1 ?_
    by_cases hc1 : x2 = (-1 : Int32)
    · rw [if_pos hc1] at hf
      refine e_ic_t (t := 47) hm_195 rfl (ct_eq hc1) rfl ?_
      obtain rfl := Option.some.inj hf
      exact e_forget (L' := [none, none, none, some (.int x3), none]) (lf_d (lf_d (lf_d (lf_k (lf_d lf_0))))) hq
    · rw [if_neg hc1] at hf
      refine e_ic_f hm_195 rfl (cf_eq hc1) ?_
      refine e_iload hm_195 rfl rfl ?_
      refine e_bipush hm_195 rfl kc_bipush_8 ?_
      by_cases hc2 : x4 < (8 : Int32)
      · rw [if_pos hc2] at hf
        refine e_ic_f hm_195 rfl (cf_ge hc2) ?_
        refine e_iload hm_195 rfl rfl ?_
        refine e_iload_n hm_195 rfl rfl ?_
        refine e_aload_n hm_195 rfl rfl ?_
        refine e_getR hm_195 rfl rfl rfl rfl ?_
        refine e_iconst hm_195 rfl kc_iconst_5 ?_
        refine e_iload_n hm_195 rfl rfl ?_
        refine e_imul hm_195 rfl ?_
        refine e_iconst hm_195 rfl kc_iconst_1 ?_
        refine e_iadd hm_195 rfl ?_
        obtain ⟨hi3, hf⟩ := mm_ite hf
        refine e_iald hm_195 rfl rfl hi3 ?_
        refine e_iadd hm_195 rfl ?_
        by_cases hc4 : x4 < (x2 + (M.1 79 (((5 : Int32) * x1) + (1 : Int32)).toNatClampNeg))
        · rw [if_pos hc4] at hf
          refine e_ic_f hm_195 rfl (cf_ge hc4) ?_
          refine e_iload_n hm_195 rfl rfl ?_
          refine e_iconst hm_195 rfl kc_iconst_1 ?_
          refine e_iload hm_195 rfl rfl ?_
          refine e_ishl hm_195 rfl ?_
          refine e_ior hm_195 rfl ?_
          refine e_istore_n (L2 := [some (.ref 73), some (.int x1), some (.int x2), some (.int (x3 ||| ((1 : Int32) <<< (x4 &&& 31)))), some (.int x4)]) hm_195 rfl rfl ?_
          refine e_iinc (L2 := [some (.ref 73), some (.int x1), some (.int x2), some (.int (x3 ||| ((1 : Int32) <<< (x4 &&& 31)))), some (.int (x4 + (1 : Int32)))]) hm_195 rfl kc_iinc_1 rfl rfl ?_
          refine e_goto (t := 5) hm_195 rfl rfl ?_
          exact e_forget (L' := [some (.ref 73), some (.int x1), some (.int x2), some (.int (x3 ||| ((1 : Int32) <<< (x4 &&& 31)))), some (.int (x4 + (1 : Int32)))]) (lf_k (lf_k (lf_k (lf_k (lf_k lf_0))))) (ih x1 x2 (x3 ||| ((1 : Int32) <<< (x4 &&& 31))) (x4 + (1 : Int32)) M Q hf hq)
        · rw [if_neg hc4] at hf
          refine e_ic_t (t := 47) hm_195 rfl (ct_ge hc4) rfl ?_
          obtain rfl := Option.some.inj hf
          exact e_forget (L' := [none, none, none, some (.int x3), none]) (lf_d (lf_d (lf_d (lf_k (lf_d lf_0))))) hq
      · rw [if_neg hc2] at hf
        refine e_ic_t (t := 47) hm_195 rfl (ct_ge hc2) rfl ?_
        obtain rfl := Option.some.inj hf
        exact e_forget (L' := [none, none, none, some (.int x3), none]) (lf_d (lf_d (lf_d (lf_k (lf_d lf_0))))) hq
def md_weeksOf (a1 : Int32) (a2 : Int32) (M : mm_M) : Option (Int32 × mm_M) :=
  (md_weeksOf_l5 300 a1 a2 (0 : Int32) a2 M).bind fun y1 =>
  some (y1.1, y1.2)
set_option maxRecDepth 20000 in
set_option maxHeartbeats 4000000 in
theorem c_195 {Z : ak_Z} {d : Nat} (a1 : Int32) (a2 : Int32) (M : mm_M) {y : Int32 × mm_M} (hf : md_weeksOf a1 a2 M = some y) {Q : Option Value → ak_H → Prop} (hq : Q (some (.int y.1)) (mm_H y.2)) : Ev Z (d + 0) 195 0 [some (.ref 73), some (.int a1), some (.int a2), none, none] [] (mm_H M) Q := by
  rw [md_weeksOf] at hf
  refine e_iconst hm_195 rfl kc_iconst_0 ?_
  refine e_istore_n (L2 := [some (.ref 73), some (.int a1), some (.int a2), some (.int (0 : Int32)), none]) hm_195 rfl rfl ?_
  refine e_iload_n hm_195 rfl rfl ?_
  refine e_istore (L2 := [some (.ref 73), some (.int a1), some (.int a2), some (.int (0 : Int32)), some (.int a2)]) hm_195 rfl rfl ?_
  obtain ⟨y1, hky1, hf⟩ := mm_bd hf
  refine e_forget (L' := [some (.ref 73), some (.int a1), some (.int a2), some (.int (0 : Int32)), some (.int a2)]) (lf_k (lf_k (lf_k (lf_k (lf_k lf_0))))) (lc_195_5 (d := _) 300 a1 a2 (0 : Int32) a2 M Q hky1 ?_)
  show Ev Z _ 195 47 [none, none, none, some (.int y1.1), none] [] (mm_H y1.2) Q
  refine e_iload_n hm_195 rfl rfl ?_
  obtain rfl := Option.some.inj hf
  exact e_iret hm_195 rfl rfl hq
def md_hasOf_l5 : Nat → Int32 → Int32 → Int32 → Int32 → mm_M → Option (((Int32) × mm_M))
  | 0, _, _, _, _, _ => none
  | n + 1, x1, x2, x3, x4, M =>
    if x4 < (8 : Int32) then
      (md_weeksOf x1 x2 M).bind fun y2 =>
      if ((y2.1 >>> (x4 &&& 31)) &&& (1 : Int32)) = (1 : Int32) then
        (md_gladOf x1 x4 y2.2).bind fun y4 =>
        md_hasOf_l5 n x1 x2 (x3 + y4.1) (x4 + (1 : Int32)) y4.2
      else
        md_hasOf_l5 n x1 x2 (x3 + (0 : Int32)) (x4 + (1 : Int32)) y2.2
    else
      some (x3, M)
set_option maxRecDepth 20000 in
set_option maxHeartbeats 4000000 in
theorem lc_194_5 {Z : ak_Z} {d : Nat} : ∀ (n : Nat) (x1 : Int32) (x2 : Int32) (x3 : Int32) (x4 : Int32) (M : mm_M) {y : ((Int32) × mm_M)} (Q : Option Value → ak_H → Prop), md_hasOf_l5 n x1 x2 x3 x4 M = some y → (Ev Z (d + 68) 194 47 [none, none, none, some (.int y.1), none] [] (mm_H y.2) Q) → Ev Z (d + 68) 194 5 [some (.ref 73), some (.int x1), some (.int x2), some (.int x3), some (.int x4)] [] (mm_H M) Q := by
  intro n
  induction n with
  | zero => intro x1 x2 x3 x4 M y Q hf; cases hf
  | succ n ih =>
    intro x1 x2 x3 x4 M y Q hf hq
    rw [md_hasOf_l5] at hf
    refine e_iload hm_194 rfl rfl ?_
    refine e_bipush hm_194 rfl kc_bipush_8 ?_
    by_cases hc1 : x4 < (8 : Int32)
    · rw [if_pos hc1] at hf
      refine e_ic_f hm_194 rfl (cf_ge hc1) ?_
      refine e_iload_n hm_194 rfl rfl ?_
      refine e_aload_n hm_194 rfl rfl ?_
      refine e_iload_n hm_194 rfl rfl ?_
      refine e_iload_n hm_194 rfl rfl ?_
      obtain ⟨y2, hky2, hf⟩ := mm_bd hf
      refine e_virt hm_194 rfl rfl rfl rfl (Nat.le_of_ble_eq_true rfl) hm_195 rfl rfl (c_195 x1 x2 M hky2 ?_)
      show Ev Z _ 194 19 [some (.ref 73), some (.int x1), some (.int x2), some (.int x3), some (.int x4)] [.int y2.1, .int x3] (mm_H y2.2) Q
      refine e_iload hm_194 rfl rfl ?_
      refine e_ishr hm_194 rfl ?_
      refine e_iconst hm_194 rfl kc_iconst_1 ?_
      refine e_iand hm_194 rfl ?_
      refine e_iconst hm_194 rfl kc_iconst_1 ?_
      by_cases hc3 : ((y2.1 >>> (x4 &&& 31)) &&& (1 : Int32)) = (1 : Int32)
      · rw [if_pos hc3] at hf
        refine e_ic_f hm_194 rfl (cf_ne hc3) ?_
        refine e_aload_n hm_194 rfl rfl ?_
        refine e_iload_n hm_194 rfl rfl ?_
        refine e_iload hm_194 rfl rfl ?_
        obtain ⟨y4, hky4, hf⟩ := mm_bd hf
        refine e_virt hm_194 rfl rfl rfl rfl (Nat.le_of_ble_eq_true rfl) hm_173 rfl rfl (c_173 x1 x4 y2.2 hky4 ?_)
        show Ev Z _ 194 35 [some (.ref 73), some (.int x1), some (.int x2), some (.int x3), some (.int x4)] [.int y4.1, .int x3] (mm_H y4.2) Q
        refine e_goto (t := 39) hm_194 rfl rfl ?_
        refine e_iadd hm_194 rfl ?_
        refine e_istore_n (L2 := [some (.ref 73), some (.int x1), some (.int x2), some (.int (x3 + y4.1)), some (.int x4)]) hm_194 rfl rfl ?_
        refine e_iinc (L2 := [some (.ref 73), some (.int x1), some (.int x2), some (.int (x3 + y4.1)), some (.int (x4 + (1 : Int32)))]) hm_194 rfl kc_iinc_1 rfl rfl ?_
        refine e_goto (t := 5) hm_194 rfl rfl ?_
        exact e_forget (L' := [some (.ref 73), some (.int x1), some (.int x2), some (.int (x3 + y4.1)), some (.int (x4 + (1 : Int32)))]) (lf_k (lf_k (lf_k (lf_k (lf_k lf_0))))) (ih x1 x2 (x3 + y4.1) (x4 + (1 : Int32)) y4.2 Q hf hq)
      · rw [if_neg hc3] at hf
        refine e_ic_t (t := 38) hm_194 rfl (ct_ne hc3) rfl ?_
        refine e_iconst hm_194 rfl kc_iconst_0 ?_
        refine e_iadd hm_194 rfl ?_
        refine e_istore_n (L2 := [some (.ref 73), some (.int x1), some (.int x2), some (.int (x3 + (0 : Int32))), some (.int x4)]) hm_194 rfl rfl ?_
        refine e_iinc (L2 := [some (.ref 73), some (.int x1), some (.int x2), some (.int (x3 + (0 : Int32))), some (.int (x4 + (1 : Int32)))]) hm_194 rfl kc_iinc_1 rfl rfl ?_
        refine e_goto (t := 5) hm_194 rfl rfl ?_
        exact e_forget (L' := [some (.ref 73), some (.int x1), some (.int x2), some (.int (x3 + (0 : Int32))), some (.int (x4 + (1 : Int32)))]) (lf_k (lf_k (lf_k (lf_k (lf_k lf_0))))) (ih x1 x2 (x3 + (0 : Int32)) (x4 + (1 : Int32)) y2.2 Q hf hq)
    · rw [if_neg hc1] at hf
      refine e_ic_t (t := 47) hm_194 rfl (ct_ge hc1) rfl ?_
      obtain rfl := Option.some.inj hf
      exact e_forget (L' := [none, none, none, some (.int x3), none]) (lf_d (lf_d (lf_d (lf_k (lf_d lf_0))))) hq
def md_hasOf (a1 : Int32) (a2 : Int32) (M : mm_M) : Option (Int32 × mm_M) :=
  (md_hasOf_l5 300 a1 a2 (0 : Int32) (0 : Int32) M).bind fun y1 =>
  some (y1.1, y1.2)
set_option maxRecDepth 20000 in
set_option maxHeartbeats 4000000 in
theorem c_194 {Z : ak_Z} {d : Nat} (a1 : Int32) (a2 : Int32) (M : mm_M) {y : Int32 × mm_M} (hf : md_hasOf a1 a2 M = some y) {Q : Option Value → ak_H → Prop} (hq : Q (some (.int y.1)) (mm_H y.2)) : Ev Z (d + 68) 194 0 [some (.ref 73), some (.int a1), some (.int a2), none, none] [] (mm_H M) Q := by
  rw [md_hasOf] at hf
  refine e_iconst hm_194 rfl kc_iconst_0 ?_
  refine e_istore_n (L2 := [some (.ref 73), some (.int a1), some (.int a2), some (.int (0 : Int32)), none]) hm_194 rfl rfl ?_
  refine e_iconst hm_194 rfl kc_iconst_0 ?_
  refine e_istore (L2 := [some (.ref 73), some (.int a1), some (.int a2), some (.int (0 : Int32)), some (.int (0 : Int32))]) hm_194 rfl rfl ?_
  obtain ⟨y1, hky1, hf⟩ := mm_bd hf
  refine e_forget (L' := [some (.ref 73), some (.int a1), some (.int a2), some (.int (0 : Int32)), some (.int (0 : Int32))]) (lf_k (lf_k (lf_k (lf_k (lf_k lf_0))))) (lc_194_5 (d := _) 300 a1 a2 (0 : Int32) (0 : Int32) M Q hky1 ?_)
  show Ev Z _ 194 47 [none, none, none, some (.int y1.1), none] [] (mm_H y1.2) Q
  refine e_iload_n hm_194 rfl rfl ?_
  obtain rfl := Option.some.inj hf
  exact e_iret hm_194 rfl rfl hq
def md_earnsOf (a1 : Int32) (M : mm_M) : Option (Int32 × mm_M) :=
  if ak_inb a1 4 = true then
  if (M.1 78 a1.toNatClampNeg) = (4 : Int32) then
    some ((0 : Int32), M)
  else
    (md_asks (1 : Int32) a1 (-1 : Int32) M).bind fun y3 =>
    if ak_inb (((5 : Int32) * a1) + (4 : Int32)) 20 = true then
    (md_hasOf a1 (y3.2.1 79 (((5 : Int32) * a1) + (4 : Int32)).toNatClampNeg) y3.2).bind fun y5 =>
    if (M.1 78 a1.toNatClampNeg) = (2 : Int32) then
      some (y3.1 + (2 : Int32), y5.2)
    else
      if (M.1 78 a1.toNatClampNeg) = (5 : Int32) then
        some (y3.1 / (2 : Int32), y5.2)
      else
        if (M.1 78 a1.toNatClampNeg) = (0 : Int32) then
          some (y3.1, y5.2)
        else
          if y5.1 < (30 : Int32) then
            some (y3.1, y5.2)
          else
            some ((0 : Int32), y5.2) else none else none
set_option maxRecDepth 20000 in
set_option maxHeartbeats 4000000 in
theorem c_196 {Z : ak_Z} {d : Nat} (a1 : Int32) (M : mm_M) {y : Int32 × mm_M} (hf : md_earnsOf a1 M = some y) {Q : Option Value → ak_H → Prop} (hq : Q (some (.int y.1)) (mm_H y.2)) : Ev Z (d + 69) 196 0 [some (.ref 73), some (.int a1), none, none, none] [] (mm_H M) Q := by
  rw [md_earnsOf] at hf
  refine e_aload_n hm_196 rfl rfl ?_
  refine e_getR hm_196 rfl rfl rfl rfl ?_
  refine e_iload_n hm_196 rfl rfl ?_
  obtain ⟨hi1, hf⟩ := mm_ite hf
  refine e_iald hm_196 rfl rfl hi1 ?_
  refine e_istore_n (L2 := [some (.ref 73), some (.int a1), some (.int (M.1 78 a1.toNatClampNeg)), none, none]) hm_196 rfl rfl ?_
  refine e_iload_n hm_196 rfl rfl ?_
  refine e_iconst hm_196 rfl kc_iconst_4 ?_
  by_cases hc2 : (M.1 78 a1.toNatClampNeg) = (4 : Int32)
  · rw [if_pos hc2] at hf
    refine e_ic_f hm_196 rfl (cf_ne hc2) ?_
    refine e_iconst hm_196 rfl kc_iconst_0 ?_
    obtain rfl := Option.some.inj hf
    exact e_iret hm_196 rfl rfl hq
  · rw [if_neg hc2] at hf
    refine e_ic_t (t := 14) hm_196 rfl (ct_ne hc2) rfl ?_
    refine e_aload_n hm_196 rfl rfl ?_
    refine e_iconst hm_196 rfl kc_iconst_1 ?_
    refine e_iload_n hm_196 rfl rfl ?_
    refine e_iconst hm_196 rfl kc_iconst_m1 ?_
    obtain ⟨y3, hky3, hf⟩ := mm_bd hf
    refine e_virt hm_196 rfl rfl rfl rfl (Nat.le_of_ble_eq_true rfl) hm_175 rfl rfl (c_175 (1 : Int32) a1 (-1 : Int32) M hky3 ?_)
    show Ev Z _ 196 21 [some (.ref 73), some (.int a1), some (.int (M.1 78 a1.toNatClampNeg)), none, none] [.int y3.1] (mm_H y3.2) Q
    refine e_istore_n (L2 := [some (.ref 73), some (.int a1), some (.int (M.1 78 a1.toNatClampNeg)), some (.int y3.1), none]) hm_196 rfl rfl ?_
    refine e_aload_n hm_196 rfl rfl ?_
    refine e_iload_n hm_196 rfl rfl ?_
    refine e_aload_n hm_196 rfl rfl ?_
    refine e_getR hm_196 rfl rfl rfl rfl ?_
    refine e_iconst hm_196 rfl kc_iconst_5 ?_
    refine e_iload_n hm_196 rfl rfl ?_
    refine e_imul hm_196 rfl ?_
    refine e_iconst hm_196 rfl kc_iconst_4 ?_
    refine e_iadd hm_196 rfl ?_
    obtain ⟨hi4, hf⟩ := mm_ite hf
    refine e_iald hm_196 rfl rfl hi4 ?_
    obtain ⟨y5, hky5, hf⟩ := mm_bd hf
    refine e_virt hm_196 rfl rfl rfl rfl (Nat.le_of_ble_eq_true rfl) hm_194 rfl rfl (c_194 a1 (y3.2.1 79 (((5 : Int32) * a1) + (4 : Int32)).toNatClampNeg) y3.2 hky5 ?_)
    show Ev Z _ 196 37 [some (.ref 73), some (.int a1), some (.int (M.1 78 a1.toNatClampNeg)), some (.int y3.1), none] [.int y5.1] (mm_H y5.2) Q
    refine e_istore (L2 := [some (.ref 73), some (.int a1), some (.int (M.1 78 a1.toNatClampNeg)), some (.int y3.1), some (.int y5.1)]) hm_196 rfl rfl ?_
    refine e_iload_n hm_196 rfl rfl ?_
    refine e_iconst hm_196 rfl kc_iconst_2 ?_
    by_cases hc6 : (M.1 78 a1.toNatClampNeg) = (2 : Int32)
    · rw [if_pos hc6] at hf
      refine e_ic_f hm_196 rfl (cf_ne hc6) ?_
      refine e_iload_n hm_196 rfl rfl ?_
      refine e_iconst hm_196 rfl kc_iconst_2 ?_
      refine e_iadd hm_196 rfl ?_
      refine e_goto (t := 77) hm_196 rfl rfl ?_
      obtain rfl := Option.some.inj hf
      exact e_iret hm_196 rfl rfl hq
    · rw [if_neg hc6] at hf
      refine e_ic_t (t := 50) hm_196 rfl (ct_ne hc6) rfl ?_
      refine e_iload_n hm_196 rfl rfl ?_
      refine e_iconst hm_196 rfl kc_iconst_5 ?_
      by_cases hc7 : (M.1 78 a1.toNatClampNeg) = (5 : Int32)
      · rw [if_pos hc7] at hf
        refine e_ic_f hm_196 rfl (cf_ne hc7) ?_
        refine e_iload_n hm_196 rfl rfl ?_
        refine e_iconst hm_196 rfl kc_iconst_2 ?_
        refine e_idiv hm_196 rfl (by decide) ?_
        refine e_goto (t := 77) hm_196 rfl rfl ?_
        obtain rfl := Option.some.inj hf
        exact e_iret hm_196 rfl rfl hq
      · rw [if_neg hc7] at hf
        refine e_ic_t (t := 61) hm_196 rfl (ct_ne hc7) rfl ?_
        refine e_iload_n hm_196 rfl rfl ?_
        by_cases hc8 : (M.1 78 a1.toNatClampNeg) = (0 : Int32)
        · rw [if_pos hc8] at hf
          refine e_if_t (t := 76) hm_196 rfl (ct_eq hc8) rfl ?_
          refine e_iload_n hm_196 rfl rfl ?_
          obtain rfl := Option.some.inj hf
          exact e_iret hm_196 rfl rfl hq
        · rw [if_neg hc8] at hf
          refine e_if_f hm_196 rfl (cf_eq hc8) ?_
          refine e_iload hm_196 rfl rfl ?_
          refine e_bipush hm_196 rfl kc_bipush_30 ?_
          by_cases hc9 : y5.1 < (30 : Int32)
          · rw [if_pos hc9] at hf
            refine e_ic_t (t := 76) hm_196 rfl (ct_lt hc9) rfl ?_
            refine e_iload_n hm_196 rfl rfl ?_
            obtain rfl := Option.some.inj hf
            exact e_iret hm_196 rfl rfl hq
          · rw [if_neg hc9] at hf
            refine e_ic_f hm_196 rfl (cf_lt hc9) ?_
            refine e_iconst hm_196 rfl kc_iconst_0 ?_
            refine e_goto (t := 77) hm_196 rfl rfl ?_
            obtain rfl := Option.some.inj hf
            exact e_iret hm_196 rfl rfl hq
def md_told (a1 : Int32) (a2 : Int32) (M : mm_M) : Option (Int32 × mm_M) :=
  (md_in a2.toInt64 (20 : Int64) (27 : Int64) M).bind fun y1 =>
  if y1.1 = (0 : Int32) then
    (md_in a2.toInt64 (30 : Int64) (37 : Int64) y1.2).bind fun y3 =>
    if y3.1 = (0 : Int32) then
      (md_in a2.toInt64 (0 : Int64) (10 : Int64) y3.2).bind fun y5 =>
      if y5.1 = (0 : Int32) then
        some ((-1000 : Int32), y5.2)
      else
        if (2 : Int32) < a2 then
          (md_isOne a1 y5.2).bind fun y8 =>
          if y8.1 = (0 : Int32) then
            some ((-1000 : Int32), y8.2)
          else
            if a2 < (7 : Int32) then
              if a2 < (3 : Int32) then
                if ak_inb a2 3 = true then
                some (y8.2.1 77 a2.toNatClampNeg, y8.2) else none
              else
                if ak_inb ((((5 : Int32) * a1) + a2) - (3 : Int32)) 20 = true then
                some (y8.2.1 79 ((((5 : Int32) * a1) + a2) - (3 : Int32)).toNatClampNeg, y8.2) else none
            else
              if a2 = (7 : Int32) then
                if ak_inb a1 4 = true then
                some (y8.2.1 78 a1.toNatClampNeg, y8.2) else none
              else
                if a2 = (8 : Int32) then
                  if ak_inb (((5 : Int32) * a1) + (4 : Int32)) 20 = true then
                  some (y8.2.1 79 (((5 : Int32) * a1) + (4 : Int32)).toNatClampNeg, y8.2) else none
                else
                  if a2 = (9 : Int32) then
                    if ak_inb (((5 : Int32) * a1) + (4 : Int32)) 20 = true then
                    (md_hasOf a1 (y8.2.1 79 (((5 : Int32) * a1) + (4 : Int32)).toNatClampNeg) y8.2).bind fun y20 =>
                    some (y20.1, y20.2) else none
                  else
                    (md_earnsOf a1 y8.2).bind fun y21 =>
                    some (y21.1, y21.2)
        else
          if a2 < (7 : Int32) then
            if a2 < (3 : Int32) then
              if ak_inb a2 3 = true then
              some (y5.2.1 77 a2.toNatClampNeg, y5.2) else none
            else
              if ak_inb ((((5 : Int32) * a1) + a2) - (3 : Int32)) 20 = true then
              some (y5.2.1 79 ((((5 : Int32) * a1) + a2) - (3 : Int32)).toNatClampNeg, y5.2) else none
          else
            if a2 = (7 : Int32) then
              if ak_inb a1 4 = true then
              some (y5.2.1 78 a1.toNatClampNeg, y5.2) else none
            else
              if a2 = (8 : Int32) then
                if ak_inb (((5 : Int32) * a1) + (4 : Int32)) 20 = true then
                some (y5.2.1 79 (((5 : Int32) * a1) + (4 : Int32)).toNatClampNeg, y5.2) else none
              else
                if a2 = (9 : Int32) then
                  if ak_inb (((5 : Int32) * a1) + (4 : Int32)) 20 = true then
                  (md_hasOf a1 (y5.2.1 79 (((5 : Int32) * a1) + (4 : Int32)).toNatClampNeg) y5.2).bind fun y32 =>
                  some (y32.1, y32.2) else none
                else
                  (md_earnsOf a1 y5.2).bind fun y33 =>
                  some (y33.1, y33.2)
    else
      (md_in a2.toInt64 (0 : Int64) (10 : Int64) y3.2).bind fun y34 =>
      if y34.1 = (0 : Int32) then
        if (2 : Int32) < a2 then
          (md_isOne a1 y34.2).bind fun y37 =>
          if y37.1 = (0 : Int32) then
            some ((-1000 : Int32), y37.2)
          else
            if a2 < (30 : Int32) then
              (md_gladOf a1 (a2 - (20 : Int32)) y37.2).bind fun y40 =>
              some (y40.1, y40.2)
            else
              (md_wants a1 (a2 - (30 : Int32)) y37.2).bind fun y41 =>
              if y41.1 = (0 : Int32) then
                some ((0 : Int32), y41.2)
              else
                some ((1 : Int32), y41.2)
        else
          if a2 < (30 : Int32) then
            (md_gladOf a1 (a2 - (20 : Int32)) y34.2).bind fun y44 =>
            some (y44.1, y44.2)
          else
            (md_wants a1 (a2 - (30 : Int32)) y34.2).bind fun y45 =>
            if y45.1 = (0 : Int32) then
              some ((0 : Int32), y45.2)
            else
              some ((1 : Int32), y45.2)
      else
        if (2 : Int32) < a2 then
          (md_isOne a1 y34.2).bind fun y48 =>
          if y48.1 = (0 : Int32) then
            some ((-1000 : Int32), y48.2)
          else
            if a2 < (30 : Int32) then
              (md_gladOf a1 (a2 - (20 : Int32)) y48.2).bind fun y51 =>
              some (y51.1, y51.2)
            else
              (md_wants a1 (a2 - (30 : Int32)) y48.2).bind fun y52 =>
              if y52.1 = (0 : Int32) then
                some ((0 : Int32), y52.2)
              else
                some ((1 : Int32), y52.2)
        else
          if a2 < (30 : Int32) then
            (md_gladOf a1 (a2 - (20 : Int32)) y34.2).bind fun y55 =>
            some (y55.1, y55.2)
          else
            (md_wants a1 (a2 - (30 : Int32)) y34.2).bind fun y56 =>
            if y56.1 = (0 : Int32) then
              some ((0 : Int32), y56.2)
            else
              some ((1 : Int32), y56.2)
  else
    (md_in a2.toInt64 (0 : Int64) (10 : Int64) y1.2).bind fun y58 =>
    if y58.1 = (0 : Int32) then
      if (2 : Int32) < a2 then
        (md_isOne a1 y58.2).bind fun y61 =>
        if y61.1 = (0 : Int32) then
          some ((-1000 : Int32), y61.2)
        else
          if a2 < (30 : Int32) then
            (md_gladOf a1 (a2 - (20 : Int32)) y61.2).bind fun y64 =>
            some (y64.1, y64.2)
          else
            (md_wants a1 (a2 - (30 : Int32)) y61.2).bind fun y65 =>
            if y65.1 = (0 : Int32) then
              some ((0 : Int32), y65.2)
            else
              some ((1 : Int32), y65.2)
      else
        if a2 < (30 : Int32) then
          (md_gladOf a1 (a2 - (20 : Int32)) y58.2).bind fun y68 =>
          some (y68.1, y68.2)
        else
          (md_wants a1 (a2 - (30 : Int32)) y58.2).bind fun y69 =>
          if y69.1 = (0 : Int32) then
            some ((0 : Int32), y69.2)
          else
            some ((1 : Int32), y69.2)
    else
      if (2 : Int32) < a2 then
        (md_isOne a1 y58.2).bind fun y72 =>
        if y72.1 = (0 : Int32) then
          some ((-1000 : Int32), y72.2)
        else
          if a2 < (30 : Int32) then
            (md_gladOf a1 (a2 - (20 : Int32)) y72.2).bind fun y75 =>
            some (y75.1, y75.2)
          else
            (md_wants a1 (a2 - (30 : Int32)) y72.2).bind fun y76 =>
            if y76.1 = (0 : Int32) then
              some ((0 : Int32), y76.2)
            else
              some ((1 : Int32), y76.2)
      else
        if a2 < (30 : Int32) then
          (md_gladOf a1 (a2 - (20 : Int32)) y58.2).bind fun y79 =>
          some (y79.1, y79.2)
        else
          (md_wants a1 (a2 - (30 : Int32)) y58.2).bind fun y80 =>
          if y80.1 = (0 : Int32) then
            some ((0 : Int32), y80.2)
          else
            some ((1 : Int32), y80.2)
set_option maxRecDepth 20000 in
set_option maxHeartbeats 4000000 in
theorem c_172 {Z : ak_Z} {d : Nat} (a1 : Int32) (a2 : Int32) (M : mm_M) {y : Int32 × mm_M} (hf : md_told a1 a2 M = some y) {Q : Option Value → ak_H → Prop} (hq : Q (some (.int y.1)) (mm_H y.2)) : Ev Z (d + 70) 172 0 [some (.ref 73), some (.int a1), some (.int a2), none] [] (mm_H M) Q := by
  rw [md_told] at hf
  refine e_iload_n hm_172 rfl rfl ?_
  refine e_i2l hm_172 rfl ?_
  refine e_ldc2 hm_172 rfl kc_ldc2_20 ?_
  refine e_ldc2 hm_172 rfl kc_ldc2_27 ?_
  obtain ⟨y1, hky1, hf⟩ := mm_bd hf
  refine e_stat hm_172 rfl (by decide) rfl rfl (Nat.le_of_ble_eq_true rfl) hm_169 rfl rfl (c_169 a2.toInt64 (20 : Int64) (27 : Int64) M hky1 ?_)
  show Ev Z _ 172 11 [some (.ref 73), some (.int a1), some (.int a2), none] [.int y1.1] (mm_H y1.2) Q
  by_cases hc2 : y1.1 = (0 : Int32)
  · rw [if_pos hc2] at hf
    refine e_if_f hm_172 rfl (cf_ne hc2) ?_
    refine e_iload_n hm_172 rfl rfl ?_
    refine e_i2l hm_172 rfl ?_
    refine e_ldc2 hm_172 rfl kc_ldc2_30 ?_
    refine e_ldc2 hm_172 rfl kc_ldc2_37 ?_
    obtain ⟨y3, hky3, hf⟩ := mm_bd hf
    refine e_stat hm_172 rfl (by decide) rfl rfl (Nat.le_of_ble_eq_true rfl) hm_169 rfl rfl (c_169 a2.toInt64 (30 : Int64) (37 : Int64) y1.2 hky3 ?_)
    show Ev Z _ 172 25 [some (.ref 73), some (.int a1), some (.int a2), none] [.int y3.1] (mm_H y3.2) Q
    by_cases hc4 : y3.1 = (0 : Int32)
    · rw [if_pos hc4] at hf
      refine e_if_t (t := 32) hm_172 rfl (ct_eq hc4) rfl ?_
      refine e_iconst hm_172 rfl kc_iconst_0 ?_
      refine e_istore_n (L2 := [some (.ref 73), some (.int a1), some (.int a2), some (.int (0 : Int32))]) hm_172 rfl rfl ?_
      refine e_iload_n hm_172 rfl rfl ?_
      refine e_i2l hm_172 rfl ?_
      refine e_lconst hm_172 rfl rfl ?_
      refine e_ldc2 hm_172 rfl kc_ldc2_10 ?_
      obtain ⟨y5, hky5, hf⟩ := mm_bd hf
      refine e_stat hm_172 rfl (by decide) rfl rfl (Nat.le_of_ble_eq_true rfl) hm_169 rfl rfl (c_169 a2.toInt64 (0 : Int64) (10 : Int64) y3.2 hky5 ?_)
      show Ev Z _ 172 43 [some (.ref 73), some (.int a1), some (.int a2), some (.int (0 : Int32))] [.int y5.1] (mm_H y5.2) Q
      by_cases hc6 : y5.1 = (0 : Int32)
      · rw [if_pos hc6] at hf
        refine e_if_f hm_172 rfl (cf_ne hc6) ?_
        refine e_iload_n hm_172 rfl rfl ?_
        refine e_if_t (t := 63) hm_172 rfl (by decide) rfl ?_
        refine e_sipush hm_172 rfl kc_sipush_m1000 ?_
        obtain rfl := Option.some.inj hf
        exact e_iret hm_172 rfl rfl hq
      · rw [if_neg hc6] at hf
        refine e_if_t (t := 50) hm_172 rfl (ct_ne hc6) rfl ?_
        refine e_iload_n hm_172 rfl rfl ?_
        refine e_iconst hm_172 rfl kc_iconst_2 ?_
        by_cases hc7 : (2 : Int32) < a2
        · rw [if_pos hc7] at hf
          refine e_ic_f hm_172 rfl (cf_le hc7) ?_
          refine e_aload_n hm_172 rfl rfl ?_
          refine e_iload_n hm_172 rfl rfl ?_
          obtain ⟨y8, hky8, hf⟩ := mm_bd hf
          refine e_virt hm_172 rfl rfl rfl rfl (Nat.le_of_ble_eq_true rfl) hm_170 rfl rfl (c_170 a1 y5.2 hky8 ?_)
          show Ev Z _ 172 60 [some (.ref 73), some (.int a1), some (.int a2), some (.int (0 : Int32))] [.int y8.1] (mm_H y8.2) Q
          by_cases hc9 : y8.1 = (0 : Int32)
          · rw [if_pos hc9] at hf
            refine e_if_f hm_172 rfl (cf_ne hc9) ?_
            refine e_sipush hm_172 rfl kc_sipush_m1000 ?_
            obtain rfl := Option.some.inj hf
            exact e_iret hm_172 rfl rfl hq
          · rw [if_neg hc9] at hf
            refine e_if_t (t := 67) hm_172 rfl (ct_ne hc9) rfl ?_
            refine e_iload_n hm_172 rfl rfl ?_
            refine e_if_t (t := 107) hm_172 rfl (by decide) rfl ?_
            refine e_iload_n hm_172 rfl rfl ?_
            refine e_bipush hm_172 rfl kc_bipush_7 ?_
            by_cases hc10 : a2 < (7 : Int32)
            · rw [if_pos hc10] at hf
              refine e_ic_f hm_172 rfl (cf_ge hc10) ?_
              refine e_iload_n hm_172 rfl rfl ?_
              refine e_iconst hm_172 rfl kc_iconst_3 ?_
              by_cases hc11 : a2 < (3 : Int32)
              · rw [if_pos hc11] at hf
                refine e_ic_f hm_172 rfl (cf_ge hc11) ?_
                refine e_aload_n hm_172 rfl rfl ?_
                refine e_getR hm_172 rfl rfl rfl rfl ?_
                refine e_iload_n hm_172 rfl rfl ?_
                obtain ⟨hi12, hf⟩ := mm_ite hf
                refine e_iald hm_172 rfl rfl hi12 ?_
                refine e_goto (t := 139) hm_172 rfl rfl ?_
                obtain rfl := Option.some.inj hf
                exact e_iret hm_172 rfl rfl hq
              · rw [if_neg hc11] at hf
                refine e_ic_t (t := 127) hm_172 rfl (ct_ge hc11) rfl ?_
                refine e_aload_n hm_172 rfl rfl ?_
                refine e_getR hm_172 rfl rfl rfl rfl ?_
                refine e_iconst hm_172 rfl kc_iconst_5 ?_
                refine e_iload_n hm_172 rfl rfl ?_
                refine e_imul hm_172 rfl ?_
                refine e_iload_n hm_172 rfl rfl ?_
                refine e_iadd hm_172 rfl ?_
                refine e_iconst hm_172 rfl kc_iconst_3 ?_
                refine e_isub hm_172 rfl ?_
                obtain ⟨hi13, hf⟩ := mm_ite hf
                refine e_iald hm_172 rfl rfl hi13 ?_
                obtain rfl := Option.some.inj hf
                exact e_iret hm_172 rfl rfl hq
            · rw [if_neg hc10] at hf
              refine e_ic_t (t := 140) hm_172 rfl (ct_ge hc10) rfl ?_
              refine e_iload_n hm_172 rfl rfl ?_
              refine e_bipush hm_172 rfl kc_bipush_7 ?_
              by_cases hc14 : a2 = (7 : Int32)
              · rw [if_pos hc14] at hf
                refine e_ic_f hm_172 rfl (cf_ne hc14) ?_
                refine e_aload_n hm_172 rfl rfl ?_
                refine e_getR hm_172 rfl rfl rfl rfl ?_
                refine e_iload_n hm_172 rfl rfl ?_
                obtain ⟨hi15, hf⟩ := mm_ite hf
                refine e_iald hm_172 rfl rfl hi15 ?_
                refine e_goto (t := 203) hm_172 rfl rfl ?_
                obtain rfl := Option.some.inj hf
                exact e_iret hm_172 rfl rfl hq
              · rw [if_neg hc14] at hf
                refine e_ic_t (t := 155) hm_172 rfl (ct_ne hc14) rfl ?_
                refine e_iload_n hm_172 rfl rfl ?_
                refine e_bipush hm_172 rfl kc_bipush_8 ?_
                by_cases hc16 : a2 = (8 : Int32)
                · rw [if_pos hc16] at hf
                  refine e_ic_f hm_172 rfl (cf_ne hc16) ?_
                  refine e_aload_n hm_172 rfl rfl ?_
                  refine e_getR hm_172 rfl rfl rfl rfl ?_
                  refine e_iconst hm_172 rfl kc_iconst_5 ?_
                  refine e_iload_n hm_172 rfl rfl ?_
                  refine e_imul hm_172 rfl ?_
                  refine e_iconst hm_172 rfl kc_iconst_4 ?_
                  refine e_iadd hm_172 rfl ?_
                  obtain ⟨hi17, hf⟩ := mm_ite hf
                  refine e_iald hm_172 rfl rfl hi17 ?_
                  refine e_goto (t := 203) hm_172 rfl rfl ?_
                  obtain rfl := Option.some.inj hf
                  exact e_iret hm_172 rfl rfl hq
                · rw [if_neg hc16] at hf
                  refine e_ic_t (t := 174) hm_172 rfl (ct_ne hc16) rfl ?_
                  refine e_iload_n hm_172 rfl rfl ?_
                  refine e_bipush hm_172 rfl kc_bipush_9 ?_
                  by_cases hc18 : a2 = (9 : Int32)
                  · rw [if_pos hc18] at hf
                    refine e_ic_f hm_172 rfl (cf_ne hc18) ?_
                    refine e_aload_n hm_172 rfl rfl ?_
                    refine e_iload_n hm_172 rfl rfl ?_
                    refine e_aload_n hm_172 rfl rfl ?_
                    refine e_getR hm_172 rfl rfl rfl rfl ?_
                    refine e_iconst hm_172 rfl kc_iconst_5 ?_
                    refine e_iload_n hm_172 rfl rfl ?_
                    refine e_imul hm_172 rfl ?_
                    refine e_iconst hm_172 rfl kc_iconst_4 ?_
                    refine e_iadd hm_172 rfl ?_
                    obtain ⟨hi19, hf⟩ := mm_ite hf
                    refine e_iald hm_172 rfl rfl hi19 ?_
                    obtain ⟨y20, hky20, hf⟩ := mm_bd hf
                    refine e_virt hm_172 rfl rfl rfl rfl (Nat.le_of_ble_eq_true rfl) hm_194 rfl rfl (c_194 a1 (y8.2.1 79 (((5 : Int32) * a1) + (4 : Int32)).toNatClampNeg) y8.2 hky20 ?_)
                    show Ev Z _ 172 195 [some (.ref 73), some (.int a1), some (.int a2), some (.int (0 : Int32))] [.int y20.1] (mm_H y20.2) Q
                    refine e_goto (t := 203) hm_172 rfl rfl ?_
                    obtain rfl := Option.some.inj hf
                    exact e_iret hm_172 rfl rfl hq
                  · rw [if_neg hc18] at hf
                    refine e_ic_t (t := 198) hm_172 rfl (ct_ne hc18) rfl ?_
                    refine e_aload_n hm_172 rfl rfl ?_
                    refine e_iload_n hm_172 rfl rfl ?_
                    obtain ⟨y21, hky21, hf⟩ := mm_bd hf
                    refine e_virt hm_172 rfl rfl rfl rfl (Nat.le_of_ble_eq_true rfl) hm_196 rfl rfl (c_196 a1 y8.2 hky21 ?_)
                    show Ev Z _ 172 203 [some (.ref 73), some (.int a1), some (.int a2), some (.int (0 : Int32))] [.int y21.1] (mm_H y21.2) Q
                    obtain rfl := Option.some.inj hf
                    exact e_iret hm_172 rfl rfl hq
        · rw [if_neg hc7] at hf
          refine e_ic_t (t := 67) hm_172 rfl (ct_le hc7) rfl ?_
          refine e_iload_n hm_172 rfl rfl ?_
          refine e_if_t (t := 107) hm_172 rfl (by decide) rfl ?_
          refine e_iload_n hm_172 rfl rfl ?_
          refine e_bipush hm_172 rfl kc_bipush_7 ?_
          by_cases hc22 : a2 < (7 : Int32)
          · rw [if_pos hc22] at hf
            refine e_ic_f hm_172 rfl (cf_ge hc22) ?_
            refine e_iload_n hm_172 rfl rfl ?_
            refine e_iconst hm_172 rfl kc_iconst_3 ?_
            by_cases hc23 : a2 < (3 : Int32)
            · rw [if_pos hc23] at hf
              refine e_ic_f hm_172 rfl (cf_ge hc23) ?_
              refine e_aload_n hm_172 rfl rfl ?_
              refine e_getR hm_172 rfl rfl rfl rfl ?_
              refine e_iload_n hm_172 rfl rfl ?_
              obtain ⟨hi24, hf⟩ := mm_ite hf
              refine e_iald hm_172 rfl rfl hi24 ?_
              refine e_goto (t := 139) hm_172 rfl rfl ?_
              obtain rfl := Option.some.inj hf
              exact e_iret hm_172 rfl rfl hq
            · rw [if_neg hc23] at hf
              refine e_ic_t (t := 127) hm_172 rfl (ct_ge hc23) rfl ?_
              refine e_aload_n hm_172 rfl rfl ?_
              refine e_getR hm_172 rfl rfl rfl rfl ?_
              refine e_iconst hm_172 rfl kc_iconst_5 ?_
              refine e_iload_n hm_172 rfl rfl ?_
              refine e_imul hm_172 rfl ?_
              refine e_iload_n hm_172 rfl rfl ?_
              refine e_iadd hm_172 rfl ?_
              refine e_iconst hm_172 rfl kc_iconst_3 ?_
              refine e_isub hm_172 rfl ?_
              obtain ⟨hi25, hf⟩ := mm_ite hf
              refine e_iald hm_172 rfl rfl hi25 ?_
              obtain rfl := Option.some.inj hf
              exact e_iret hm_172 rfl rfl hq
          · rw [if_neg hc22] at hf
            refine e_ic_t (t := 140) hm_172 rfl (ct_ge hc22) rfl ?_
            refine e_iload_n hm_172 rfl rfl ?_
            refine e_bipush hm_172 rfl kc_bipush_7 ?_
            by_cases hc26 : a2 = (7 : Int32)
            · rw [if_pos hc26] at hf
              refine e_ic_f hm_172 rfl (cf_ne hc26) ?_
              refine e_aload_n hm_172 rfl rfl ?_
              refine e_getR hm_172 rfl rfl rfl rfl ?_
              refine e_iload_n hm_172 rfl rfl ?_
              obtain ⟨hi27, hf⟩ := mm_ite hf
              refine e_iald hm_172 rfl rfl hi27 ?_
              refine e_goto (t := 203) hm_172 rfl rfl ?_
              obtain rfl := Option.some.inj hf
              exact e_iret hm_172 rfl rfl hq
            · rw [if_neg hc26] at hf
              refine e_ic_t (t := 155) hm_172 rfl (ct_ne hc26) rfl ?_
              refine e_iload_n hm_172 rfl rfl ?_
              refine e_bipush hm_172 rfl kc_bipush_8 ?_
              by_cases hc28 : a2 = (8 : Int32)
              · rw [if_pos hc28] at hf
                refine e_ic_f hm_172 rfl (cf_ne hc28) ?_
                refine e_aload_n hm_172 rfl rfl ?_
                refine e_getR hm_172 rfl rfl rfl rfl ?_
                refine e_iconst hm_172 rfl kc_iconst_5 ?_
                refine e_iload_n hm_172 rfl rfl ?_
                refine e_imul hm_172 rfl ?_
                refine e_iconst hm_172 rfl kc_iconst_4 ?_
                refine e_iadd hm_172 rfl ?_
                obtain ⟨hi29, hf⟩ := mm_ite hf
                refine e_iald hm_172 rfl rfl hi29 ?_
                refine e_goto (t := 203) hm_172 rfl rfl ?_
                obtain rfl := Option.some.inj hf
                exact e_iret hm_172 rfl rfl hq
              · rw [if_neg hc28] at hf
                refine e_ic_t (t := 174) hm_172 rfl (ct_ne hc28) rfl ?_
                refine e_iload_n hm_172 rfl rfl ?_
                refine e_bipush hm_172 rfl kc_bipush_9 ?_
                by_cases hc30 : a2 = (9 : Int32)
                · rw [if_pos hc30] at hf
                  refine e_ic_f hm_172 rfl (cf_ne hc30) ?_
                  refine e_aload_n hm_172 rfl rfl ?_
                  refine e_iload_n hm_172 rfl rfl ?_
                  refine e_aload_n hm_172 rfl rfl ?_
                  refine e_getR hm_172 rfl rfl rfl rfl ?_
                  refine e_iconst hm_172 rfl kc_iconst_5 ?_
                  refine e_iload_n hm_172 rfl rfl ?_
                  refine e_imul hm_172 rfl ?_
                  refine e_iconst hm_172 rfl kc_iconst_4 ?_
                  refine e_iadd hm_172 rfl ?_
                  obtain ⟨hi31, hf⟩ := mm_ite hf
                  refine e_iald hm_172 rfl rfl hi31 ?_
                  obtain ⟨y32, hky32, hf⟩ := mm_bd hf
                  refine e_virt hm_172 rfl rfl rfl rfl (Nat.le_of_ble_eq_true rfl) hm_194 rfl rfl (c_194 a1 (y5.2.1 79 (((5 : Int32) * a1) + (4 : Int32)).toNatClampNeg) y5.2 hky32 ?_)
                  show Ev Z _ 172 195 [some (.ref 73), some (.int a1), some (.int a2), some (.int (0 : Int32))] [.int y32.1] (mm_H y32.2) Q
                  refine e_goto (t := 203) hm_172 rfl rfl ?_
                  obtain rfl := Option.some.inj hf
                  exact e_iret hm_172 rfl rfl hq
                · rw [if_neg hc30] at hf
                  refine e_ic_t (t := 198) hm_172 rfl (ct_ne hc30) rfl ?_
                  refine e_aload_n hm_172 rfl rfl ?_
                  refine e_iload_n hm_172 rfl rfl ?_
                  obtain ⟨y33, hky33, hf⟩ := mm_bd hf
                  refine e_virt hm_172 rfl rfl rfl rfl (Nat.le_of_ble_eq_true rfl) hm_196 rfl rfl (c_196 a1 y5.2 hky33 ?_)
                  show Ev Z _ 172 203 [some (.ref 73), some (.int a1), some (.int a2), some (.int (0 : Int32))] [.int y33.1] (mm_H y33.2) Q
                  obtain rfl := Option.some.inj hf
                  exact e_iret hm_172 rfl rfl hq
    · rw [if_neg hc4] at hf
      refine e_if_f hm_172 rfl (cf_eq hc4) ?_
      refine e_iconst hm_172 rfl kc_iconst_1 ?_
      refine e_goto (t := 33) hm_172 rfl rfl ?_
      refine e_istore_n (L2 := [some (.ref 73), some (.int a1), some (.int a2), some (.int (1 : Int32))]) hm_172 rfl rfl ?_
      refine e_iload_n hm_172 rfl rfl ?_
      refine e_i2l hm_172 rfl ?_
      refine e_lconst hm_172 rfl rfl ?_
      refine e_ldc2 hm_172 rfl kc_ldc2_10 ?_
      obtain ⟨y34, hky34, hf⟩ := mm_bd hf
      refine e_stat hm_172 rfl (by decide) rfl rfl (Nat.le_of_ble_eq_true rfl) hm_169 rfl rfl (c_169 a2.toInt64 (0 : Int64) (10 : Int64) y3.2 hky34 ?_)
      show Ev Z _ 172 43 [some (.ref 73), some (.int a1), some (.int a2), some (.int (1 : Int32))] [.int y34.1] (mm_H y34.2) Q
      by_cases hc35 : y34.1 = (0 : Int32)
      · rw [if_pos hc35] at hf
        refine e_if_f hm_172 rfl (cf_ne hc35) ?_
        refine e_iload_n hm_172 rfl rfl ?_
        refine e_if_f hm_172 rfl (by decide) ?_
        refine e_iload_n hm_172 rfl rfl ?_
        refine e_iconst hm_172 rfl kc_iconst_2 ?_
        by_cases hc36 : (2 : Int32) < a2
        · rw [if_pos hc36] at hf
          refine e_ic_f hm_172 rfl (cf_le hc36) ?_
          refine e_aload_n hm_172 rfl rfl ?_
          refine e_iload_n hm_172 rfl rfl ?_
          obtain ⟨y37, hky37, hf⟩ := mm_bd hf
          refine e_virt hm_172 rfl rfl rfl rfl (Nat.le_of_ble_eq_true rfl) hm_170 rfl rfl (c_170 a1 y34.2 hky37 ?_)
          show Ev Z _ 172 60 [some (.ref 73), some (.int a1), some (.int a2), some (.int (1 : Int32))] [.int y37.1] (mm_H y37.2) Q
          by_cases hc38 : y37.1 = (0 : Int32)
          · rw [if_pos hc38] at hf
            refine e_if_f hm_172 rfl (cf_ne hc38) ?_
            refine e_sipush hm_172 rfl kc_sipush_m1000 ?_
            obtain rfl := Option.some.inj hf
            exact e_iret hm_172 rfl rfl hq
          · rw [if_neg hc38] at hf
            refine e_if_t (t := 67) hm_172 rfl (ct_ne hc38) rfl ?_
            refine e_iload_n hm_172 rfl rfl ?_
            refine e_if_f hm_172 rfl (by decide) ?_
            refine e_iload_n hm_172 rfl rfl ?_
            refine e_bipush hm_172 rfl kc_bipush_30 ?_
            by_cases hc39 : a2 < (30 : Int32)
            · rw [if_pos hc39] at hf
              refine e_ic_f hm_172 rfl (cf_ge hc39) ?_
              refine e_aload_n hm_172 rfl rfl ?_
              refine e_iload_n hm_172 rfl rfl ?_
              refine e_iload_n hm_172 rfl rfl ?_
              refine e_bipush hm_172 rfl kc_bipush_20 ?_
              refine e_isub hm_172 rfl ?_
              obtain ⟨y40, hky40, hf⟩ := mm_bd hf
              refine e_virt hm_172 rfl rfl rfl rfl (Nat.le_of_ble_eq_true rfl) hm_173 rfl rfl (c_173 a1 (a2 - (20 : Int32)) y37.2 hky40 ?_)
              show Ev Z _ 172 86 [some (.ref 73), some (.int a1), some (.int a2), some (.int (1 : Int32))] [.int y40.1] (mm_H y40.2) Q
              refine e_goto (t := 106) hm_172 rfl rfl ?_
              obtain rfl := Option.some.inj hf
              exact e_iret hm_172 rfl rfl hq
            · rw [if_neg hc39] at hf
              refine e_ic_t (t := 89) hm_172 rfl (ct_ge hc39) rfl ?_
              refine e_aload_n hm_172 rfl rfl ?_
              refine e_iload_n hm_172 rfl rfl ?_
              refine e_iload_n hm_172 rfl rfl ?_
              refine e_bipush hm_172 rfl kc_bipush_30 ?_
              refine e_isub hm_172 rfl ?_
              obtain ⟨y41, hky41, hf⟩ := mm_bd hf
              refine e_virt hm_172 rfl rfl rfl rfl (Nat.le_of_ble_eq_true rfl) hm_193 rfl rfl (c_193 a1 (a2 - (30 : Int32)) y37.2 hky41 ?_)
              show Ev Z _ 172 98 [some (.ref 73), some (.int a1), some (.int a2), some (.int (1 : Int32))] [.int y41.1] (mm_H y41.2) Q
              by_cases hc42 : y41.1 = (0 : Int32)
              · rw [if_pos hc42] at hf
                refine e_if_t (t := 105) hm_172 rfl (ct_eq hc42) rfl ?_
                refine e_iconst hm_172 rfl kc_iconst_0 ?_
                obtain rfl := Option.some.inj hf
                exact e_iret hm_172 rfl rfl hq
              · rw [if_neg hc42] at hf
                refine e_if_f hm_172 rfl (cf_eq hc42) ?_
                refine e_iconst hm_172 rfl kc_iconst_1 ?_
                refine e_goto (t := 106) hm_172 rfl rfl ?_
                obtain rfl := Option.some.inj hf
                exact e_iret hm_172 rfl rfl hq
        · rw [if_neg hc36] at hf
          refine e_ic_t (t := 67) hm_172 rfl (ct_le hc36) rfl ?_
          refine e_iload_n hm_172 rfl rfl ?_
          refine e_if_f hm_172 rfl (by decide) ?_
          refine e_iload_n hm_172 rfl rfl ?_
          refine e_bipush hm_172 rfl kc_bipush_30 ?_
          by_cases hc43 : a2 < (30 : Int32)
          · rw [if_pos hc43] at hf
            refine e_ic_f hm_172 rfl (cf_ge hc43) ?_
            refine e_aload_n hm_172 rfl rfl ?_
            refine e_iload_n hm_172 rfl rfl ?_
            refine e_iload_n hm_172 rfl rfl ?_
            refine e_bipush hm_172 rfl kc_bipush_20 ?_
            refine e_isub hm_172 rfl ?_
            obtain ⟨y44, hky44, hf⟩ := mm_bd hf
            refine e_virt hm_172 rfl rfl rfl rfl (Nat.le_of_ble_eq_true rfl) hm_173 rfl rfl (c_173 a1 (a2 - (20 : Int32)) y34.2 hky44 ?_)
            show Ev Z _ 172 86 [some (.ref 73), some (.int a1), some (.int a2), some (.int (1 : Int32))] [.int y44.1] (mm_H y44.2) Q
            refine e_goto (t := 106) hm_172 rfl rfl ?_
            obtain rfl := Option.some.inj hf
            exact e_iret hm_172 rfl rfl hq
          · rw [if_neg hc43] at hf
            refine e_ic_t (t := 89) hm_172 rfl (ct_ge hc43) rfl ?_
            refine e_aload_n hm_172 rfl rfl ?_
            refine e_iload_n hm_172 rfl rfl ?_
            refine e_iload_n hm_172 rfl rfl ?_
            refine e_bipush hm_172 rfl kc_bipush_30 ?_
            refine e_isub hm_172 rfl ?_
            obtain ⟨y45, hky45, hf⟩ := mm_bd hf
            refine e_virt hm_172 rfl rfl rfl rfl (Nat.le_of_ble_eq_true rfl) hm_193 rfl rfl (c_193 a1 (a2 - (30 : Int32)) y34.2 hky45 ?_)
            show Ev Z _ 172 98 [some (.ref 73), some (.int a1), some (.int a2), some (.int (1 : Int32))] [.int y45.1] (mm_H y45.2) Q
            by_cases hc46 : y45.1 = (0 : Int32)
            · rw [if_pos hc46] at hf
              refine e_if_t (t := 105) hm_172 rfl (ct_eq hc46) rfl ?_
              refine e_iconst hm_172 rfl kc_iconst_0 ?_
              obtain rfl := Option.some.inj hf
              exact e_iret hm_172 rfl rfl hq
            · rw [if_neg hc46] at hf
              refine e_if_f hm_172 rfl (cf_eq hc46) ?_
              refine e_iconst hm_172 rfl kc_iconst_1 ?_
              refine e_goto (t := 106) hm_172 rfl rfl ?_
              obtain rfl := Option.some.inj hf
              exact e_iret hm_172 rfl rfl hq
      · rw [if_neg hc35] at hf
        refine e_if_t (t := 50) hm_172 rfl (ct_ne hc35) rfl ?_
        refine e_iload_n hm_172 rfl rfl ?_
        refine e_iconst hm_172 rfl kc_iconst_2 ?_
        by_cases hc47 : (2 : Int32) < a2
        · rw [if_pos hc47] at hf
          refine e_ic_f hm_172 rfl (cf_le hc47) ?_
          refine e_aload_n hm_172 rfl rfl ?_
          refine e_iload_n hm_172 rfl rfl ?_
          obtain ⟨y48, hky48, hf⟩ := mm_bd hf
          refine e_virt hm_172 rfl rfl rfl rfl (Nat.le_of_ble_eq_true rfl) hm_170 rfl rfl (c_170 a1 y34.2 hky48 ?_)
          show Ev Z _ 172 60 [some (.ref 73), some (.int a1), some (.int a2), some (.int (1 : Int32))] [.int y48.1] (mm_H y48.2) Q
          by_cases hc49 : y48.1 = (0 : Int32)
          · rw [if_pos hc49] at hf
            refine e_if_f hm_172 rfl (cf_ne hc49) ?_
            refine e_sipush hm_172 rfl kc_sipush_m1000 ?_
            obtain rfl := Option.some.inj hf
            exact e_iret hm_172 rfl rfl hq
          · rw [if_neg hc49] at hf
            refine e_if_t (t := 67) hm_172 rfl (ct_ne hc49) rfl ?_
            refine e_iload_n hm_172 rfl rfl ?_
            refine e_if_f hm_172 rfl (by decide) ?_
            refine e_iload_n hm_172 rfl rfl ?_
            refine e_bipush hm_172 rfl kc_bipush_30 ?_
            by_cases hc50 : a2 < (30 : Int32)
            · rw [if_pos hc50] at hf
              refine e_ic_f hm_172 rfl (cf_ge hc50) ?_
              refine e_aload_n hm_172 rfl rfl ?_
              refine e_iload_n hm_172 rfl rfl ?_
              refine e_iload_n hm_172 rfl rfl ?_
              refine e_bipush hm_172 rfl kc_bipush_20 ?_
              refine e_isub hm_172 rfl ?_
              obtain ⟨y51, hky51, hf⟩ := mm_bd hf
              refine e_virt hm_172 rfl rfl rfl rfl (Nat.le_of_ble_eq_true rfl) hm_173 rfl rfl (c_173 a1 (a2 - (20 : Int32)) y48.2 hky51 ?_)
              show Ev Z _ 172 86 [some (.ref 73), some (.int a1), some (.int a2), some (.int (1 : Int32))] [.int y51.1] (mm_H y51.2) Q
              refine e_goto (t := 106) hm_172 rfl rfl ?_
              obtain rfl := Option.some.inj hf
              exact e_iret hm_172 rfl rfl hq
            · rw [if_neg hc50] at hf
              refine e_ic_t (t := 89) hm_172 rfl (ct_ge hc50) rfl ?_
              refine e_aload_n hm_172 rfl rfl ?_
              refine e_iload_n hm_172 rfl rfl ?_
              refine e_iload_n hm_172 rfl rfl ?_
              refine e_bipush hm_172 rfl kc_bipush_30 ?_
              refine e_isub hm_172 rfl ?_
              obtain ⟨y52, hky52, hf⟩ := mm_bd hf
              refine e_virt hm_172 rfl rfl rfl rfl (Nat.le_of_ble_eq_true rfl) hm_193 rfl rfl (c_193 a1 (a2 - (30 : Int32)) y48.2 hky52 ?_)
              show Ev Z _ 172 98 [some (.ref 73), some (.int a1), some (.int a2), some (.int (1 : Int32))] [.int y52.1] (mm_H y52.2) Q
              by_cases hc53 : y52.1 = (0 : Int32)
              · rw [if_pos hc53] at hf
                refine e_if_t (t := 105) hm_172 rfl (ct_eq hc53) rfl ?_
                refine e_iconst hm_172 rfl kc_iconst_0 ?_
                obtain rfl := Option.some.inj hf
                exact e_iret hm_172 rfl rfl hq
              · rw [if_neg hc53] at hf
                refine e_if_f hm_172 rfl (cf_eq hc53) ?_
                refine e_iconst hm_172 rfl kc_iconst_1 ?_
                refine e_goto (t := 106) hm_172 rfl rfl ?_
                obtain rfl := Option.some.inj hf
                exact e_iret hm_172 rfl rfl hq
        · rw [if_neg hc47] at hf
          refine e_ic_t (t := 67) hm_172 rfl (ct_le hc47) rfl ?_
          refine e_iload_n hm_172 rfl rfl ?_
          refine e_if_f hm_172 rfl (by decide) ?_
          refine e_iload_n hm_172 rfl rfl ?_
          refine e_bipush hm_172 rfl kc_bipush_30 ?_
          by_cases hc54 : a2 < (30 : Int32)
          · rw [if_pos hc54] at hf
            refine e_ic_f hm_172 rfl (cf_ge hc54) ?_
            refine e_aload_n hm_172 rfl rfl ?_
            refine e_iload_n hm_172 rfl rfl ?_
            refine e_iload_n hm_172 rfl rfl ?_
            refine e_bipush hm_172 rfl kc_bipush_20 ?_
            refine e_isub hm_172 rfl ?_
            obtain ⟨y55, hky55, hf⟩ := mm_bd hf
            refine e_virt hm_172 rfl rfl rfl rfl (Nat.le_of_ble_eq_true rfl) hm_173 rfl rfl (c_173 a1 (a2 - (20 : Int32)) y34.2 hky55 ?_)
            show Ev Z _ 172 86 [some (.ref 73), some (.int a1), some (.int a2), some (.int (1 : Int32))] [.int y55.1] (mm_H y55.2) Q
            refine e_goto (t := 106) hm_172 rfl rfl ?_
            obtain rfl := Option.some.inj hf
            exact e_iret hm_172 rfl rfl hq
          · rw [if_neg hc54] at hf
            refine e_ic_t (t := 89) hm_172 rfl (ct_ge hc54) rfl ?_
            refine e_aload_n hm_172 rfl rfl ?_
            refine e_iload_n hm_172 rfl rfl ?_
            refine e_iload_n hm_172 rfl rfl ?_
            refine e_bipush hm_172 rfl kc_bipush_30 ?_
            refine e_isub hm_172 rfl ?_
            obtain ⟨y56, hky56, hf⟩ := mm_bd hf
            refine e_virt hm_172 rfl rfl rfl rfl (Nat.le_of_ble_eq_true rfl) hm_193 rfl rfl (c_193 a1 (a2 - (30 : Int32)) y34.2 hky56 ?_)
            show Ev Z _ 172 98 [some (.ref 73), some (.int a1), some (.int a2), some (.int (1 : Int32))] [.int y56.1] (mm_H y56.2) Q
            by_cases hc57 : y56.1 = (0 : Int32)
            · rw [if_pos hc57] at hf
              refine e_if_t (t := 105) hm_172 rfl (ct_eq hc57) rfl ?_
              refine e_iconst hm_172 rfl kc_iconst_0 ?_
              obtain rfl := Option.some.inj hf
              exact e_iret hm_172 rfl rfl hq
            · rw [if_neg hc57] at hf
              refine e_if_f hm_172 rfl (cf_eq hc57) ?_
              refine e_iconst hm_172 rfl kc_iconst_1 ?_
              refine e_goto (t := 106) hm_172 rfl rfl ?_
              obtain rfl := Option.some.inj hf
              exact e_iret hm_172 rfl rfl hq
  · rw [if_neg hc2] at hf
    refine e_if_t (t := 28) hm_172 rfl (ct_ne hc2) rfl ?_
    refine e_iconst hm_172 rfl kc_iconst_1 ?_
    refine e_goto (t := 33) hm_172 rfl rfl ?_
    refine e_istore_n (L2 := [some (.ref 73), some (.int a1), some (.int a2), some (.int (1 : Int32))]) hm_172 rfl rfl ?_
    refine e_iload_n hm_172 rfl rfl ?_
    refine e_i2l hm_172 rfl ?_
    refine e_lconst hm_172 rfl rfl ?_
    refine e_ldc2 hm_172 rfl kc_ldc2_10 ?_
    obtain ⟨y58, hky58, hf⟩ := mm_bd hf
    refine e_stat hm_172 rfl (by decide) rfl rfl (Nat.le_of_ble_eq_true rfl) hm_169 rfl rfl (c_169 a2.toInt64 (0 : Int64) (10 : Int64) y1.2 hky58 ?_)
    show Ev Z _ 172 43 [some (.ref 73), some (.int a1), some (.int a2), some (.int (1 : Int32))] [.int y58.1] (mm_H y58.2) Q
    by_cases hc59 : y58.1 = (0 : Int32)
    · rw [if_pos hc59] at hf
      refine e_if_f hm_172 rfl (cf_ne hc59) ?_
      refine e_iload_n hm_172 rfl rfl ?_
      refine e_if_f hm_172 rfl (by decide) ?_
      refine e_iload_n hm_172 rfl rfl ?_
      refine e_iconst hm_172 rfl kc_iconst_2 ?_
      by_cases hc60 : (2 : Int32) < a2
      · rw [if_pos hc60] at hf
        refine e_ic_f hm_172 rfl (cf_le hc60) ?_
        refine e_aload_n hm_172 rfl rfl ?_
        refine e_iload_n hm_172 rfl rfl ?_
        obtain ⟨y61, hky61, hf⟩ := mm_bd hf
        refine e_virt hm_172 rfl rfl rfl rfl (Nat.le_of_ble_eq_true rfl) hm_170 rfl rfl (c_170 a1 y58.2 hky61 ?_)
        show Ev Z _ 172 60 [some (.ref 73), some (.int a1), some (.int a2), some (.int (1 : Int32))] [.int y61.1] (mm_H y61.2) Q
        by_cases hc62 : y61.1 = (0 : Int32)
        · rw [if_pos hc62] at hf
          refine e_if_f hm_172 rfl (cf_ne hc62) ?_
          refine e_sipush hm_172 rfl kc_sipush_m1000 ?_
          obtain rfl := Option.some.inj hf
          exact e_iret hm_172 rfl rfl hq
        · rw [if_neg hc62] at hf
          refine e_if_t (t := 67) hm_172 rfl (ct_ne hc62) rfl ?_
          refine e_iload_n hm_172 rfl rfl ?_
          refine e_if_f hm_172 rfl (by decide) ?_
          refine e_iload_n hm_172 rfl rfl ?_
          refine e_bipush hm_172 rfl kc_bipush_30 ?_
          by_cases hc63 : a2 < (30 : Int32)
          · rw [if_pos hc63] at hf
            refine e_ic_f hm_172 rfl (cf_ge hc63) ?_
            refine e_aload_n hm_172 rfl rfl ?_
            refine e_iload_n hm_172 rfl rfl ?_
            refine e_iload_n hm_172 rfl rfl ?_
            refine e_bipush hm_172 rfl kc_bipush_20 ?_
            refine e_isub hm_172 rfl ?_
            obtain ⟨y64, hky64, hf⟩ := mm_bd hf
            refine e_virt hm_172 rfl rfl rfl rfl (Nat.le_of_ble_eq_true rfl) hm_173 rfl rfl (c_173 a1 (a2 - (20 : Int32)) y61.2 hky64 ?_)
            show Ev Z _ 172 86 [some (.ref 73), some (.int a1), some (.int a2), some (.int (1 : Int32))] [.int y64.1] (mm_H y64.2) Q
            refine e_goto (t := 106) hm_172 rfl rfl ?_
            obtain rfl := Option.some.inj hf
            exact e_iret hm_172 rfl rfl hq
          · rw [if_neg hc63] at hf
            refine e_ic_t (t := 89) hm_172 rfl (ct_ge hc63) rfl ?_
            refine e_aload_n hm_172 rfl rfl ?_
            refine e_iload_n hm_172 rfl rfl ?_
            refine e_iload_n hm_172 rfl rfl ?_
            refine e_bipush hm_172 rfl kc_bipush_30 ?_
            refine e_isub hm_172 rfl ?_
            obtain ⟨y65, hky65, hf⟩ := mm_bd hf
            refine e_virt hm_172 rfl rfl rfl rfl (Nat.le_of_ble_eq_true rfl) hm_193 rfl rfl (c_193 a1 (a2 - (30 : Int32)) y61.2 hky65 ?_)
            show Ev Z _ 172 98 [some (.ref 73), some (.int a1), some (.int a2), some (.int (1 : Int32))] [.int y65.1] (mm_H y65.2) Q
            by_cases hc66 : y65.1 = (0 : Int32)
            · rw [if_pos hc66] at hf
              refine e_if_t (t := 105) hm_172 rfl (ct_eq hc66) rfl ?_
              refine e_iconst hm_172 rfl kc_iconst_0 ?_
              obtain rfl := Option.some.inj hf
              exact e_iret hm_172 rfl rfl hq
            · rw [if_neg hc66] at hf
              refine e_if_f hm_172 rfl (cf_eq hc66) ?_
              refine e_iconst hm_172 rfl kc_iconst_1 ?_
              refine e_goto (t := 106) hm_172 rfl rfl ?_
              obtain rfl := Option.some.inj hf
              exact e_iret hm_172 rfl rfl hq
      · rw [if_neg hc60] at hf
        refine e_ic_t (t := 67) hm_172 rfl (ct_le hc60) rfl ?_
        refine e_iload_n hm_172 rfl rfl ?_
        refine e_if_f hm_172 rfl (by decide) ?_
        refine e_iload_n hm_172 rfl rfl ?_
        refine e_bipush hm_172 rfl kc_bipush_30 ?_
        by_cases hc67 : a2 < (30 : Int32)
        · rw [if_pos hc67] at hf
          refine e_ic_f hm_172 rfl (cf_ge hc67) ?_
          refine e_aload_n hm_172 rfl rfl ?_
          refine e_iload_n hm_172 rfl rfl ?_
          refine e_iload_n hm_172 rfl rfl ?_
          refine e_bipush hm_172 rfl kc_bipush_20 ?_
          refine e_isub hm_172 rfl ?_
          obtain ⟨y68, hky68, hf⟩ := mm_bd hf
          refine e_virt hm_172 rfl rfl rfl rfl (Nat.le_of_ble_eq_true rfl) hm_173 rfl rfl (c_173 a1 (a2 - (20 : Int32)) y58.2 hky68 ?_)
          show Ev Z _ 172 86 [some (.ref 73), some (.int a1), some (.int a2), some (.int (1 : Int32))] [.int y68.1] (mm_H y68.2) Q
          refine e_goto (t := 106) hm_172 rfl rfl ?_
          obtain rfl := Option.some.inj hf
          exact e_iret hm_172 rfl rfl hq
        · rw [if_neg hc67] at hf
          refine e_ic_t (t := 89) hm_172 rfl (ct_ge hc67) rfl ?_
          refine e_aload_n hm_172 rfl rfl ?_
          refine e_iload_n hm_172 rfl rfl ?_
          refine e_iload_n hm_172 rfl rfl ?_
          refine e_bipush hm_172 rfl kc_bipush_30 ?_
          refine e_isub hm_172 rfl ?_
          obtain ⟨y69, hky69, hf⟩ := mm_bd hf
          refine e_virt hm_172 rfl rfl rfl rfl (Nat.le_of_ble_eq_true rfl) hm_193 rfl rfl (c_193 a1 (a2 - (30 : Int32)) y58.2 hky69 ?_)
          show Ev Z _ 172 98 [some (.ref 73), some (.int a1), some (.int a2), some (.int (1 : Int32))] [.int y69.1] (mm_H y69.2) Q
          by_cases hc70 : y69.1 = (0 : Int32)
          · rw [if_pos hc70] at hf
            refine e_if_t (t := 105) hm_172 rfl (ct_eq hc70) rfl ?_
            refine e_iconst hm_172 rfl kc_iconst_0 ?_
            obtain rfl := Option.some.inj hf
            exact e_iret hm_172 rfl rfl hq
          · rw [if_neg hc70] at hf
            refine e_if_f hm_172 rfl (cf_eq hc70) ?_
            refine e_iconst hm_172 rfl kc_iconst_1 ?_
            refine e_goto (t := 106) hm_172 rfl rfl ?_
            obtain rfl := Option.some.inj hf
            exact e_iret hm_172 rfl rfl hq
    · rw [if_neg hc59] at hf
      refine e_if_t (t := 50) hm_172 rfl (ct_ne hc59) rfl ?_
      refine e_iload_n hm_172 rfl rfl ?_
      refine e_iconst hm_172 rfl kc_iconst_2 ?_
      by_cases hc71 : (2 : Int32) < a2
      · rw [if_pos hc71] at hf
        refine e_ic_f hm_172 rfl (cf_le hc71) ?_
        refine e_aload_n hm_172 rfl rfl ?_
        refine e_iload_n hm_172 rfl rfl ?_
        obtain ⟨y72, hky72, hf⟩ := mm_bd hf
        refine e_virt hm_172 rfl rfl rfl rfl (Nat.le_of_ble_eq_true rfl) hm_170 rfl rfl (c_170 a1 y58.2 hky72 ?_)
        show Ev Z _ 172 60 [some (.ref 73), some (.int a1), some (.int a2), some (.int (1 : Int32))] [.int y72.1] (mm_H y72.2) Q
        by_cases hc73 : y72.1 = (0 : Int32)
        · rw [if_pos hc73] at hf
          refine e_if_f hm_172 rfl (cf_ne hc73) ?_
          refine e_sipush hm_172 rfl kc_sipush_m1000 ?_
          obtain rfl := Option.some.inj hf
          exact e_iret hm_172 rfl rfl hq
        · rw [if_neg hc73] at hf
          refine e_if_t (t := 67) hm_172 rfl (ct_ne hc73) rfl ?_
          refine e_iload_n hm_172 rfl rfl ?_
          refine e_if_f hm_172 rfl (by decide) ?_
          refine e_iload_n hm_172 rfl rfl ?_
          refine e_bipush hm_172 rfl kc_bipush_30 ?_
          by_cases hc74 : a2 < (30 : Int32)
          · rw [if_pos hc74] at hf
            refine e_ic_f hm_172 rfl (cf_ge hc74) ?_
            refine e_aload_n hm_172 rfl rfl ?_
            refine e_iload_n hm_172 rfl rfl ?_
            refine e_iload_n hm_172 rfl rfl ?_
            refine e_bipush hm_172 rfl kc_bipush_20 ?_
            refine e_isub hm_172 rfl ?_
            obtain ⟨y75, hky75, hf⟩ := mm_bd hf
            refine e_virt hm_172 rfl rfl rfl rfl (Nat.le_of_ble_eq_true rfl) hm_173 rfl rfl (c_173 a1 (a2 - (20 : Int32)) y72.2 hky75 ?_)
            show Ev Z _ 172 86 [some (.ref 73), some (.int a1), some (.int a2), some (.int (1 : Int32))] [.int y75.1] (mm_H y75.2) Q
            refine e_goto (t := 106) hm_172 rfl rfl ?_
            obtain rfl := Option.some.inj hf
            exact e_iret hm_172 rfl rfl hq
          · rw [if_neg hc74] at hf
            refine e_ic_t (t := 89) hm_172 rfl (ct_ge hc74) rfl ?_
            refine e_aload_n hm_172 rfl rfl ?_
            refine e_iload_n hm_172 rfl rfl ?_
            refine e_iload_n hm_172 rfl rfl ?_
            refine e_bipush hm_172 rfl kc_bipush_30 ?_
            refine e_isub hm_172 rfl ?_
            obtain ⟨y76, hky76, hf⟩ := mm_bd hf
            refine e_virt hm_172 rfl rfl rfl rfl (Nat.le_of_ble_eq_true rfl) hm_193 rfl rfl (c_193 a1 (a2 - (30 : Int32)) y72.2 hky76 ?_)
            show Ev Z _ 172 98 [some (.ref 73), some (.int a1), some (.int a2), some (.int (1 : Int32))] [.int y76.1] (mm_H y76.2) Q
            by_cases hc77 : y76.1 = (0 : Int32)
            · rw [if_pos hc77] at hf
              refine e_if_t (t := 105) hm_172 rfl (ct_eq hc77) rfl ?_
              refine e_iconst hm_172 rfl kc_iconst_0 ?_
              obtain rfl := Option.some.inj hf
              exact e_iret hm_172 rfl rfl hq
            · rw [if_neg hc77] at hf
              refine e_if_f hm_172 rfl (cf_eq hc77) ?_
              refine e_iconst hm_172 rfl kc_iconst_1 ?_
              refine e_goto (t := 106) hm_172 rfl rfl ?_
              obtain rfl := Option.some.inj hf
              exact e_iret hm_172 rfl rfl hq
      · rw [if_neg hc71] at hf
        refine e_ic_t (t := 67) hm_172 rfl (ct_le hc71) rfl ?_
        refine e_iload_n hm_172 rfl rfl ?_
        refine e_if_f hm_172 rfl (by decide) ?_
        refine e_iload_n hm_172 rfl rfl ?_
        refine e_bipush hm_172 rfl kc_bipush_30 ?_
        by_cases hc78 : a2 < (30 : Int32)
        · rw [if_pos hc78] at hf
          refine e_ic_f hm_172 rfl (cf_ge hc78) ?_
          refine e_aload_n hm_172 rfl rfl ?_
          refine e_iload_n hm_172 rfl rfl ?_
          refine e_iload_n hm_172 rfl rfl ?_
          refine e_bipush hm_172 rfl kc_bipush_20 ?_
          refine e_isub hm_172 rfl ?_
          obtain ⟨y79, hky79, hf⟩ := mm_bd hf
          refine e_virt hm_172 rfl rfl rfl rfl (Nat.le_of_ble_eq_true rfl) hm_173 rfl rfl (c_173 a1 (a2 - (20 : Int32)) y58.2 hky79 ?_)
          show Ev Z _ 172 86 [some (.ref 73), some (.int a1), some (.int a2), some (.int (1 : Int32))] [.int y79.1] (mm_H y79.2) Q
          refine e_goto (t := 106) hm_172 rfl rfl ?_
          obtain rfl := Option.some.inj hf
          exact e_iret hm_172 rfl rfl hq
        · rw [if_neg hc78] at hf
          refine e_ic_t (t := 89) hm_172 rfl (ct_ge hc78) rfl ?_
          refine e_aload_n hm_172 rfl rfl ?_
          refine e_iload_n hm_172 rfl rfl ?_
          refine e_iload_n hm_172 rfl rfl ?_
          refine e_bipush hm_172 rfl kc_bipush_30 ?_
          refine e_isub hm_172 rfl ?_
          obtain ⟨y80, hky80, hf⟩ := mm_bd hf
          refine e_virt hm_172 rfl rfl rfl rfl (Nat.le_of_ble_eq_true rfl) hm_193 rfl rfl (c_193 a1 (a2 - (30 : Int32)) y58.2 hky80 ?_)
          show Ev Z _ 172 98 [some (.ref 73), some (.int a1), some (.int a2), some (.int (1 : Int32))] [.int y80.1] (mm_H y80.2) Q
          by_cases hc81 : y80.1 = (0 : Int32)
          · rw [if_pos hc81] at hf
            refine e_if_t (t := 105) hm_172 rfl (ct_eq hc81) rfl ?_
            refine e_iconst hm_172 rfl kc_iconst_0 ?_
            obtain rfl := Option.some.inj hf
            exact e_iret hm_172 rfl rfl hq
          · rw [if_neg hc81] at hf
            refine e_if_f hm_172 rfl (cf_eq hc81) ?_
            refine e_iconst hm_172 rfl kc_iconst_1 ?_
            refine e_goto (t := 106) hm_172 rfl rfl ?_
            obtain rfl := Option.some.inj hf
            exact e_iret hm_172 rfl rfl hq
def md_lays (a1 : Int32) (a2 : Int32) (a3 : Int32) (M : mm_M) : Option (Unit × mm_M) :=
  if a1 < (3 : Int32) then
    if ak_inb a1 3 = true then
    some ((), (ak_up M.1 77 a1.toNatClampNeg a3, M.2)) else none
  else
    if a1 < (7 : Int32) then
      if ak_inb ((((5 : Int32) * a2) + a1) - (3 : Int32)) 20 = true then
      some ((), (ak_up M.1 79 (((((5 : Int32) * a2) + a1) - (3 : Int32)).toNatClampNeg) a3, M.2)) else none
    else
      if a1 = (7 : Int32) then
        if ak_inb a2 4 = true then
        some ((), (ak_up M.1 78 a2.toNatClampNeg a3, M.2)) else none
      else
        some ((), (ak_up M.1 73 4 a3, M.2))
set_option maxRecDepth 20000 in
set_option maxHeartbeats 4000000 in
theorem c_197 {Z : ak_Z} {d : Nat} (a1 : Int32) (a2 : Int32) (a3 : Int32) (M : mm_M) {y : Unit × mm_M} (hf : md_lays a1 a2 a3 M = some y) {Q : Option Value → ak_H → Prop} (hq : Q none (mm_H y.2)) : Ev Z (d + 0) 197 0 [some (.ref 73), some (.int a1), some (.int a2), some (.int a3)] [] (mm_H M) Q := by
  rw [md_lays] at hf
  refine e_iload_n hm_197 rfl rfl ?_
  refine e_iconst hm_197 rfl kc_iconst_3 ?_
  by_cases hc1 : a1 < (3 : Int32)
  · rw [if_pos hc1] at hf
    refine e_ic_f hm_197 rfl (cf_ge hc1) ?_
    refine e_aload_n hm_197 rfl rfl ?_
    refine e_getR hm_197 rfl rfl rfl rfl ?_
    refine e_iload_n hm_197 rfl rfl ?_
    refine e_iload_n hm_197 rfl rfl ?_
    obtain ⟨hi2, hf⟩ := mm_ite hf
    refine e_iast hm_197 rfl rfl hi2 ?_
    refine e_goto (t := 58) hm_197 rfl rfl ?_
    obtain rfl := Option.some.inj hf
    exact e_vret hm_197 rfl rfl hq
  · rw [if_neg hc1] at hf
    refine e_ic_t (t := 15) hm_197 rfl (ct_ge hc1) rfl ?_
    refine e_iload_n hm_197 rfl rfl ?_
    refine e_bipush hm_197 rfl kc_bipush_7 ?_
    by_cases hc3 : a1 < (7 : Int32)
    · rw [if_pos hc3] at hf
      refine e_ic_f hm_197 rfl (cf_ge hc3) ?_
      refine e_aload_n hm_197 rfl rfl ?_
      refine e_getR hm_197 rfl rfl rfl rfl ?_
      refine e_iconst hm_197 rfl kc_iconst_5 ?_
      refine e_iload_n hm_197 rfl rfl ?_
      refine e_imul hm_197 rfl ?_
      refine e_iload_n hm_197 rfl rfl ?_
      refine e_iadd hm_197 rfl ?_
      refine e_iconst hm_197 rfl kc_iconst_3 ?_
      refine e_isub hm_197 rfl ?_
      refine e_iload_n hm_197 rfl rfl ?_
      obtain ⟨hi4, hf⟩ := mm_ite hf
      refine e_iast hm_197 rfl rfl hi4 ?_
      refine e_goto (t := 58) hm_197 rfl rfl ?_
      obtain rfl := Option.some.inj hf
      exact e_vret hm_197 rfl rfl hq
    · rw [if_neg hc3] at hf
      refine e_ic_t (t := 37) hm_197 rfl (ct_ge hc3) rfl ?_
      refine e_iload_n hm_197 rfl rfl ?_
      refine e_bipush hm_197 rfl kc_bipush_7 ?_
      by_cases hc5 : a1 = (7 : Int32)
      · rw [if_pos hc5] at hf
        refine e_ic_f hm_197 rfl (cf_ne hc5) ?_
        refine e_aload_n hm_197 rfl rfl ?_
        refine e_getR hm_197 rfl rfl rfl rfl ?_
        refine e_iload_n hm_197 rfl rfl ?_
        refine e_iload_n hm_197 rfl rfl ?_
        obtain ⟨hi6, hf⟩ := mm_ite hf
        refine e_iast hm_197 rfl rfl hi6 ?_
        refine e_goto (t := 58) hm_197 rfl rfl ?_
        obtain rfl := Option.some.inj hf
        exact e_vret hm_197 rfl rfl hq
      · rw [if_neg hc5] at hf
        refine e_ic_t (t := 53) hm_197 rfl (ct_ne hc5) rfl ?_
        refine e_aload_n hm_197 rfl rfl ?_
        refine e_iload_n hm_197 rfl rfl ?_
        refine e_putI hm_197 rfl rfl rfl ?_
        obtain rfl := Option.some.inj hf
        exact e_vret hm_197 rfl rfl hq
