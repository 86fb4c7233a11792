/-! printed: the functions of the methods, and that the small machine does them -/
def ru_isKind (a1 : Int32) (a2 : Int32) (M : mm_M) : Option (Int32 × mm_M) :=
  (ru_kindAt a1 M).bind fun y1 =>
  if a2 = (0 : Int32) then
    some ((1 : Int32), y1.2)
  else if a2 = (1 : Int32) then
      (mm_kc y1.1).bind fun c4 => if (c4 = 0 ∨ c4 = 1 ∨ c4 = 2 ∨ c4 = 3 ∨ c4 = 4 ∨ c4 = 9) then
      if (if ak_sub c4 4 = true then (1 : Int32) else 0) = 0 ∨ (if ak_sub c4 4 = true then (1 : Int32) else 0) = 1 then some (if ak_sub c4 4 = true then (1 : Int32) else 0, y1.2) else none else none
    else if a2 = (2 : Int32) then
        (mm_kc y1.1).bind fun c8 => if (c8 = 0 ∨ c8 = 1 ∨ c8 = 2 ∨ c8 = 3 ∨ c8 = 4 ∨ c8 = 9) then
        if (if ak_sub c8 9 = true then (1 : Int32) else 0) = 0 ∨ (if ak_sub c8 9 = true then (1 : Int32) else 0) = 1 then some (if ak_sub c8 9 = true then (1 : Int32) else 0, y1.2) else none else none
      else if a2 = (3 : Int32) then
          (mm_kc y1.1).bind fun c12 => if (c12 = 0 ∨ c12 = 1 ∨ c12 = 2 ∨ c12 = 3 ∨ c12 = 4 ∨ c12 = 9) then
          if (if ak_sub c12 2 = true then (1 : Int32) else 0) = 0 ∨ (if ak_sub c12 2 = true then (1 : Int32) else 0) = 1 then some (if ak_sub c12 2 = true then (1 : Int32) else 0, y1.2) else none else none
        else if a2 = (4 : Int32) then
            (mm_kc y1.1).bind fun c16 => if (c16 = 0 ∨ c16 = 1 ∨ c16 = 2 ∨ c16 = 3 ∨ c16 = 4 ∨ c16 = 9) then
            if (if ak_sub c16 1 = true then (1 : Int32) else 0) = 0 ∨ (if ak_sub c16 1 = true then (1 : Int32) else 0) = 1 then some (if ak_sub c16 1 = true then (1 : Int32) else 0, y1.2) else none else none
          else (mm_kc y1.1).bind fun c19 => if (c19 = 0 ∨ c19 = 1 ∨ c19 = 2 ∨ c19 = 3 ∨ c19 = 4 ∨ c19 = 9) then
            if (if ak_sub c19 0 = true then (1 : Int32) else 0) = 0 ∨ (if ak_sub c19 0 = true then (1 : Int32) else 0) = 1 then some (if ak_sub c19 0 = true then (1 : Int32) else 0, y1.2) else none else none
set_option maxRecDepth 20000 in
set_option maxHeartbeats 4000000 in
theorem c_165 {Z : ak_Z} {d : Nat} (a1 : Int32) (a2 : Int32) (M : mm_M) {y : Int32 × mm_M} (hf : ru_isKind a1 a2 M = some y) {Q : Option Value → ak_H → Prop} (hq : Q (some (.int y.1)) (mm_H y.2)) : Ev Z (d + 1) 165 0 [some (.ref 26), some (.int a1), some (.int a2), none] [] (mm_H M) Q := by
  rw [ru_isKind] at hf
  refine e_aload_n hm_165 rfl rfl ?_
  refine e_iload_n hm_165 rfl rfl ?_
  obtain ⟨y1, hky1, hf⟩ := mm_bd hf
  refine e_virt hm_165 rfl rfl rfl rfl (Nat.le_of_ble_eq_true rfl) hm_39 rfl rfl (c_39 a1 M hky1 ?_)
  show Ev Z _ 165 5 [some (.ref 26), some (.int a1), some (.int a2), none] [.ref y1.1] (mm_H y1.2) Q
  refine e_astore_n (L2 := [some (.ref 26), some (.int a1), some (.int a2), some (.ref y1.1)]) hm_165 rfl rfl ?_
  refine e_iload_n hm_165 rfl rfl ?_
  by_cases hc2 : a2 = (0 : Int32)
  · rw [if_pos hc2] at hf
    refine e_tsw (t := 40) hm_165 rfl (by rw [hc2]; rfl) ?_
    refine e_iconst hm_165 rfl kc_iconst_1 ?_
    obtain rfl := Option.some.inj hf
    exact e_zret hm_165 rfl rfl (by decide) hq
  · rw [if_neg hc2] at hf
    by_cases hc3 : a2 = (1 : Int32)
    · rw [if_pos hc3] at hf
      refine e_tsw (t := 42) hm_165 rfl (by rw [hc3]; rfl) ?_
      refine e_aload_n hm_165 rfl rfl ?_
      obtain ⟨c4, hkc4, hf⟩ := mm_bd hf
      obtain ⟨hc5, hf⟩ := mm_ite hf
      refine e_inst hm_165 rfl (mm_kc_at hkc4) hc5 (by decide) rfl ?_
      obtain ⟨hb6, hf⟩ := mm_ite hf
      obtain rfl := Option.some.inj hf
      exact e_zret hm_165 rfl rfl hb6 hq
    · rw [if_neg hc3] at hf
      by_cases hc7 : a2 = (2 : Int32)
      · rw [if_pos hc7] at hf
        refine e_tsw (t := 47) hm_165 rfl (by rw [hc7]; rfl) ?_
        refine e_aload_n hm_165 rfl rfl ?_
        obtain ⟨c8, hkc8, hf⟩ := mm_bd hf
        obtain ⟨hc9, hf⟩ := mm_ite hf
        refine e_inst hm_165 rfl (mm_kc_at hkc8) hc9 (by decide) rfl ?_
        obtain ⟨hb10, hf⟩ := mm_ite hf
        obtain rfl := Option.some.inj hf
        exact e_zret hm_165 rfl rfl hb10 hq
      · rw [if_neg hc7] at hf
        by_cases hc11 : a2 = (3 : Int32)
        · rw [if_pos hc11] at hf
          refine e_tsw (t := 52) hm_165 rfl (by rw [hc11]; rfl) ?_
          refine e_aload_n hm_165 rfl rfl ?_
          obtain ⟨c12, hkc12, hf⟩ := mm_bd hf
          obtain ⟨hc13, hf⟩ := mm_ite hf
          refine e_inst hm_165 rfl (mm_kc_at hkc12) hc13 (by decide) rfl ?_
          obtain ⟨hb14, hf⟩ := mm_ite hf
          obtain rfl := Option.some.inj hf
          exact e_zret hm_165 rfl rfl hb14 hq
        · rw [if_neg hc11] at hf
          by_cases hc15 : a2 = (4 : Int32)
          · rw [if_pos hc15] at hf
            refine e_tsw (t := 57) hm_165 rfl (by rw [hc15]; rfl) ?_
            refine e_aload_n hm_165 rfl rfl ?_
            obtain ⟨c16, hkc16, hf⟩ := mm_bd hf
            obtain ⟨hc17, hf⟩ := mm_ite hf
            refine e_inst hm_165 rfl (mm_kc_at hkc16) hc17 (by decide) rfl ?_
            obtain ⟨hb18, hf⟩ := mm_ite hf
            obtain rfl := Option.some.inj hf
            exact e_zret hm_165 rfl rfl hb18 hq
          · rw [if_neg hc15] at hf
            have khc2 := i32_ne hc2
            have khc3 := i32_ne hc3
            have khc7 := i32_ne hc7
            have khc11 := i32_ne hc11
            have khc15 := i32_ne hc15
            rw [show ((0 : Int32) : Int32).toInt = 0 from rfl] at khc2
            rw [show ((1 : Int32) : Int32).toInt = 1 from rfl] at khc3
            rw [show ((2 : Int32) : Int32).toInt = 2 from rfl] at khc7
            rw [show ((3 : Int32) : Int32).toInt = 3 from rfl] at khc11
            rw [show ((4 : Int32) : Int32).toInt = 4 from rfl] at khc15
            refine e_tsw (t := 62) hm_165 rfl (tsw_out (by omega) rfl) ?_
            refine e_aload_n hm_165 rfl rfl ?_
            obtain ⟨c19, hkc19, hf⟩ := mm_bd hf
            obtain ⟨hc20, hf⟩ := mm_ite hf
            refine e_inst hm_165 rfl (mm_kc_at hkc19) hc20 (by decide) rfl ?_
            obtain ⟨hb21, hf⟩ := mm_ite hf
            obtain rfl := Option.some.inj hf
            exact e_zret hm_165 rfl rfl hb21 hq
def nb_taken (a1 : Int32) (a2 : Int32) (M : mm_M) : Option (Int32 × mm_M) :=
  if a2 < (0 : Int32) then
    some ((-2 : Int32), M)
  else
    if a2 < (6 : Int32) then
      (sh_isOne 1 a1 M).bind fun y3 =>
      if y3.1 = (0 : Int32) then
        some ((-11 : Int32), y3.2)
      else
        if ak_inb a1 4 = true then
        (ru_isKind (y3.2.1 2 a1.toNatClampNeg) a2 y3.2).bind fun y6 =>
        if y6.1 = (0 : Int32) then
          some ((-13 : Int32), y6.2)
        else
          if ak_inb a1 4 = true then
          some (y6.2.1 3 a1.toNatClampNeg, y6.2) else none else none
    else
      some ((-2 : Int32), M)
set_option maxRecDepth 20000 in
set_option maxHeartbeats 4000000 in
theorem c_164 {Z : ak_Z} {d : Nat} (a1 : Int32) (a2 : Int32) (M : mm_M) {y : Int32 × mm_M} (hf : nb_taken a1 a2 M = some y) {Q : Option Value → ak_H → Prop} (hq : Q (some (.int y.1)) (mm_H y.2)) : Ev Z (d + 2) 164 0 [some (.ref 0), some (.int a1), some (.int a2)] [] (mm_H M) Q := by
  rw [nb_taken] at hf
  refine e_iload_n hm_164 rfl rfl ?_
  by_cases hc1 : a2 < (0 : Int32)
  · rw [if_pos hc1] at hf
    refine e_if_t (t := 10) hm_164 rfl (ct_lt hc1) rfl ?_
    refine e_bipush hm_164 rfl kc_bipush_m2 ?_
    obtain rfl := Option.some.inj hf
    exact e_iret hm_164 rfl rfl hq
  · rw [if_neg hc1] at hf
    refine e_if_f hm_164 rfl (cf_lt hc1) ?_
    refine e_iload_n hm_164 rfl rfl ?_
    refine e_bipush hm_164 rfl kc_bipush_6 ?_
    by_cases hc2 : a2 < (6 : Int32)
    · rw [if_pos hc2] at hf
      refine e_ic_t (t := 13) hm_164 rfl (ct_lt hc2) rfl ?_
      refine e_aload_n hm_164 rfl rfl ?_
      refine e_getR hm_164 rfl rfl rfl rfl ?_
      refine e_iload_n hm_164 rfl rfl ?_
      obtain ⟨y3, hky3, hf⟩ := mm_bd hf
      refine e_virt hm_164 rfl rfl rfl rfl (Nat.le_of_ble_eq_true rfl) hm_16 rfl rfl (c_16 1 a1 M rfl hky3 ?_)
      show Ev Z _ 164 21 [some (.ref 0), some (.int a1), some (.int a2)] [.int y3.1] (mm_H y3.2) Q
      by_cases hc4 : y3.1 = (0 : Int32)
      · rw [if_pos hc4] at hf
        refine e_if_f hm_164 rfl (cf_ne hc4) ?_
        refine e_bipush hm_164 rfl kc_bipush_m11 ?_
        obtain rfl := Option.some.inj hf
        exact e_iret hm_164 rfl rfl hq
      · rw [if_neg hc4] at hf
        refine e_if_t (t := 27) hm_164 rfl (ct_ne hc4) rfl ?_
        refine e_aload_n hm_164 rfl rfl ?_
        refine e_getR hm_164 rfl rfl rfl rfl ?_
        refine e_aload_n hm_164 rfl rfl ?_
        refine e_getR hm_164 rfl rfl rfl rfl ?_
        refine e_getR hm_164 rfl rfl rfl rfl ?_
        refine e_iload_n hm_164 rfl rfl ?_
        obtain ⟨hi5, hf⟩ := mm_ite hf
        refine e_iald hm_164 rfl rfl hi5 ?_
        refine e_iload_n hm_164 rfl rfl ?_
        obtain ⟨y6, hky6, hf⟩ := mm_bd hf
        refine e_virt hm_164 rfl rfl rfl rfl (Nat.le_of_ble_eq_true rfl) hm_165 rfl rfl (c_165 (y3.2.1 2 a1.toNatClampNeg) a2 y3.2 hky6 ?_)
        show Ev Z _ 164 44 [some (.ref 0), some (.int a1), some (.int a2)] [.int y6.1] (mm_H y6.2) Q
        by_cases hc7 : y6.1 = (0 : Int32)
        · rw [if_pos hc7] at hf
          refine e_if_t (t := 59) hm_164 rfl (ct_eq hc7) rfl ?_
          refine e_bipush hm_164 rfl kc_bipush_m13 ?_
          obtain rfl := Option.some.inj hf
          exact e_iret hm_164 rfl rfl hq
        · rw [if_neg hc7] at hf
          refine e_if_f hm_164 rfl (cf_eq hc7) ?_
          refine e_aload_n hm_164 rfl rfl ?_
          refine e_getR hm_164 rfl rfl rfl rfl ?_
          refine e_getR hm_164 rfl rfl rfl rfl ?_
          refine e_iload_n hm_164 rfl rfl ?_
          obtain ⟨hi8, hf⟩ := mm_ite hf
          refine e_iald hm_164 rfl rfl hi8 ?_
          refine e_goto (t := 61) hm_164 rfl rfl ?_
          obtain rfl := Option.some.inj hf
          exact e_iret hm_164 rfl rfl hq
    · rw [if_neg hc2] at hf
      refine e_ic_f hm_164 rfl (cf_lt hc2) ?_
      refine e_bipush hm_164 rfl kc_bipush_m2 ?_
      obtain rfl := Option.some.inj hf
      exact e_iret hm_164 rfl rfl hq
def md_in (a1 : Int64) (a2 : Int64) (a3 : Int64) (M : mm_M) : Option (Int32 × mm_M) :=
  if (lg_cmp a1 a2) < (0 : Int32) then
    some ((0 : Int32), M)
  else
    if (0 : Int32) < (lg_cmp a1 a3) then
      some ((0 : Int32), M)
    else
      some ((1 : Int32), M)
set_option maxRecDepth 20000 in
set_option maxHeartbeats 4000000 in
theorem c_169 {Z : ak_Z} {d : Nat} (a1 : Int64) (a2 : Int64) (a3 : Int64) (M : mm_M) {y : Int32 × mm_M} (hf : md_in a1 a2 a3 M = some y) {Q : Option Value → ak_H → Prop} (hq : Q (some (.int y.1)) (mm_H y.2)) : Ev Z (d + 0) 169 0 [some (.long a1), none, some (.long a2), none, some (.long a3), none] [] (mm_H M) Q := by
  rw [md_in] at hf
  refine e_lload_n hm_169 rfl rfl ?_
  refine e_lload_n hm_169 rfl rfl ?_
  refine e_lcmp hm_169 rfl ?_
  by_cases hc1 : (lg_cmp a1 a2) < (0 : Int32)
  · rw [if_pos hc1] at hf
    refine e_if_t (t := 17) hm_169 rfl (ct_lt hc1) rfl ?_
    refine e_iconst hm_169 rfl kc_iconst_0 ?_
    obtain rfl := Option.some.inj hf
    exact e_zret hm_169 rfl rfl (by decide) hq
  · rw [if_neg hc1] at hf
    refine e_if_f hm_169 rfl (cf_lt hc1) ?_
    refine e_lload_n hm_169 rfl rfl ?_
    refine e_lload hm_169 rfl rfl ?_
    refine e_lcmp hm_169 rfl ?_
    by_cases hc2 : (0 : Int32) < (lg_cmp a1 a3)
    · rw [if_pos hc2] at hf
      refine e_if_t (t := 17) hm_169 rfl (ct_gt hc2) rfl ?_
      refine e_iconst hm_169 rfl kc_iconst_0 ?_
      obtain rfl := Option.some.inj hf
      exact e_zret hm_169 rfl rfl (by decide) hq
    · rw [if_neg hc2] at hf
      refine e_if_f hm_169 rfl (cf_gt hc2) ?_
      refine e_iconst hm_169 rfl kc_iconst_1 ?_
      refine e_goto (t := 18) hm_169 rfl rfl ?_
      obtain rfl := Option.some.inj hf
      exact e_zret hm_169 rfl rfl (by decide) hq
def md_isOne (a1 : Int32) (M : mm_M) : Option (Int32 × mm_M) :=
  (md_in a1.toInt64 (0 : Int64) (((M.1 73 11) - (1 : Int32)).toInt64) M).bind fun y1 =>
  if y1.1 = 0 ∨ y1.1 = 1 then some (y1.1, y1.2) else none
set_option maxRecDepth 20000 in
set_option maxHeartbeats 4000000 in
theorem c_170 {Z : ak_Z} {d : Nat} (a1 : Int32) (M : mm_M) {y : Int32 × mm_M} (hf : md_isOne a1 M = some y) {Q : Option Value → ak_H → Prop} (hq : Q (some (.int y.1)) (mm_H y.2)) : Ev Z (d + 1) 170 0 [some (.ref 73), some (.int a1)] [] (mm_H M) Q := by
  rw [md_isOne] at hf
  refine e_iload_n hm_170 rfl rfl ?_
  refine e_i2l hm_170 rfl ?_
  refine e_lconst hm_170 rfl rfl ?_
  refine e_aload_n hm_170 rfl rfl ?_
  refine e_getI hm_170 rfl rfl rfl ?_
  refine e_iconst hm_170 rfl kc_iconst_1 ?_
  refine e_isub hm_170 rfl ?_
  refine e_i2l hm_170 rfl ?_
  obtain ⟨y1, hky1, hf⟩ := mm_bd hf
  refine e_stat hm_170 rfl (by decide) rfl rfl (Nat.le_of_ble_eq_true rfl) hm_169 rfl rfl (c_169 a1.toInt64 (0 : Int64) (((M.1 73 11) - (1 : Int32)).toInt64) M hky1 ?_)
  show Ev Z _ 170 13 [some (.ref 73), some (.int a1)] [.int y1.1] (mm_H y1.2) Q
  obtain ⟨hb2, hf⟩ := mm_ite hf
  obtain rfl := Option.some.inj hf
  exact e_zret hm_170 rfl rfl hb2 hq
def md_mostOf (a1 : Int32) (M : mm_M) : Option (Int32 × mm_M) :=
  if a1 = (0 : Int32) then
    some ((999 : Int32), M)
  else
    if a1 = (6 : Int32) then
      some ((999 : Int32), M)
    else
      if a1 = (1 : Int32) then
        some ((4 : Int32), M)
      else
        if a1 = (4 : Int32) then
          some ((4 : Int32), M)
        else
          if a1 = (2 : Int32) then
            some ((15 : Int32), M)
          else
            if a1 = (3 : Int32) then
              some ((9 : Int32), M)
            else
              some ((255 : Int32), M)
set_option maxRecDepth 20000 in
set_option maxHeartbeats 4000000 in
theorem c_171 {Z : ak_Z} {d : Nat} (a1 : Int32) (M : mm_M) {y : Int32 × mm_M} (hf : md_mostOf a1 M = some y) {Q : Option Value → ak_H → Prop} (hq : Q (some (.int y.1)) (mm_H y.2)) : Ev Z (d + 0) 171 0 [some (.int a1)] [] (mm_H M) Q := by
  rw [md_mostOf] at hf
  refine e_iload_n hm_171 rfl rfl ?_
  by_cases hc1 : a1 = (0 : Int32)
  · rw [if_pos hc1] at hf
    refine e_if_t (t := 10) hm_171 rfl (ct_eq hc1) rfl ?_
    refine e_sipush hm_171 rfl kc_sipush_999 ?_
    refine e_goto (t := 53) hm_171 rfl rfl ?_
    obtain rfl := Option.some.inj hf
    exact e_iret hm_171 rfl rfl hq
  · rw [if_neg hc1] at hf
    refine e_if_f hm_171 rfl (cf_eq hc1) ?_
    refine e_iload_n hm_171 rfl rfl ?_
    refine e_bipush hm_171 rfl kc_bipush_6 ?_
    by_cases hc2 : a1 = (6 : Int32)
    · rw [if_pos hc2] at hf
      refine e_ic_f hm_171 rfl (cf_ne hc2) ?_
      refine e_sipush hm_171 rfl kc_sipush_999 ?_
      refine e_goto (t := 53) hm_171 rfl rfl ?_
      obtain rfl := Option.some.inj hf
      exact e_iret hm_171 rfl rfl hq
    · rw [if_neg hc2] at hf
      refine e_ic_t (t := 16) hm_171 rfl (ct_ne hc2) rfl ?_
      refine e_iload_n hm_171 rfl rfl ?_
      refine e_iconst hm_171 rfl kc_iconst_1 ?_
      by_cases hc3 : a1 = (1 : Int32)
      · rw [if_pos hc3] at hf
        refine e_ic_t (t := 26) hm_171 rfl (ct_eq hc3) rfl ?_
        refine e_iconst hm_171 rfl kc_iconst_4 ?_
        refine e_goto (t := 53) hm_171 rfl rfl ?_
        obtain rfl := Option.some.inj hf
        exact e_iret hm_171 rfl rfl hq
      · rw [if_neg hc3] at hf
        refine e_ic_f hm_171 rfl (cf_eq hc3) ?_
        refine e_iload_n hm_171 rfl rfl ?_
        refine e_iconst hm_171 rfl kc_iconst_4 ?_
        by_cases hc4 : a1 = (4 : Int32)
        · rw [if_pos hc4] at hf
          refine e_ic_f hm_171 rfl (cf_ne hc4) ?_
          refine e_iconst hm_171 rfl kc_iconst_4 ?_
          refine e_goto (t := 53) hm_171 rfl rfl ?_
          obtain rfl := Option.some.inj hf
          exact e_iret hm_171 rfl rfl hq
        · rw [if_neg hc4] at hf
          refine e_ic_t (t := 30) hm_171 rfl (ct_ne hc4) rfl ?_
          refine e_iload_n hm_171 rfl rfl ?_
          refine e_iconst hm_171 rfl kc_iconst_2 ?_
          by_cases hc5 : a1 = (2 : Int32)
          · rw [if_pos hc5] at hf
            refine e_ic_f hm_171 rfl (cf_ne hc5) ?_
            refine e_bipush hm_171 rfl kc_bipush_15 ?_
            refine e_goto (t := 53) hm_171 rfl rfl ?_
            obtain rfl := Option.some.inj hf
            exact e_iret hm_171 rfl rfl hq
          · rw [if_neg hc5] at hf
            refine e_ic_t (t := 40) hm_171 rfl (ct_ne hc5) rfl ?_
            refine e_iload_n hm_171 rfl rfl ?_
            refine e_iconst hm_171 rfl kc_iconst_3 ?_
            by_cases hc6 : a1 = (3 : Int32)
            · rw [if_pos hc6] at hf
              refine e_ic_f hm_171 rfl (cf_ne hc6) ?_
              refine e_bipush hm_171 rfl kc_bipush_9 ?_
              refine e_goto (t := 53) hm_171 rfl rfl ?_
              obtain rfl := Option.some.inj hf
              exact e_iret hm_171 rfl rfl hq
            · rw [if_neg hc6] at hf
              refine e_ic_t (t := 50) hm_171 rfl (ct_ne hc6) rfl ?_
              refine e_sipush hm_171 rfl kc_sipush_255 ?_
              obtain rfl := Option.some.inj hf
              exact e_iret hm_171 rfl rfl hq
def md_isWished (a1 : Int32) (a2 : Int32) (M : mm_M) : Option (Int32 × mm_M) :=
  if ak_inb (((5 : Int32) * a1) + (2 : Int32)) 20 = true then
  if (((M.1 79 (((5 : Int32) * a1) + (2 : Int32)).toNatClampNeg) >>> (a2 &&& 31)) &&& (1 : Int32)) = (1 : Int32) then
    some ((1 : Int32), M)
  else
    some ((0 : Int32), M) else none
set_option maxRecDepth 20000 in
set_option maxHeartbeats 4000000 in
theorem c_174 {Z : ak_Z} {d : Nat} (a1 : Int32) (a2 : Int32) (M : mm_M) {y : Int32 × mm_M} (hf : md_isWished a1 a2 M = some y) {Q : Option Value → ak_H → Prop} (hq : Q (some (.int y.1)) (mm_H y.2)) : Ev Z (d + 0) 174 0 [some (.ref 73), some (.int a1), some (.int a2)] [] (mm_H M) Q := by
  rw [md_isWished] at hf
  refine e_aload_n hm_174 rfl rfl ?_
  refine e_getR hm_174 rfl rfl rfl rfl ?_
  refine e_iconst hm_174 rfl kc_iconst_5 ?_
  refine e_iload_n hm_174 rfl rfl ?_
  refine e_imul hm_174 rfl ?_
  refine e_iconst hm_174 rfl kc_iconst_2 ?_
  refine e_iadd hm_174 rfl ?_
  obtain ⟨hi1, hf⟩ := mm_ite hf
  refine e_iald hm_174 rfl rfl hi1 ?_
  refine e_iload_n hm_174 rfl rfl ?_
  refine e_ishr hm_174 rfl ?_
  refine e_iconst hm_174 rfl kc_iconst_1 ?_
  refine e_iand hm_174 rfl ?_
  refine e_iconst hm_174 rfl kc_iconst_1 ?_
  by_cases hc2 : (((M.1 79 (((5 : Int32) * a1) + (2 : Int32)).toNatClampNeg) >>> (a2 &&& 31)) &&& (1 : Int32)) = (1 : Int32)
  · rw [if_pos hc2] at hf
    refine e_ic_f hm_174 rfl (cf_ne hc2) ?_
    refine e_iconst hm_174 rfl kc_iconst_1 ?_
    refine e_goto (t := 23) hm_174 rfl rfl ?_
    obtain rfl := Option.some.inj hf
    exact e_zret hm_174 rfl rfl (by decide) hq
  · rw [if_neg hc2] at hf
    refine e_ic_t (t := 22) hm_174 rfl (ct_ne hc2) rfl ?_
    refine e_iconst hm_174 rfl kc_iconst_0 ?_
    obtain rfl := Option.some.inj hf
    exact e_zret hm_174 rfl rfl (by decide) hq
def md_byteAt (a1 : Int32) (M : mm_M) : Option (Int32 × mm_M) :=
  if a1 < (M.1 73 19) then
    if ak_inb ((M.1 73 18) + a1) 960 = true then
    some (M.1 74 ((M.1 73 18) + a1).toNatClampNeg, M) else none
  else
    some ((-1 : Int32), M)
set_option maxRecDepth 20000 in
set_option maxHeartbeats 4000000 in
theorem c_178 {Z : ak_Z} {d : Nat} (a1 : Int32) (M : mm_M) {y : Int32 × mm_M} (hf : md_byteAt a1 M = some y) {Q : Option Value → ak_H → Prop} (hq : Q (some (.int y.1)) (mm_H y.2)) : Ev Z (d + 0) 178 0 [some (.ref 73), some (.int a1)] [] (mm_H M) Q := by
  rw [md_byteAt] at hf
  refine e_iload_n hm_178 rfl rfl ?_
  refine e_aload_n hm_178 rfl rfl ?_
  refine e_getI hm_178 rfl rfl rfl ?_
  by_cases hc1 : a1 < (M.1 73 19)
  · rw [if_pos hc1] at hf
    refine e_ic_f hm_178 rfl (cf_ge hc1) ?_
    refine e_aload_n hm_178 rfl rfl ?_
    refine e_getR hm_178 rfl rfl rfl rfl ?_
    refine e_aload_n hm_178 rfl rfl ?_
    refine e_getI hm_178 rfl rfl rfl ?_
    refine e_iload_n hm_178 rfl rfl ?_
    refine e_iadd hm_178 rfl ?_
    obtain ⟨hi2, hf⟩ := mm_ite hf
    refine e_iald hm_178 rfl rfl hi2 ?_
    refine e_goto (t := 23) hm_178 rfl rfl ?_
    obtain rfl := Option.some.inj hf
    exact e_iret hm_178 rfl rfl hq
  · rw [if_neg hc1] at hf
    refine e_ic_t (t := 22) hm_178 rfl (ct_ge hc1) rfl ?_
    refine e_iconst hm_178 rfl kc_iconst_m1 ?_
    obtain rfl := Option.some.inj hf
    exact e_iret hm_178 rfl rfl hq
def md_next_l0 : Nat → mm_M → Option (((Unit) × mm_M))
  | 0, _ => none
  | n + 1, M =>
    (md_byteAt (M.1 73 20) M).bind fun y1 =>
    if y1.1 = (32 : Int32) then
      md_next_l0 n (ak_up y1.2.1 73 20 ((y1.2.1 73 20) + (1 : Int32)), y1.2.2)
    else
      (md_byteAt (y1.2.1 73 20) y1.2).bind fun y3 =>
      if y3.1 = (10 : Int32) then
        md_next_l0 n (ak_up y3.2.1 73 20 ((y3.2.1 73 20) + (1 : Int32)), y3.2.2)
      else
        some ((), y3.2)
set_option maxRecDepth 20000 in
set_option maxHeartbeats 4000000 in
theorem lc_177_0 {Z : ak_Z} {d : Nat} : ∀ (n : Nat) (M : mm_M) {y : ((Unit) × mm_M)} (Q : Option Value → ak_H → Prop), md_next_l0 n M = some y → (Ev Z (d + 1) 177 39 [some (.ref 73), none, none] [] (mm_H y.2) Q) → Ev Z (d + 1) 177 0 [some (.ref 73), none, none] [] (mm_H M) Q := by
  intro n
  induction n with
  | zero => intro M y Q hf; cases hf
  | succ n ih =>
    intro M y Q hf hq
    rw [md_next_l0] at hf
    refine e_aload_n hm_177 rfl rfl ?_
    refine e_aload_n hm_177 rfl rfl ?_
    refine e_getI hm_177 rfl rfl rfl ?_
    obtain ⟨y1, hky1, hf⟩ := mm_bd hf
    refine e_virt hm_177 rfl rfl rfl rfl (Nat.le_of_ble_eq_true rfl) hm_178 rfl rfl (c_178 (M.1 73 20) M hky1 ?_)
    show Ev Z _ 177 8 [some (.ref 73), none, none] [.int y1.1] (mm_H y1.2) Q
    refine e_bipush hm_177 rfl kc_bipush_32 ?_
    by_cases hc2 : y1.1 = (32 : Int32)
    · rw [if_pos hc2] at hf
      refine e_ic_t (t := 26) hm_177 rfl (ct_eq hc2) rfl ?_
      refine e_aload_n hm_177 rfl rfl ?_
      refine e_dupa hm_177 rfl ?_
      refine e_getI hm_177 rfl rfl rfl ?_
      refine e_iconst hm_177 rfl kc_iconst_1 ?_
      refine e_iadd hm_177 rfl ?_
      refine e_putI hm_177 rfl rfl rfl ?_
      refine e_goto (t := 0) hm_177 rfl rfl ?_
      exact e_forget (L' := [some (.ref 73), none, none]) (lf_k (lf_k (lf_k lf_0))) (ih (ak_up y1.2.1 73 20 ((y1.2.1 73 20) + (1 : Int32)), y1.2.2) Q hf hq)
    · rw [if_neg hc2] at hf
      refine e_ic_f hm_177 rfl (cf_eq hc2) ?_
      refine e_aload_n hm_177 rfl rfl ?_
      refine e_aload_n hm_177 rfl rfl ?_
      refine e_getI hm_177 rfl rfl rfl ?_
      obtain ⟨y3, hky3, hf⟩ := mm_bd hf
      refine e_virt hm_177 rfl rfl rfl rfl (Nat.le_of_ble_eq_true rfl) hm_178 rfl rfl (c_178 (y1.2.1 73 20) y1.2 hky3 ?_)
      show Ev Z _ 177 21 [some (.ref 73), none, none] [.int y3.1] (mm_H y3.2) Q
      refine e_bipush hm_177 rfl kc_bipush_10 ?_
      by_cases hc4 : y3.1 = (10 : Int32)
      · rw [if_pos hc4] at hf
        refine e_ic_f hm_177 rfl (cf_ne hc4) ?_
        refine e_aload_n hm_177 rfl rfl ?_
        refine e_dupa hm_177 rfl ?_
        refine e_getI hm_177 rfl rfl rfl ?_
        refine e_iconst hm_177 rfl kc_iconst_1 ?_
        refine e_iadd hm_177 rfl ?_
        refine e_putI hm_177 rfl rfl rfl ?_
        refine e_goto (t := 0) hm_177 rfl rfl ?_
        exact e_forget (L' := [some (.ref 73), none, none]) (lf_k (lf_k (lf_k lf_0))) (ih (ak_up y3.2.1 73 20 ((y3.2.1 73 20) + (1 : Int32)), y3.2.2) Q hf hq)
      · rw [if_neg hc4] at hf
        refine e_ic_t (t := 39) hm_177 rfl (ct_ne hc4) rfl ?_
        obtain rfl := Option.some.inj hf
        exact e_forget (L' := [some (.ref 73), none, none]) (lf_k (lf_k (lf_k lf_0))) hq
def md_next_l160 : Nat → Int32 → mm_M → Option (((Int32) × mm_M))
  | 0, _, _ => none
  | n + 1, x2, M =>
    (md_byteAt (M.1 73 20) M).bind fun y1 =>
    (md_in y1.1.toInt64 (48 : Int64) (57 : Int64) y1.2).bind fun y2 =>
    if y2.1 = (0 : Int32) then
      some (x2, y2.2)
    else
      if x2 < (4 : Int32) then
        (md_byteAt (y2.2.1 73 20) y2.2).bind fun y5 =>
        md_next_l160 n (x2 + (1 : Int32)) (ak_up y5.2.1 73 20 ((y5.2.1 73 20) + (1 : Int32)), y5.2.2.1, (((10 : Int64) * y2.2.2.2) + y5.1.toInt64) - (48 : Int64))
      else
        md_next_l160 n (x2 + (1 : Int32)) (ak_up y2.2.1 73 20 ((y2.2.1 73 20) + (1 : Int32)), y2.2.2.1, y2.2.2.2)
set_option maxRecDepth 20000 in
set_option maxHeartbeats 4000000 in
theorem lc_177_160 {Z : ak_Z} {d : Nat} : ∀ (n : Nat) (x2 : Int32) (M : mm_M) {y : ((Int32) × mm_M)} (Q : Option Value → ak_H → Prop), md_next_l160 n x2 M = some y → (Ev Z (d + 1) 177 235 [some (.ref 73), none, some (.int y.1)] [] (mm_H y.2) Q) → Ev Z (d + 1) 177 160 [some (.ref 73), none, some (.int x2)] [] (mm_H M) Q := by
  intro n
  induction n with
  | zero => intro x2 M y Q hf; cases hf
  | succ n ih =>
    intro x2 M y Q hf hq
    rw [md_next_l160] at hf
    refine e_aload_n hm_177 rfl rfl ?_
    refine e_aload_n hm_177 rfl rfl ?_
    refine e_getI hm_177 rfl rfl rfl ?_
    obtain ⟨y1, hky1, hf⟩ := mm_bd hf
    refine e_virt hm_177 rfl rfl rfl rfl (Nat.le_of_ble_eq_true rfl) hm_178 rfl rfl (c_178 (M.1 73 20) M hky1 ?_)
    show Ev Z _ 177 168 [some (.ref 73), none, some (.int x2)] [.int y1.1] (mm_H y1.2) Q
    refine e_i2l hm_177 rfl ?_
    refine e_ldc2 hm_177 rfl kc_ldc2_48 ?_
    refine e_ldc2 hm_177 rfl kc_ldc2_57 ?_
    obtain ⟨y2, hky2, hf⟩ := mm_bd hf
    refine e_stat hm_177 rfl (by decide) rfl rfl (Nat.le_of_ble_eq_true rfl) hm_169 rfl rfl (c_169 y1.1.toInt64 (48 : Int64) (57 : Int64) y1.2 hky2 ?_)
    show Ev Z _ 177 178 [some (.ref 73), none, some (.int x2)] [.int y2.1] (mm_H y2.2) Q
    by_cases hc3 : y2.1 = (0 : Int32)
    · rw [if_pos hc3] at hf
      refine e_if_t (t := 235) hm_177 rfl (ct_eq hc3) rfl ?_
      obtain rfl := Option.some.inj hf
      exact e_forget (L' := [some (.ref 73), none, some (.int x2)]) (lf_k (lf_k (lf_k lf_0))) hq
    · rw [if_neg hc3] at hf
      refine e_if_f hm_177 rfl (cf_eq hc3) ?_
      refine e_aload_n hm_177 rfl rfl ?_
      refine e_iload_n hm_177 rfl rfl ?_
      refine e_iconst hm_177 rfl kc_iconst_4 ?_
      by_cases hc4 : x2 < (4 : Int32)
      · rw [if_pos hc4] at hf
        refine e_ic_f hm_177 rfl (cf_ge hc4) ?_
        refine e_ldc2 hm_177 rfl kc_ldc2_10 ?_
        refine e_aload_n hm_177 rfl rfl ?_
        refine e_getJ hm_177 rfl ?_
        refine e_lmul hm_177 rfl ?_
        refine e_aload_n hm_177 rfl rfl ?_
        refine e_aload_n hm_177 rfl rfl ?_
        refine e_getI hm_177 rfl rfl rfl ?_
        obtain ⟨y5, hky5, hf⟩ := mm_bd hf
        refine e_virt hm_177 rfl rfl rfl rfl (Nat.le_of_ble_eq_true rfl) hm_178 rfl rfl (c_178 (y2.2.1 73 20) y2.2 hky5 ?_)
        show Ev Z _ 177 203 [some (.ref 73), none, some (.int x2)] [.int y5.1, .long ((10 : Int64) * y2.2.2.2), .ref 73] (mm_H y5.2) Q
        refine e_i2l hm_177 rfl ?_
        refine e_ladd hm_177 rfl ?_
        refine e_ldc2 hm_177 rfl kc_ldc2_48 ?_
        refine e_lsub hm_177 rfl ?_
        refine e_goto (t := 216) hm_177 rfl rfl ?_
        refine e_putJ hm_177 rfl ?_
        refine e_iinc (L2 := [some (.ref 73), none, some (.int (x2 + (1 : Int32)))]) hm_177 rfl kc_iinc_1 rfl rfl ?_
        refine e_aload_n hm_177 rfl rfl ?_
        refine e_dupa hm_177 rfl ?_
        refine e_getI hm_177 rfl rfl rfl ?_
        refine e_iconst hm_177 rfl kc_iconst_1 ?_
        refine e_iadd hm_177 rfl ?_
        refine e_putI hm_177 rfl rfl rfl ?_
        refine e_goto (t := 160) hm_177 rfl rfl ?_
        exact e_forget (L' := [some (.ref 73), none, some (.int (x2 + (1 : Int32)))]) (lf_k (lf_k (lf_k lf_0))) (ih (x2 + (1 : Int32)) (ak_up y5.2.1 73 20 ((y5.2.1 73 20) + (1 : Int32)), y5.2.2.1, (((10 : Int64) * y2.2.2.2) + y5.1.toInt64) - (48 : Int64)) Q hf hq)
      · rw [if_neg hc4] at hf
        refine e_ic_t (t := 212) hm_177 rfl (ct_ge hc4) rfl ?_
        refine e_aload_n hm_177 rfl rfl ?_
        refine e_getJ hm_177 rfl ?_
        refine e_putJ hm_177 rfl ?_
        refine e_iinc (L2 := [some (.ref 73), none, some (.int (x2 + (1 : Int32)))]) hm_177 rfl kc_iinc_1 rfl rfl ?_
        refine e_aload_n hm_177 rfl rfl ?_
        refine e_dupa hm_177 rfl ?_
        refine e_getI hm_177 rfl rfl rfl ?_
        refine e_iconst hm_177 rfl kc_iconst_1 ?_
        refine e_iadd hm_177 rfl ?_
        refine e_putI hm_177 rfl rfl rfl ?_
        refine e_goto (t := 160) hm_177 rfl rfl ?_
        exact e_forget (L' := [some (.ref 73), none, some (.int (x2 + (1 : Int32)))]) (lf_k (lf_k (lf_k lf_0))) (ih (x2 + (1 : Int32)) (ak_up y2.2.1 73 20 ((y2.2.1 73 20) + (1 : Int32)), y2.2.2.1, y2.2.2.2) Q hf hq)
def md_next_l100 : Nat → mm_M → Option (((Unit) × mm_M))
  | 0, _ => none
  | n + 1, M =>
    (md_byteAt (M.1 73 20) M).bind fun y1 =>
    (md_in y1.1.toInt64 (97 : Int64) (122 : Int64) y1.2).bind fun y2 =>
    if y2.1 = (0 : Int32) then
      some ((), y2.2)
    else
      md_next_l100 n (ak_up y2.2.1 73 20 ((y2.2.1 73 20) + (1 : Int32)), y2.2.2)
set_option maxRecDepth 20000 in
set_option maxHeartbeats 4000000 in
theorem lc_177_100 {Z : ak_Z} {d : Nat} : ∀ (n : Nat) (M : mm_M) {y : ((Unit) × mm_M)} (Q : Option Value → ak_H → Prop), md_next_l100 n M = some y → (Ev Z (d + 1) 177 321 [none, none, none] [] (mm_H y.2) Q) → Ev Z (d + 1) 177 100 [some (.ref 73), none, none] [] (mm_H M) Q := by
  intro n
  induction n with
  | zero => intro M y Q hf; cases hf
  | succ n ih =>
    intro M y Q hf hq
    rw [md_next_l100] at hf
    refine e_aload_n hm_177 rfl rfl ?_
    refine e_aload_n hm_177 rfl rfl ?_
    refine e_getI hm_177 rfl rfl rfl ?_
    obtain ⟨y1, hky1, hf⟩ := mm_bd hf
    refine e_virt hm_177 rfl rfl rfl rfl (Nat.le_of_ble_eq_true rfl) hm_178 rfl rfl (c_178 (M.1 73 20) M hky1 ?_)
    show Ev Z _ 177 108 [some (.ref 73), none, none] [.int y1.1] (mm_H y1.2) Q
    refine e_i2l hm_177 rfl ?_
    refine e_ldc2 hm_177 rfl kc_ldc2_97 ?_
    refine e_ldc2 hm_177 rfl kc_ldc2_122 ?_
    obtain ⟨y2, hky2, hf⟩ := mm_bd hf
    refine e_stat hm_177 rfl (by decide) rfl rfl (Nat.le_of_ble_eq_true rfl) hm_169 rfl rfl (c_169 y1.1.toInt64 (97 : Int64) (122 : Int64) y1.2 hky2 ?_)
    show Ev Z _ 177 118 [some (.ref 73), none, none] [.int y2.1] (mm_H y2.2) Q
    by_cases hc3 : y2.1 = (0 : Int32)
    · rw [if_pos hc3] at hf
      refine e_if_t (t := 321) hm_177 rfl (ct_eq hc3) rfl ?_
      obtain rfl := Option.some.inj hf
      exact e_forget (L' := [none, none, none]) (lf_d (lf_k (lf_k lf_0))) hq
    · rw [if_neg hc3] at hf
      refine e_if_f hm_177 rfl (cf_eq hc3) ?_
      refine e_aload_n hm_177 rfl rfl ?_
      refine e_dupa hm_177 rfl ?_
      refine e_getI hm_177 rfl rfl rfl ?_
      refine e_iconst hm_177 rfl kc_iconst_1 ?_
      refine e_iadd hm_177 rfl ?_
      refine e_putI hm_177 rfl rfl rfl ?_
      refine e_goto (t := 100) hm_177 rfl rfl ?_
      exact e_forget (L' := [some (.ref 73), none, none]) (lf_k (lf_k (lf_k lf_0))) (ih (ak_up y2.2.1 73 20 ((y2.2.1 73 20) + (1 : Int32)), y2.2.2) Q hf hq)
def md_next (M : mm_M) : Option (Unit × mm_M) :=
  (md_next_l0 300 M).bind fun y1 =>
  (md_byteAt ((ak_up y1.2.1 73 22 (y1.2.1 73 20)) 73 20) (ak_up y1.2.1 73 22 (y1.2.1 73 20), y1.2.2)).bind fun y2 =>
  if y2.1 < (0 : Int32) then
    some ((), (ak_up (ak_up (ak_up y2.2.1 73 21 (4 : Int32)) 73 21 (0 : Int32)) 73 22 ((ak_up (ak_up y2.2.1 73 21 (4 : Int32)) 73 21 (0 : Int32)) 73 19), y2.2.2))
  else
    (md_in y2.1.toInt64 (97 : Int64) (122 : Int64) (ak_up y2.2.1 73 21 (4 : Int32), y2.2.2)).bind fun y4 =>
    if y4.1 = (0 : Int32) then
      (md_in y2.1.toInt64 (48 : Int64) (57 : Int64) y4.2).bind fun y6 =>
      if y6.1 = (0 : Int32) then
        if y2.1 = (40 : Int32) then
          some ((), (ak_up (ak_up y6.2.1 73 21 (3 : Int32)) 73 20 (((ak_up y6.2.1 73 21 (3 : Int32)) 73 20) + (1 : Int32)), y6.2.2.1, y2.1.toInt64))
        else
          if y2.1 = (41 : Int32) then
            some ((), (ak_up (ak_up y6.2.1 73 21 (3 : Int32)) 73 20 (((ak_up y6.2.1 73 21 (3 : Int32)) 73 20) + (1 : Int32)), y6.2.2.1, y2.1.toInt64))
          else
            if y2.1 = (59 : Int32) then
              some ((), (ak_up (ak_up y6.2.1 73 21 (3 : Int32)) 73 20 (((ak_up y6.2.1 73 21 (3 : Int32)) 73 20) + (1 : Int32)), y6.2.2.1, y2.1.toInt64))
            else
              if y2.1 = (43 : Int32) then
                some ((), (ak_up (ak_up y6.2.1 73 21 (3 : Int32)) 73 20 (((ak_up y6.2.1 73 21 (3 : Int32)) 73 20) + (1 : Int32)), y6.2.2.1, y2.1.toInt64))
              else
                if y2.1 = (45 : Int32) then
                  some ((), (ak_up (ak_up y6.2.1 73 21 (3 : Int32)) 73 20 (((ak_up y6.2.1 73 21 (3 : Int32)) 73 20) + (1 : Int32)), y6.2.2.1, y2.1.toInt64))
                else
                  if y2.1 = (42 : Int32) then
                    some ((), (ak_up (ak_up y6.2.1 73 21 (3 : Int32)) 73 20 (((ak_up y6.2.1 73 21 (3 : Int32)) 73 20) + (1 : Int32)), y6.2.2.1, y2.1.toInt64))
                  else
                    if y2.1 = (60 : Int32) then
                      some ((), (ak_up (ak_up y6.2.1 73 21 (3 : Int32)) 73 20 (((ak_up y6.2.1 73 21 (3 : Int32)) 73 20) + (1 : Int32)), y6.2.2.1, y2.1.toInt64))
                    else
                      if y2.1 = (61 : Int32) then
                        some ((), (ak_up (ak_up y6.2.1 73 21 (3 : Int32)) 73 20 (((ak_up y6.2.1 73 21 (3 : Int32)) 73 20) + (1 : Int32)), y6.2.2.1, y2.1.toInt64))
                      else
                        some ((), y6.2)
      else
        (md_next_l160 300 (0 : Int32) (ak_up y6.2.1 73 21 (2 : Int32), y6.2.2.1, (0 : Int64))).bind fun y16 =>
        if (4 : Int32) < y16.1 then
          some ((), (ak_up y16.2.1 73 21 (4 : Int32), y16.2.2))
        else
          some ((), (ak_up y16.2.1 73 21 (2 : Int32), y16.2.2))
    else
      (md_next_l100 300 (ak_up y4.2.1 73 21 (1 : Int32), y4.2.2)).bind fun y18 =>
      some ((), y18.2)
set_option maxRecDepth 20000 in
set_option maxHeartbeats 4000000 in
theorem c_177 {Z : ak_Z} {d : Nat} (M : mm_M) {y : Unit × mm_M} (hf : md_next M = some y) {Q : Option Value → ak_H → Prop} (hq : Q none (mm_H y.2)) : Ev Z (d + 1) 177 0 [some (.ref 73), none, none] [] (mm_H M) Q := by
  rw [md_next] at hf
  obtain ⟨y1, hky1, hf⟩ := mm_bd hf
  refine e_forget (L' := [some (.ref 73), none, none]) (lf_k (lf_k (lf_k lf_0))) (lc_177_0 (d := _) 300 M Q hky1 ?_)
  show Ev Z _ 177 39 [some (.ref 73), none, none] [] (mm_H y1.2) Q
  refine e_aload_n hm_177 rfl rfl ?_
  refine e_aload_n hm_177 rfl rfl ?_
  refine e_getI hm_177 rfl rfl rfl ?_
  refine e_putI hm_177 rfl rfl rfl ?_
  refine e_aload_n hm_177 rfl rfl ?_
  refine e_aload_n hm_177 rfl rfl ?_
  refine e_getI hm_177 rfl rfl rfl ?_
  obtain ⟨y2, hky2, hf⟩ := mm_bd hf
  refine e_virt hm_177 rfl rfl rfl rfl (Nat.le_of_ble_eq_true rfl) hm_178 rfl rfl (c_178 ((ak_up y1.2.1 73 22 (y1.2.1 73 20)) 73 20) (ak_up y1.2.1 73 22 (y1.2.1 73 20), y1.2.2) hky2 ?_)
  show Ev Z _ 177 55 [some (.ref 73), none, none] [.int y2.1] (mm_H y2.2) Q
  refine e_istore_n (L2 := [some (.ref 73), some (.int y2.1), none]) hm_177 rfl rfl ?_
  refine e_aload_n hm_177 rfl rfl ?_
  refine e_iconst hm_177 rfl kc_iconst_4 ?_
  refine e_putI hm_177 rfl rfl rfl ?_
  refine e_iload_n hm_177 rfl rfl ?_
  by_cases hc3 : y2.1 < (0 : Int32)
  · rw [if_pos hc3] at hf
    refine e_if_f hm_177 rfl (cf_ge hc3) ?_
    refine e_aload_n hm_177 rfl rfl ?_
    refine e_iconst hm_177 rfl kc_iconst_0 ?_
    refine e_putI hm_177 rfl rfl rfl ?_
    refine e_aload_n hm_177 rfl rfl ?_
    refine e_aload_n hm_177 rfl rfl ?_
    refine e_getI hm_177 rfl rfl rfl ?_
    refine e_putI hm_177 rfl rfl rfl ?_
    refine e_goto (t := 321) hm_177 rfl rfl ?_
    obtain rfl := Option.some.inj hf
    exact e_vret hm_177 rfl rfl hq
  · rw [if_neg hc3] at hf
    refine e_if_t (t := 81) hm_177 rfl (ct_ge hc3) rfl ?_
    refine e_iload_n hm_177 rfl rfl ?_
    refine e_i2l hm_177 rfl ?_
    refine e_ldc2 hm_177 rfl kc_ldc2_97 ?_
    refine e_ldc2 hm_177 rfl kc_ldc2_122 ?_
    obtain ⟨y4, hky4, hf⟩ := mm_bd hf
    refine e_stat hm_177 rfl (by decide) rfl rfl (Nat.le_of_ble_eq_true rfl) hm_169 rfl rfl (c_169 y2.1.toInt64 (97 : Int64) (122 : Int64) (ak_up y2.2.1 73 21 (4 : Int32), y2.2.2) hky4 ?_)
    show Ev Z _ 177 92 [some (.ref 73), some (.int y2.1), none] [.int y4.1] (mm_H y4.2) Q
    by_cases hc5 : y4.1 = (0 : Int32)
    · rw [if_pos hc5] at hf
      refine e_if_t (t := 134) hm_177 rfl (ct_eq hc5) rfl ?_
      refine e_iload_n hm_177 rfl rfl ?_
      refine e_i2l hm_177 rfl ?_
      refine e_ldc2 hm_177 rfl kc_ldc2_48 ?_
      refine e_ldc2 hm_177 rfl kc_ldc2_57 ?_
      obtain ⟨y6, hky6, hf⟩ := mm_bd hf
      refine e_stat hm_177 rfl (by decide) rfl rfl (Nat.le_of_ble_eq_true rfl) hm_169 rfl rfl (c_169 y2.1.toInt64 (48 : Int64) (57 : Int64) y4.2 hky6 ?_)
      show Ev Z _ 177 145 [some (.ref 73), some (.int y2.1), none] [.int y6.1] (mm_H y6.2) Q
      by_cases hc7 : y6.1 = (0 : Int32)
      · rw [if_pos hc7] at hf
        refine e_if_t (t := 252) hm_177 rfl (ct_eq hc7) rfl ?_
        refine e_iload_n hm_177 rfl rfl ?_
        refine e_bipush hm_177 rfl kc_bipush_40 ?_
        by_cases hc8 : y2.1 = (40 : Int32)
        · rw [if_pos hc8] at hf
          refine e_ic_t (t := 300) hm_177 rfl (ct_eq hc8) rfl ?_
          refine e_aload_n hm_177 rfl rfl ?_
          refine e_iconst hm_177 rfl kc_iconst_3 ?_
          refine e_putI hm_177 rfl rfl rfl ?_
          refine e_aload_n hm_177 rfl rfl ?_
          refine e_iload_n hm_177 rfl rfl ?_
          refine e_i2l hm_177 rfl ?_
          refine e_putJ hm_177 rfl ?_
          refine e_aload_n hm_177 rfl rfl ?_
          refine e_dupa hm_177 rfl ?_
          refine e_getI hm_177 rfl rfl rfl ?_
          refine e_iconst hm_177 rfl kc_iconst_1 ?_
          refine e_iadd hm_177 rfl ?_
          refine e_putI hm_177 rfl rfl rfl ?_
          obtain rfl := Option.some.inj hf
          exact e_vret hm_177 rfl rfl hq
        · rw [if_neg hc8] at hf
          refine e_ic_f hm_177 rfl (cf_eq hc8) ?_
          refine e_iload_n hm_177 rfl rfl ?_
          refine e_bipush hm_177 rfl kc_bipush_41 ?_
          by_cases hc9 : y2.1 = (41 : Int32)
          · rw [if_pos hc9] at hf
            refine e_ic_t (t := 300) hm_177 rfl (ct_eq hc9) rfl ?_
            refine e_aload_n hm_177 rfl rfl ?_
            refine e_iconst hm_177 rfl kc_iconst_3 ?_
            refine e_putI hm_177 rfl rfl rfl ?_
            refine e_aload_n hm_177 rfl rfl ?_
            refine e_iload_n hm_177 rfl rfl ?_
            refine e_i2l hm_177 rfl ?_
            refine e_putJ hm_177 rfl ?_
            refine e_aload_n hm_177 rfl rfl ?_
            refine e_dupa hm_177 rfl ?_
            refine e_getI hm_177 rfl rfl rfl ?_
            refine e_iconst hm_177 rfl kc_iconst_1 ?_
            refine e_iadd hm_177 rfl ?_
            refine e_putI hm_177 rfl rfl rfl ?_
            obtain rfl := Option.some.inj hf
            exact e_vret hm_177 rfl rfl hq
          · rw [if_neg hc9] at hf
            refine e_ic_f hm_177 rfl (cf_eq hc9) ?_
            refine e_iload_n hm_177 rfl rfl ?_
            refine e_bipush hm_177 rfl kc_bipush_59 ?_
            by_cases hc10 : y2.1 = (59 : Int32)
            · rw [if_pos hc10] at hf
              refine e_ic_t (t := 300) hm_177 rfl (ct_eq hc10) rfl ?_
              refine e_aload_n hm_177 rfl rfl ?_
              refine e_iconst hm_177 rfl kc_iconst_3 ?_
              refine e_putI hm_177 rfl rfl rfl ?_
              refine e_aload_n hm_177 rfl rfl ?_
              refine e_iload_n hm_177 rfl rfl ?_
              refine e_i2l hm_177 rfl ?_
              refine e_putJ hm_177 rfl ?_
              refine e_aload_n hm_177 rfl rfl ?_
              refine e_dupa hm_177 rfl ?_
              refine e_getI hm_177 rfl rfl rfl ?_
              refine e_iconst hm_177 rfl kc_iconst_1 ?_
              refine e_iadd hm_177 rfl ?_
              refine e_putI hm_177 rfl rfl rfl ?_
              obtain rfl := Option.some.inj hf
              exact e_vret hm_177 rfl rfl hq
            · rw [if_neg hc10] at hf
              refine e_ic_f hm_177 rfl (cf_eq hc10) ?_
              refine e_iload_n hm_177 rfl rfl ?_
              refine e_bipush hm_177 rfl kc_bipush_43 ?_
              by_cases hc11 : y2.1 = (43 : Int32)
              · rw [if_pos hc11] at hf
                refine e_ic_t (t := 300) hm_177 rfl (ct_eq hc11) rfl ?_
                refine e_aload_n hm_177 rfl rfl ?_
                refine e_iconst hm_177 rfl kc_iconst_3 ?_
                refine e_putI hm_177 rfl rfl rfl ?_
                refine e_aload_n hm_177 rfl rfl ?_
                refine e_iload_n hm_177 rfl rfl ?_
                refine e_i2l hm_177 rfl ?_
                refine e_putJ hm_177 rfl ?_
                refine e_aload_n hm_177 rfl rfl ?_
                refine e_dupa hm_177 rfl ?_
                refine e_getI hm_177 rfl rfl rfl ?_
                refine e_iconst hm_177 rfl kc_iconst_1 ?_
                refine e_iadd hm_177 rfl ?_
                refine e_putI hm_177 rfl rfl rfl ?_
                obtain rfl := Option.some.inj hf
                exact e_vret hm_177 rfl rfl hq
              · rw [if_neg hc11] at hf
                refine e_ic_f hm_177 rfl (cf_eq hc11) ?_
                refine e_iload_n hm_177 rfl rfl ?_
                refine e_bipush hm_177 rfl kc_bipush_45 ?_
                by_cases hc12 : y2.1 = (45 : Int32)
                · rw [if_pos hc12] at hf
                  refine e_ic_t (t := 300) hm_177 rfl (ct_eq hc12) rfl ?_
                  refine e_aload_n hm_177 rfl rfl ?_
                  refine e_iconst hm_177 rfl kc_iconst_3 ?_
                  refine e_putI hm_177 rfl rfl rfl ?_
                  refine e_aload_n hm_177 rfl rfl ?_
                  refine e_iload_n hm_177 rfl rfl ?_
                  refine e_i2l hm_177 rfl ?_
                  refine e_putJ hm_177 rfl ?_
                  refine e_aload_n hm_177 rfl rfl ?_
                  refine e_dupa hm_177 rfl ?_
                  refine e_getI hm_177 rfl rfl rfl ?_
                  refine e_iconst hm_177 rfl kc_iconst_1 ?_
                  refine e_iadd hm_177 rfl ?_
                  refine e_putI hm_177 rfl rfl rfl ?_
                  obtain rfl := Option.some.inj hf
                  exact e_vret hm_177 rfl rfl hq
                · rw [if_neg hc12] at hf
                  refine e_ic_f hm_177 rfl (cf_eq hc12) ?_
                  refine e_iload_n hm_177 rfl rfl ?_
                  refine e_bipush hm_177 rfl kc_bipush_42 ?_
                  by_cases hc13 : y2.1 = (42 : Int32)
                  · rw [if_pos hc13] at hf
                    refine e_ic_t (t := 300) hm_177 rfl (ct_eq hc13) rfl ?_
                    refine e_aload_n hm_177 rfl rfl ?_
                    refine e_iconst hm_177 rfl kc_iconst_3 ?_
                    refine e_putI hm_177 rfl rfl rfl ?_
                    refine e_aload_n hm_177 rfl rfl ?_
                    refine e_iload_n hm_177 rfl rfl ?_
                    refine e_i2l hm_177 rfl ?_
                    refine e_putJ hm_177 rfl ?_
                    refine e_aload_n hm_177 rfl rfl ?_
                    refine e_dupa hm_177 rfl ?_
                    refine e_getI hm_177 rfl rfl rfl ?_
                    refine e_iconst hm_177 rfl kc_iconst_1 ?_
                    refine e_iadd hm_177 rfl ?_
                    refine e_putI hm_177 rfl rfl rfl ?_
                    obtain rfl := Option.some.inj hf
                    exact e_vret hm_177 rfl rfl hq
                  · rw [if_neg hc13] at hf
                    refine e_ic_f hm_177 rfl (cf_eq hc13) ?_
                    refine e_iload_n hm_177 rfl rfl ?_
                    refine e_bipush hm_177 rfl kc_bipush_60 ?_
                    by_cases hc14 : y2.1 = (60 : Int32)
                    · rw [if_pos hc14] at hf
                      refine e_ic_t (t := 300) hm_177 rfl (ct_eq hc14) rfl ?_
                      refine e_aload_n hm_177 rfl rfl ?_
                      refine e_iconst hm_177 rfl kc_iconst_3 ?_
                      refine e_putI hm_177 rfl rfl rfl ?_
                      refine e_aload_n hm_177 rfl rfl ?_
                      refine e_iload_n hm_177 rfl rfl ?_
                      refine e_i2l hm_177 rfl ?_
                      refine e_putJ hm_177 rfl ?_
                      refine e_aload_n hm_177 rfl rfl ?_
                      refine e_dupa hm_177 rfl ?_
                      refine e_getI hm_177 rfl rfl rfl ?_
                      refine e_iconst hm_177 rfl kc_iconst_1 ?_
                      refine e_iadd hm_177 rfl ?_
                      refine e_putI hm_177 rfl rfl rfl ?_
                      obtain rfl := Option.some.inj hf
                      exact e_vret hm_177 rfl rfl hq
                    · rw [if_neg hc14] at hf
                      refine e_ic_f hm_177 rfl (cf_eq hc14) ?_
                      refine e_iload_n hm_177 rfl rfl ?_
                      refine e_bipush hm_177 rfl kc_bipush_61 ?_
                      by_cases hc15 : y2.1 = (61 : Int32)
                      · rw [if_pos hc15] at hf
                        refine e_ic_f hm_177 rfl (cf_ne hc15) ?_
                        refine e_aload_n hm_177 rfl rfl ?_
                        refine e_iconst hm_177 rfl kc_iconst_3 ?_
                        refine e_putI hm_177 rfl rfl rfl ?_
                        refine e_aload_n hm_177 rfl rfl ?_
                        refine e_iload_n hm_177 rfl rfl ?_
                        refine e_i2l hm_177 rfl ?_
                        refine e_putJ hm_177 rfl ?_
                        refine e_aload_n hm_177 rfl rfl ?_
                        refine e_dupa hm_177 rfl ?_
                        refine e_getI hm_177 rfl rfl rfl ?_
                        refine e_iconst hm_177 rfl kc_iconst_1 ?_
                        refine e_iadd hm_177 rfl ?_
                        refine e_putI hm_177 rfl rfl rfl ?_
                        obtain rfl := Option.some.inj hf
                        exact e_vret hm_177 rfl rfl hq
                      · rw [if_neg hc15] at hf
                        refine e_ic_t (t := 321) hm_177 rfl (ct_ne hc15) rfl ?_
                        obtain rfl := Option.some.inj hf
                        exact e_vret hm_177 rfl rfl hq
      · rw [if_neg hc7] at hf
        refine e_if_f hm_177 rfl (cf_eq hc7) ?_
        refine e_aload_n hm_177 rfl rfl ?_
        refine e_iconst hm_177 rfl kc_iconst_2 ?_
        refine e_putI hm_177 rfl rfl rfl ?_
        refine e_aload_n hm_177 rfl rfl ?_
        refine e_lconst hm_177 rfl rfl ?_
        refine e_putJ hm_177 rfl ?_
        refine e_iconst hm_177 rfl kc_iconst_0 ?_
        refine e_istore_n (L2 := [some (.ref 73), some (.int y2.1), some (.int (0 : Int32))]) hm_177 rfl rfl ?_
        obtain ⟨y16, hky16, hf⟩ := mm_bd hf
        refine e_forget (L' := [some (.ref 73), none, some (.int (0 : Int32))]) (lf_k (lf_d (lf_k lf_0))) (lc_177_160 (d := _) 300 (0 : Int32) (ak_up y6.2.1 73 21 (2 : Int32), y6.2.2.1, (0 : Int64)) Q hky16 ?_)
        show Ev Z _ 177 235 [some (.ref 73), none, some (.int y16.1)] [] (mm_H y16.2) Q
        refine e_aload_n hm_177 rfl rfl ?_
        refine e_iload_n hm_177 rfl rfl ?_
        refine e_iconst hm_177 rfl kc_iconst_4 ?_
        by_cases hc17 : (4 : Int32) < y16.1
        · rw [if_pos hc17] at hf
          refine e_ic_f hm_177 rfl (cf_le hc17) ?_
          refine e_iconst hm_177 rfl kc_iconst_4 ?_
          refine e_goto (t := 246) hm_177 rfl rfl ?_
          refine e_putI hm_177 rfl rfl rfl ?_
          refine e_goto (t := 321) hm_177 rfl rfl ?_
          obtain rfl := Option.some.inj hf
          exact e_vret hm_177 rfl rfl hq
        · rw [if_neg hc17] at hf
          refine e_ic_t (t := 245) hm_177 rfl (ct_le hc17) rfl ?_
          refine e_iconst hm_177 rfl kc_iconst_2 ?_
          refine e_putI hm_177 rfl rfl rfl ?_
          refine e_goto (t := 321) hm_177 rfl rfl ?_
          obtain rfl := Option.some.inj hf
          exact e_vret hm_177 rfl rfl hq
    · rw [if_neg hc5] at hf
      refine e_if_f hm_177 rfl (cf_eq hc5) ?_
      refine e_aload_n hm_177 rfl rfl ?_
      refine e_iconst hm_177 rfl kc_iconst_1 ?_
      refine e_putI hm_177 rfl rfl rfl ?_
      obtain ⟨y18, hky18, hf⟩ := mm_bd hf
      refine e_forget (L' := [some (.ref 73), none, none]) (lf_k (lf_d (lf_k lf_0))) (lc_177_100 (d := _) 300 (ak_up y4.2.1 73 21 (1 : Int32), y4.2.2) Q hky18 ?_)
      show Ev Z _ 177 321 [none, none, none] [] (mm_H y18.2) Q
      obtain rfl := Option.some.inj hf
      exact e_vret hm_177 rfl rfl hq
def md_isLetter (a1 : Int32) (a2 : Int32) (M : mm_M) : Option (Int32 × mm_M) :=
  if ((M.1 73 22) + a1) < (M.1 73 20) then
    (md_byteAt ((M.1 73 22) + a1) M).bind fun y2 =>
    if y2.1 = a2 then
      some ((1 : Int32), y2.2)
    else
      some ((0 : Int32), y2.2)
  else
    if a2 = (0 : Int32) then
      some ((1 : Int32), M)
    else
      some ((0 : Int32), M)
set_option maxRecDepth 20000 in
set_option maxHeartbeats 4000000 in
theorem c_180 {Z : ak_Z} {d : Nat} (a1 : Int32) (a2 : Int32) (M : mm_M) {y : Int32 × mm_M} (hf : md_isLetter a1 a2 M = some y) {Q : Option Value → ak_H → Prop} (hq : Q (some (.int y.1)) (mm_H y.2)) : Ev Z (d + 1) 180 0 [some (.ref 73), some (.int a1), some (.int a2)] [] (mm_H M) Q := by
  rw [md_isLetter] at hf
  refine e_aload_n hm_180 rfl rfl ?_
  refine e_getI hm_180 rfl rfl rfl ?_
  refine e_iload_n hm_180 rfl rfl ?_
  refine e_iadd hm_180 rfl ?_
  refine e_aload_n hm_180 rfl rfl ?_
  refine e_getI hm_180 rfl rfl rfl ?_
  by_cases hc1 : ((M.1 73 22) + a1) < (M.1 73 20)
  · rw [if_pos hc1] at hf
    refine e_ic_f hm_180 rfl (cf_ge hc1) ?_
    refine e_aload_n hm_180 rfl rfl ?_
    refine e_aload_n hm_180 rfl rfl ?_
    refine e_getI hm_180 rfl rfl rfl ?_
    refine e_iload_n hm_180 rfl rfl ?_
    refine e_iadd hm_180 rfl ?_
    obtain ⟨y2, hky2, hf⟩ := mm_bd hf
    refine e_virt hm_180 rfl rfl rfl rfl (Nat.le_of_ble_eq_true rfl) hm_178 rfl rfl (c_178 ((M.1 73 22) + a1) M hky2 ?_)
    show Ev Z _ 180 23 [some (.ref 73), some (.int a1), some (.int a2)] [.int y2.1] (mm_H y2.2) Q
    refine e_iload_n hm_180 rfl rfl ?_
    by_cases hc3 : y2.1 = a2
    · rw [if_pos hc3] at hf
      refine e_ic_f hm_180 rfl (cf_ne hc3) ?_
      refine e_iconst hm_180 rfl kc_iconst_1 ?_
      refine e_goto (t := 44) hm_180 rfl rfl ?_
      obtain rfl := Option.some.inj hf
      exact e_zret hm_180 rfl rfl (by decide) hq
    · rw [if_neg hc3] at hf
      refine e_ic_t (t := 31) hm_180 rfl (ct_ne hc3) rfl ?_
      refine e_iconst hm_180 rfl kc_iconst_0 ?_
      refine e_goto (t := 44) hm_180 rfl rfl ?_
      obtain rfl := Option.some.inj hf
      exact e_zret hm_180 rfl rfl (by decide) hq
  · rw [if_neg hc1] at hf
    refine e_ic_t (t := 35) hm_180 rfl (ct_ge hc1) rfl ?_
    refine e_iload_n hm_180 rfl rfl ?_
    by_cases hc4 : a2 = (0 : Int32)
    · rw [if_pos hc4] at hf
      refine e_if_f hm_180 rfl (cf_ne hc4) ?_
      refine e_iconst hm_180 rfl kc_iconst_1 ?_
      refine e_goto (t := 44) hm_180 rfl rfl ?_
      obtain rfl := Option.some.inj hf
      exact e_zret hm_180 rfl rfl (by decide) hq
    · rw [if_neg hc4] at hf
      refine e_if_t (t := 43) hm_180 rfl (ct_ne hc4) rfl ?_
      refine e_iconst hm_180 rfl kc_iconst_0 ?_
      obtain rfl := Option.some.inj hf
      exact e_zret hm_180 rfl rfl (by decide) hq
def md_isWord (a1 : Int32) (a2 : Int32) (a3 : Int32) (a4 : Int32) (a5 : Int32) (a6 : Int32) (a7 : Int32) (a8 : Int32) (M : mm_M) : Option (Int32 × mm_M) :=
  if (M.1 73 25) = (0 : Int32) then
    if (M.1 73 21) = (1 : Int32) then
      if ((M.1 73 22) + (8 : Int32)) < (M.1 73 20) then
        some ((0 : Int32), M)
      else
        (md_isLetter (0 : Int32) a1 M).bind fun y4 =>
        if y4.1 = (0 : Int32) then
          some ((0 : Int32), y4.2)
        else
          (md_isLetter (1 : Int32) a2 y4.2).bind fun y6 =>
          if y6.1 = (0 : Int32) then
            some ((0 : Int32), y6.2)
          else
            (md_isLetter (2 : Int32) a3 y6.2).bind fun y8 =>
            if y8.1 = (0 : Int32) then
              some ((0 : Int32), y8.2)
            else
              (md_isLetter (3 : Int32) a4 y8.2).bind fun y10 =>
              if y10.1 = (0 : Int32) then
                some ((0 : Int32), y10.2)
              else
                (md_isLetter (4 : Int32) a5 y10.2).bind fun y12 =>
                if y12.1 = (0 : Int32) then
                  some ((0 : Int32), y12.2)
                else
                  (md_isLetter (5 : Int32) a6 y12.2).bind fun y14 =>
                  if y14.1 = (0 : Int32) then
                    some ((0 : Int32), y14.2)
                  else
                    (md_isLetter (6 : Int32) a7 y14.2).bind fun y16 =>
                    if y16.1 = (0 : Int32) then
                      some ((0 : Int32), y16.2)
                    else
                      (md_isLetter (7 : Int32) a8 y16.2).bind fun y18 =>
                      if y18.1 = (0 : Int32) then
                        some ((0 : Int32), y18.2)
                      else
                        some ((1 : Int32), y18.2)
    else
      some ((0 : Int32), M)
  else
    some ((0 : Int32), M)
set_option maxRecDepth 20000 in
set_option maxHeartbeats 4000000 in
theorem c_179 {Z : ak_Z} {d : Nat} (a1 : Int32) (a2 : Int32) (a3 : Int32) (a4 : Int32) (a5 : Int32) (a6 : Int32) (a7 : Int32) (a8 : Int32) (M : mm_M) {y : Int32 × mm_M} (hf : md_isWord a1 a2 a3 a4 a5 a6 a7 a8 M = some y) {Q : Option Value → ak_H → Prop} (hq : Q (some (.int y.1)) (mm_H y.2)) : Ev Z (d + 2) 179 0 [some (.ref 73), some (.int a1), some (.int a2), some (.int a3), some (.int a4), some (.int a5), some (.int a6), some (.int a7), some (.int a8)] [] (mm_H M) Q := by
  rw [md_isWord] at hf
  refine e_aload_n hm_179 rfl rfl ?_
  refine e_getZ hm_179 rfl rfl rfl ?_
  by_cases hc1 : (M.1 73 25) = (0 : Int32)
  · rw [if_pos hc1] at hf
    refine e_if_f hm_179 rfl (cf_ne hc1) ?_
    refine e_aload_n hm_179 rfl rfl ?_
    refine e_getI hm_179 rfl rfl rfl ?_
    refine e_iconst hm_179 rfl kc_iconst_1 ?_
    by_cases hc2 : (M.1 73 21) = (1 : Int32)
    · rw [if_pos hc2] at hf
      refine e_ic_f hm_179 rfl (cf_ne hc2) ?_
      refine e_aload_n hm_179 rfl rfl ?_
      refine e_getI hm_179 rfl rfl rfl ?_
      refine e_aload_n hm_179 rfl rfl ?_
      refine e_getI hm_179 rfl rfl rfl ?_
      refine e_bipush hm_179 rfl kc_bipush_8 ?_
      refine e_iadd hm_179 rfl ?_
      by_cases hc3 : ((M.1 73 22) + (8 : Int32)) < (M.1 73 20)
      · rw [if_pos hc3] at hf
        refine e_ic_t (t := 112) hm_179 rfl (ct_gt hc3) rfl ?_
        refine e_iconst hm_179 rfl kc_iconst_0 ?_
        obtain rfl := Option.some.inj hf
        exact e_zret hm_179 rfl rfl (by decide) hq
      · rw [if_neg hc3] at hf
        refine e_ic_f hm_179 rfl (cf_gt hc3) ?_
        refine e_aload_n hm_179 rfl rfl ?_
        refine e_iconst hm_179 rfl kc_iconst_0 ?_
        refine e_iload_n hm_179 rfl rfl ?_
        obtain ⟨y4, hky4, hf⟩ := mm_bd hf
        refine e_virt hm_179 rfl rfl rfl rfl (Nat.le_of_ble_eq_true rfl) hm_180 rfl rfl (c_180 (0 : Int32) a1 M hky4 ?_)
        show Ev Z _ 179 35 [some (.ref 73), some (.int a1), some (.int a2), some (.int a3), some (.int a4), some (.int a5), some (.int a6), some (.int a7), some (.int a8)] [.int y4.1] (mm_H y4.2) Q
        by_cases hc5 : y4.1 = (0 : Int32)
        · rw [if_pos hc5] at hf
          refine e_if_t (t := 112) hm_179 rfl (ct_eq hc5) rfl ?_
          refine e_iconst hm_179 rfl kc_iconst_0 ?_
          obtain rfl := Option.some.inj hf
          exact e_zret hm_179 rfl rfl (by decide) hq
        · rw [if_neg hc5] at hf
          refine e_if_f hm_179 rfl (cf_eq hc5) ?_
          refine e_aload_n hm_179 rfl rfl ?_
          refine e_iconst hm_179 rfl kc_iconst_1 ?_
          refine e_iload_n hm_179 rfl rfl ?_
          obtain ⟨y6, hky6, hf⟩ := mm_bd hf
          refine e_virt hm_179 rfl rfl rfl rfl (Nat.le_of_ble_eq_true rfl) hm_180 rfl rfl (c_180 (1 : Int32) a2 y4.2 hky6 ?_)
          show Ev Z _ 179 44 [some (.ref 73), some (.int a1), some (.int a2), some (.int a3), some (.int a4), some (.int a5), some (.int a6), some (.int a7), some (.int a8)] [.int y6.1] (mm_H y6.2) Q
          by_cases hc7 : y6.1 = (0 : Int32)
          · rw [if_pos hc7] at hf
            refine e_if_t (t := 112) hm_179 rfl (ct_eq hc7) rfl ?_
            refine e_iconst hm_179 rfl kc_iconst_0 ?_
            obtain rfl := Option.some.inj hf
            exact e_zret hm_179 rfl rfl (by decide) hq
          · rw [if_neg hc7] at hf
            refine e_if_f hm_179 rfl (cf_eq hc7) ?_
            refine e_aload_n hm_179 rfl rfl ?_
            refine e_iconst hm_179 rfl kc_iconst_2 ?_
            refine e_iload_n hm_179 rfl rfl ?_
            obtain ⟨y8, hky8, hf⟩ := mm_bd hf
            refine e_virt hm_179 rfl rfl rfl rfl (Nat.le_of_ble_eq_true rfl) hm_180 rfl rfl (c_180 (2 : Int32) a3 y6.2 hky8 ?_)
            show Ev Z _ 179 53 [some (.ref 73), some (.int a1), some (.int a2), some (.int a3), some (.int a4), some (.int a5), some (.int a6), some (.int a7), some (.int a8)] [.int y8.1] (mm_H y8.2) Q
            by_cases hc9 : y8.1 = (0 : Int32)
            · rw [if_pos hc9] at hf
              refine e_if_t (t := 112) hm_179 rfl (ct_eq hc9) rfl ?_
              refine e_iconst hm_179 rfl kc_iconst_0 ?_
              obtain rfl := Option.some.inj hf
              exact e_zret hm_179 rfl rfl (by decide) hq
            · rw [if_neg hc9] at hf
              refine e_if_f hm_179 rfl (cf_eq hc9) ?_
              refine e_aload_n hm_179 rfl rfl ?_
              refine e_iconst hm_179 rfl kc_iconst_3 ?_
              refine e_iload hm_179 rfl rfl ?_
              obtain ⟨y10, hky10, hf⟩ := mm_bd hf
              refine e_virt hm_179 rfl rfl rfl rfl (Nat.le_of_ble_eq_true rfl) hm_180 rfl rfl (c_180 (3 : Int32) a4 y8.2 hky10 ?_)
              show Ev Z _ 179 63 [some (.ref 73), some (.int a1), some (.int a2), some (.int a3), some (.int a4), some (.int a5), some (.int a6), some (.int a7), some (.int a8)] [.int y10.1] (mm_H y10.2) Q
              by_cases hc11 : y10.1 = (0 : Int32)
              · rw [if_pos hc11] at hf
                refine e_if_t (t := 112) hm_179 rfl (ct_eq hc11) rfl ?_
                refine e_iconst hm_179 rfl kc_iconst_0 ?_
                obtain rfl := Option.some.inj hf
                exact e_zret hm_179 rfl rfl (by decide) hq
              · rw [if_neg hc11] at hf
                refine e_if_f hm_179 rfl (cf_eq hc11) ?_
                refine e_aload_n hm_179 rfl rfl ?_
                refine e_iconst hm_179 rfl kc_iconst_4 ?_
                refine e_iload hm_179 rfl rfl ?_
                obtain ⟨y12, hky12, hf⟩ := mm_bd hf
                refine e_virt hm_179 rfl rfl rfl rfl (Nat.le_of_ble_eq_true rfl) hm_180 rfl rfl (c_180 (4 : Int32) a5 y10.2 hky12 ?_)
                show Ev Z _ 179 73 [some (.ref 73), some (.int a1), some (.int a2), some (.int a3), some (.int a4), some (.int a5), some (.int a6), some (.int a7), some (.int a8)] [.int y12.1] (mm_H y12.2) Q
                by_cases hc13 : y12.1 = (0 : Int32)
                · rw [if_pos hc13] at hf
                  refine e_if_t (t := 112) hm_179 rfl (ct_eq hc13) rfl ?_
                  refine e_iconst hm_179 rfl kc_iconst_0 ?_
                  obtain rfl := Option.some.inj hf
                  exact e_zret hm_179 rfl rfl (by decide) hq
                · rw [if_neg hc13] at hf
                  refine e_if_f hm_179 rfl (cf_eq hc13) ?_
                  refine e_aload_n hm_179 rfl rfl ?_
                  refine e_iconst hm_179 rfl kc_iconst_5 ?_
                  refine e_iload hm_179 rfl rfl ?_
                  obtain ⟨y14, hky14, hf⟩ := mm_bd hf
                  refine e_virt hm_179 rfl rfl rfl rfl (Nat.le_of_ble_eq_true rfl) hm_180 rfl rfl (c_180 (5 : Int32) a6 y12.2 hky14 ?_)
                  show Ev Z _ 179 83 [some (.ref 73), some (.int a1), some (.int a2), some (.int a3), some (.int a4), some (.int a5), some (.int a6), some (.int a7), some (.int a8)] [.int y14.1] (mm_H y14.2) Q
                  by_cases hc15 : y14.1 = (0 : Int32)
                  · rw [if_pos hc15] at hf
                    refine e_if_t (t := 112) hm_179 rfl (ct_eq hc15) rfl ?_
                    refine e_iconst hm_179 rfl kc_iconst_0 ?_
                    obtain rfl := Option.some.inj hf
                    exact e_zret hm_179 rfl rfl (by decide) hq
                  · rw [if_neg hc15] at hf
                    refine e_if_f hm_179 rfl (cf_eq hc15) ?_
                    refine e_aload_n hm_179 rfl rfl ?_
                    refine e_bipush hm_179 rfl kc_bipush_6 ?_
                    refine e_iload hm_179 rfl rfl ?_
                    obtain ⟨y16, hky16, hf⟩ := mm_bd hf
                    refine e_virt hm_179 rfl rfl rfl rfl (Nat.le_of_ble_eq_true rfl) hm_180 rfl rfl (c_180 (6 : Int32) a7 y14.2 hky16 ?_)
                    show Ev Z _ 179 94 [some (.ref 73), some (.int a1), some (.int a2), some (.int a3), some (.int a4), some (.int a5), some (.int a6), some (.int a7), some (.int a8)] [.int y16.1] (mm_H y16.2) Q
                    by_cases hc17 : y16.1 = (0 : Int32)
                    · rw [if_pos hc17] at hf
                      refine e_if_t (t := 112) hm_179 rfl (ct_eq hc17) rfl ?_
                      refine e_iconst hm_179 rfl kc_iconst_0 ?_
                      obtain rfl := Option.some.inj hf
                      exact e_zret hm_179 rfl rfl (by decide) hq
                    · rw [if_neg hc17] at hf
                      refine e_if_f hm_179 rfl (cf_eq hc17) ?_
                      refine e_aload_n hm_179 rfl rfl ?_
                      refine e_bipush hm_179 rfl kc_bipush_7 ?_
                      refine e_iload hm_179 rfl rfl ?_
                      obtain ⟨y18, hky18, hf⟩ := mm_bd hf
                      refine e_virt hm_179 rfl rfl rfl rfl (Nat.le_of_ble_eq_true rfl) hm_180 rfl rfl (c_180 (7 : Int32) a8 y16.2 hky18 ?_)
                      show Ev Z _ 179 105 [some (.ref 73), some (.int a1), some (.int a2), some (.int a3), some (.int a4), some (.int a5), some (.int a6), some (.int a7), some (.int a8)] [.int y18.1] (mm_H y18.2) Q
                      by_cases hc19 : y18.1 = (0 : Int32)
                      · rw [if_pos hc19] at hf
                        refine e_if_t (t := 112) hm_179 rfl (ct_eq hc19) rfl ?_
                        refine e_iconst hm_179 rfl kc_iconst_0 ?_
                        obtain rfl := Option.some.inj hf
                        exact e_zret hm_179 rfl rfl (by decide) hq
                      · rw [if_neg hc19] at hf
                        refine e_if_f hm_179 rfl (cf_eq hc19) ?_
                        refine e_iconst hm_179 rfl kc_iconst_1 ?_
                        refine e_goto (t := 113) hm_179 rfl rfl ?_
                        obtain rfl := Option.some.inj hf
                        exact e_zret hm_179 rfl rfl (by decide) hq
    · rw [if_neg hc2] at hf
      refine e_ic_t (t := 112) hm_179 rfl (ct_ne hc2) rfl ?_
      refine e_iconst hm_179 rfl kc_iconst_0 ?_
      obtain rfl := Option.some.inj hf
      exact e_zret hm_179 rfl rfl (by decide) hq
  · rw [if_neg hc1] at hf
    refine e_if_t (t := 112) hm_179 rfl (ct_ne hc1) rfl ?_
    refine e_iconst hm_179 rfl kc_iconst_0 ?_
    obtain rfl := Option.some.inj hf
    exact e_zret hm_179 rfl rfl (by decide) hq
def md_fail (M : mm_M) : Option (Unit × mm_M) :=
  if (M.1 73 25) = (0 : Int32) then
    some ((), (ak_up (ak_up M.1 73 25 (1 : Int32)) 73 26 ((ak_up M.1 73 25 (1 : Int32)) 73 22), M.2))
  else
    some ((), M)
set_option maxRecDepth 20000 in
set_option maxHeartbeats 4000000 in
theorem c_182 {Z : ak_Z} {d : Nat} (M : mm_M) {y : Unit × mm_M} (hf : md_fail M = some y) {Q : Option Value → ak_H → Prop} (hq : Q none (mm_H y.2)) : Ev Z (d + 0) 182 0 [some (.ref 73)] [] (mm_H M) Q := by
  rw [md_fail] at hf
  refine e_aload_n hm_182 rfl rfl ?_
  refine e_getZ hm_182 rfl rfl rfl ?_
  by_cases hc1 : (M.1 73 25) = (0 : Int32)
  · rw [if_pos hc1] at hf
    refine e_if_f hm_182 rfl (cf_ne hc1) ?_
    refine e_aload_n hm_182 rfl rfl ?_
    refine e_iconst hm_182 rfl kc_iconst_1 ?_
    refine e_putZ hm_182 rfl rfl rfl (by decide) ?_
    refine e_aload_n hm_182 rfl rfl ?_
    refine e_aload_n hm_182 rfl rfl ?_
    refine e_getI hm_182 rfl rfl rfl ?_
    refine e_putI hm_182 rfl rfl rfl ?_
    obtain rfl := Option.some.inj hf
    exact e_vret hm_182 rfl rfl hq
  · rw [if_neg hc1] at hf
    refine e_if_t (t := 20) hm_182 rfl (ct_ne hc1) rfl ?_
    obtain rfl := Option.some.inj hf
    exact e_vret hm_182 rfl rfl hq
def md_opens (M : mm_M) : Option (Int32 × mm_M) :=
  if (M.1 73 24) = (5 : Int32) then
    (md_fail M).bind fun y2 =>
    some ((0 : Int32), y2.2)
  else
    (md_next (ak_up M.1 73 24 ((M.1 73 24) + (1 : Int32)), M.2)).bind fun y3 =>
    some ((1 : Int32), y3.2)
set_option maxRecDepth 20000 in
set_option maxHeartbeats 4000000 in
theorem c_186 {Z : ak_Z} {d : Nat} (M : mm_M) {y : Int32 × mm_M} (hf : md_opens M = some y) {Q : Option Value → ak_H → Prop} (hq : Q (some (.int y.1)) (mm_H y.2)) : Ev Z (d + 2) 186 0 [some (.ref 73)] [] (mm_H M) Q := by
  rw [md_opens] at hf
  refine e_aload_n hm_186 rfl rfl ?_
  refine e_getI hm_186 rfl rfl rfl ?_
  refine e_iconst hm_186 rfl kc_iconst_5 ?_
  by_cases hc1 : (M.1 73 24) = (5 : Int32)
  · rw [if_pos hc1] at hf
    refine e_ic_f hm_186 rfl (cf_ne hc1) ?_
    refine e_aload_n hm_186 rfl rfl ?_
    obtain ⟨y2, hky2, hf⟩ := mm_bd hf
    refine e_virt hm_186 rfl rfl rfl rfl (Nat.le_of_ble_eq_true rfl) hm_182 rfl rfl (c_182 M hky2 ?_)
    show Ev Z _ 186 12 [some (.ref 73)] [] (mm_H y2.2) Q
    refine e_iconst hm_186 rfl kc_iconst_0 ?_
    obtain rfl := Option.some.inj hf
    exact e_zret hm_186 rfl rfl (by decide) hq
  · rw [if_neg hc1] at hf
    refine e_ic_t (t := 14) hm_186 rfl (ct_ne hc1) rfl ?_
    refine e_aload_n hm_186 rfl rfl ?_
    refine e_dupa hm_186 rfl ?_
    refine e_getI hm_186 rfl rfl rfl ?_
    refine e_iconst hm_186 rfl kc_iconst_1 ?_
    refine e_iadd hm_186 rfl ?_
    refine e_putI hm_186 rfl rfl rfl ?_
    refine e_aload_n hm_186 rfl rfl ?_
    obtain ⟨y3, hky3, hf⟩ := mm_bd hf
    refine e_virt hm_186 rfl rfl rfl rfl (Nat.le_of_ble_eq_true rfl) hm_177 rfl rfl (c_177 (ak_up M.1 73 24 ((M.1 73 24) + (1 : Int32)), M.2) hky3 ?_)
    show Ev Z _ 186 28 [some (.ref 73)] [] (mm_H y3.2) Q
    refine e_iconst hm_186 rfl kc_iconst_1 ?_
    obtain rfl := Option.some.inj hf
    exact e_zret hm_186 rfl rfl (by decide) hq
def md_isSign (a1 : Int32) (M : mm_M) : Option (Int32 × mm_M) :=
  if (M.1 73 25) = (0 : Int32) then
    if (M.1 73 21) = (3 : Int32) then
      if (lg_cmp M.2.2 a1.toInt64) = (0 : Int32) then
        some ((1 : Int32), M)
      else
        some ((0 : Int32), M)
    else
      some ((0 : Int32), M)
  else
    some ((0 : Int32), M)
set_option maxRecDepth 20000 in
set_option maxHeartbeats 4000000 in
theorem c_190 {Z : ak_Z} {d : Nat} (a1 : Int32) (M : mm_M) {y : Int32 × mm_M} (hf : md_isSign a1 M = some y) {Q : Option Value → ak_H → Prop} (hq : Q (some (.int y.1)) (mm_H y.2)) : Ev Z (d + 0) 190 0 [some (.ref 73), some (.int a1)] [] (mm_H M) Q := by
  rw [md_isSign] at hf
  refine e_aload_n hm_190 rfl rfl ?_
  refine e_getZ hm_190 rfl rfl rfl ?_
  by_cases hc1 : (M.1 73 25) = (0 : Int32)
  · rw [if_pos hc1] at hf
    refine e_if_f hm_190 rfl (cf_ne hc1) ?_
    refine e_aload_n hm_190 rfl rfl ?_
    refine e_getI hm_190 rfl rfl rfl ?_
    refine e_iconst hm_190 rfl kc_iconst_3 ?_
    by_cases hc2 : (M.1 73 21) = (3 : Int32)
    · rw [if_pos hc2] at hf
      refine e_ic_f hm_190 rfl (cf_ne hc2) ?_
      refine e_aload_n hm_190 rfl rfl ?_
      refine e_getJ hm_190 rfl ?_
      refine e_iload_n hm_190 rfl rfl ?_
      refine e_i2l hm_190 rfl ?_
      refine e_lcmp hm_190 rfl ?_
      by_cases hc3 : (lg_cmp M.2.2 a1.toInt64) = (0 : Int32)
      · rw [if_pos hc3] at hf
        refine e_if_f hm_190 rfl (cf_ne hc3) ?_
        refine e_iconst hm_190 rfl kc_iconst_1 ?_
        refine e_goto (t := 30) hm_190 rfl rfl ?_
        obtain rfl := Option.some.inj hf
        exact e_zret hm_190 rfl rfl (by decide) hq
      · rw [if_neg hc3] at hf
        refine e_if_t (t := 29) hm_190 rfl (ct_ne hc3) rfl ?_
        refine e_iconst hm_190 rfl kc_iconst_0 ?_
        obtain rfl := Option.some.inj hf
        exact e_zret hm_190 rfl rfl (by decide) hq
    · rw [if_neg hc2] at hf
      refine e_ic_t (t := 29) hm_190 rfl (ct_ne hc2) rfl ?_
      refine e_iconst hm_190 rfl kc_iconst_0 ?_
      obtain rfl := Option.some.inj hf
      exact e_zret hm_190 rfl rfl (by decide) hq
  · rw [if_neg hc1] at hf
    refine e_if_t (t := 29) hm_190 rfl (ct_ne hc1) rfl ?_
    refine e_iconst hm_190 rfl kc_iconst_0 ?_
    obtain rfl := Option.some.inj hf
    exact e_zret hm_190 rfl rfl (by decide) hq
def md_name (M : mm_M) : Option (Int32 × mm_M) :=
  (md_isWord (119 : Int32) (101 : Int32) (101 : Int32) (107 : Int32) (0 : Int32) (0 : Int32) (0 : Int32) (0 : Int32) M).bind fun y1 =>
  if y1.1 = (0 : Int32) then
    (md_isWord (119 : Int32) (105 : Int32) (115 : Int32) (104 : Int32) (101 : Int32) (100 : Int32) (0 : Int32) (0 : Int32) y1.2).bind fun y3 =>
    if y3.1 = (0 : Int32) then
      (md_isWord (110 : Int32) (117 : Int32) (109 : Int32) (98 : Int32) (101 : Int32) (114 : Int32) (0 : Int32) (0 : Int32) y3.2).bind fun y5 =>
      if y5.1 = (0 : Int32) then
        (md_isWord (108 : Int32) (101 : Int32) (110 : Int32) (103 : Int32) (116 : Int32) (104 : Int32) (0 : Int32) (0 : Int32) y5.2).bind fun y7 =>
        if y7.1 = (0 : Int32) then
          (md_isWord (112 : Int32) (111 : Int32) (105 : Int32) (110 : Int32) (116 : Int32) (115 : Int32) (0 : Int32) (0 : Int32) y7.2).bind fun y9 =>
          if y9.1 = (0 : Int32) then
            (md_isWord (97 : Int32) (119 : Int32) (97 : Int32) (121 : Int32) (0 : Int32) (0 : Int32) (0 : Int32) (0 : Int32) y9.2).bind fun y11 =>
            if y11.1 = (0 : Int32) then
              (md_fail y11.2).bind fun y13 =>
              some ((0 : Int32), y13.2)
            else
              some (y11.2.1 73 17, y11.2)
          else
            some (y9.2.1 73 16, y9.2)
        else
          some (y7.2.1 73 15, y7.2)
      else
        some (y5.2.1 73 14, y5.2)
    else
      some (y3.2.1 73 13, y3.2)
  else
    some (y1.2.1 73 12, y1.2)
set_option maxRecDepth 20000 in
set_option maxHeartbeats 4000000 in
theorem c_191 {Z : ak_Z} {d : Nat} (M : mm_M) {y : Int32 × mm_M} (hf : md_name M = some y) {Q : Option Value → ak_H → Prop} (hq : Q (some (.int y.1)) (mm_H y.2)) : Ev Z (d + 3) 191 0 [some (.ref 73)] [] (mm_H M) Q := by
  rw [md_name] at hf
  refine e_aload_n hm_191 rfl rfl ?_
  refine e_bipush hm_191 rfl kc_bipush_119 ?_
  refine e_bipush hm_191 rfl kc_bipush_101 ?_
  refine e_bipush hm_191 rfl kc_bipush_101 ?_
  refine e_bipush hm_191 rfl kc_bipush_107 ?_
  refine e_iconst hm_191 rfl kc_iconst_0 ?_
  refine e_iconst hm_191 rfl kc_iconst_0 ?_
  refine e_iconst hm_191 rfl kc_iconst_0 ?_
  refine e_iconst hm_191 rfl kc_iconst_0 ?_
  obtain ⟨y1, hky1, hf⟩ := mm_bd hf
  refine e_virt hm_191 rfl rfl rfl rfl (Nat.le_of_ble_eq_true rfl) hm_179 rfl rfl (c_179 (119 : Int32) (101 : Int32) (101 : Int32) (107 : Int32) (0 : Int32) (0 : Int32) (0 : Int32) (0 : Int32) M hky1 ?_)
  show Ev Z _ 191 16 [some (.ref 73)] [.int y1.1] (mm_H y1.2) Q
  by_cases hc2 : y1.1 = (0 : Int32)
  · rw [if_pos hc2] at hf
    refine e_if_t (t := 24) hm_191 rfl (ct_eq hc2) rfl ?_
    refine e_aload_n hm_191 rfl rfl ?_
    refine e_bipush hm_191 rfl kc_bipush_119 ?_
    refine e_bipush hm_191 rfl kc_bipush_105 ?_
    refine e_bipush hm_191 rfl kc_bipush_115 ?_
    refine e_bipush hm_191 rfl kc_bipush_104 ?_
    refine e_bipush hm_191 rfl kc_bipush_101 ?_
    refine e_bipush hm_191 rfl kc_bipush_100 ?_
    refine e_iconst hm_191 rfl kc_iconst_0 ?_
    refine e_iconst hm_191 rfl kc_iconst_0 ?_
    obtain ⟨y3, hky3, hf⟩ := mm_bd hf
    refine e_virt hm_191 rfl rfl rfl rfl (Nat.le_of_ble_eq_true rfl) hm_179 rfl rfl (c_179 (119 : Int32) (105 : Int32) (115 : Int32) (104 : Int32) (101 : Int32) (100 : Int32) (0 : Int32) (0 : Int32) y1.2 hky3 ?_)
    show Ev Z _ 191 42 [some (.ref 73)] [.int y3.1] (mm_H y3.2) Q
    by_cases hc4 : y3.1 = (0 : Int32)
    · rw [if_pos hc4] at hf
      refine e_if_t (t := 50) hm_191 rfl (ct_eq hc4) rfl ?_
      refine e_aload_n hm_191 rfl rfl ?_
      refine e_bipush hm_191 rfl kc_bipush_110 ?_
      refine e_bipush hm_191 rfl kc_bipush_117 ?_
      refine e_bipush hm_191 rfl kc_bipush_109 ?_
      refine e_bipush hm_191 rfl kc_bipush_98 ?_
      refine e_bipush hm_191 rfl kc_bipush_101 ?_
      refine e_bipush hm_191 rfl kc_bipush_114 ?_
      refine e_iconst hm_191 rfl kc_iconst_0 ?_
      refine e_iconst hm_191 rfl kc_iconst_0 ?_
      obtain ⟨y5, hky5, hf⟩ := mm_bd hf
      refine e_virt hm_191 rfl rfl rfl rfl (Nat.le_of_ble_eq_true rfl) hm_179 rfl rfl (c_179 (110 : Int32) (117 : Int32) (109 : Int32) (98 : Int32) (101 : Int32) (114 : Int32) (0 : Int32) (0 : Int32) y3.2 hky5 ?_)
      show Ev Z _ 191 68 [some (.ref 73)] [.int y5.1] (mm_H y5.2) Q
      by_cases hc6 : y5.1 = (0 : Int32)
      · rw [if_pos hc6] at hf
        refine e_if_t (t := 76) hm_191 rfl (ct_eq hc6) rfl ?_
        refine e_aload_n hm_191 rfl rfl ?_
        refine e_bipush hm_191 rfl kc_bipush_108 ?_
        refine e_bipush hm_191 rfl kc_bipush_101 ?_
        refine e_bipush hm_191 rfl kc_bipush_110 ?_
        refine e_bipush hm_191 rfl kc_bipush_103 ?_
        refine e_bipush hm_191 rfl kc_bipush_116 ?_
        refine e_bipush hm_191 rfl kc_bipush_104 ?_
        refine e_iconst hm_191 rfl kc_iconst_0 ?_
        refine e_iconst hm_191 rfl kc_iconst_0 ?_
        obtain ⟨y7, hky7, hf⟩ := mm_bd hf
        refine e_virt hm_191 rfl rfl rfl rfl (Nat.le_of_ble_eq_true rfl) hm_179 rfl rfl (c_179 (108 : Int32) (101 : Int32) (110 : Int32) (103 : Int32) (116 : Int32) (104 : Int32) (0 : Int32) (0 : Int32) y5.2 hky7 ?_)
        show Ev Z _ 191 94 [some (.ref 73)] [.int y7.1] (mm_H y7.2) Q
        by_cases hc8 : y7.1 = (0 : Int32)
        · rw [if_pos hc8] at hf
          refine e_if_t (t := 102) hm_191 rfl (ct_eq hc8) rfl ?_
          refine e_aload_n hm_191 rfl rfl ?_
          refine e_bipush hm_191 rfl kc_bipush_112 ?_
          refine e_bipush hm_191 rfl kc_bipush_111 ?_
          refine e_bipush hm_191 rfl kc_bipush_105 ?_
          refine e_bipush hm_191 rfl kc_bipush_110 ?_
          refine e_bipush hm_191 rfl kc_bipush_116 ?_
          refine e_bipush hm_191 rfl kc_bipush_115 ?_
          refine e_iconst hm_191 rfl kc_iconst_0 ?_
          refine e_iconst hm_191 rfl kc_iconst_0 ?_
          obtain ⟨y9, hky9, hf⟩ := mm_bd hf
          refine e_virt hm_191 rfl rfl rfl rfl (Nat.le_of_ble_eq_true rfl) hm_179 rfl rfl (c_179 (112 : Int32) (111 : Int32) (105 : Int32) (110 : Int32) (116 : Int32) (115 : Int32) (0 : Int32) (0 : Int32) y7.2 hky9 ?_)
          show Ev Z _ 191 120 [some (.ref 73)] [.int y9.1] (mm_H y9.2) Q
          by_cases hc10 : y9.1 = (0 : Int32)
          · rw [if_pos hc10] at hf
            refine e_if_t (t := 128) hm_191 rfl (ct_eq hc10) rfl ?_
            refine e_aload_n hm_191 rfl rfl ?_
            refine e_bipush hm_191 rfl kc_bipush_97 ?_
            refine e_bipush hm_191 rfl kc_bipush_119 ?_
            refine e_bipush hm_191 rfl kc_bipush_97 ?_
            refine e_bipush hm_191 rfl kc_bipush_121 ?_
            refine e_iconst hm_191 rfl kc_iconst_0 ?_
            refine e_iconst hm_191 rfl kc_iconst_0 ?_
            refine e_iconst hm_191 rfl kc_iconst_0 ?_
            refine e_iconst hm_191 rfl kc_iconst_0 ?_
            obtain ⟨y11, hky11, hf⟩ := mm_bd hf
            refine e_virt hm_191 rfl rfl rfl rfl (Nat.le_of_ble_eq_true rfl) hm_179 rfl rfl (c_179 (97 : Int32) (119 : Int32) (97 : Int32) (121 : Int32) (0 : Int32) (0 : Int32) (0 : Int32) (0 : Int32) y9.2 hky11 ?_)
            show Ev Z _ 191 144 [some (.ref 73)] [.int y11.1] (mm_H y11.2) Q
            by_cases hc12 : y11.1 = (0 : Int32)
            · rw [if_pos hc12] at hf
              refine e_if_t (t := 152) hm_191 rfl (ct_eq hc12) rfl ?_
              refine e_aload_n hm_191 rfl rfl ?_
              obtain ⟨y13, hky13, hf⟩ := mm_bd hf
              refine e_virt hm_191 rfl rfl rfl rfl (Nat.le_of_ble_eq_true rfl) hm_182 rfl rfl (c_182 y11.2 hky13 ?_)
              show Ev Z _ 191 156 [some (.ref 73)] [] (mm_H y13.2) Q
              refine e_iconst hm_191 rfl kc_iconst_0 ?_
              obtain rfl := Option.some.inj hf
              exact e_iret hm_191 rfl rfl hq
            · rw [if_neg hc12] at hf
              refine e_if_f hm_191 rfl (cf_eq hc12) ?_
              refine e_aload_n hm_191 rfl rfl ?_
              refine e_getI hm_191 rfl rfl rfl ?_
              obtain rfl := Option.some.inj hf
              exact e_iret hm_191 rfl rfl hq
          · rw [if_neg hc10] at hf
            refine e_if_f hm_191 rfl (cf_eq hc10) ?_
            refine e_aload_n hm_191 rfl rfl ?_
            refine e_getI hm_191 rfl rfl rfl ?_
            obtain rfl := Option.some.inj hf
            exact e_iret hm_191 rfl rfl hq
        · rw [if_neg hc8] at hf
          refine e_if_f hm_191 rfl (cf_eq hc8) ?_
          refine e_aload_n hm_191 rfl rfl ?_
          refine e_getI hm_191 rfl rfl rfl ?_
          obtain rfl := Option.some.inj hf
          exact e_iret hm_191 rfl rfl hq
      · rw [if_neg hc6] at hf
        refine e_if_f hm_191 rfl (cf_eq hc6) ?_
        refine e_aload_n hm_191 rfl rfl ?_
        refine e_getI hm_191 rfl rfl rfl ?_
        obtain rfl := Option.some.inj hf
        exact e_iret hm_191 rfl rfl hq
    · rw [if_neg hc4] at hf
      refine e_if_f hm_191 rfl (cf_eq hc4) ?_
      refine e_aload_n hm_191 rfl rfl ?_
      refine e_getI hm_191 rfl rfl rfl ?_
      obtain rfl := Option.some.inj hf
      exact e_iret hm_191 rfl rfl hq
  · rw [if_neg hc2] at hf
    refine e_if_f hm_191 rfl (cf_eq hc2) ?_
    refine e_aload_n hm_191 rfl rfl ?_
    refine e_getI hm_191 rfl rfl rfl ?_
    obtain rfl := Option.some.inj hf
    exact e_iret hm_191 rfl rfl hq
